def M_X7_besideOf : MT := (yX7_besideOf, cX7_besideOf, 6, some .int, 4)
def f_X7_besideOf_20 (a1 : Int32) (a2 : Int32) (a3 : Int32) (K : Int32 → Mm → Prop) (σ : Mm) : Prop := (¬ (σ 0 0 7) = 0 ∧ (¬ (σ 0 0 7) = 0 ∧ (if ((a3 + (σ 0 0 7)) - (a3 + (σ 0 0 7)) / (σ 0 0 7) * (σ 0 0 7)) = a1 then (K (-1 : Int32) σ) else (if (σ 0 0 6) = (2 : Int32) then (vp_in ((a3 + (σ 0 0 7)) - (a3 + (σ 0 0 7)) / (σ 0 0 7) * (σ 0 0 7)) 8 ∧ (K (σ 5 0 (((a3 + (σ 0 0 7)) - (a3 + (σ 0 0 7)) / (σ 0 0 7) * (σ 0 0 7)).toNatClampNeg)) σ)) else (vp_in ((a3 + (σ 0 0 7)) - (a3 + (σ 0 0 7)) / (σ 0 0 7) * (σ 0 0 7)) 8 ∧ (if (σ 5 0 (((a3 + (σ 0 0 7)) - (a3 + (σ 0 0 7)) / (σ 0 0 7) * (σ 0 0 7)).toNatClampNeg)) < 0 then (if (((((a3 + (σ 0 0 7)) - (a3 + (σ 0 0 7)) / (σ 0 0 7) * (σ 0 0 7)) + a2) + (σ 0 0 7)) - ((((a3 + (σ 0 0 7)) - (a3 + (σ 0 0 7)) / (σ 0 0 7) * (σ 0 0 7)) + a2) + (σ 0 0 7)) / (σ 0 0 7) * (σ 0 0 7)) = a1 then (K (-1 : Int32) σ) else (vp_in (((((a3 + (σ 0 0 7)) - (a3 + (σ 0 0 7)) / (σ 0 0 7) * (σ 0 0 7)) + a2) + (σ 0 0 7)) - ((((a3 + (σ 0 0 7)) - (a3 + (σ 0 0 7)) / (σ 0 0 7) * (σ 0 0 7)) + a2) + (σ 0 0 7)) / (σ 0 0 7) * (σ 0 0 7)) 8 ∧ (K (σ 5 0 ((((((a3 + (σ 0 0 7)) - (a3 + (σ 0 0 7)) / (σ 0 0 7) * (σ 0 0 7)) + a2) + (σ 0 0 7)) - ((((a3 + (σ 0 0 7)) - (a3 + (σ 0 0 7)) / (σ 0 0 7) * (σ 0 0 7)) + a2) + (σ 0 0 7)) / (σ 0 0 7) * (σ 0 0 7)).toNatClampNeg)) σ))) else (vp_in ((a3 + (σ 0 0 7)) - (a3 + (σ 0 0 7)) / (σ 0 0 7) * (σ 0 0 7)) 8 ∧ (K (σ 5 0 (((a3 + (σ 0 0 7)) - (a3 + (σ 0 0 7)) / (σ 0 0 7) * (σ 0 0 7)).toNatClampNeg)) σ))))))))
set_option maxRecDepth 100000 in
set_option maxHeartbeats 4000000 in
theorem T_X7_besideOf_20 {g : GG} {a1 : Int32} {a2 : Int32} {a3 : Int32} {K : Int32 → Mm → Prop} {σ : Mm} (h : f_X7_besideOf_20 a1 a2 a3 K σ) : AW g 1 M_X7_besideOf (QI g 1 K) 20 [(0, .ref (gad g 0 0)), (1, .int a1), (2, .int a2), (3, .int a3)] [] σ := by
  unfold f_X7_besideOf_20 at h
  refine AW.iload_n dX7_besideOf_20 3 rfl ?_
  refine AW.aload_n dX7_besideOf_21 0 rfl ?_
  refine AW.get (k := 7) (v := .int (σ 0 0 7)) (id1_0_0) rfl rfl inGX7 (Nat.le_of_ble_eq_true rfl) w_879 rfl dX7_besideOf_22 ?_
  refine AW.iadd dX7_besideOf_25 ?_
  refine AW.aload_n dX7_besideOf_26 0 rfl ?_
  refine AW.get (k := 7) (v := .int (σ 0 0 7)) (id1_0_0) rfl rfl inGX7 (Nat.le_of_ble_eq_true rfl) w_879 rfl dX7_besideOf_27 ?_
  obtain ⟨hz1, h⟩ := h
  refine AW.irem dX7_besideOf_30 hz1 ?_
  refine AW.istore (L' := [(0, .ref (gad g 0 0)), (1, .int a1), (2, .int a2), (3, .int a3), (4, .int ((a3 + (σ 0 0 7)) - (a3 + (σ 0 0 7)) / (σ 0 0 7) * (σ 0 0 7)))]) dX7_besideOf_31 (Nat.le_of_ble_eq_true rfl) rfl ?_
  refine AW.iload dX7_besideOf_33 4 rfl ?_
  refine AW.iload_n dX7_besideOf_35 2 rfl ?_
  refine AW.iadd dX7_besideOf_36 ?_
  refine AW.aload_n dX7_besideOf_37 0 rfl ?_
  refine AW.get (k := 7) (v := .int (σ 0 0 7)) (id1_0_0) rfl rfl inGX7 (Nat.le_of_ble_eq_true rfl) w_879 rfl dX7_besideOf_38 ?_
  refine AW.iadd dX7_besideOf_41 ?_
  refine AW.aload_n dX7_besideOf_42 0 rfl ?_
  refine AW.get (k := 7) (v := .int (σ 0 0 7)) (id1_0_0) rfl rfl inGX7 (Nat.le_of_ble_eq_true rfl) w_879 rfl dX7_besideOf_43 ?_
  obtain ⟨hz2, h⟩ := h
  refine AW.irem dX7_besideOf_46 hz2 ?_
  refine AW.istore (L' := [(0, .ref (gad g 0 0)), (1, .int a1), (2, .int a2), (3, .int a3), (4, .int ((a3 + (σ 0 0 7)) - (a3 + (σ 0 0 7)) / (σ 0 0 7) * (σ 0 0 7))), (5, .int (((((a3 + (σ 0 0 7)) - (a3 + (σ 0 0 7)) / (σ 0 0 7) * (σ 0 0 7)) + a2) + (σ 0 0 7)) - ((((a3 + (σ 0 0 7)) - (a3 + (σ 0 0 7)) / (σ 0 0 7) * (σ 0 0 7)) + a2) + (σ 0 0 7)) / (σ 0 0 7) * (σ 0 0 7)))]) dX7_besideOf_47 (Nat.le_of_ble_eq_true rfl) rfl ?_
  refine AW.iload dX7_besideOf_49 4 rfl ?_
  refine AW.iload_n dX7_besideOf_51 1 rfl ?_
  refine AW.icmp_ne (tgt := 57) dX7_besideOf_52 rfl (fun c => ?_) (fun c => ?_)
  · replace h := ite_f c h
    refine AW.aload_n dX7_besideOf_57 0 rfl ?_
    refine AW.get (k := 6) (v := .int (σ 0 0 6)) (id1_0_0) rfl rfl inGX7 (Nat.le_of_ble_eq_true rfl) w_878 rfl dX7_besideOf_58 ?_
    refine AW.iconst (v := (2 : Int32)) dX7_besideOf_61 rfl ?_
    refine AW.icmp_eq (tgt := 75) dX7_besideOf_62 rfl (fun c => ?_) (fun c => ?_)
    · replace h := ite_t c h
      refine AW.aload_n dX7_besideOf_75 0 rfl ?_
      refine AW.get (k := 5) (v := .ref (gad g 5 0)) (id1_0_0) rfl rfl inGX7 (Nat.le_of_ble_eq_true rfl) w_877 rfl dX7_besideOf_76 ?_
      refine AW.iload dX7_besideOf_79 4 rfl ?_
      obtain ⟨hq3, h⟩ := h
      refine AW.iald (jn := (((a3 + (σ 0 0 7)) - (a3 + (σ 0 0 7)) / (σ 0 0 7) * (σ 0 0 7)).toNatClampNeg)) (id1_5_0) rfl hq3 rfl dX7_besideOf_81 ?_
      exact AW.iret rfl dX7_besideOf_82 h
    · replace h := ite_f c h
      refine AW.aload_n dX7_besideOf_65 0 rfl ?_
      refine AW.get (k := 5) (v := .ref (gad g 5 0)) (id1_0_0) rfl rfl inGX7 (Nat.le_of_ble_eq_true rfl) w_877 rfl dX7_besideOf_66 ?_
      refine AW.iload dX7_besideOf_69 4 rfl ?_
      obtain ⟨hq4, h⟩ := h
      refine AW.iald (jn := (((a3 + (σ 0 0 7)) - (a3 + (σ 0 0 7)) / (σ 0 0 7) * (σ 0 0 7)).toNatClampNeg)) (id1_5_0) rfl hq4 rfl dX7_besideOf_71 ?_
      refine AW.if_lt (tgt := 83) dX7_besideOf_72 rfl (fun c => ?_) (fun c => ?_)
      · replace h := ite_t c h
        refine AW.iload dX7_besideOf_83 5 rfl ?_
        refine AW.iload_n dX7_besideOf_85 1 rfl ?_
        refine AW.icmp_ne (tgt := 93) dX7_besideOf_86 rfl (fun c => ?_) (fun c => ?_)
        · replace h := ite_f c h
          refine AW.aload_n dX7_besideOf_93 0 rfl ?_
          refine AW.get (k := 5) (v := .ref (gad g 5 0)) (id1_0_0) rfl rfl inGX7 (Nat.le_of_ble_eq_true rfl) w_877 rfl dX7_besideOf_94 ?_
          refine AW.iload dX7_besideOf_97 5 rfl ?_
          obtain ⟨hq5, h⟩ := h
          refine AW.iald (jn := ((((((a3 + (σ 0 0 7)) - (a3 + (σ 0 0 7)) / (σ 0 0 7) * (σ 0 0 7)) + a2) + (σ 0 0 7)) - ((((a3 + (σ 0 0 7)) - (a3 + (σ 0 0 7)) / (σ 0 0 7) * (σ 0 0 7)) + a2) + (σ 0 0 7)) / (σ 0 0 7) * (σ 0 0 7)).toNatClampNeg)) (id1_5_0) rfl hq5 rfl dX7_besideOf_99 ?_
          exact AW.iret rfl dX7_besideOf_100 h
        · replace h := ite_t c h
          refine AW.iconst (v := (-1 : Int32)) dX7_besideOf_89 rfl ?_
          refine AW.goto (tgt := 100) dX7_besideOf_90 rfl ?_
          exact AW.iret rfl dX7_besideOf_100 h
      · replace h := ite_f c h
        refine AW.aload_n dX7_besideOf_75 0 rfl ?_
        refine AW.get (k := 5) (v := .ref (gad g 5 0)) (id1_0_0) rfl rfl inGX7 (Nat.le_of_ble_eq_true rfl) w_877 rfl dX7_besideOf_76 ?_
        refine AW.iload dX7_besideOf_79 4 rfl ?_
        obtain ⟨hq6, h⟩ := h
        refine AW.iald (jn := (((a3 + (σ 0 0 7)) - (a3 + (σ 0 0 7)) / (σ 0 0 7) * (σ 0 0 7)).toNatClampNeg)) (id1_5_0) rfl hq6 rfl dX7_besideOf_81 ?_
        exact AW.iret rfl dX7_besideOf_82 h
  · replace h := ite_t c h
    refine AW.iconst (v := (-1 : Int32)) dX7_besideOf_55 rfl ?_
    exact AW.iret rfl dX7_besideOf_56 h
def f_X7_besideOf_161 (a2 : Int32) (a3 : Int32) (as0 : Int32) (K : Int32 → Mm → Prop) (σ : Mm) : Prop := (if (σ 0 0 6) = (1 : Int32) then (if as0 = 0 then (f_X7_whoIsOn a3 σ (fun r12 σ11 => (K r12 σ11))) else (f_X7_whoIsOn (a3 + a2) σ (fun r14 σ13 => (K r14 σ13)))) else (f_X7_whoIsOn a3 σ (fun r10 σ9 => (K r10 σ9))))
set_option maxRecDepth 100000 in
set_option maxHeartbeats 4000000 in
theorem T_X7_besideOf_161 {g : GG} {a2 : Int32} {a3 : Int32} {as0 : Int32} {K : Int32 → Mm → Prop} {σ : Mm} (h : f_X7_besideOf_161 a2 a3 as0 K σ) : AW g 1 M_X7_besideOf (QI g 1 K) 161 [(0, .ref (gad g 0 0)), (2, .int a2), (3, .int a3)] [.int as0] σ := by
  unfold f_X7_besideOf_161 at h
  refine AW.istore (L' := [(0, .ref (gad g 0 0)), (2, .int a2), (3, .int a3), (4, .int as0)]) dX7_besideOf_161 (Nat.le_of_ble_eq_true rfl) rfl ?_
  refine AW.aload_n dX7_besideOf_163 0 rfl ?_
  refine AW.get (k := 6) (v := .int (σ 0 0 6)) (id1_0_0) rfl rfl inGX7 (Nat.le_of_ble_eq_true rfl) w_878 rfl dX7_besideOf_164 ?_
  refine AW.iconst (v := (1 : Int32)) dX7_besideOf_167 rfl ?_
  refine AW.icmp_ne (tgt := 186) dX7_besideOf_168 rfl (fun c => ?_) (fun c => ?_)
  · replace h := ite_f c h
    refine AW.aload_n dX7_besideOf_186 0 rfl ?_
    refine AW.iload_n dX7_besideOf_187 2 rfl ?_
    refine AW.callVI [.int a3] (C_X7_whoIsOn h) ok_X7_whoIsOn (id1_0_0) rfl rfl w_1056 rfl (Nat.le_of_ble_eq_true rfl) (Nat.le_of_ble_eq_true rfl) rfl dX7_besideOf_188 (fun r10 σ9 h => ?_)
    exact AW.iret rfl dX7_besideOf_191 h
  · replace h := ite_t c h
    refine AW.iload dX7_besideOf_171 3 rfl ?_
    refine AW.if_eq (tgt := 186) dX7_besideOf_173 rfl (fun c => ?_) (fun c => ?_)
    · replace h := ite_t c h
      refine AW.aload_n dX7_besideOf_186 0 rfl ?_
      refine AW.iload_n dX7_besideOf_187 2 rfl ?_
      refine AW.callVI [.int a3] (C_X7_whoIsOn h) ok_X7_whoIsOn (id1_0_0) rfl rfl w_1056 rfl (Nat.le_of_ble_eq_true rfl) (Nat.le_of_ble_eq_true rfl) rfl dX7_besideOf_188 (fun r12 σ11 h => ?_)
      exact AW.iret rfl dX7_besideOf_191 h
    · replace h := ite_f c h
      refine AW.aload_n dX7_besideOf_176 0 rfl ?_
      refine AW.iload_n dX7_besideOf_177 2 rfl ?_
      refine AW.iload_n dX7_besideOf_178 1 rfl ?_
      refine AW.iadd dX7_besideOf_179 ?_
      refine AW.callVI [.int (a3 + a2)] (C_X7_whoIsOn h) ok_X7_whoIsOn (id1_0_0) rfl rfl w_1056 rfl (Nat.le_of_ble_eq_true rfl) (Nat.le_of_ble_eq_true rfl) rfl dX7_besideOf_180 (fun r14 σ13 h => ?_)
      refine AW.goto (tgt := 191) dX7_besideOf_183 rfl ?_
      exact AW.iret rfl dX7_besideOf_191 h
def f_X7_besideOf_160 (a2 : Int32) (a3 : Int32) (K : Int32 → Mm → Prop) (σ : Mm) : Prop := (f_X7_besideOf_161 a2 a3 (0 : Int32) K σ)
set_option maxRecDepth 100000 in
set_option maxHeartbeats 4000000 in
theorem T_X7_besideOf_160 {g : GG} {a2 : Int32} {a3 : Int32} {K : Int32 → Mm → Prop} {σ : Mm} (h : f_X7_besideOf_160 a2 a3 K σ) : AW g 1 M_X7_besideOf (QI g 1 K) 160 [(0, .ref (gad g 0 0)), (2, .int a2), (3, .int a3)] [] σ := by
  unfold f_X7_besideOf_160 at h
  refine AW.iconst (v := (0 : Int32)) dX7_besideOf_160 rfl ?_
  exact T_X7_besideOf_161 h
set_option maxRecDepth 100000 in
def f_X7_besideOf_109 (a2 : Int32) (K : Int32 → Mm → Prop) : Nat → Int32 → Mm → Prop
  | 0, _, _ => False
  | n + 1, a3, σ => (f_X7_isThere a3 σ (fun b17 σ16 => (if b17 = true then (vp_in a3 8 ∧ (if 0 ≤ (σ16 5 0 (a3.toNatClampNeg)) then (f_X7_whoIsOn a3 σ16 (fun r22 σ21 => (K r22 σ21))) else (f_X7_besideOf_109 a2 K n (a3 + a2) σ16))) else (f_X7_whoIsOn a3 σ16 (fun r19 σ18 => (K r19 σ18))))))
set_option maxRecDepth 100000 in
set_option maxHeartbeats 4000000 in
theorem T_X7_besideOf_109 {g : GG} {a2 : Int32} {K : Int32 → Mm → Prop} : ∀ (n : Nat) (a3 : Int32) (σ : Mm), f_X7_besideOf_109 a2 K n a3 σ → AW g 1 M_X7_besideOf (QI g 1 K) 109 [(0, .ref (gad g 0 0)), (2, .int a2), (3, .int a3)] [] σ := by
  intro n
  induction n with
  | zero => intro a3 σ h; exact False.elim h
  | succ n ih =>
    intro a3 σ h
    rw [f_X7_besideOf_109] at h
    refine AW.aload_n dX7_besideOf_109 0 rfl ?_
    refine AW.iload_n dX7_besideOf_110 2 rfl ?_
    refine AW.callVB [.int a3] (C_X7_isThere h) ok_X7_isThere (id1_0_0) rfl rfl w_1052 rfl (Nat.le_of_ble_eq_true rfl) (Nat.le_of_ble_eq_true rfl) rfl dX7_besideOf_111 (fun b17 σ16 h => ?_)
    refine AW.ifb_eq (tgt := 133) dX7_besideOf_114 rfl (fun c => ?_) (fun c => ?_)
    · replace h := ite_f c h
      refine AW.aload_n dX7_besideOf_133 0 rfl ?_
      refine AW.iload_n dX7_besideOf_134 2 rfl ?_
      refine AW.callVI [.int a3] (C_X7_whoIsOn h) ok_X7_whoIsOn (id1_0_0) rfl rfl w_1056 rfl (Nat.le_of_ble_eq_true rfl) (Nat.le_of_ble_eq_true rfl) rfl dX7_besideOf_135 (fun r19 σ18 h => ?_)
      exact AW.iret rfl dX7_besideOf_138 h
    · replace h := ite_t c h
      refine AW.aload_n dX7_besideOf_117 0 rfl ?_
      refine AW.get (k := 5) (v := .ref (gad g 5 0)) (id1_0_0) rfl rfl inGX7 (Nat.le_of_ble_eq_true rfl) w_877 rfl dX7_besideOf_118 ?_
      refine AW.iload_n dX7_besideOf_121 2 rfl ?_
      obtain ⟨hq20, h⟩ := h
      refine AW.iald (jn := (a3.toNatClampNeg)) (id1_5_0) rfl hq20 rfl dX7_besideOf_122 ?_
      refine AW.if_ge (tgt := 133) dX7_besideOf_123 rfl (fun c => ?_) (fun c => ?_)
      · replace h := ite_t c h
        refine AW.aload_n dX7_besideOf_133 0 rfl ?_
        refine AW.iload_n dX7_besideOf_134 2 rfl ?_
        refine AW.callVI [.int a3] (C_X7_whoIsOn h) ok_X7_whoIsOn (id1_0_0) rfl rfl w_1056 rfl (Nat.le_of_ble_eq_true rfl) (Nat.le_of_ble_eq_true rfl) rfl dX7_besideOf_135 (fun r22 σ21 h => ?_)
        exact AW.iret rfl dX7_besideOf_138 h
      · replace h := ite_f c h
        refine AW.iload_n dX7_besideOf_126 2 rfl ?_
        refine AW.iload_n dX7_besideOf_127 1 rfl ?_
        refine AW.iadd dX7_besideOf_128 ?_
        refine AW.istore_n (L' := [(0, .ref (gad g 0 0)), (2, .int a2), (3, .int (a3 + a2))]) dX7_besideOf_129 (Nat.le_of_ble_eq_true rfl) rfl ?_
        refine AW.goto (tgt := 109) dX7_besideOf_130 rfl ?_
        exact ih _ _ h
def f_X7_besideOf (a1 : Int32) (a2 : Int32) (σ : Mm) (K : Int32 → Mm → Prop) : Prop := (if (σ 0 0 6) = (2 : Int32) then (f_X7_besideOf_20 a1 a2 (a1 + a2) K σ) else (if (σ 0 0 6) = (5 : Int32) then (f_X7_besideOf_20 a1 a2 (a1 + a2) K σ) else (if (σ 0 0 6) = (4 : Int32) then (∃ m, f_X7_besideOf_109 a2 K m (a1 + a2) σ) else (f_X7_isThere (a1 + a2) σ (fun b8 σ7 => (if b8 = true then (vp_in (a1 + a2) 8 ∧ (if 0 ≤ (σ7 5 0 ((a1 + a2).toNatClampNeg)) then (f_X7_besideOf_160 a2 (a1 + a2) K σ7) else (f_X7_besideOf_161 a2 (a1 + a2) (1 : Int32) K σ7))) else (f_X7_besideOf_160 a2 (a1 + a2) K σ7)))))))
set_option maxRecDepth 100000 in
set_option maxHeartbeats 4000000 in
theorem C_X7_besideOf {g : GG} {a1 : Int32} {a2 : Int32} {σ : Mm} {K : Int32 → Mm → Prop} (h : f_X7_besideOf a1 a2 σ K) : Ct g 1 M_X7_besideOf (QI g 1 K) [.ref (gad g 0 0), .int a1, .int a2] σ := by
  unfold f_X7_besideOf at h
  refine Ct.of (L := [(0, .ref (gad g 0 0)), (1, .int a1), (2, .int a2)]) (show plainName RX7 = true by decide) (Nat.le_of_ble_eq_true rfl) rfl ?_
  refine AW.iload_n dX7_besideOf_0 1 rfl ?_
  refine AW.iload_n dX7_besideOf_1 2 rfl ?_
  refine AW.iadd dX7_besideOf_2 ?_
  refine AW.istore_n (L' := [(0, .ref (gad g 0 0)), (1, .int a1), (2, .int a2), (3, .int (a1 + a2))]) dX7_besideOf_3 (Nat.le_of_ble_eq_true rfl) rfl ?_
  refine AW.aload_n dX7_besideOf_4 0 rfl ?_
  refine AW.get (k := 6) (v := .int (σ 0 0 6)) (id1_0_0) rfl rfl inGX7 (Nat.le_of_ble_eq_true rfl) w_878 rfl dX7_besideOf_5 ?_
  refine AW.iconst (v := (2 : Int32)) dX7_besideOf_8 rfl ?_
  refine AW.icmp_eq (tgt := 20) dX7_besideOf_9 rfl (fun c => ?_) (fun c => ?_)
  · replace h := ite_t c h
    exact T_X7_besideOf_20 h
  · replace h := ite_f c h
    refine AW.aload_n dX7_besideOf_12 0 rfl ?_
    refine AW.get (k := 6) (v := .int (σ 0 0 6)) (id1_0_0) rfl rfl inGX7 (Nat.le_of_ble_eq_true rfl) w_878 rfl dX7_besideOf_13 ?_
    refine AW.iconst (v := (5 : Int32)) dX7_besideOf_16 rfl ?_
    refine AW.icmp_ne (tgt := 101) dX7_besideOf_17 rfl (fun c => ?_) (fun c => ?_)
    · replace h := ite_f c h
      refine AW.aload_n dX7_besideOf_101 0 rfl ?_
      refine AW.get (k := 6) (v := .int (σ 0 0 6)) (id1_0_0) rfl rfl inGX7 (Nat.le_of_ble_eq_true rfl) w_878 rfl dX7_besideOf_102 ?_
      refine AW.iconst (v := (4 : Int32)) dX7_besideOf_105 rfl ?_
      refine AW.icmp_ne (tgt := 139) dX7_besideOf_106 rfl (fun c => ?_) (fun c => ?_)
      · replace h := ite_f c h
        refine AW.aload_n dX7_besideOf_139 0 rfl ?_
        refine AW.iload_n dX7_besideOf_140 3 rfl ?_
        refine AW.callVB [.int (a1 + a2)] (C_X7_isThere h) ok_X7_isThere (id1_0_0) rfl rfl w_1052 rfl (Nat.le_of_ble_eq_true rfl) (Nat.le_of_ble_eq_true rfl) rfl dX7_besideOf_141 (fun b8 σ7 h => ?_)
        refine AW.ifb_eq (tgt := 160) dX7_besideOf_144 rfl (fun c => ?_) (fun c => ?_)
        · replace h := ite_f c h
          refine AW.eqL [0, 2, 3] rfl ?_
          exact T_X7_besideOf_160 h
        · replace h := ite_t c h
          refine AW.aload_n dX7_besideOf_147 0 rfl ?_
          refine AW.get (k := 5) (v := .ref (gad g 5 0)) (id1_0_0) rfl rfl inGX7 (Nat.le_of_ble_eq_true rfl) w_877 rfl dX7_besideOf_148 ?_
          refine AW.iload_n dX7_besideOf_151 3 rfl ?_
          obtain ⟨hq15, h⟩ := h
          refine AW.iald (jn := ((a1 + a2).toNatClampNeg)) (id1_5_0) rfl hq15 rfl dX7_besideOf_152 ?_
          refine AW.if_ge (tgt := 160) dX7_besideOf_153 rfl (fun c => ?_) (fun c => ?_)
          · replace h := ite_t c h
            refine AW.eqL [0, 2, 3] rfl ?_
            exact T_X7_besideOf_160 h
          · replace h := ite_f c h
            refine AW.iconst (v := (1 : Int32)) dX7_besideOf_156 rfl ?_
            refine AW.goto (tgt := 161) dX7_besideOf_157 rfl ?_
            refine AW.eqL [0, 2, 3] rfl ?_
            exact T_X7_besideOf_161 h
      · replace h := ite_t c h
        obtain ⟨m, h⟩ := h
        refine AW.eqL [0, 2, 3] rfl ?_
        refine T_X7_besideOf_109 m _ _ h
    · replace h := ite_t c h
      exact T_X7_besideOf_20 h
theorem ok_X7_besideOf : OkV M_X7_besideOf 2 := ⟨w_1050, wp_40, w_9, w_1051, by decide +kernel, (Nat.le_of_ble_eq_true rfl)⟩
def M_X7_firstWrong : MT := (yX7_firstWrong, cX7_firstWrong, 4, some .int, 5)
set_option maxRecDepth 100000 in
def f_X7_firstWrong_2 (K : Int32 → Mm → Prop) : Nat → Int32 → Mm → Prop
  | 0, _, _ => False
  | n + 1, a1, σ => (if (σ 0 0 7) ≤ a1 then (K (-1 : Int32) σ) else (vp_in a1 8 ∧ (if 0 ≤ (σ 5 0 (a1.toNatClampNeg)) then (f_X7_besideOf a1 (-1 : Int32) σ (fun r3 σ2 => (f_X7_besideOf a1 (1 : Int32) σ2 (fun r5 σ4 => (if r3 < 0 then (f_X7_firstWrong_2 K n (a1 + (1 : Int32)) σ4) else (if r5 < 0 then (f_X7_firstWrong_2 K n (a1 + (1 : Int32)) σ4) else (if r3 = r5 then (f_X7_firstWrong_2 K n (a1 + (1 : Int32)) σ4) else (f_X7_areFriends r3 r5 σ4 (fun b7 σ6 => (if b7 = true then (K a1 σ6) else (f_X7_firstWrong_2 K n (a1 + (1 : Int32)) σ6))))))))))) else (f_X7_firstWrong_2 K n (a1 + (1 : Int32)) σ))))
set_option maxRecDepth 100000 in
set_option maxHeartbeats 4000000 in
theorem T_X7_firstWrong_2 {g : GG} {K : Int32 → Mm → Prop} : ∀ (n : Nat) (a1 : Int32) (σ : Mm), f_X7_firstWrong_2 K n a1 σ → AW g 1 M_X7_firstWrong (QI g 1 K) 2 [(0, .ref (gad g 0 0)), (1, .int a1)] [] σ := by
  intro n
  induction n with
  | zero => intro a1 σ h; exact False.elim h
  | succ n ih =>
    intro a1 σ h
    rw [f_X7_firstWrong_2] at h
    refine AW.iload_n dX7_firstWrong_2 1 rfl ?_
    refine AW.aload_n dX7_firstWrong_3 0 rfl ?_
    refine AW.get (k := 7) (v := .int (σ 0 0 7)) (id1_0_0) rfl rfl inGX7 (Nat.le_of_ble_eq_true rfl) w_879 rfl dX7_firstWrong_4 ?_
    refine AW.icmp_ge (tgt := 66) dX7_firstWrong_7 rfl (fun c => ?_) (fun c => ?_)
    · replace h := ite_t c h
      refine AW.iconst (v := (-1 : Int32)) dX7_firstWrong_66 rfl ?_
      exact AW.iret rfl dX7_firstWrong_67 h
    · replace h := ite_f c h
      refine AW.aload_n dX7_firstWrong_10 0 rfl ?_
      refine AW.get (k := 5) (v := .ref (gad g 5 0)) (id1_0_0) rfl rfl inGX7 (Nat.le_of_ble_eq_true rfl) w_877 rfl dX7_firstWrong_11 ?_
      refine AW.iload_n dX7_firstWrong_14 1 rfl ?_
      obtain ⟨hq1, h⟩ := h
      refine AW.iald (jn := (a1.toNatClampNeg)) (id1_5_0) rfl hq1 rfl dX7_firstWrong_15 ?_
      refine AW.if_ge (tgt := 22) dX7_firstWrong_16 rfl (fun c => ?_) (fun c => ?_)
      · replace h := ite_t c h
        refine AW.aload_n dX7_firstWrong_22 0 rfl ?_
        refine AW.iload_n dX7_firstWrong_23 1 rfl ?_
        refine AW.iconst (v := (-1 : Int32)) dX7_firstWrong_24 rfl ?_
        refine AW.callVI [.int a1, .int (-1 : Int32)] (C_X7_besideOf h) ok_X7_besideOf (id1_0_0) rfl rfl w_1048 rfl (Nat.le_of_ble_eq_true rfl) (Nat.le_of_ble_eq_true rfl) rfl dX7_firstWrong_25 (fun r3 σ2 h => ?_)
        refine AW.istore_n (L' := [(0, .ref (gad g 0 0)), (1, .int a1), (2, .int r3)]) dX7_firstWrong_28 (Nat.le_of_ble_eq_true rfl) rfl ?_
        refine AW.aload_n dX7_firstWrong_29 0 rfl ?_
        refine AW.iload_n dX7_firstWrong_30 1 rfl ?_
        refine AW.iconst (v := (1 : Int32)) dX7_firstWrong_31 rfl ?_
        refine AW.callVI [.int a1, .int (1 : Int32)] (C_X7_besideOf h) ok_X7_besideOf (id1_0_0) rfl rfl w_1048 rfl (Nat.le_of_ble_eq_true rfl) (Nat.le_of_ble_eq_true rfl) rfl dX7_firstWrong_32 (fun r5 σ4 h => ?_)
        refine AW.istore_n (L' := [(0, .ref (gad g 0 0)), (1, .int a1), (2, .int r3), (3, .int r5)]) dX7_firstWrong_35 (Nat.le_of_ble_eq_true rfl) rfl ?_
        refine AW.iload_n dX7_firstWrong_36 2 rfl ?_
        refine AW.if_lt (tgt := 60) dX7_firstWrong_37 rfl (fun c => ?_) (fun c => ?_)
        · replace h := ite_t c h
          refine AW.iinc (v := (a1 + (1 : Int32))) (L' := [(0, .ref (gad g 0 0)), (1, .int (a1 + (1 : Int32))), (2, .int r3), (3, .int r5)]) dX7_firstWrong_60 1 rfl rfl (Nat.le_of_ble_eq_true rfl) rfl ?_
          refine AW.goto (tgt := 2) dX7_firstWrong_63 rfl ?_
          refine AW.eqL [0, 1] rfl ?_
          exact ih _ _ h
        · replace h := ite_f c h
          refine AW.iload_n dX7_firstWrong_40 3 rfl ?_
          refine AW.if_lt (tgt := 60) dX7_firstWrong_41 rfl (fun c => ?_) (fun c => ?_)
          · replace h := ite_t c h
            refine AW.iinc (v := (a1 + (1 : Int32))) (L' := [(0, .ref (gad g 0 0)), (1, .int (a1 + (1 : Int32))), (2, .int r3), (3, .int r5)]) dX7_firstWrong_60 1 rfl rfl (Nat.le_of_ble_eq_true rfl) rfl ?_
            refine AW.goto (tgt := 2) dX7_firstWrong_63 rfl ?_
            refine AW.eqL [0, 1] rfl ?_
            exact ih _ _ h
          · replace h := ite_f c h
            refine AW.iload_n dX7_firstWrong_44 2 rfl ?_
            refine AW.iload_n dX7_firstWrong_45 3 rfl ?_
            refine AW.icmp_eq (tgt := 60) dX7_firstWrong_46 rfl (fun c => ?_) (fun c => ?_)
            · replace h := ite_t c h
              refine AW.iinc (v := (a1 + (1 : Int32))) (L' := [(0, .ref (gad g 0 0)), (1, .int (a1 + (1 : Int32))), (2, .int r3), (3, .int r5)]) dX7_firstWrong_60 1 rfl rfl (Nat.le_of_ble_eq_true rfl) rfl ?_
              refine AW.goto (tgt := 2) dX7_firstWrong_63 rfl ?_
              refine AW.eqL [0, 1] rfl ?_
              exact ih _ _ h
            · replace h := ite_f c h
              refine AW.aload_n dX7_firstWrong_49 0 rfl ?_
              refine AW.iload_n dX7_firstWrong_50 2 rfl ?_
              refine AW.iload_n dX7_firstWrong_51 3 rfl ?_
              refine AW.callVB [.int r3, .int r5] (C_X7_areFriends h) ok_X7_areFriends (id1_0_0) rfl rfl w_990 rfl (Nat.le_of_ble_eq_true rfl) (Nat.le_of_ble_eq_true rfl) rfl dX7_firstWrong_52 (fun b7 σ6 h => ?_)
              refine AW.ifb_eq (tgt := 60) dX7_firstWrong_55 rfl (fun c => ?_) (fun c => ?_)
              · replace h := ite_f c h
                refine AW.iinc (v := (a1 + (1 : Int32))) (L' := [(0, .ref (gad g 0 0)), (1, .int (a1 + (1 : Int32))), (2, .int r3), (3, .int r5)]) dX7_firstWrong_60 1 rfl rfl (Nat.le_of_ble_eq_true rfl) rfl ?_
                refine AW.goto (tgt := 2) dX7_firstWrong_63 rfl ?_
                refine AW.eqL [0, 1] rfl ?_
                exact ih _ _ h
              · replace h := ite_t c h
                refine AW.iload_n dX7_firstWrong_58 1 rfl ?_
                exact AW.iret rfl dX7_firstWrong_59 h
      · replace h := ite_f c h
        refine AW.goto (tgt := 60) dX7_firstWrong_19 rfl ?_
        refine AW.iinc (v := (a1 + (1 : Int32))) (L' := [(0, .ref (gad g 0 0)), (1, .int (a1 + (1 : Int32)))]) dX7_firstWrong_60 1 rfl rfl (Nat.le_of_ble_eq_true rfl) rfl ?_
        refine AW.goto (tgt := 2) dX7_firstWrong_63 rfl ?_
        exact ih _ _ h
def f_X7_firstWrong (σ : Mm) (K : Int32 → Mm → Prop) : Prop := (∃ m, f_X7_firstWrong_2 K m (0 : Int32) σ)
set_option maxRecDepth 100000 in
set_option maxHeartbeats 4000000 in
theorem C_X7_firstWrong {g : GG} {σ : Mm} {K : Int32 → Mm → Prop} (h : f_X7_firstWrong σ K) : Ct g 1 M_X7_firstWrong (QI g 1 K) [.ref (gad g 0 0)] σ := by
  unfold f_X7_firstWrong at h
  refine Ct.of (L := [(0, .ref (gad g 0 0))]) (show plainName RX7 = true by decide) (Nat.le_of_ble_eq_true rfl) rfl ?_
  refine AW.iconst (v := (0 : Int32)) dX7_firstWrong_0 rfl ?_
  refine AW.istore_n (L' := [(0, .ref (gad g 0 0)), (1, .int (0 : Int32))]) dX7_firstWrong_1 (Nat.le_of_ble_eq_true rfl) rfl ?_
  obtain ⟨m, h⟩ := h
  refine T_X7_firstWrong_2 m _ _ h
theorem ok_X7_firstWrong : OkV M_X7_firstWrong 0 := ⟨w_1046, wp_39, w_9, w_1047, by decide +kernel, (Nat.le_of_ble_eq_true rfl)⟩
def M_X7_listsNow : MT := (yX7_listsNow, cX7_listsNow, 3, some .int, 1)
set_option maxRecDepth 100000 in
def f_X7_listsNow_4 (K : Int32 → Mm → Prop) : Nat → Int32 → Int32 → Mm → Prop
  | 0, _, _, _ => False
  | n + 1, a1, a2, σ => (if (σ 0 0 7) ≤ a2 then (K a1 σ) else (vp_in a2 8 ∧ (if 0 ≤ (σ 5 0 (a2.toNatClampNeg)) then (vp_in a2 8 ∧ (vp_in ((68 : Int32) + (σ 5 0 (a2.toNatClampNeg))) 136 ∧ (f_X7_listsNow_4 K n (a1 + ((σ 1 0 (((68 : Int32) + (σ 5 0 (a2.toNatClampNeg))).toNatClampNeg)) * (((2 : Int32) * a2) - ((σ 0 0 7) - (1 : Int32))))) (a2 + (1 : Int32)) σ))) else (f_X7_listsNow_4 K n (a1 + (0 : Int32)) (a2 + (1 : Int32)) σ))))
set_option maxRecDepth 100000 in
set_option maxHeartbeats 4000000 in
theorem T_X7_listsNow_4 {g : GG} {K : Int32 → Mm → Prop} : ∀ (n : Nat) (a1 : Int32) (a2 : Int32) (σ : Mm), f_X7_listsNow_4 K n a1 a2 σ → AW g 1 M_X7_listsNow (QI g 1 K) 4 [(0, .ref (gad g 0 0)), (1, .int a1), (2, .int a2)] [] σ := by
  intro n
  induction n with
  | zero => intro a1 a2 σ h; exact False.elim h
  | succ n ih =>
    intro a1 a2 σ h
    rw [f_X7_listsNow_4] at h
    refine AW.iload_n dX7_listsNow_4 2 rfl ?_
    refine AW.aload_n dX7_listsNow_5 0 rfl ?_
    refine AW.get (k := 7) (v := .int (σ 0 0 7)) (id1_0_0) rfl rfl inGX7 (Nat.le_of_ble_eq_true rfl) w_879 rfl dX7_listsNow_6 ?_
    refine AW.icmp_ge (tgt := 59) dX7_listsNow_9 rfl (fun c => ?_) (fun c => ?_)
    · replace h := ite_t c h
      refine AW.iload_n dX7_listsNow_59 1 rfl ?_
      exact AW.iret rfl dX7_listsNow_60 h
    · replace h := ite_f c h
      refine AW.iload_n dX7_listsNow_12 1 rfl ?_
      refine AW.aload_n dX7_listsNow_13 0 rfl ?_
      refine AW.get (k := 5) (v := .ref (gad g 5 0)) (id1_0_0) rfl rfl inGX7 (Nat.le_of_ble_eq_true rfl) w_877 rfl dX7_listsNow_14 ?_
      refine AW.iload_n dX7_listsNow_17 2 rfl ?_
      obtain ⟨hq1, h⟩ := h
      refine AW.iald (jn := (a2.toNatClampNeg)) (id1_5_0) rfl hq1 rfl dX7_listsNow_18 ?_
      refine AW.if_ge (tgt := 26) dX7_listsNow_19 rfl (fun c => ?_) (fun c => ?_)
      · replace h := ite_t c h
        refine AW.aload_n dX7_listsNow_26 0 rfl ?_
        refine AW.get (k := 0) (v := .ref (gad g 1 0)) (id1_0_0) rfl rfl inGX7 (Nat.le_of_ble_eq_true rfl) w_872 rfl dX7_listsNow_27 ?_
        refine AW.bipush (v := (68 : Int32)) dX7_listsNow_30 rfl ?_
        refine AW.aload_n dX7_listsNow_32 0 rfl ?_
        refine AW.get (k := 5) (v := .ref (gad g 5 0)) (id1_0_0) rfl rfl inGX7 (Nat.le_of_ble_eq_true rfl) w_877 rfl dX7_listsNow_33 ?_
        refine AW.iload_n dX7_listsNow_36 2 rfl ?_
        obtain ⟨hq2, h⟩ := h
        refine AW.iald (jn := (a2.toNatClampNeg)) (id1_5_0) rfl hq2 rfl dX7_listsNow_37 ?_
        refine AW.iadd dX7_listsNow_38 ?_
        obtain ⟨hq3, h⟩ := h
        refine AW.iald (jn := (((68 : Int32) + (σ 5 0 (a2.toNatClampNeg))).toNatClampNeg)) (id1_1_0) rfl hq3 rfl dX7_listsNow_39 ?_
        refine AW.iconst (v := (2 : Int32)) dX7_listsNow_40 rfl ?_
        refine AW.iload_n dX7_listsNow_41 2 rfl ?_
        refine AW.imul dX7_listsNow_42 ?_
        refine AW.aload_n dX7_listsNow_43 0 rfl ?_
        refine AW.get (k := 7) (v := .int (σ 0 0 7)) (id1_0_0) rfl rfl inGX7 (Nat.le_of_ble_eq_true rfl) w_879 rfl dX7_listsNow_44 ?_
        refine AW.iconst (v := (1 : Int32)) dX7_listsNow_47 rfl ?_
        refine AW.isub dX7_listsNow_48 ?_
        refine AW.isub dX7_listsNow_49 ?_
        refine AW.imul dX7_listsNow_50 ?_
        refine AW.iadd dX7_listsNow_51 ?_
        refine AW.istore_n (L' := [(0, .ref (gad g 0 0)), (1, .int (a1 + ((σ 1 0 (((68 : Int32) + (σ 5 0 (a2.toNatClampNeg))).toNatClampNeg)) * (((2 : Int32) * a2) - ((σ 0 0 7) - (1 : Int32)))))), (2, .int a2)]) dX7_listsNow_52 (Nat.le_of_ble_eq_true rfl) rfl ?_
        refine AW.iinc (v := (a2 + (1 : Int32))) (L' := [(0, .ref (gad g 0 0)), (1, .int (a1 + ((σ 1 0 (((68 : Int32) + (σ 5 0 (a2.toNatClampNeg))).toNatClampNeg)) * (((2 : Int32) * a2) - ((σ 0 0 7) - (1 : Int32)))))), (2, .int (a2 + (1 : Int32)))]) dX7_listsNow_53 2 rfl rfl (Nat.le_of_ble_eq_true rfl) rfl ?_
        refine AW.goto (tgt := 4) dX7_listsNow_56 rfl ?_
        exact ih _ _ _ h
      · replace h := ite_f c h
        refine AW.iconst (v := (0 : Int32)) dX7_listsNow_22 rfl ?_
        refine AW.goto (tgt := 51) dX7_listsNow_23 rfl ?_
        refine AW.iadd dX7_listsNow_51 ?_
        refine AW.istore_n (L' := [(0, .ref (gad g 0 0)), (1, .int (a1 + (0 : Int32))), (2, .int a2)]) dX7_listsNow_52 (Nat.le_of_ble_eq_true rfl) rfl ?_
        refine AW.iinc (v := (a2 + (1 : Int32))) (L' := [(0, .ref (gad g 0 0)), (1, .int (a1 + (0 : Int32))), (2, .int (a2 + (1 : Int32)))]) dX7_listsNow_53 2 rfl rfl (Nat.le_of_ble_eq_true rfl) rfl ?_
        refine AW.goto (tgt := 4) dX7_listsNow_56 rfl ?_
        exact ih _ _ _ h
def f_X7_listsNow (σ : Mm) (K : Int32 → Mm → Prop) : Prop := (∃ m, f_X7_listsNow_4 K m (0 : Int32) (0 : Int32) σ)
set_option maxRecDepth 100000 in
set_option maxHeartbeats 4000000 in
theorem C_X7_listsNow {g : GG} {σ : Mm} {K : Int32 → Mm → Prop} (h : f_X7_listsNow σ K) : Ct g 1 M_X7_listsNow (QI g 1 K) [.ref (gad g 0 0)] σ := by
  unfold f_X7_listsNow at h
  refine Ct.of (L := [(0, .ref (gad g 0 0))]) (show plainName RX7 = true by decide) (Nat.le_of_ble_eq_true rfl) rfl ?_
  refine AW.iconst (v := (0 : Int32)) dX7_listsNow_0 rfl ?_
  refine AW.istore_n (L' := [(0, .ref (gad g 0 0)), (1, .int (0 : Int32))]) dX7_listsNow_1 (Nat.le_of_ble_eq_true rfl) rfl ?_
  refine AW.iconst (v := (0 : Int32)) dX7_listsNow_2 rfl ?_
  refine AW.istore_n (L' := [(0, .ref (gad g 0 0)), (1, .int (0 : Int32)), (2, .int (0 : Int32))]) dX7_listsNow_3 (Nat.le_of_ble_eq_true rfl) rfl ?_
  obtain ⟨m, h⟩ := h
  refine T_X7_listsNow_4 m _ _ _ h
theorem ok_X7_listsNow : OkV M_X7_listsNow 0 := ⟨w_1038, wp_37, w_9, w_1039, by decide +kernel, (Nat.le_of_ble_eq_true rfl)⟩
def M_X7_holdsNow : MT := (yX7_holdsNow, cX7_holdsNow, 3, some .boolean, 6)
def f_X7_holdsNow_58 (a1 : Int32) (as0 : Int32) (K : Bool → Mm → Prop) (σ : Mm) : Prop := (f_X7_in ((a1).toInt64) (((-as0)).toInt64) ((as0).toInt64) σ (fun b6 σ5 => (K b6 σ5)))
set_option maxRecDepth 100000 in
set_option maxHeartbeats 4000000 in
theorem T_X7_holdsNow_58 {g : GG} {a1 : Int32} {as0 : Int32} {K : Bool → Mm → Prop} {σ : Mm} (h : f_X7_holdsNow_58 a1 as0 K σ) : AW g 1 M_X7_holdsNow (QB g 1 K) 58 [(1, .int a1)] [.int as0] σ := by
  unfold f_X7_holdsNow_58 at h
  refine AW.istore_n (L' := [(1, .int a1), (2, .int as0)]) dX7_holdsNow_58 (Nat.le_of_ble_eq_true rfl) rfl ?_
  refine AW.iload_n dX7_holdsNow_59 0 rfl ?_
  refine AW.i2l dX7_holdsNow_60 ?_
  refine AW.iload_n dX7_holdsNow_61 1 rfl ?_
  refine AW.ineg dX7_holdsNow_62 ?_
  refine AW.i2l dX7_holdsNow_63 ?_
  refine AW.iload_n dX7_holdsNow_64 1 rfl ?_
  refine AW.i2l dX7_holdsNow_65 ?_
  refine AW.callSB [.long ((a1).toInt64), .long (((-as0)).toInt64), .long ((as0).toInt64)] (C_X7_in h) ok_X7_in w_947 rfl (Nat.le_of_ble_eq_true rfl) (Nat.le_of_ble_eq_true rfl) rfl dX7_holdsNow_66 (fun b6 σ5 h => ?_)
  exact AW.bret b6 rfl rfl dX7_holdsNow_69 h
def f_X7_holdsNow_28 (K : Bool → Mm → Prop) (σ : Mm) : Prop := (f_X7_listsNow σ (fun r4 σ3 => (if (σ3 0 0 6) = (3 : Int32) then (f_X7_holdsNow_58 r4 (σ3 1 0 1) K σ3) else (f_X7_holdsNow_58 r4 ((2 : Int32) * (σ3 1 0 1)) K σ3))))
set_option maxRecDepth 100000 in
set_option maxHeartbeats 4000000 in
theorem T_X7_holdsNow_28 {g : GG} {K : Bool → Mm → Prop} {σ : Mm} (h : f_X7_holdsNow_28 K σ) : AW g 1 M_X7_holdsNow (QB g 1 K) 28 [(0, .ref (gad g 0 0))] [] σ := by
  unfold f_X7_holdsNow_28 at h
  refine AW.aload_n dX7_holdsNow_28 0 rfl ?_
  refine AW.callVI [] (C_X7_listsNow h) ok_X7_listsNow (id1_0_0) rfl rfl w_1036 rfl (Nat.le_of_ble_eq_true rfl) (Nat.le_of_ble_eq_true rfl) rfl dX7_holdsNow_29 (fun r4 σ3 h => ?_)
  refine AW.istore_n (L' := [(0, .ref (gad g 0 0)), (1, .int r4)]) dX7_holdsNow_32 (Nat.le_of_ble_eq_true rfl) rfl ?_
  refine AW.aload_n dX7_holdsNow_33 0 rfl ?_
  refine AW.get (k := 6) (v := .int (σ3 0 0 6)) (id1_0_0) rfl rfl inGX7 (Nat.le_of_ble_eq_true rfl) w_878 rfl dX7_holdsNow_34 ?_
  refine AW.iconst (v := (3 : Int32)) dX7_holdsNow_37 rfl ?_
  refine AW.icmp_ne (tgt := 50) dX7_holdsNow_38 rfl (fun c => ?_) (fun c => ?_)
  · replace h := ite_f c h
    refine AW.iconst (v := (2 : Int32)) dX7_holdsNow_50 rfl ?_
    refine AW.aload_n dX7_holdsNow_51 0 rfl ?_
    refine AW.get (k := 0) (v := .ref (gad g 1 0)) (id1_0_0) rfl rfl inGX7 (Nat.le_of_ble_eq_true rfl) w_872 rfl dX7_holdsNow_52 ?_
    refine AW.iconst (v := (1 : Int32)) dX7_holdsNow_55 rfl ?_
    refine AW.iald (jn := 1) (id1_1_0) rfl (by unfold vp_in; decide) rfl dX7_holdsNow_56 ?_
    refine AW.imul dX7_holdsNow_57 ?_
    refine AW.eqL [1] rfl ?_
    exact T_X7_holdsNow_58 h
  · replace h := ite_t c h
    refine AW.aload_n dX7_holdsNow_41 0 rfl ?_
    refine AW.get (k := 0) (v := .ref (gad g 1 0)) (id1_0_0) rfl rfl inGX7 (Nat.le_of_ble_eq_true rfl) w_872 rfl dX7_holdsNow_42 ?_
    refine AW.iconst (v := (1 : Int32)) dX7_holdsNow_45 rfl ?_
    refine AW.iald (jn := 1) (id1_1_0) rfl (by unfold vp_in; decide) rfl dX7_holdsNow_46 ?_
    refine AW.goto (tgt := 58) dX7_holdsNow_47 rfl ?_
    refine AW.eqL [1] rfl ?_
    exact T_X7_holdsNow_58 h
def f_X7_holdsNow (σ : Mm) (K : Bool → Mm → Prop) : Prop := (f_X7_firstWrong σ (fun r2 σ1 => (if r2 < 0 then (if (σ1 0 0 6) = (3 : Int32) then (f_X7_holdsNow_28 K σ1) else (if (σ1 0 0 6) = (6 : Int32) then (f_X7_holdsNow_28 K σ1) else (K true σ1))) else (K false σ1))))
set_option maxRecDepth 100000 in
set_option maxHeartbeats 4000000 in
theorem C_X7_holdsNow {g : GG} {σ : Mm} {K : Bool → Mm → Prop} (h : f_X7_holdsNow σ K) : Ct g 1 M_X7_holdsNow (QB g 1 K) [.ref (gad g 0 0)] σ := by
  unfold f_X7_holdsNow at h
  refine Ct.of (L := [(0, .ref (gad g 0 0))]) (show plainName RX7 = true by decide) (Nat.le_of_ble_eq_true rfl) rfl ?_
  refine AW.aload_n dX7_holdsNow_0 0 rfl ?_
  refine AW.callVI [] (C_X7_firstWrong h) ok_X7_firstWrong (id1_0_0) rfl rfl w_1044 rfl (Nat.le_of_ble_eq_true rfl) (Nat.le_of_ble_eq_true rfl) rfl dX7_holdsNow_1 (fun r2 σ1 h => ?_)
  refine AW.if_lt (tgt := 9) dX7_holdsNow_4 rfl (fun c => ?_) (fun c => ?_)
  · replace h := ite_t c h
    refine AW.aload_n dX7_holdsNow_9 0 rfl ?_
    refine AW.get (k := 6) (v := .int (σ1 0 0 6)) (id1_0_0) rfl rfl inGX7 (Nat.le_of_ble_eq_true rfl) w_878 rfl dX7_holdsNow_10 ?_
    refine AW.iconst (v := (3 : Int32)) dX7_holdsNow_13 rfl ?_
    refine AW.icmp_eq (tgt := 28) dX7_holdsNow_14 rfl (fun c => ?_) (fun c => ?_)
    · replace h := ite_t c h
      exact T_X7_holdsNow_28 h
    · replace h := ite_f c h
      refine AW.aload_n dX7_holdsNow_17 0 rfl ?_
      refine AW.get (k := 6) (v := .int (σ1 0 0 6)) (id1_0_0) rfl rfl inGX7 (Nat.le_of_ble_eq_true rfl) w_878 rfl dX7_holdsNow_18 ?_
      refine AW.bipush (v := (6 : Int32)) dX7_holdsNow_21 rfl ?_
      refine AW.icmp_eq (tgt := 28) dX7_holdsNow_23 rfl (fun c => ?_) (fun c => ?_)
      · replace h := ite_t c h
        exact T_X7_holdsNow_28 h
      · replace h := ite_f c h
        refine AW.iconst (v := (1 : Int32)) dX7_holdsNow_26 rfl ?_
        exact AW.bret true rfl rfl dX7_holdsNow_27 h
  · replace h := ite_f c h
    refine AW.iconst (v := (0 : Int32)) dX7_holdsNow_7 rfl ?_
    exact AW.bret false rfl rfl dX7_holdsNow_8 h
theorem ok_X7_holdsNow : OkV M_X7_holdsNow 0 := ⟨w_1042, wp_38, w_9, w_1043, by decide +kernel, (Nat.le_of_ble_eq_true rfl)⟩
def M_X7_sitting : MT := (yX7_sitting, cX7_sitting, 4, some .int, 2)
set_option maxRecDepth 100000 in
def f_X7_sitting_4 (a1 : Int32) (K : Int32 → Mm → Prop) : Nat → Int32 → Int32 → Mm → Prop
  | 0, _, _, _ => False
  | n + 1, a2, a3, σ => (f_X7_seatsOf a1 σ (fun r2 σ1 => (if r2 ≤ a3 then (K a2 σ1) else (f_X7_at a1 a3 σ1 (fun r4 σ3 => (vp_in r4 136 ∧ (if 0 ≤ (σ3 1 0 (r4.toNatClampNeg)) then (f_X7_sitting_4 a1 K n (a2 + (1 : Int32)) (a3 + (1 : Int32)) σ3) else (f_X7_sitting_4 a1 K n (a2 + (0 : Int32)) (a3 + (1 : Int32)) σ3))))))))
set_option maxRecDepth 100000 in
set_option maxHeartbeats 4000000 in
theorem T_X7_sitting_4 {g : GG} {a1 : Int32} {K : Int32 → Mm → Prop} : ∀ (n : Nat) (a2 : Int32) (a3 : Int32) (σ : Mm), f_X7_sitting_4 a1 K n a2 a3 σ → AW g 1 M_X7_sitting (QI g 1 K) 4 [(0, .ref (gad g 0 0)), (1, .int a1), (2, .int a2), (3, .int a3)] [] σ := by
  intro n
  induction n with
  | zero => intro a2 a3 σ h; exact False.elim h
  | succ n ih =>
    intro a2 a3 σ h
    rw [f_X7_sitting_4] at h
    refine AW.iload_n dX7_sitting_4 3 rfl ?_
    refine AW.aload_n dX7_sitting_5 0 rfl ?_
    refine AW.iload_n dX7_sitting_6 1 rfl ?_
    refine AW.callVI [.int a1] (C_X7_seatsOf h) ok_X7_seatsOf (id1_0_0) rfl rfl w_1028 rfl (Nat.le_of_ble_eq_true rfl) (Nat.le_of_ble_eq_true rfl) rfl dX7_sitting_7 (fun r2 σ1 h => ?_)
    refine AW.icmp_ge (tgt := 40) dX7_sitting_10 rfl (fun c => ?_) (fun c => ?_)
    · replace h := ite_t c h
      refine AW.iload_n dX7_sitting_40 2 rfl ?_
      exact AW.iret rfl dX7_sitting_41 h
    · replace h := ite_f c h
      refine AW.iload_n dX7_sitting_13 2 rfl ?_
      refine AW.aload_n dX7_sitting_14 0 rfl ?_
      refine AW.get (k := 0) (v := .ref (gad g 1 0)) (id1_0_0) rfl rfl inGX7 (Nat.le_of_ble_eq_true rfl) w_872 rfl dX7_sitting_15 ?_
      refine AW.iload_n dX7_sitting_18 1 rfl ?_
      refine AW.iload_n dX7_sitting_19 3 rfl ?_
      refine AW.callSI [.int a1, .int a3] (C_X7_at h) ok_X7_at w_1008 rfl (Nat.le_of_ble_eq_true rfl) (Nat.le_of_ble_eq_true rfl) rfl dX7_sitting_20 (fun r4 σ3 h => ?_)
      obtain ⟨hq5, h⟩ := h
      refine AW.iald (jn := (r4.toNatClampNeg)) (id1_1_0) rfl hq5 rfl dX7_sitting_23 ?_
      refine AW.if_ge (tgt := 31) dX7_sitting_24 rfl (fun c => ?_) (fun c => ?_)
      · replace h := ite_t c h
        refine AW.iconst (v := (1 : Int32)) dX7_sitting_31 rfl ?_
        refine AW.iadd dX7_sitting_32 ?_
        refine AW.istore_n (L' := [(0, .ref (gad g 0 0)), (1, .int a1), (2, .int (a2 + (1 : Int32))), (3, .int a3)]) dX7_sitting_33 (Nat.le_of_ble_eq_true rfl) rfl ?_
        refine AW.iinc (v := (a3 + (1 : Int32))) (L' := [(0, .ref (gad g 0 0)), (1, .int a1), (2, .int (a2 + (1 : Int32))), (3, .int (a3 + (1 : Int32)))]) dX7_sitting_34 3 rfl rfl (Nat.le_of_ble_eq_true rfl) rfl ?_
        refine AW.goto (tgt := 4) dX7_sitting_37 rfl ?_
        exact ih _ _ _ h
      · replace h := ite_f c h
        refine AW.iconst (v := (0 : Int32)) dX7_sitting_27 rfl ?_
        refine AW.goto (tgt := 32) dX7_sitting_28 rfl ?_
        refine AW.iadd dX7_sitting_32 ?_
        refine AW.istore_n (L' := [(0, .ref (gad g 0 0)), (1, .int a1), (2, .int (a2 + (0 : Int32))), (3, .int a3)]) dX7_sitting_33 (Nat.le_of_ble_eq_true rfl) rfl ?_
        refine AW.iinc (v := (a3 + (1 : Int32))) (L' := [(0, .ref (gad g 0 0)), (1, .int a1), (2, .int (a2 + (0 : Int32))), (3, .int (a3 + (1 : Int32)))]) dX7_sitting_34 3 rfl rfl (Nat.le_of_ble_eq_true rfl) rfl ?_
        refine AW.goto (tgt := 4) dX7_sitting_37 rfl ?_
        exact ih _ _ _ h
def f_X7_sitting (a1 : Int32) (σ : Mm) (K : Int32 → Mm → Prop) : Prop := (∃ m, f_X7_sitting_4 a1 K m (0 : Int32) (0 : Int32) σ)
set_option maxRecDepth 100000 in
set_option maxHeartbeats 4000000 in
theorem C_X7_sitting {g : GG} {a1 : Int32} {σ : Mm} {K : Int32 → Mm → Prop} (h : f_X7_sitting a1 σ K) : Ct g 1 M_X7_sitting (QI g 1 K) [.ref (gad g 0 0), .int a1] σ := by
  unfold f_X7_sitting at h
  refine Ct.of (L := [(0, .ref (gad g 0 0)), (1, .int a1)]) (show plainName RX7 = true by decide) (Nat.le_of_ble_eq_true rfl) rfl ?_
  refine AW.iconst (v := (0 : Int32)) dX7_sitting_0 rfl ?_
  refine AW.istore_n (L' := [(0, .ref (gad g 0 0)), (1, .int a1), (2, .int (0 : Int32))]) dX7_sitting_1 (Nat.le_of_ble_eq_true rfl) rfl ?_
  refine AW.iconst (v := (0 : Int32)) dX7_sitting_2 rfl ?_
  refine AW.istore_n (L' := [(0, .ref (gad g 0 0)), (1, .int a1), (2, .int (0 : Int32)), (3, .int (0 : Int32))]) dX7_sitting_3 (Nat.le_of_ble_eq_true rfl) rfl ?_
  obtain ⟨m, h⟩ := h
  refine T_X7_sitting_4 m _ _ _ h
theorem ok_X7_sitting : OkV M_X7_sitting 1 := ⟨w_1034, wp_36, w_9, w_1035, by decide +kernel, (Nat.le_of_ble_eq_true rfl)⟩
def M_X7_benchOf : MT := (yX7_benchOf, cX7_benchOf, 3, some .int, 7)
def f_X7_benchOf (a1 : Int32) (a2 : Int32) (σ : Mm) (K : Int32 → Mm → Prop) : Prop := (f_X7_isBench a1 σ (fun b2 σ1 => (if b2 = true then (f_X7_in ((a2).toInt64) (0 : Int64) (4 : Int64) σ1 (fun b6 σ5 => (if b6 = true then (f_X7_looksAt a1 σ5 (fun σ7 => (if a2 = 0 then (K (σ7 0 0 6) σ7) else (if a2 = (1 : Int32) then (K (σ7 0 0 7) σ7) else (if a2 = (2 : Int32) then (f_X7_sitting a1 σ7 (fun r13 σ12 => (K r13 σ12))) else (if a2 = (3 : Int32) then (f_X7_listsNow σ7 (fun r11 σ10 => (K r11 σ10))) else (f_X7_holdsNow σ7 (fun b9 σ8 => (if b9 = true then (K (1 : Int32) σ8) else (K (0 : Int32) σ8)))))))))) else (f_X7_finds (-1000001 : Int32) σ5 (fun r15 σ14 => (K r15 σ14)))))) else (f_X7_finds (-1000001 : Int32) σ1 (fun r4 σ3 => (K r4 σ3))))))
set_option maxRecDepth 100000 in
set_option maxHeartbeats 4000000 in
theorem C_X7_benchOf {g : GG} {a1 : Int32} {a2 : Int32} {σ : Mm} {K : Int32 → Mm → Prop} (h : f_X7_benchOf a1 a2 σ K) : Ct g 1 M_X7_benchOf (QI g 1 K) [.ref (gad g 0 0), .int a1, .int a2] σ := by
  unfold f_X7_benchOf at h
  refine Ct.of (L := [(0, .ref (gad g 0 0)), (1, .int a1), (2, .int a2)]) (show plainName RX7 = true by decide) (Nat.le_of_ble_eq_true rfl) rfl ?_
  refine AW.aload_n dX7_benchOf_0 0 rfl ?_
  refine AW.iload_n dX7_benchOf_1 1 rfl ?_
  refine AW.callVB [.int a1] (C_X7_isBench h) ok_X7_isBench (id1_0_0) rfl rfl w_1015 rfl (Nat.le_of_ble_eq_true rfl) (Nat.le_of_ble_eq_true rfl) rfl dX7_benchOf_2 (fun b2 σ1 h => ?_)
  refine AW.ifb_eq (tgt := 20) dX7_benchOf_5 rfl (fun c => ?_) (fun c => ?_)
  · replace h := ite_f c h
    refine AW.aload_n dX7_benchOf_20 0 rfl ?_
    refine AW.ldc (v := (-1000001 : Int32)) dX7_benchOf_21 w_951 ?_
    refine AW.callVI [.int (-1000001 : Int32)] (C_X7_finds h) ok_X7_finds (id1_0_0) rfl rfl w_952 rfl (Nat.le_of_ble_eq_true rfl) (Nat.le_of_ble_eq_true rfl) rfl dX7_benchOf_23 (fun r4 σ3 h => ?_)
    exact AW.iret rfl dX7_benchOf_26 h
  · replace h := ite_t c h
    refine AW.iload_n dX7_benchOf_8 2 rfl ?_
    refine AW.i2l dX7_benchOf_9 ?_
    refine AW.lconst (v := (0 : Int64)) dX7_benchOf_10 rfl ?_
    refine AW.ldc2 (v := (4 : Int64)) dX7_benchOf_11 w_1019 ?_
    refine AW.callSB [.long ((a2).toInt64), .long (0 : Int64), .long (4 : Int64)] (C_X7_in h) ok_X7_in w_947 rfl (Nat.le_of_ble_eq_true rfl) (Nat.le_of_ble_eq_true rfl) rfl dX7_benchOf_14 (fun b6 σ5 h => ?_)
    refine AW.ifb_ne (tgt := 27) dX7_benchOf_17 rfl (fun c => ?_) (fun c => ?_)
    · replace h := ite_t c h
      refine AW.aload_n dX7_benchOf_27 0 rfl ?_
      refine AW.iload_n dX7_benchOf_28 1 rfl ?_
      refine AW.callVV [.int a1] (C_X7_looksAt h) ok_X7_looksAt (id1_0_0) rfl rfl w_1020 rfl (Nat.le_of_ble_eq_true rfl) (Nat.le_of_ble_eq_true rfl) rfl dX7_benchOf_29 (fun σ7 h => ?_)
      refine AW.iload_n dX7_benchOf_32 2 rfl ?_
      refine AW.if_ne (tgt := 43) dX7_benchOf_33 rfl (fun c => ?_) (fun c => ?_)
      · replace h := ite_f c h
        refine AW.iload_n dX7_benchOf_43 2 rfl ?_
        refine AW.iconst (v := (1 : Int32)) dX7_benchOf_44 rfl ?_
        refine AW.icmp_ne (tgt := 55) dX7_benchOf_45 rfl (fun c => ?_) (fun c => ?_)
        · replace h := ite_f c h
          refine AW.iload_n dX7_benchOf_55 2 rfl ?_
          refine AW.iconst (v := (2 : Int32)) dX7_benchOf_56 rfl ?_
          refine AW.icmp_ne (tgt := 68) dX7_benchOf_57 rfl (fun c => ?_) (fun c => ?_)
          · replace h := ite_f c h
            refine AW.iload_n dX7_benchOf_68 2 rfl ?_
            refine AW.iconst (v := (3 : Int32)) dX7_benchOf_69 rfl ?_
            refine AW.icmp_ne (tgt := 80) dX7_benchOf_70 rfl (fun c => ?_) (fun c => ?_)
            · replace h := ite_f c h
              refine AW.aload_n dX7_benchOf_80 0 rfl ?_
              refine AW.callVB [] (C_X7_holdsNow h) ok_X7_holdsNow (id1_0_0) rfl rfl w_1040 rfl (Nat.le_of_ble_eq_true rfl) (Nat.le_of_ble_eq_true rfl) rfl dX7_benchOf_81 (fun b9 σ8 h => ?_)
              refine AW.ifb_eq (tgt := 91) dX7_benchOf_84 rfl (fun c => ?_) (fun c => ?_)
              · replace h := ite_f c h
                refine AW.iconst (v := (0 : Int32)) dX7_benchOf_91 rfl ?_
                exact AW.iret rfl dX7_benchOf_92 h
              · replace h := ite_t c h
                refine AW.iconst (v := (1 : Int32)) dX7_benchOf_87 rfl ?_
                refine AW.goto (tgt := 92) dX7_benchOf_88 rfl ?_
                exact AW.iret rfl dX7_benchOf_92 h
            · replace h := ite_t c h
              refine AW.aload_n dX7_benchOf_73 0 rfl ?_
              refine AW.callVI [] (C_X7_listsNow h) ok_X7_listsNow (id1_0_0) rfl rfl w_1036 rfl (Nat.le_of_ble_eq_true rfl) (Nat.le_of_ble_eq_true rfl) rfl dX7_benchOf_74 (fun r11 σ10 h => ?_)
              refine AW.goto (tgt := 92) dX7_benchOf_77 rfl ?_
              exact AW.iret rfl dX7_benchOf_92 h
          · replace h := ite_t c h
            refine AW.aload_n dX7_benchOf_60 0 rfl ?_
            refine AW.iload_n dX7_benchOf_61 1 rfl ?_
            refine AW.callVI [.int a1] (C_X7_sitting h) ok_X7_sitting (id1_0_0) rfl rfl w_1032 rfl (Nat.le_of_ble_eq_true rfl) (Nat.le_of_ble_eq_true rfl) rfl dX7_benchOf_62 (fun r13 σ12 h => ?_)
            refine AW.goto (tgt := 92) dX7_benchOf_65 rfl ?_
            exact AW.iret rfl dX7_benchOf_92 h
        · replace h := ite_t c h
          refine AW.aload_n dX7_benchOf_48 0 rfl ?_
          refine AW.get (k := 7) (v := .int (σ7 0 0 7)) (id1_0_0) rfl rfl inGX7 (Nat.le_of_ble_eq_true rfl) w_879 rfl dX7_benchOf_49 ?_
          refine AW.goto (tgt := 92) dX7_benchOf_52 rfl ?_
          exact AW.iret rfl dX7_benchOf_92 h
      · replace h := ite_t c h
        refine AW.aload_n dX7_benchOf_36 0 rfl ?_
        refine AW.get (k := 6) (v := .int (σ7 0 0 6)) (id1_0_0) rfl rfl inGX7 (Nat.le_of_ble_eq_true rfl) w_878 rfl dX7_benchOf_37 ?_
        refine AW.goto (tgt := 92) dX7_benchOf_40 rfl ?_
        exact AW.iret rfl dX7_benchOf_92 h
    · replace h := ite_f c h
      refine AW.aload_n dX7_benchOf_20 0 rfl ?_
      refine AW.ldc (v := (-1000001 : Int32)) dX7_benchOf_21 w_951 ?_
      refine AW.callVI [.int (-1000001 : Int32)] (C_X7_finds h) ok_X7_finds (id1_0_0) rfl rfl w_952 rfl (Nat.le_of_ble_eq_true rfl) (Nat.le_of_ble_eq_true rfl) rfl dX7_benchOf_23 (fun r15 σ14 h => ?_)
      exact AW.iret rfl dX7_benchOf_26 h
theorem ok_X7_benchOf : OkV M_X7_benchOf 2 := ⟨w_1012, w_1013, w_9, w_1014, by decide +kernel, (Nat.le_of_ble_eq_true rfl)⟩
def M_X7_turn : MT := (yX7_turn, cX7_turn, 3, some .int, 3)
def f_X7_turn (a1 : Int32) (a2 : Int32) (σ : Mm) (K : Int32 → Mm → Prop) : Prop := (f_X7_isBench a1 σ (fun b2 σ1 => (if b2 = true then (f_X7_isKind a2 σ1 (fun b6 σ5 => (if b6 = true then (f_X7_becomes ((76 : Int32) + ((10 : Int32) * a1)) a2 σ5 (fun r10 σ9 => (K r10 σ9))) else (f_X7_finds (-1000001 : Int32) σ5 (fun r8 σ7 => (K r8 σ7)))))) else (f_X7_finds (-1000001 : Int32) σ1 (fun r4 σ3 => (K r4 σ3))))))
set_option maxRecDepth 100000 in
set_option maxHeartbeats 4000000 in
theorem C_X7_turn {g : GG} {a1 : Int32} {a2 : Int32} {σ : Mm} {K : Int32 → Mm → Prop} (h : f_X7_turn a1 a2 σ K) : Ct g 1 M_X7_turn (QI g 1 K) [.ref (gad g 0 0), .int a1, .int a2] σ := by
  unfold f_X7_turn at h
  refine Ct.of (L := [(0, .ref (gad g 0 0)), (1, .int a1), (2, .int a2)]) (show plainName RX7 = true by decide) (Nat.le_of_ble_eq_true rfl) rfl ?_
  refine AW.aload_n dX7_turn_0 0 rfl ?_
  refine AW.iload_n dX7_turn_1 1 rfl ?_
  refine AW.callVB [.int a1] (C_X7_isBench h) ok_X7_isBench (id1_0_0) rfl rfl w_1015 rfl (Nat.le_of_ble_eq_true rfl) (Nat.le_of_ble_eq_true rfl) rfl dX7_turn_2 (fun b2 σ1 h => ?_)
  refine AW.ifb_eq (tgt := 30) dX7_turn_5 rfl (fun c => ?_) (fun c => ?_)
  · replace h := ite_f c h
    refine AW.aload_n dX7_turn_30 0 rfl ?_
    refine AW.ldc (v := (-1000001 : Int32)) dX7_turn_31 w_951 ?_
    refine AW.callVI [.int (-1000001 : Int32)] (C_X7_finds h) ok_X7_finds (id1_0_0) rfl rfl w_952 rfl (Nat.le_of_ble_eq_true rfl) (Nat.le_of_ble_eq_true rfl) rfl dX7_turn_33 (fun r4 σ3 h => ?_)
    exact AW.iret rfl dX7_turn_36 h
  · replace h := ite_t c h
    refine AW.iload_n dX7_turn_8 2 rfl ?_
    refine AW.callSB [.int a2] (C_X7_isKind h) ok_X7_isKind w_998 rfl (Nat.le_of_ble_eq_true rfl) (Nat.le_of_ble_eq_true rfl) rfl dX7_turn_9 (fun b6 σ5 h => ?_)
    refine AW.ifb_eq (tgt := 30) dX7_turn_12 rfl (fun c => ?_) (fun c => ?_)
    · replace h := ite_f c h
      refine AW.aload_n dX7_turn_30 0 rfl ?_
      refine AW.ldc (v := (-1000001 : Int32)) dX7_turn_31 w_951 ?_
      refine AW.callVI [.int (-1000001 : Int32)] (C_X7_finds h) ok_X7_finds (id1_0_0) rfl rfl w_952 rfl (Nat.le_of_ble_eq_true rfl) (Nat.le_of_ble_eq_true rfl) rfl dX7_turn_33 (fun r8 σ7 h => ?_)
      exact AW.iret rfl dX7_turn_36 h
    · replace h := ite_t c h
      refine AW.aload_n dX7_turn_15 0 rfl ?_
      refine AW.bipush (v := (76 : Int32)) dX7_turn_16 rfl ?_
      refine AW.bipush (v := (10 : Int32)) dX7_turn_18 rfl ?_
      refine AW.iload_n dX7_turn_20 1 rfl ?_
      refine AW.imul dX7_turn_21 ?_
      refine AW.iadd dX7_turn_22 ?_
      refine AW.iload_n dX7_turn_23 2 rfl ?_
      refine AW.callVI [.int ((76 : Int32) + ((10 : Int32) * a1)), .int a2] (C_X7_becomes h) ok_X7_becomes (id1_0_0) rfl rfl w_973 rfl (Nat.le_of_ble_eq_true rfl) (Nat.le_of_ble_eq_true rfl) rfl dX7_turn_24 (fun r10 σ9 h => ?_)
      refine AW.goto (tgt := 36) dX7_turn_27 rfl ?_
      exact AW.iret rfl dX7_turn_36 h
theorem ok_X7_turn : OkV M_X7_turn 2 := ⟨w_1061, w_1062, w_9, w_1063, by decide +kernel, (Nat.le_of_ble_eq_true rfl)⟩
def M_X7_isSeat : MT := (yX7_isSeat, cX7_isSeat, 3, some .boolean, 3)
def f_X7_isSeat (a1 : Int32) (a2 : Int32) (σ : Mm) (K : Bool → Mm → Prop) : Prop := (f_X7_isBench a1 σ (fun b2 σ1 => (if b2 = true then (f_X7_seatsOf a1 σ1 (fun r4 σ3 => (f_X7_in ((a2).toInt64) (0 : Int64) (((r4 - (1 : Int32))).toInt64) σ3 (fun b6 σ5 => (if b6 = true then (K true σ5) else (K false σ5)))))) else (K false σ1))))
set_option maxRecDepth 100000 in
set_option maxHeartbeats 4000000 in
theorem C_X7_isSeat {g : GG} {a1 : Int32} {a2 : Int32} {σ : Mm} {K : Bool → Mm → Prop} (h : f_X7_isSeat a1 a2 σ K) : Ct g 1 M_X7_isSeat (QB g 1 K) [.ref (gad g 0 0), .int a1, .int a2] σ := by
  unfold f_X7_isSeat at h
  refine Ct.of (L := [(0, .ref (gad g 0 0)), (1, .int a1), (2, .int a2)]) (show plainName RX7 = true by decide) (Nat.le_of_ble_eq_true rfl) rfl ?_
  refine AW.aload_n dX7_isSeat_0 0 rfl ?_
  refine AW.iload_n dX7_isSeat_1 1 rfl ?_
  refine AW.callVB [.int a1] (C_X7_isBench h) ok_X7_isBench (id1_0_0) rfl rfl w_1015 rfl (Nat.le_of_ble_eq_true rfl) (Nat.le_of_ble_eq_true rfl) rfl dX7_isSeat_2 (fun b2 σ1 h => ?_)
  refine AW.ifb_eq (tgt := 29) dX7_isSeat_5 rfl (fun c => ?_) (fun c => ?_)
  · replace h := ite_f c h
    refine AW.iconst (v := (0 : Int32)) dX7_isSeat_29 rfl ?_
    exact AW.bret false rfl rfl dX7_isSeat_30 h
  · replace h := ite_t c h
    refine AW.iload_n dX7_isSeat_8 2 rfl ?_
    refine AW.i2l dX7_isSeat_9 ?_
    refine AW.lconst (v := (0 : Int64)) dX7_isSeat_10 rfl ?_
    refine AW.aload_n dX7_isSeat_11 0 rfl ?_
    refine AW.iload_n dX7_isSeat_12 1 rfl ?_
    refine AW.callVI [.int a1] (C_X7_seatsOf h) ok_X7_seatsOf (id1_0_0) rfl rfl w_1028 rfl (Nat.le_of_ble_eq_true rfl) (Nat.le_of_ble_eq_true rfl) rfl dX7_isSeat_13 (fun r4 σ3 h => ?_)
    refine AW.iconst (v := (1 : Int32)) dX7_isSeat_16 rfl ?_
    refine AW.isub dX7_isSeat_17 ?_
    refine AW.i2l dX7_isSeat_18 ?_
    refine AW.callSB [.long ((a2).toInt64), .long (0 : Int64), .long (((r4 - (1 : Int32))).toInt64)] (C_X7_in h) ok_X7_in w_947 rfl (Nat.le_of_ble_eq_true rfl) (Nat.le_of_ble_eq_true rfl) rfl dX7_isSeat_19 (fun b6 σ5 h => ?_)
    refine AW.ifb_eq (tgt := 29) dX7_isSeat_22 rfl (fun c => ?_) (fun c => ?_)
    · replace h := ite_f c h
      refine AW.iconst (v := (0 : Int32)) dX7_isSeat_29 rfl ?_
      exact AW.bret false rfl rfl dX7_isSeat_30 h
    · replace h := ite_t c h
      refine AW.iconst (v := (1 : Int32)) dX7_isSeat_25 rfl ?_
      refine AW.goto (tgt := 30) dX7_isSeat_26 rfl ?_
      exact AW.bret true rfl rfl dX7_isSeat_30 h
theorem ok_X7_isSeat : OkV M_X7_isSeat 2 := ⟨w_1070, wp_43, w_9, w_1071, by decide +kernel, (Nat.le_of_ble_eq_true rfl)⟩
def M_X7_seat : MT := (yX7_seat, cX7_seat, 3, some .int, 4)
def f_X7_seat (a1 : Int32) (a2 : Int32) (σ : Mm) (K : Int32 → Mm → Prop) : Prop := (f_X7_isSeat a1 a2 σ (fun b2 σ1 => (if b2 = true then (f_X7_at a1 a2 σ1 (fun r6 σ5 => (vp_in r6 136 ∧ (K (σ5 1 0 (r6.toNatClampNeg)) σ5)))) else (f_X7_finds (-1000001 : Int32) σ1 (fun r4 σ3 => (K r4 σ3))))))
set_option maxRecDepth 100000 in
set_option maxHeartbeats 4000000 in
theorem C_X7_seat {g : GG} {a1 : Int32} {a2 : Int32} {σ : Mm} {K : Int32 → Mm → Prop} (h : f_X7_seat a1 a2 σ K) : Ct g 1 M_X7_seat (QI g 1 K) [.ref (gad g 0 0), .int a1, .int a2] σ := by
  unfold f_X7_seat at h
  refine Ct.of (L := [(0, .ref (gad g 0 0)), (1, .int a1), (2, .int a2)]) (show plainName RX7 = true by decide) (Nat.le_of_ble_eq_true rfl) rfl ?_
  refine AW.aload_n dX7_seat_0 0 rfl ?_
  refine AW.iload_n dX7_seat_1 1 rfl ?_
  refine AW.iload_n dX7_seat_2 2 rfl ?_
  refine AW.callVB [.int a1, .int a2] (C_X7_isSeat h) ok_X7_isSeat (id1_0_0) rfl rfl w_1068 rfl (Nat.le_of_ble_eq_true rfl) (Nat.le_of_ble_eq_true rfl) rfl dX7_seat_3 (fun b2 σ1 h => ?_)
  refine AW.ifb_eq (tgt := 22) dX7_seat_6 rfl (fun c => ?_) (fun c => ?_)
  · replace h := ite_f c h
    refine AW.aload_n dX7_seat_22 0 rfl ?_
    refine AW.ldc (v := (-1000001 : Int32)) dX7_seat_23 w_951 ?_
    refine AW.callVI [.int (-1000001 : Int32)] (C_X7_finds h) ok_X7_finds (id1_0_0) rfl rfl w_952 rfl (Nat.le_of_ble_eq_true rfl) (Nat.le_of_ble_eq_true rfl) rfl dX7_seat_25 (fun r4 σ3 h => ?_)
    exact AW.iret rfl dX7_seat_28 h
  · replace h := ite_t c h
    refine AW.aload_n dX7_seat_9 0 rfl ?_
    refine AW.get (k := 0) (v := .ref (gad g 1 0)) (id1_0_0) rfl rfl inGX7 (Nat.le_of_ble_eq_true rfl) w_872 rfl dX7_seat_10 ?_
    refine AW.iload_n dX7_seat_13 1 rfl ?_
    refine AW.iload_n dX7_seat_14 2 rfl ?_
    refine AW.callSI [.int a1, .int a2] (C_X7_at h) ok_X7_at w_1008 rfl (Nat.le_of_ble_eq_true rfl) (Nat.le_of_ble_eq_true rfl) rfl dX7_seat_15 (fun r6 σ5 h => ?_)
    obtain ⟨hq7, h⟩ := h
    refine AW.iald (jn := (r6.toNatClampNeg)) (id1_1_0) rfl hq7 rfl dX7_seat_18 ?_
    refine AW.goto (tgt := 28) dX7_seat_19 rfl ?_
    exact AW.iret rfl dX7_seat_28 h
theorem ok_X7_seat : OkV M_X7_seat 2 := ⟨w_1065, w_1066, w_9, w_1067, by decide +kernel, (Nat.le_of_ble_eq_true rfl)⟩
def M_X7_beside : MT := (yX7_beside, cX7_beside, 4, some .int, 5)
def f_X7_beside (a1 : Int32) (a2 : Int32) (a3 : Int32) (σ : Mm) (K : Int32 → Mm → Prop) : Prop := (f_X7_isSeat a1 a2 σ (fun b2 σ1 => (if b2 = true then (f_X7_in ((a3).toInt64) (0 : Int64) (1 : Int64) σ1 (fun b6 σ5 => (if b6 = true then (f_X7_looksAt a1 σ5 (fun σ7 => (if a3 = 0 then (f_X7_besideOf a2 (-1 : Int32) σ7 (fun r11 σ10 => (K r11 σ10))) else (f_X7_besideOf a2 (1 : Int32) σ7 (fun r9 σ8 => (K r9 σ8)))))) else (f_X7_finds (-1000001 : Int32) σ5 (fun r13 σ12 => (K r13 σ12)))))) else (f_X7_finds (-1000001 : Int32) σ1 (fun r4 σ3 => (K r4 σ3))))))
set_option maxRecDepth 100000 in
set_option maxHeartbeats 4000000 in
theorem C_X7_beside {g : GG} {a1 : Int32} {a2 : Int32} {a3 : Int32} {σ : Mm} {K : Int32 → Mm → Prop} (h : f_X7_beside a1 a2 a3 σ K) : Ct g 1 M_X7_beside (QI g 1 K) [.ref (gad g 0 0), .int a1, .int a2, .int a3] σ := by
  unfold f_X7_beside at h
  refine Ct.of (L := [(0, .ref (gad g 0 0)), (1, .int a1), (2, .int a2), (3, .int a3)]) (show plainName RX7 = true by decide) (Nat.le_of_ble_eq_true rfl) rfl ?_
  refine AW.aload_n dX7_beside_0 0 rfl ?_
  refine AW.iload_n dX7_beside_1 1 rfl ?_
  refine AW.iload_n dX7_beside_2 2 rfl ?_
  refine AW.callVB [.int a1, .int a2] (C_X7_isSeat h) ok_X7_isSeat (id1_0_0) rfl rfl w_1068 rfl (Nat.le_of_ble_eq_true rfl) (Nat.le_of_ble_eq_true rfl) rfl dX7_beside_3 (fun b2 σ1 h => ?_)
  refine AW.ifb_eq (tgt := 19) dX7_beside_6 rfl (fun c => ?_) (fun c => ?_)
  · replace h := ite_f c h
    refine AW.aload_n dX7_beside_19 0 rfl ?_
    refine AW.ldc (v := (-1000001 : Int32)) dX7_beside_20 w_951 ?_
    refine AW.callVI [.int (-1000001 : Int32)] (C_X7_finds h) ok_X7_finds (id1_0_0) rfl rfl w_952 rfl (Nat.le_of_ble_eq_true rfl) (Nat.le_of_ble_eq_true rfl) rfl dX7_beside_22 (fun r4 σ3 h => ?_)
    exact AW.iret rfl dX7_beside_25 h
  · replace h := ite_t c h
    refine AW.iload_n dX7_beside_9 3 rfl ?_
    refine AW.i2l dX7_beside_10 ?_
    refine AW.lconst (v := (0 : Int64)) dX7_beside_11 rfl ?_
    refine AW.lconst (v := (1 : Int64)) dX7_beside_12 rfl ?_
    refine AW.callSB [.long ((a3).toInt64), .long (0 : Int64), .long (1 : Int64)] (C_X7_in h) ok_X7_in w_947 rfl (Nat.le_of_ble_eq_true rfl) (Nat.le_of_ble_eq_true rfl) rfl dX7_beside_13 (fun b6 σ5 h => ?_)
    refine AW.ifb_ne (tgt := 26) dX7_beside_16 rfl (fun c => ?_) (fun c => ?_)
    · replace h := ite_t c h
      refine AW.aload_n dX7_beside_26 0 rfl ?_
      refine AW.iload_n dX7_beside_27 1 rfl ?_
      refine AW.callVV [.int a1] (C_X7_looksAt h) ok_X7_looksAt (id1_0_0) rfl rfl w_1020 rfl (Nat.le_of_ble_eq_true rfl) (Nat.le_of_ble_eq_true rfl) rfl dX7_beside_28 (fun σ7 h => ?_)
      refine AW.aload_n dX7_beside_31 0 rfl ?_
      refine AW.iload_n dX7_beside_32 2 rfl ?_
      refine AW.iload_n dX7_beside_33 3 rfl ?_
      refine AW.if_ne (tgt := 41) dX7_beside_34 rfl (fun c => ?_) (fun c => ?_)
      · replace h := ite_f c h
        refine AW.iconst (v := (1 : Int32)) dX7_beside_41 rfl ?_
        refine AW.callVI [.int a2, .int (1 : Int32)] (C_X7_besideOf h) ok_X7_besideOf (id1_0_0) rfl rfl w_1048 rfl (Nat.le_of_ble_eq_true rfl) (Nat.le_of_ble_eq_true rfl) rfl dX7_beside_42 (fun r9 σ8 h => ?_)
        exact AW.iret rfl dX7_beside_45 h
      · replace h := ite_t c h
        refine AW.iconst (v := (-1 : Int32)) dX7_beside_37 rfl ?_
        refine AW.goto (tgt := 42) dX7_beside_38 rfl ?_
        refine AW.callVI [.int a2, .int (-1 : Int32)] (C_X7_besideOf h) ok_X7_besideOf (id1_0_0) rfl rfl w_1048 rfl (Nat.le_of_ble_eq_true rfl) (Nat.le_of_ble_eq_true rfl) rfl dX7_beside_42 (fun r11 σ10 h => ?_)
        exact AW.iret rfl dX7_beside_45 h
    · replace h := ite_f c h
      refine AW.aload_n dX7_beside_19 0 rfl ?_
      refine AW.ldc (v := (-1000001 : Int32)) dX7_beside_20 w_951 ?_
      refine AW.callVI [.int (-1000001 : Int32)] (C_X7_finds h) ok_X7_finds (id1_0_0) rfl rfl w_952 rfl (Nat.le_of_ble_eq_true rfl) (Nat.le_of_ble_eq_true rfl) rfl dX7_beside_22 (fun r13 σ12 h => ?_)
      exact AW.iret rfl dX7_beside_25 h
theorem ok_X7_beside : OkV M_X7_beside 3 := ⟨w_1073, w_1074, w_9, w_1075, by decide +kernel, (Nat.le_of_ble_eq_true rfl)⟩
def M_X7_orNone : MT := (yX7_orNone, cX7_orNone, 2, some .int, 2)
def f_X7_orNone (a1 : Int32) (σ : Mm) (K : Int32 → Mm → Prop) : Prop := (if 0 ≤ a1 then (K a1 σ) else (f_X7_finds (-1000004 : Int32) σ (fun r2 σ1 => (K r2 σ1))))
set_option maxRecDepth 100000 in
set_option maxHeartbeats 4000000 in
theorem C_X7_orNone {g : GG} {a1 : Int32} {σ : Mm} {K : Int32 → Mm → Prop} (h : f_X7_orNone a1 σ K) : Ct g 1 M_X7_orNone (QI g 1 K) [.ref (gad g 0 0), .int a1] σ := by
  unfold f_X7_orNone at h
  refine Ct.of (L := [(0, .ref (gad g 0 0)), (1, .int a1)]) (show plainName RX7 = true by decide) (Nat.le_of_ble_eq_true rfl) rfl ?_
  refine AW.iload_n dX7_orNone_0 1 rfl ?_
  refine AW.if_ge (tgt := 13) dX7_orNone_1 rfl (fun c => ?_) (fun c => ?_)
  · replace h := ite_t c h
    refine AW.iload_n dX7_orNone_13 1 rfl ?_
    exact AW.iret rfl dX7_orNone_14 h
  · replace h := ite_f c h
    refine AW.aload_n dX7_orNone_4 0 rfl ?_
    refine AW.ldc (v := (-1000004 : Int32)) dX7_orNone_5 w_1084 ?_
    refine AW.callVI [.int (-1000004 : Int32)] (C_X7_finds h) ok_X7_finds (id1_0_0) rfl rfl w_952 rfl (Nat.le_of_ble_eq_true rfl) (Nat.le_of_ble_eq_true rfl) rfl dX7_orNone_7 (fun r2 σ1 h => ?_)
    refine AW.goto (tgt := 14) dX7_orNone_10 rfl ?_
    exact AW.iret rfl dX7_orNone_14 h
theorem ok_X7_orNone : OkV M_X7_orNone 1 := ⟨w_1082, wp_44, w_9, w_1083, by decide +kernel, (Nat.le_of_ble_eq_true rfl)⟩
def M_X7_wrong : MT := (yX7_wrong, cX7_wrong, 2, some .int, 6)
def f_X7_wrong (a1 : Int32) (σ : Mm) (K : Int32 → Mm → Prop) : Prop := (f_X7_isBench a1 σ (fun b2 σ1 => (if b2 = true then (f_X7_looksAt a1 σ1 (fun σ3 => (f_X7_firstWrong σ3 (fun r5 σ4 => (f_X7_orNone r5 σ4 (fun r7 σ6 => (K r7 σ6))))))) else (f_X7_finds (-1000001 : Int32) σ1 (fun r9 σ8 => (K r9 σ8))))))
set_option maxRecDepth 100000 in
set_option maxHeartbeats 4000000 in
theorem C_X7_wrong {g : GG} {a1 : Int32} {σ : Mm} {K : Int32 → Mm → Prop} (h : f_X7_wrong a1 σ K) : Ct g 1 M_X7_wrong (QI g 1 K) [.ref (gad g 0 0), .int a1] σ := by
  unfold f_X7_wrong at h
  refine Ct.of (L := [(0, .ref (gad g 0 0)), (1, .int a1)]) (show plainName RX7 = true by decide) (Nat.le_of_ble_eq_true rfl) rfl ?_
  refine AW.aload_n dX7_wrong_0 0 rfl ?_
  refine AW.iload_n dX7_wrong_1 1 rfl ?_
  refine AW.callVB [.int a1] (C_X7_isBench h) ok_X7_isBench (id1_0_0) rfl rfl w_1015 rfl (Nat.le_of_ble_eq_true rfl) (Nat.le_of_ble_eq_true rfl) rfl dX7_wrong_2 (fun b2 σ1 h => ?_)
  refine AW.ifb_ne (tgt := 15) dX7_wrong_5 rfl (fun c => ?_) (fun c => ?_)
  · replace h := ite_t c h
    refine AW.aload_n dX7_wrong_15 0 rfl ?_
    refine AW.iload_n dX7_wrong_16 1 rfl ?_
    refine AW.callVV [.int a1] (C_X7_looksAt h) ok_X7_looksAt (id1_0_0) rfl rfl w_1020 rfl (Nat.le_of_ble_eq_true rfl) (Nat.le_of_ble_eq_true rfl) rfl dX7_wrong_17 (fun σ3 h => ?_)
    refine AW.aload_n dX7_wrong_20 0 rfl ?_
    refine AW.aload_n dX7_wrong_21 0 rfl ?_
    refine AW.callVI [] (C_X7_firstWrong h) ok_X7_firstWrong (id1_0_0) rfl rfl w_1044 rfl (Nat.le_of_ble_eq_true rfl) (Nat.le_of_ble_eq_true rfl) rfl dX7_wrong_22 (fun r5 σ4 h => ?_)
    refine AW.callVI [.int r5] (C_X7_orNone h) ok_X7_orNone (id1_0_0) rfl rfl w_1080 rfl (Nat.le_of_ble_eq_true rfl) (Nat.le_of_ble_eq_true rfl) rfl dX7_wrong_25 (fun r7 σ6 h => ?_)
    exact AW.iret rfl dX7_wrong_28 h
  · replace h := ite_f c h
    refine AW.aload_n dX7_wrong_8 0 rfl ?_
    refine AW.ldc (v := (-1000001 : Int32)) dX7_wrong_9 w_951 ?_
    refine AW.callVI [.int (-1000001 : Int32)] (C_X7_finds h) ok_X7_finds (id1_0_0) rfl rfl w_952 rfl (Nat.le_of_ble_eq_true rfl) (Nat.le_of_ble_eq_true rfl) rfl dX7_wrong_11 (fun r9 σ8 h => ?_)
    exact AW.iret rfl dX7_wrong_14 h
theorem ok_X7_wrong : OkV M_X7_wrong 1 := ⟨w_1077, w_1078, w_9, w_1079, by decide +kernel, (Nat.le_of_ble_eq_true rfl)⟩
def M_X7_whereIs : MT := (yX7_whereIs, cX7_whereIs, 4, some .int, 2)
set_option maxRecDepth 100000 in
def f_X7_whereIs_14 (a1 : Int32) (a2 : Int32) (K : Int32 → Mm → Prop) (k50 : Mm → Prop) : Nat → Int32 → Mm → Prop
  | 0, _, _ => False
  | n + 1, a3, σ => (f_X7_seatsOf a2 σ (fun r2 σ1 => (if r2 ≤ a3 then (k50 σ1) else (f_X7_at a2 a3 σ1 (fun r4 σ3 => (vp_in r4 136 ∧ (if (σ3 1 0 (r4.toNatClampNeg)) = a1 then (K (((10 : Int32) * a2) + a3) σ3) else (f_X7_whereIs_14 a1 a2 K k50 n (a3 + (1 : Int32)) σ3))))))))
set_option maxRecDepth 100000 in
set_option maxHeartbeats 4000000 in
theorem T_X7_whereIs_14 {g : GG} {a1 : Int32} {a2 : Int32} {K : Int32 → Mm → Prop} {k50 : Mm → Prop} (hk50 : ∀  (u : Mm), k50  u → AW g 1 M_X7_whereIs (QI g 1 K) 50 [(0, .ref (gad g 0 0)), (1, .int a1), (2, .int a2)] [] u) : ∀ (n : Nat) (a3 : Int32) (σ : Mm), f_X7_whereIs_14 a1 a2 K k50 n a3 σ → AW g 1 M_X7_whereIs (QI g 1 K) 14 [(0, .ref (gad g 0 0)), (1, .int a1), (2, .int a2), (3, .int a3)] [] σ := by
  intro n
  induction n with
  | zero => intro a3 σ h; exact False.elim h
  | succ n ih =>
    intro a3 σ h
    rw [f_X7_whereIs_14] at h
    refine AW.iload_n dX7_whereIs_14 3 rfl ?_
    refine AW.aload_n dX7_whereIs_15 0 rfl ?_
    refine AW.iload_n dX7_whereIs_16 2 rfl ?_
    refine AW.callVI [.int a2] (C_X7_seatsOf h) ok_X7_seatsOf (id1_0_0) rfl rfl w_1028 rfl (Nat.le_of_ble_eq_true rfl) (Nat.le_of_ble_eq_true rfl) rfl dX7_whereIs_17 (fun r2 σ1 h => ?_)
    refine AW.icmp_ge (tgt := 50) dX7_whereIs_20 rfl (fun c => ?_) (fun c => ?_)
    · replace h := ite_t c h
      refine AW.eqL [0, 1, 2] rfl ?_
      exact hk50 _ h
    · replace h := ite_f c h
      refine AW.aload_n dX7_whereIs_23 0 rfl ?_
      refine AW.get (k := 0) (v := .ref (gad g 1 0)) (id1_0_0) rfl rfl inGX7 (Nat.le_of_ble_eq_true rfl) w_872 rfl dX7_whereIs_24 ?_
      refine AW.iload_n dX7_whereIs_27 2 rfl ?_
      refine AW.iload_n dX7_whereIs_28 3 rfl ?_
      refine AW.callSI [.int a2, .int a3] (C_X7_at h) ok_X7_at w_1008 rfl (Nat.le_of_ble_eq_true rfl) (Nat.le_of_ble_eq_true rfl) rfl dX7_whereIs_29 (fun r4 σ3 h => ?_)
      obtain ⟨hq5, h⟩ := h
      refine AW.iald (jn := (r4.toNatClampNeg)) (id1_1_0) rfl hq5 rfl dX7_whereIs_32 ?_
      refine AW.iload_n dX7_whereIs_33 1 rfl ?_
      refine AW.icmp_ne (tgt := 44) dX7_whereIs_34 rfl (fun c => ?_) (fun c => ?_)
      · replace h := ite_f c h
        refine AW.iinc (v := (a3 + (1 : Int32))) (L' := [(0, .ref (gad g 0 0)), (1, .int a1), (2, .int a2), (3, .int (a3 + (1 : Int32)))]) dX7_whereIs_44 3 rfl rfl (Nat.le_of_ble_eq_true rfl) rfl ?_
        refine AW.goto (tgt := 14) dX7_whereIs_47 rfl ?_
        exact ih _ _ h
      · replace h := ite_t c h
        refine AW.bipush (v := (10 : Int32)) dX7_whereIs_37 rfl ?_
        refine AW.iload_n dX7_whereIs_39 2 rfl ?_
        refine AW.imul dX7_whereIs_40 ?_
        refine AW.iload_n dX7_whereIs_41 3 rfl ?_
        refine AW.iadd dX7_whereIs_42 ?_
        exact AW.iret rfl dX7_whereIs_43 h
set_option maxRecDepth 100000 in
def f_X7_whereIs_2 (a1 : Int32) (K : Int32 → Mm → Prop) : Nat → Int32 → Mm → Prop
  | 0, _, _ => False
  | n + 1, a2, σ => (if (σ 1 0 3) ≤ a2 then (K (-1 : Int32) σ) else (∃ m, f_X7_whereIs_14 a1 a2 K (fun σ6 => (f_X7_whereIs_2 a1 K n (a2 + (1 : Int32)) σ6)) m (0 : Int32) σ))
set_option maxRecDepth 100000 in
set_option maxHeartbeats 4000000 in
theorem T_X7_whereIs_2 {g : GG} {a1 : Int32} {K : Int32 → Mm → Prop} : ∀ (n : Nat) (a2 : Int32) (σ : Mm), f_X7_whereIs_2 a1 K n a2 σ → AW g 1 M_X7_whereIs (QI g 1 K) 2 [(0, .ref (gad g 0 0)), (1, .int a1), (2, .int a2)] [] σ := by
  intro n
  induction n with
  | zero => intro a2 σ h; exact False.elim h
  | succ n ih =>
    intro a2 σ h
    rw [f_X7_whereIs_2] at h
    refine AW.iload_n dX7_whereIs_2 2 rfl ?_
    refine AW.aload_n dX7_whereIs_3 0 rfl ?_
    refine AW.get (k := 0) (v := .ref (gad g 1 0)) (id1_0_0) rfl rfl inGX7 (Nat.le_of_ble_eq_true rfl) w_872 rfl dX7_whereIs_4 ?_
    refine AW.iconst (v := (3 : Int32)) dX7_whereIs_7 rfl ?_
    refine AW.iald (jn := 3) (id1_1_0) rfl (by unfold vp_in; decide) rfl dX7_whereIs_8 ?_
    refine AW.icmp_ge (tgt := 56) dX7_whereIs_9 rfl (fun c => ?_) (fun c => ?_)
    · replace h := ite_t c h
      refine AW.iconst (v := (-1 : Int32)) dX7_whereIs_56 rfl ?_
      exact AW.iret rfl dX7_whereIs_57 h
    · replace h := ite_f c h
      refine AW.iconst (v := (0 : Int32)) dX7_whereIs_12 rfl ?_
      refine AW.istore_n (L' := [(0, .ref (gad g 0 0)), (1, .int a1), (2, .int a2), (3, .int (0 : Int32))]) dX7_whereIs_13 (Nat.le_of_ble_eq_true rfl) rfl ?_
      obtain ⟨m, h⟩ := h
      refine T_X7_whereIs_14 (fun σ6 h => ?_) m _ _ h
      refine AW.iinc (v := (a2 + (1 : Int32))) (L' := [(0, .ref (gad g 0 0)), (1, .int a1), (2, .int (a2 + (1 : Int32)))]) dX7_whereIs_50 2 rfl rfl (Nat.le_of_ble_eq_true rfl) rfl ?_
      refine AW.goto (tgt := 2) dX7_whereIs_53 rfl ?_
      exact ih _ _ h
def f_X7_whereIs (a1 : Int32) (σ : Mm) (K : Int32 → Mm → Prop) : Prop := (∃ m, f_X7_whereIs_2 a1 K m (0 : Int32) σ)
set_option maxRecDepth 100000 in
set_option maxHeartbeats 4000000 in
theorem C_X7_whereIs {g : GG} {a1 : Int32} {σ : Mm} {K : Int32 → Mm → Prop} (h : f_X7_whereIs a1 σ K) : Ct g 1 M_X7_whereIs (QI g 1 K) [.ref (gad g 0 0), .int a1] σ := by
  unfold f_X7_whereIs at h
  refine Ct.of (L := [(0, .ref (gad g 0 0)), (1, .int a1)]) (show plainName RX7 = true by decide) (Nat.le_of_ble_eq_true rfl) rfl ?_
  refine AW.iconst (v := (0 : Int32)) dX7_whereIs_0 rfl ?_
  refine AW.istore_n (L' := [(0, .ref (gad g 0 0)), (1, .int a1), (2, .int (0 : Int32))]) dX7_whereIs_1 (Nat.le_of_ble_eq_true rfl) rfl ?_
  obtain ⟨m, h⟩ := h
  refine T_X7_whereIs_2 m _ _ h
theorem ok_X7_whereIs : OkV M_X7_whereIs 1 := ⟨w_1096, wp_46, w_9, w_1097, by decide +kernel, (Nat.le_of_ble_eq_true rfl)⟩
