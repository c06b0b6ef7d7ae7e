def M_X0_neighbour : MT := (yX0_neighbour, cX0_neighbour, 7, some .int, 1)
def f_X0_neighbour_84 (i0 : Nat) (a1 : Int32) (a2 : Int32) (a3 : Int32) (a4 : Int32) (a5 : Int32) (a6 : Int32) (K : Int32 → Mm → Prop) (k34 : Int32 → Int32 → Mm → Prop) (σ : Mm) : Prop := (if a5 < 0 then (K (-1 : Int32) σ) else (if (σ 0 i0 1) ≤ a5 then (K (-1 : Int32) σ) else (if a5 = a1 then (K (-1 : Int32) σ) else (vp_in a5 8 ∧ (if (σ 1 i0 (a5.toNatClampNeg)) = (-1 : Int32) then (k34 a5 (a6 + (1 : Int32)) σ) else (vp_in a5 8 ∧ (K (σ 1 i0 (a5.toNatClampNeg)) σ)))))))
set_option maxRecDepth 100000 in
set_option maxHeartbeats 4000000 in
theorem T_X0_neighbour_84 {g : GG} {i0 : Nat} {a1 : Int32} {a2 : Int32} {a3 : Int32} {a4 : Int32} {a5 : Int32} {a6 : Int32} {K : Int32 → Mm → Prop} {k34 : Int32 → Int32 → Mm → Prop} {σ : Mm} (hi0 : i0 < 17) (hk34 : ∀ (x5 : Int32) (x6 : Int32) (u : Mm), k34 x5 x6 u → AW g 0 M_X0_neighbour (QI g 0 K) 34 [(0, .ref (gad g 0 i0)), (1, .int a1), (2, .int a2), (3, .int a3), (4, .int a4), (5, .int x5), (6, .int x6)] [] u) (h : f_X0_neighbour_84 i0 a1 a2 a3 a4 a5 a6 K k34 σ) : AW g 0 M_X0_neighbour (QI g 0 K) 84 [(0, .ref (gad g 0 i0)), (1, .int a1), (2, .int a2), (3, .int a3), (4, .int a4), (5, .int a5), (6, .int a6)] [] σ := by
  unfold f_X0_neighbour_84 at h
  refine AW.iload dX0_neighbour_84 5 rfl ?_
  refine AW.if_lt (tgt := 104) dX0_neighbour_86 rfl (fun c => ?_) (fun c => ?_)
  · replace h := ite_t c h
    refine AW.iconst (v := (-1 : Int32)) dX0_neighbour_104 rfl ?_
    exact AW.iret rfl dX0_neighbour_105 h
  · replace h := ite_f c h
    refine AW.iload dX0_neighbour_89 5 rfl ?_
    refine AW.aload_n dX0_neighbour_91 0 rfl ?_
    refine AW.get (k := 1) (v := .int (σ 0 i0 1)) (ids_in (Nat.le_of_ble_eq_true rfl) hi0) rfl rfl inGX0 (Nat.le_of_ble_eq_true rfl) w_72 rfl dX0_neighbour_92 ?_
    refine AW.icmp_ge (tgt := 104) dX0_neighbour_95 rfl (fun c => ?_) (fun c => ?_)
    · replace h := ite_t c h
      refine AW.iconst (v := (-1 : Int32)) dX0_neighbour_104 rfl ?_
      exact AW.iret rfl dX0_neighbour_105 h
    · replace h := ite_f c h
      refine AW.iload dX0_neighbour_98 5 rfl ?_
      refine AW.iload_n dX0_neighbour_100 1 rfl ?_
      refine AW.icmp_ne (tgt := 106) dX0_neighbour_101 rfl (fun c => ?_) (fun c => ?_)
      · replace h := ite_f c h
        refine AW.aload_n dX0_neighbour_106 0 rfl ?_
        refine AW.get (k := 2) (v := .ref (gad g 1 i0)) (ids_in (Nat.le_of_ble_eq_true rfl) hi0) rfl rfl inGX0 (Nat.le_of_ble_eq_true rfl) w_78 rfl dX0_neighbour_107 ?_
        refine AW.iload dX0_neighbour_110 5 rfl ?_
        obtain ⟨hq3, h⟩ := h
        refine AW.iald (jn := (a5.toNatClampNeg)) (ids_in (Nat.le_of_ble_eq_true rfl) hi0) rfl hq3 rfl dX0_neighbour_112 ?_
        refine AW.iconst (v := (-1 : Int32)) dX0_neighbour_113 rfl ?_
        refine AW.icmp_eq (tgt := 125) dX0_neighbour_114 rfl (fun c => ?_) (fun c => ?_)
        · replace h := ite_t c h
          refine AW.iinc (v := (a6 + (1 : Int32))) (L' := [(0, .ref (gad g 0 i0)), (1, .int a1), (2, .int a2), (3, .int a3), (4, .int a4), (5, .int a5), (6, .int (a6 + (1 : Int32)))]) dX0_neighbour_125 6 rfl rfl (Nat.le_of_ble_eq_true rfl) rfl ?_
          refine AW.goto (tgt := 34) dX0_neighbour_128 rfl ?_
          exact hk34 _ _ _ h
        · replace h := ite_f c h
          refine AW.aload_n dX0_neighbour_117 0 rfl ?_
          refine AW.get (k := 2) (v := .ref (gad g 1 i0)) (ids_in (Nat.le_of_ble_eq_true rfl) hi0) rfl rfl inGX0 (Nat.le_of_ble_eq_true rfl) w_78 rfl dX0_neighbour_118 ?_
          refine AW.iload dX0_neighbour_121 5 rfl ?_
          obtain ⟨hq4, h⟩ := h
          refine AW.iald (jn := (a5.toNatClampNeg)) (ids_in (Nat.le_of_ble_eq_true rfl) hi0) rfl hq4 rfl dX0_neighbour_123 ?_
          exact AW.iret rfl dX0_neighbour_124 h
      · replace h := ite_t c h
        refine AW.iconst (v := (-1 : Int32)) dX0_neighbour_104 rfl ?_
        exact AW.iret rfl dX0_neighbour_105 h
def f_X0_neighbour_67 (i0 : Nat) (a1 : Int32) (a2 : Int32) (a3 : Int32) (a4 : Int32) (a5 : Int32) (a6 : Int32) (K : Int32 → Mm → Prop) (k34 : Int32 → Int32 → Mm → Prop) (σ : Mm) : Prop := (if a4 = 0 then (f_X0_neighbour_84 i0 a1 a2 a3 a4 a5 a6 K k34 σ) else (if a5 < (σ 0 i0 1) then (f_X0_neighbour_84 i0 a1 a2 a3 a4 a5 a6 K k34 σ) else (f_X0_neighbour_84 i0 a1 a2 a3 a4 (0 : Int32) a6 K k34 σ)))
set_option maxRecDepth 100000 in
set_option maxHeartbeats 4000000 in
theorem T_X0_neighbour_67 {g : GG} {i0 : Nat} {a1 : Int32} {a2 : Int32} {a3 : Int32} {a4 : Int32} {a5 : Int32} {a6 : Int32} {K : Int32 → Mm → Prop} {k34 : Int32 → Int32 → Mm → Prop} {σ : Mm} (hi0 : i0 < 17) (hk34 : ∀ (x5 : Int32) (x6 : Int32) (u : Mm), k34 x5 x6 u → AW g 0 M_X0_neighbour (QI g 0 K) 34 [(0, .ref (gad g 0 i0)), (1, .int a1), (2, .int a2), (3, .int a3), (4, .int a4), (5, .int x5), (6, .int x6)] [] u) (h : f_X0_neighbour_67 i0 a1 a2 a3 a4 a5 a6 K k34 σ) : AW g 0 M_X0_neighbour (QI g 0 K) 67 [(0, .ref (gad g 0 i0)), (1, .int a1), (2, .int a2), (3, .int a3), (4, .int a4), (5, .int a5), (6, .int a6)] [] σ := by
  unfold f_X0_neighbour_67 at h
  refine AW.iload dX0_neighbour_67 4 rfl ?_
  refine AW.if_eq (tgt := 84) dX0_neighbour_69 rfl (fun c => ?_) (fun c => ?_)
  · replace h := ite_t c h
    exact T_X0_neighbour_84 hi0 hk34 h
  · replace h := ite_f c h
    refine AW.iload dX0_neighbour_72 5 rfl ?_
    refine AW.aload_n dX0_neighbour_74 0 rfl ?_
    refine AW.get (k := 1) (v := .int (σ 0 i0 1)) (ids_in (Nat.le_of_ble_eq_true rfl) hi0) rfl rfl inGX0 (Nat.le_of_ble_eq_true rfl) w_72 rfl dX0_neighbour_75 ?_
    refine AW.icmp_lt (tgt := 84) dX0_neighbour_78 rfl (fun c => ?_) (fun c => ?_)
    · replace h := ite_t c h
      exact T_X0_neighbour_84 hi0 hk34 h
    · replace h := ite_f c h
      refine AW.iconst (v := (0 : Int32)) dX0_neighbour_81 rfl ?_
      refine AW.istore (L' := [(0, .ref (gad g 0 i0)), (1, .int a1), (2, .int a2), (3, .int a3), (4, .int a4), (5, .int (0 : Int32)), (6, .int a6)]) dX0_neighbour_82 (Nat.le_of_ble_eq_true rfl) rfl ?_
      exact T_X0_neighbour_84 hi0 hk34 h
set_option maxRecDepth 100000 in
def f_X0_neighbour_34 (i0 : Nat) (a1 : Int32) (a2 : Int32) (a3 : Int32) (a4 : Int32) (K : Int32 → Mm → Prop) : Nat → Int32 → Int32 → Mm → Prop
  | 0, _, _, _ => False
  | n + 1, a5, a6, σ => (if a3 ≤ a6 then (K (-1 : Int32) σ) else (if a4 = 0 then (f_X0_neighbour_67 i0 a1 a2 a3 a4 (a5 + a2) a6 K (f_X0_neighbour_34 i0 a1 a2 a3 a4 K n) σ) else (if 0 ≤ (a5 + a2) then (f_X0_neighbour_67 i0 a1 a2 a3 a4 (a5 + a2) a6 K (f_X0_neighbour_34 i0 a1 a2 a3 a4 K n) σ) else (f_X0_neighbour_84 i0 a1 a2 a3 a4 ((σ 0 i0 1) - (1 : Int32)) a6 K (f_X0_neighbour_34 i0 a1 a2 a3 a4 K n) σ))))
set_option maxRecDepth 100000 in
set_option maxHeartbeats 4000000 in
theorem T_X0_neighbour_34 {g : GG} {i0 : Nat} {a1 : Int32} {a2 : Int32} {a3 : Int32} {a4 : Int32} {K : Int32 → Mm → Prop} (hi0 : i0 < 17) : ∀ (n : Nat) (a5 : Int32) (a6 : Int32) (σ : Mm), f_X0_neighbour_34 i0 a1 a2 a3 a4 K n a5 a6 σ → AW g 0 M_X0_neighbour (QI g 0 K) 34 [(0, .ref (gad g 0 i0)), (1, .int a1), (2, .int a2), (3, .int a3), (4, .int a4), (5, .int a5), (6, .int a6)] [] σ := by
  intro n
  induction n with
  | zero => intro a5 a6 σ h; exact False.elim h
  | succ n ih =>
    intro a5 a6 σ h
    rw [f_X0_neighbour_34] at h
    refine AW.iload dX0_neighbour_34 6 rfl ?_
    refine AW.iload_n dX0_neighbour_36 3 rfl ?_
    refine AW.icmp_ge (tgt := 131) dX0_neighbour_37 rfl (fun c => ?_) (fun c => ?_)
    · replace h := ite_t c h
      refine AW.iconst (v := (-1 : Int32)) dX0_neighbour_131 rfl ?_
      exact AW.iret rfl dX0_neighbour_132 h
    · replace h := ite_f c h
      refine AW.iload dX0_neighbour_40 5 rfl ?_
      refine AW.iload_n dX0_neighbour_42 2 rfl ?_
      refine AW.iadd dX0_neighbour_43 ?_
      refine AW.istore (L' := [(0, .ref (gad g 0 i0)), (1, .int a1), (2, .int a2), (3, .int a3), (4, .int a4), (5, .int (a5 + a2)), (6, .int a6)]) dX0_neighbour_44 (Nat.le_of_ble_eq_true rfl) rfl ?_
      refine AW.iload dX0_neighbour_46 4 rfl ?_
      refine AW.if_eq (tgt := 67) dX0_neighbour_48 rfl (fun c => ?_) (fun c => ?_)
      · replace h := ite_t c h
        exact T_X0_neighbour_67 hi0 ih h
      · replace h := ite_f c h
        refine AW.iload dX0_neighbour_51 5 rfl ?_
        refine AW.if_ge (tgt := 67) dX0_neighbour_53 rfl (fun c => ?_) (fun c => ?_)
        · replace h := ite_t c h
          exact T_X0_neighbour_67 hi0 ih h
        · replace h := ite_f c h
          refine AW.aload_n dX0_neighbour_56 0 rfl ?_
          refine AW.get (k := 1) (v := .int (σ 0 i0 1)) (ids_in (Nat.le_of_ble_eq_true rfl) hi0) rfl rfl inGX0 (Nat.le_of_ble_eq_true rfl) w_72 rfl dX0_neighbour_57 ?_
          refine AW.iconst (v := (1 : Int32)) dX0_neighbour_60 rfl ?_
          refine AW.isub dX0_neighbour_61 ?_
          refine AW.istore (L' := [(0, .ref (gad g 0 i0)), (1, .int a1), (2, .int a2), (3, .int a3), (4, .int a4), (5, .int ((σ 0 i0 1) - (1 : Int32))), (6, .int a6)]) dX0_neighbour_62 (Nat.le_of_ble_eq_true rfl) rfl ?_
          refine AW.goto (tgt := 84) dX0_neighbour_64 rfl ?_
          exact T_X0_neighbour_84 hi0 ih h
def f_X0_neighbour_26 (i0 : Nat) (a1 : Int32) (a2 : Int32) (a3 : Int32) (as0 : Int32) (K : Int32 → Mm → Prop) (σ : Mm) : Prop := (∃ m, f_X0_neighbour_34 i0 a1 a2 a3 as0 K m a1 (0 : Int32) σ)
set_option maxRecDepth 100000 in
set_option maxHeartbeats 4000000 in
theorem T_X0_neighbour_26 {g : GG} {i0 : Nat} {a1 : Int32} {a2 : Int32} {a3 : Int32} {as0 : Int32} {K : Int32 → Mm → Prop} {σ : Mm} (hi0 : i0 < 17) (h : f_X0_neighbour_26 i0 a1 a2 a3 as0 K σ) : AW g 0 M_X0_neighbour (QI g 0 K) 26 [(0, .ref (gad g 0 i0)), (1, .int a1), (2, .int a2), (3, .int a3)] [.int as0] σ := by
  unfold f_X0_neighbour_26 at h
  refine AW.istore (L' := [(0, .ref (gad g 0 i0)), (1, .int a1), (2, .int a2), (3, .int a3), (4, .int as0)]) dX0_neighbour_26 (Nat.le_of_ble_eq_true rfl) rfl ?_
  refine AW.iload_n dX0_neighbour_28 1 rfl ?_
  refine AW.istore (L' := [(0, .ref (gad g 0 i0)), (1, .int a1), (2, .int a2), (3, .int a3), (4, .int as0), (5, .int a1)]) dX0_neighbour_29 (Nat.le_of_ble_eq_true rfl) rfl ?_
  refine AW.iconst (v := (0 : Int32)) dX0_neighbour_31 rfl ?_
  refine AW.istore (L' := [(0, .ref (gad g 0 i0)), (1, .int a1), (2, .int a2), (3, .int a3), (4, .int as0), (5, .int a1), (6, .int (0 : Int32))]) dX0_neighbour_32 (Nat.le_of_ble_eq_true rfl) rfl ?_
  obtain ⟨m, h⟩ := h
  refine T_X0_neighbour_34 hi0 m _ _ _ h
def f_X0_neighbour (i0 : Nat) (a1 : Int32) (a2 : Int32) (σ : Mm) (K : Int32 → Mm → Prop) : Prop := (i0 < 17 ∧ (vp_in (σ 0 i0 0) 7 ∧ (vp_in (σ 0 i0 0) 7 ∧ (if (stF 1 ((σ 0 i0 0).toNatClampNeg)) = (1 : Int32) then (f_X0_neighbour_26 i0 a1 a2 (stF 0 ((σ 0 i0 0).toNatClampNeg)) (1 : Int32) K σ) else (f_X0_neighbour_26 i0 a1 a2 (stF 0 ((σ 0 i0 0).toNatClampNeg)) (0 : Int32) K σ)))))
set_option maxRecDepth 100000 in
set_option maxHeartbeats 4000000 in
theorem C_X0_neighbour {g : GG} {i0 : Nat} {a1 : Int32} {a2 : Int32} {σ : Mm} {K : Int32 → Mm → Prop} (h : f_X0_neighbour i0 a1 a2 σ K) : Ct g 0 M_X0_neighbour (QI g 0 K) [.ref (gad g 0 i0), .int a1, .int a2] σ := by
  unfold f_X0_neighbour at h
  obtain ⟨hi0, h⟩ := h
  refine Ct.of (L := [(0, .ref (gad g 0 i0)), (1, .int a1), (2, .int a2)]) (show plainName RX0 = true by decide) (Nat.le_of_ble_eq_true rfl) rfl ?_
  refine AW.getsN (k := 0) (Nat.le_of_ble_eq_true rfl) (by decide) dX0_neighbour_0 ?_
  refine AW.aload_n dX0_neighbour_3 0 rfl ?_
  refine AW.get (k := 0) (v := .int (σ 0 i0 0)) (ids_in (Nat.le_of_ble_eq_true rfl) hi0) rfl rfl inGX0 (Nat.le_of_ble_eq_true rfl) w_68 rfl dX0_neighbour_4 ?_
  obtain ⟨hq1, h⟩ := h
  refine AW.stald (Nat.le_of_ble_eq_true rfl) hq1 dX0_neighbour_7 ?_
  refine AW.istore_n (L' := [(0, .ref (gad g 0 i0)), (1, .int a1), (2, .int a2), (3, .int (stF 0 ((σ 0 i0 0).toNatClampNeg)))]) dX0_neighbour_8 (Nat.le_of_ble_eq_true rfl) rfl ?_
  refine AW.getsN (k := 1) (Nat.le_of_ble_eq_true rfl) (by decide) dX0_neighbour_9 ?_
  refine AW.aload_n dX0_neighbour_12 0 rfl ?_
  refine AW.get (k := 0) (v := .int (σ 0 i0 0)) (ids_in (Nat.le_of_ble_eq_true rfl) hi0) rfl rfl inGX0 (Nat.le_of_ble_eq_true rfl) w_68 rfl dX0_neighbour_13 ?_
  obtain ⟨hq2, h⟩ := h
  refine AW.stald (Nat.le_of_ble_eq_true rfl) hq2 dX0_neighbour_16 ?_
  refine AW.iconst (v := (1 : Int32)) dX0_neighbour_17 rfl ?_
  refine AW.icmp_ne (tgt := 25) dX0_neighbour_18 rfl (fun c => ?_) (fun c => ?_)
  · replace h := ite_f c h
    refine AW.iconst (v := (0 : Int32)) dX0_neighbour_25 rfl ?_
    exact T_X0_neighbour_26 hi0 h
  · replace h := ite_t c h
    refine AW.iconst (v := (1 : Int32)) dX0_neighbour_21 rfl ?_
    refine AW.goto (tgt := 26) dX0_neighbour_22 rfl ?_
    exact T_X0_neighbour_26 hi0 h
theorem ok_X0_neighbour : OkV M_X0_neighbour 2 := ⟨w_342, w_343, w_5, w_344, by decide +kernel, (Nat.le_of_ble_eq_true rfl)⟩
def M_X1_firstWrong : MT := (yX1_firstWrong, cX1_firstWrong, 5, some .int, 3)
set_option maxRecDepth 100000 in
def f_X1_firstWrong_3 (i0 : Nat) (i1 : Nat) (a3 : Int32) (K : Int32 → Mm → Prop) : Nat → Int32 → Mm → Prop
  | 0, _, _ => False
  | n + 1, a4, σ => (if a3 ≤ a4 then (K (-1 : Int32) σ) else (vp_in a4 8 ∧ (if (σ 1 i1 (a4.toNatClampNeg)) = (-1 : Int32) then (f_X1_firstWrong_3 i0 i1 a3 K n (a4 + (1 : Int32)) σ) else (f_X0_neighbour i1 a4 (-1 : Int32) σ (fun r3 σ2 => (f_X0_neighbour i1 a4 (1 : Int32) σ2 (fun r5 σ4 => (f_X1_areFriends i0 r3 r5 σ4 (fun b7 σ6 => (if b7 = true then (K a4 σ6) else (f_X1_firstWrong_3 i0 i1 a3 K n (a4 + (1 : Int32)) σ6)))))))))))
set_option maxRecDepth 100000 in
set_option maxHeartbeats 4000000 in
theorem T_X1_firstWrong_3 {g : GG} {i0 : Nat} {i1 : Nat} {a3 : Int32} {K : Int32 → Mm → Prop} (hi0 : i0 < 3) (hi1 : i1 < 17) : ∀ (n : Nat) (a4 : Int32) (σ : Mm), f_X1_firstWrong_3 i0 i1 a3 K n a4 σ → AW g 0 M_X1_firstWrong (QI g 0 K) 3 [(0, .ref (gad g 2 i0)), (1, .ref (gad g 0 i1)), (3, .int a3), (4, .int a4)] [] σ := by
  intro n
  induction n with
  | zero => intro a4 σ h; exact False.elim h
  | succ n ih =>
    intro a4 σ h
    rw [f_X1_firstWrong_3] at h
    refine AW.iload dX1_firstWrong_3 3 rfl ?_
    refine AW.iload_n dX1_firstWrong_5 2 rfl ?_
    refine AW.icmp_ge (tgt := 50) dX1_firstWrong_6 rfl (fun c => ?_) (fun c => ?_)
    · replace h := ite_t c h
      refine AW.iconst (v := (-1 : Int32)) dX1_firstWrong_50 rfl ?_
      exact AW.iret rfl dX1_firstWrong_51 h
    · replace h := ite_f c h
      refine AW.aload_n dX1_firstWrong_9 1 rfl ?_
      refine AW.get (k := 2) (v := .ref (gad g 1 i1)) (ids_in (Nat.le_of_ble_eq_true rfl) hi1) rfl rfl inGX0 (Nat.le_of_ble_eq_true rfl) w_81 rfl dX1_firstWrong_10 ?_
      refine AW.iload dX1_firstWrong_13 3 rfl ?_
      obtain ⟨hq1, h⟩ := h
      refine AW.iald (jn := (a4.toNatClampNeg)) (ids_in (Nat.le_of_ble_eq_true rfl) hi1) rfl hq1 rfl dX1_firstWrong_15 ?_
      refine AW.iconst (v := (-1 : Int32)) dX1_firstWrong_16 rfl ?_
      refine AW.icmp_eq (tgt := 44) dX1_firstWrong_17 rfl (fun c => ?_) (fun c => ?_)
      · replace h := ite_t c h
        refine AW.iinc (v := (a4 + (1 : Int32))) (L' := [(0, .ref (gad g 2 i0)), (1, .ref (gad g 0 i1)), (3, .int a3), (4, .int (a4 + (1 : Int32)))]) dX1_firstWrong_44 3 rfl rfl (Nat.le_of_ble_eq_true rfl) rfl ?_
        refine AW.goto (tgt := 3) dX1_firstWrong_47 rfl ?_
        exact ih _ _ h
      · replace h := ite_f c h
        refine AW.aload_n dX1_firstWrong_20 0 rfl ?_
        refine AW.aload_n dX1_firstWrong_21 1 rfl ?_
        refine AW.iload dX1_firstWrong_22 3 rfl ?_
        refine AW.iconst (v := (-1 : Int32)) dX1_firstWrong_24 rfl ?_
        refine AW.callVI [.int a4, .int (-1 : Int32)] (C_X0_neighbour h) ok_X0_neighbour (ids_in (Nat.le_of_ble_eq_true rfl) hi1) rfl rfl w_341 rfl (Nat.le_of_ble_eq_true rfl) (Nat.le_of_ble_eq_true rfl) rfl dX1_firstWrong_25 (fun r3 σ2 h => ?_)
        refine AW.aload_n dX1_firstWrong_28 1 rfl ?_
        refine AW.iload dX1_firstWrong_29 3 rfl ?_
        refine AW.iconst (v := (1 : Int32)) dX1_firstWrong_31 rfl ?_
        refine AW.callVI [.int a4, .int (1 : Int32)] (C_X0_neighbour h) ok_X0_neighbour (ids_in (Nat.le_of_ble_eq_true rfl) hi1) rfl rfl w_341 rfl (Nat.le_of_ble_eq_true rfl) (Nat.le_of_ble_eq_true rfl) rfl dX1_firstWrong_32 (fun r5 σ4 h => ?_)
        refine AW.callVB [.int r3, .int r5] (C_X1_areFriends h) ok_X1_areFriends (ids_in (Nat.le_of_ble_eq_true rfl) hi0) rfl rfl w_284 rfl (Nat.le_of_ble_eq_true rfl) (Nat.le_of_ble_eq_true rfl) rfl dX1_firstWrong_35 (fun b7 σ6 h => ?_)
        refine AW.ifb_eq (tgt := 44) dX1_firstWrong_38 rfl (fun c => ?_) (fun c => ?_)
        · replace h := ite_f c h
          refine AW.iinc (v := (a4 + (1 : Int32))) (L' := [(0, .ref (gad g 2 i0)), (1, .ref (gad g 0 i1)), (3, .int a3), (4, .int (a4 + (1 : Int32)))]) dX1_firstWrong_44 3 rfl rfl (Nat.le_of_ble_eq_true rfl) rfl ?_
          refine AW.goto (tgt := 3) dX1_firstWrong_47 rfl ?_
          exact ih _ _ h
        · replace h := ite_t c h
          refine AW.iload dX1_firstWrong_41 3 rfl ?_
          exact AW.iret rfl dX1_firstWrong_43 h
def f_X1_firstWrong (i0 : Nat) (i1 : Nat) (a2 : Int32) (a3 : Int32) (σ : Mm) (K : Int32 → Mm → Prop) : Prop := (i0 < 3 ∧ (i1 < 17 ∧ (∃ m, f_X1_firstWrong_3 i0 i1 a3 K m a2 σ)))
set_option maxRecDepth 100000 in
set_option maxHeartbeats 4000000 in
theorem C_X1_firstWrong {g : GG} {i0 : Nat} {i1 : Nat} {a2 : Int32} {a3 : Int32} {σ : Mm} {K : Int32 → Mm → Prop} (h : f_X1_firstWrong i0 i1 a2 a3 σ K) : Ct g 0 M_X1_firstWrong (QI g 0 K) [.ref (gad g 2 i0), .ref (gad g 0 i1), .int a2, .int a3] σ := by
  unfold f_X1_firstWrong at h
  obtain ⟨hi0, h⟩ := h
  obtain ⟨hi1, h⟩ := h
  refine Ct.of (L := [(0, .ref (gad g 2 i0)), (1, .ref (gad g 0 i1)), (2, .int a2), (3, .int a3)]) (show plainName RX1 = true by decide) (Nat.le_of_ble_eq_true rfl) rfl ?_
  refine AW.iload_n dX1_firstWrong_0 2 rfl ?_
  refine AW.istore (L' := [(0, .ref (gad g 2 i0)), (1, .ref (gad g 0 i1)), (2, .int a2), (3, .int a3), (4, .int a2)]) dX1_firstWrong_1 (Nat.le_of_ble_eq_true rfl) rfl ?_
  obtain ⟨m, h⟩ := h
  refine AW.eqL [0, 1, 3, 4] rfl ?_
  refine T_X1_firstWrong_3 hi0 hi1 m _ _ h
theorem ok_X1_firstWrong : OkV M_X1_firstWrong 3 := ⟨w_338, w_339, w_3, w_340, by decide +kernel, (Nat.le_of_ble_eq_true rfl)⟩
def M_X1_holds : MT := (yX1_holds, cX1_holds, 2, some .boolean, 4)
def f_X1_holds (i0 : Nat) (i1 : Nat) (σ : Mm) (K : Bool → Mm → Prop) : Prop := (i0 < 3 ∧ (i1 < 17 ∧ (f_X1_listsOf i0 i1 σ (fun r2 σ1 => (f_X1_listsAtMost i0 (σ1 0 i1 0) σ1 (fun r4 σ3 => (if r4 < (if 0 ≤ r2 then r2 else 0 - r2) then (K false σ3) else (f_X1_firstWrong i0 i1 (0 : Int32) (σ3 0 i1 1) σ3 (fun r6 σ5 => (if r6 = (-1 : Int32) then (K true σ5) else (K false σ5)))))))))))
set_option maxRecDepth 100000 in
set_option maxHeartbeats 4000000 in
theorem C_X1_holds {g : GG} {i0 : Nat} {i1 : Nat} {σ : Mm} {K : Bool → Mm → Prop} (h : f_X1_holds i0 i1 σ K) : Ct g 0 M_X1_holds (QB g 0 K) [.ref (gad g 2 i0), .ref (gad g 0 i1)] σ := by
  unfold f_X1_holds at h
  obtain ⟨hi0, h⟩ := h
  obtain ⟨hi1, h⟩ := h
  refine Ct.of (L := [(0, .ref (gad g 2 i0)), (1, .ref (gad g 0 i1))]) (show plainName RX1 = true by decide) (Nat.le_of_ble_eq_true rfl) rfl ?_
  refine AW.aload_n dX1_holds_0 0 rfl ?_
  refine AW.aload_n dX1_holds_1 1 rfl ?_
  refine AW.callVI [.ref (gad g 0 i1)] (C_X1_listsOf h) ok_X1_listsOf (ids_in (Nat.le_of_ble_eq_true rfl) hi0) rfl rfl w_328 rfl (Nat.le_of_ble_eq_true rfl) (Nat.le_of_ble_eq_true rfl) rfl dX1_holds_2 (fun r2 σ1 h => ?_)
  refine AW.mabs w_329 w_330 w_10 w_331 (Nat.le_of_ble_eq_true rfl) (Nat.le_of_ble_eq_true rfl) dX1_holds_5 ?_
  refine AW.aload_n dX1_holds_8 0 rfl ?_
  refine AW.aload_n dX1_holds_9 1 rfl ?_
  refine AW.get (k := 0) (v := .int (σ1 0 i1 0)) (ids_in (Nat.le_of_ble_eq_true rfl) hi1) rfl rfl inGX0 (Nat.le_of_ble_eq_true rfl) w_71 rfl dX1_holds_10 ?_
  refine AW.callVI [.int (σ1 0 i1 0)] (C_X1_listsAtMost h) ok_X1_listsAtMost (ids_in (Nat.le_of_ble_eq_true rfl) hi0) rfl rfl w_332 rfl (Nat.le_of_ble_eq_true rfl) (Nat.le_of_ble_eq_true rfl) rfl dX1_holds_13 (fun r4 σ3 h => ?_)
  refine AW.icmp_gt (tgt := 37) dX1_holds_16 rfl (fun c => ?_) (fun c => ?_)
  · replace h := ite_t c h
    refine AW.iconst (v := (0 : Int32)) dX1_holds_37 rfl ?_
    exact AW.bret false rfl rfl dX1_holds_38 h
  · replace h := ite_f c h
    refine AW.aload_n dX1_holds_19 0 rfl ?_
    refine AW.aload_n dX1_holds_20 1 rfl ?_
    refine AW.iconst (v := (0 : Int32)) dX1_holds_21 rfl ?_
    refine AW.aload_n dX1_holds_22 1 rfl ?_
    refine AW.get (k := 1) (v := .int (σ3 0 i1 1)) (ids_in (Nat.le_of_ble_eq_true rfl) hi1) rfl rfl inGX0 (Nat.le_of_ble_eq_true rfl) w_76 rfl dX1_holds_23 ?_
    refine AW.callVI [.ref (gad g 0 i1), .int (0 : Int32), .int (σ3 0 i1 1)] (C_X1_firstWrong h) ok_X1_firstWrong (ids_in (Nat.le_of_ble_eq_true rfl) hi0) rfl rfl w_337 rfl (Nat.le_of_ble_eq_true rfl) (Nat.le_of_ble_eq_true rfl) rfl dX1_holds_26 (fun r6 σ5 h => ?_)
    refine AW.iconst (v := (-1 : Int32)) dX1_holds_29 rfl ?_
    refine AW.icmp_ne (tgt := 37) dX1_holds_30 rfl (fun c => ?_) (fun c => ?_)
    · replace h := ite_f c h
      refine AW.iconst (v := (0 : Int32)) dX1_holds_37 rfl ?_
      exact AW.bret false rfl rfl dX1_holds_38 h
    · replace h := ite_t c h
      refine AW.iconst (v := (1 : Int32)) dX1_holds_33 rfl ?_
      refine AW.goto (tgt := 38) dX1_holds_34 rfl ?_
      exact AW.bret true rfl rfl dX1_holds_38 h
theorem ok_X1_holds : OkV M_X1_holds 1 := ⟨w_325, w_326, w_3, w_327, by decide +kernel, (Nat.le_of_ble_eq_true rfl)⟩
def M_X6_benchOf : MT := (yX6_benchOf, cX6_benchOf, 4, some .int, 5)
def f_X6_benchOf (a1 : Int32) (a2 : Int32) (σ : Mm) (K : Int32 → Mm → Prop) : Prop := (f_X6_isBench a1 σ (fun b2 σ1 => (if b2 = true then (vp_in a1 5 ∧ ((5 * 0 + a1.toNatClampNeg) < 17 ∧ (if a2 = (0 : Int32) then (K (σ1 0 (5 * 0 + a1.toNatClampNeg) 0) σ1) else (if a2 = (1 : Int32) then (K (σ1 0 (5 * 0 + a1.toNatClampNeg) 1) σ1) else (if a2 = (2 : Int32) then (f_X0_howManySit (5 * 0 + a1.toNatClampNeg) σ1 (fun r8 σ7 => (K r8 σ7))) else (if a2 = (3 : Int32) then (f_X1_listsOf 0 (5 * 0 + a1.toNatClampNeg) σ1 (fun r10 σ9 => (K r10 σ9))) else (if a2 = (4 : Int32) then (f_X1_holds 0 (5 * 0 + a1.toNatClampNeg) σ1 (fun b12 σ11 => (if b12 = true then (K (1 : Int32) σ11) else (K (0 : Int32) σ11)))) else (f_X6_finding (0 : Int32) σ1 (fun r6 σ5 => (K r6 σ5)))))))))) else (f_X6_finding (0 : Int32) σ1 (fun r14 σ13 => (K r14 σ13))))))
set_option maxRecDepth 100000 in
set_option maxHeartbeats 4000000 in
theorem C_X6_benchOf {g : GG} {a1 : Int32} {a2 : Int32} {σ : Mm} {K : Int32 → Mm → Prop} (h : f_X6_benchOf a1 a2 σ K) : Ct g 0 M_X6_benchOf (QI g 0 K) [.ref (gad g 16 0), .int a1, .int a2] σ := by
  unfold f_X6_benchOf at h
  refine Ct.of (L := [(0, .ref (gad g 16 0)), (1, .int a1), (2, .int a2)]) (show plainName RX6 = true by decide) (Nat.le_of_ble_eq_true rfl) rfl ?_
  refine AW.aload_n dX6_benchOf_0 0 rfl ?_
  refine AW.iload_n dX6_benchOf_1 1 rfl ?_
  refine AW.callVB [.int a1] (C_X6_isBench h) ok_X6_isBench (id0_16_0) rfl rfl w_308 rfl (Nat.le_of_ble_eq_true rfl) (Nat.le_of_ble_eq_true rfl) rfl dX6_benchOf_2 (fun b2 σ1 h => ?_)
  refine AW.ifb_ne (tgt := 14) dX6_benchOf_5 rfl (fun c => ?_) (fun c => ?_)
  · replace h := ite_t c h
    refine AW.aload_n dX6_benchOf_14 0 rfl ?_
    refine AW.get (k := 0) (v := .ref (gad g 5 0)) (id0_16_0) rfl rfl inGX6 (Nat.le_of_ble_eq_true rfl) w_203 rfl dX6_benchOf_15 ?_
    refine AW.get (k := 1) (v := .ref (gad g 6 0)) (id0_5_0) rfl rfl inGX2 (Nat.le_of_ble_eq_true rfl) w_96 rfl dX6_benchOf_18 ?_
    refine AW.iload_n dX6_benchOf_21 1 rfl ?_
    obtain ⟨hq3, h⟩ := h
    obtain ⟨hv4, h⟩ := h
    refine AW.aald (a' := gad g 0 (5 * 0 + a1.toNatClampNeg)) (ty := 1) (id0_6_0) rfl rfl rfl hq3 dX6_benchOf_22 ?_
    refine AW.astore_n (L' := [(0, .ref (gad g 16 0)), (1, .int a1), (2, .int a2), (3, .ref (gad g 0 (5 * 0 + a1.toNatClampNeg)))]) dX6_benchOf_23 (Nat.le_of_ble_eq_true rfl) rfl ?_
    refine AW.iload_n dX6_benchOf_24 2 rfl ?_
    by_cases c0 : a2 = (0 : Int32)
    · replace h := ite_t c0 h
      refine AW.tswIn (tgt := 60) (0 : Int32) dX6_benchOf_25 c0 (by decide) (by decide) rfl rfl ?_
      refine AW.aload_n dX6_benchOf_60 3 rfl ?_
      refine AW.get (k := 0) (v := .int (σ1 0 (5 * 0 + a1.toNatClampNeg) 0)) (ids_in (Nat.le_of_ble_eq_true rfl) hv4) rfl rfl inGX0 (Nat.le_of_ble_eq_true rfl) w_70 rfl dX6_benchOf_61 ?_
      exact AW.iret rfl dX6_benchOf_64 h
    · replace h := ite_f c0 h
      by_cases c1 : a2 = (1 : Int32)
      · replace h := ite_t c1 h
        refine AW.tswIn (tgt := 65) (1 : Int32) dX6_benchOf_25 c1 (by decide) (by decide) rfl rfl ?_
        refine AW.aload_n dX6_benchOf_65 3 rfl ?_
        refine AW.get (k := 1) (v := .int (σ1 0 (5 * 0 + a1.toNatClampNeg) 1)) (ids_in (Nat.le_of_ble_eq_true rfl) hv4) rfl rfl inGX0 (Nat.le_of_ble_eq_true rfl) w_75 rfl dX6_benchOf_66 ?_
        exact AW.iret rfl dX6_benchOf_69 h
      · replace h := ite_f c1 h
        by_cases c2 : a2 = (2 : Int32)
        · replace h := ite_t c2 h
          refine AW.tswIn (tgt := 70) (2 : Int32) dX6_benchOf_25 c2 (by decide) (by decide) rfl rfl ?_
          refine AW.aload_n dX6_benchOf_70 3 rfl ?_
          refine AW.callVI [] (C_X0_howManySit h) ok_X0_howManySit (ids_in (Nat.le_of_ble_eq_true rfl) hv4) rfl rfl w_312 rfl (Nat.le_of_ble_eq_true rfl) (Nat.le_of_ble_eq_true rfl) rfl dX6_benchOf_71 (fun r8 σ7 h => ?_)
          exact AW.iret rfl dX6_benchOf_74 h
        · replace h := ite_f c2 h
          by_cases c3 : a2 = (3 : Int32)
          · replace h := ite_t c3 h
            refine AW.tswIn (tgt := 75) (3 : Int32) dX6_benchOf_25 c3 (by decide) (by decide) rfl rfl ?_
            refine AW.aload_n dX6_benchOf_75 0 rfl ?_
            refine AW.get (k := 0) (v := .ref (gad g 5 0)) (id0_16_0) rfl rfl inGX6 (Nat.le_of_ble_eq_true rfl) w_203 rfl dX6_benchOf_76 ?_
            refine AW.get (k := 0) (v := .ref (gad g 2 0)) (id0_5_0) rfl rfl inGX2 (Nat.le_of_ble_eq_true rfl) w_93 rfl dX6_benchOf_79 ?_
            refine AW.aload_n dX6_benchOf_82 3 rfl ?_
            refine AW.callVI [.ref (gad g 0 (5 * 0 + a1.toNatClampNeg))] (C_X1_listsOf h) ok_X1_listsOf (id0_2_0) rfl rfl w_316 rfl (Nat.le_of_ble_eq_true rfl) (Nat.le_of_ble_eq_true rfl) rfl dX6_benchOf_83 (fun r10 σ9 h => ?_)
            exact AW.iret rfl dX6_benchOf_86 h
          · replace h := ite_f c3 h
            by_cases c4 : a2 = (4 : Int32)
            · replace h := ite_t c4 h
              refine AW.tswIn (tgt := 87) (4 : Int32) dX6_benchOf_25 c4 (by decide) (by decide) rfl rfl ?_
              refine AW.aload_n dX6_benchOf_87 0 rfl ?_
              refine AW.get (k := 0) (v := .ref (gad g 5 0)) (id0_16_0) rfl rfl inGX6 (Nat.le_of_ble_eq_true rfl) w_203 rfl dX6_benchOf_88 ?_
              refine AW.get (k := 0) (v := .ref (gad g 2 0)) (id0_5_0) rfl rfl inGX2 (Nat.le_of_ble_eq_true rfl) w_93 rfl dX6_benchOf_91 ?_
              refine AW.aload_n dX6_benchOf_94 3 rfl ?_
              refine AW.callVB [.ref (gad g 0 (5 * 0 + a1.toNatClampNeg))] (C_X1_holds h) ok_X1_holds (id0_2_0) rfl rfl w_324 rfl (Nat.le_of_ble_eq_true rfl) (Nat.le_of_ble_eq_true rfl) rfl dX6_benchOf_95 (fun b12 σ11 h => ?_)
              refine AW.ifb_eq (tgt := 105) dX6_benchOf_98 rfl (fun c => ?_) (fun c => ?_)
              · replace h := ite_f c h
                refine AW.iconst (v := (0 : Int32)) dX6_benchOf_105 rfl ?_
                exact AW.iret rfl dX6_benchOf_106 h
              · replace h := ite_t c h
                refine AW.iconst (v := (1 : Int32)) dX6_benchOf_101 rfl ?_
                refine AW.goto (tgt := 106) dX6_benchOf_102 rfl ?_
                exact AW.iret rfl dX6_benchOf_106 h
            · replace h := ite_f c4 h
              refine AW.tswOut (tgt := 107) dX6_benchOf_25 (tsw_out fun k h1 h2 => ?_) rfl ?_
              · rcases (show k = 0 ∨ k = 1 ∨ k = 2 ∨ k = 3 ∨ k = 4 by omega) with rfl | rfl | rfl | rfl | rfl
                all_goals assumption
              · refine AW.aload_n dX6_benchOf_107 0 rfl ?_
                refine AW.iconst (v := (0 : Int32)) dX6_benchOf_108 rfl ?_
                refine AW.callVI [.int (0 : Int32)] (C_X6_finding h) ok_X6_finding (id0_16_0) rfl rfl w_247 rfl (Nat.le_of_ble_eq_true rfl) (Nat.le_of_ble_eq_true rfl) rfl dX6_benchOf_109 (fun r6 σ5 h => ?_)
                exact AW.iret rfl dX6_benchOf_112 h
  · replace h := ite_f c h
    refine AW.aload_n dX6_benchOf_8 0 rfl ?_
    refine AW.iconst (v := (0 : Int32)) dX6_benchOf_9 rfl ?_
    refine AW.callVI [.int (0 : Int32)] (C_X6_finding h) ok_X6_finding (id0_16_0) rfl rfl w_247 rfl (Nat.le_of_ble_eq_true rfl) (Nat.le_of_ble_eq_true rfl) rfl dX6_benchOf_10 (fun r14 σ13 h => ?_)
    exact AW.iret rfl dX6_benchOf_13 h
theorem ok_X6_benchOf : OkV M_X6_benchOf 2 := ⟨w_305, w_306, w_1, w_307, by decide +kernel, (Nat.le_of_ble_eq_true rfl)⟩
def M_X6_turn : MT := (yX6_turn, cX6_turn, 4, some .int, 2)
def f_X6_turn (a1 : Int32) (a2 : Int32) (σ : Mm) (K : Int32 → Mm → Prop) : Prop := (f_X6_isBench a1 σ (fun b2 σ1 => (if b2 = true then (f_X6_isKind a2 σ1 (fun b6 σ5 => (if b6 = true then (vp_in a1 5 ∧ ((5 * 0 + a1.toNatClampNeg) < 17 ∧ (vp_in a1 5 ∧ (∃ σ10, σ10 = mset σ5 0 (5 * 0 + a1.toNatClampNeg) 0 a2 ∧ (K (σ5 0 (5 * 0 + a1.toNatClampNeg) 0) σ10))))) else (f_X6_finding (0 : Int32) σ5 (fun r12 σ11 => (K r12 σ11)))))) else (f_X6_finding (0 : Int32) σ1 (fun r4 σ3 => (K r4 σ3))))))
set_option maxRecDepth 100000 in
set_option maxHeartbeats 4000000 in
theorem C_X6_turn {g : GG} {a1 : Int32} {a2 : Int32} {σ : Mm} {K : Int32 → Mm → Prop} (h : f_X6_turn a1 a2 σ K) : Ct g 0 M_X6_turn (QI g 0 K) [.ref (gad g 16 0), .int a1, .int a2] σ := by
  unfold f_X6_turn at h
  refine Ct.of (L := [(0, .ref (gad g 16 0)), (1, .int a1), (2, .int a2)]) (show plainName RX6 = true by decide) (Nat.le_of_ble_eq_true rfl) rfl ?_
  refine AW.aload_n dX6_turn_0 0 rfl ?_
  refine AW.iload_n dX6_turn_1 1 rfl ?_
  refine AW.callVB [.int a1] (C_X6_isBench h) ok_X6_isBench (id0_16_0) rfl rfl w_308 rfl (Nat.le_of_ble_eq_true rfl) (Nat.le_of_ble_eq_true rfl) rfl dX6_turn_2 (fun b2 σ1 h => ?_)
  refine AW.ifb_eq (tgt := 15) dX6_turn_5 rfl (fun c => ?_) (fun c => ?_)
  · replace h := ite_f c h
    refine AW.aload_n dX6_turn_15 0 rfl ?_
    refine AW.iconst (v := (0 : Int32)) dX6_turn_16 rfl ?_
    refine AW.callVI [.int (0 : Int32)] (C_X6_finding h) ok_X6_finding (id0_16_0) rfl rfl w_247 rfl (Nat.le_of_ble_eq_true rfl) (Nat.le_of_ble_eq_true rfl) rfl dX6_turn_17 (fun r4 σ3 h => ?_)
    exact AW.iret rfl dX6_turn_20 h
  · replace h := ite_t c h
    refine AW.iload_n dX6_turn_8 2 rfl ?_
    refine AW.callSB [.int a2] (C_X6_isKind h) ok_X6_isKind w_293 rfl (Nat.le_of_ble_eq_true rfl) (Nat.le_of_ble_eq_true rfl) rfl dX6_turn_9 (fun b6 σ5 h => ?_)
    refine AW.ifb_ne (tgt := 21) dX6_turn_12 rfl (fun c => ?_) (fun c => ?_)
    · replace h := ite_t c h
      refine AW.aload_n dX6_turn_21 0 rfl ?_
      refine AW.get (k := 0) (v := .ref (gad g 5 0)) (id0_16_0) rfl rfl inGX6 (Nat.le_of_ble_eq_true rfl) w_203 rfl dX6_turn_22 ?_
      refine AW.get (k := 1) (v := .ref (gad g 6 0)) (id0_5_0) rfl rfl inGX2 (Nat.le_of_ble_eq_true rfl) w_96 rfl dX6_turn_25 ?_
      refine AW.iload_n dX6_turn_28 1 rfl ?_
      obtain ⟨hq7, h⟩ := h
      obtain ⟨hv8, h⟩ := h
      refine AW.aald (a' := gad g 0 (5 * 0 + a1.toNatClampNeg)) (ty := 1) (id0_6_0) rfl rfl rfl hq7 dX6_turn_29 ?_
      refine AW.get (k := 0) (v := .int (σ5 0 (5 * 0 + a1.toNatClampNeg) 0)) (ids_in (Nat.le_of_ble_eq_true rfl) hv8) rfl rfl inGX0 (Nat.le_of_ble_eq_true rfl) w_70 rfl dX6_turn_30 ?_
      refine AW.istore_n (L' := [(0, .ref (gad g 16 0)), (1, .int a1), (2, .int a2), (3, .int (σ5 0 (5 * 0 + a1.toNatClampNeg) 0))]) dX6_turn_33 (Nat.le_of_ble_eq_true rfl) rfl ?_
      refine AW.aload_n dX6_turn_34 0 rfl ?_
      refine AW.get (k := 0) (v := .ref (gad g 5 0)) (id0_16_0) rfl rfl inGX6 (Nat.le_of_ble_eq_true rfl) w_203 rfl dX6_turn_35 ?_
      refine AW.get (k := 1) (v := .ref (gad g 6 0)) (id0_5_0) rfl rfl inGX2 (Nat.le_of_ble_eq_true rfl) w_96 rfl dX6_turn_38 ?_
      refine AW.iload_n dX6_turn_41 1 rfl ?_
      obtain ⟨hq9, h⟩ := h
      refine AW.aald (a' := gad g 0 (5 * 0 + a1.toNatClampNeg)) (ty := 1) (id0_6_0) rfl rfl rfl hq9 dX6_turn_42 ?_
      refine AW.iload_n dX6_turn_43 2 rfl ?_
      refine AW.put (k := 0) (w := a2) (ids_in (Nat.le_of_ble_eq_true rfl) hv8) rfl rfl inGX0 tyX0_ok nmX0 (Nat.le_of_ble_eq_true rfl) w_70 rfl rfl rfl rfl (Nat.le_of_ble_eq_true rfl) rfl dX6_turn_44 ?_
      obtain ⟨σ10, eσ10, h⟩ := h
      rw [← eσ10]
      refine AW.iload_n dX6_turn_47 3 rfl ?_
      exact AW.iret rfl dX6_turn_48 h
    · replace h := ite_f c h
      refine AW.aload_n dX6_turn_15 0 rfl ?_
      refine AW.iconst (v := (0 : Int32)) dX6_turn_16 rfl ?_
      refine AW.callVI [.int (0 : Int32)] (C_X6_finding h) ok_X6_finding (id0_16_0) rfl rfl w_247 rfl (Nat.le_of_ble_eq_true rfl) (Nat.le_of_ble_eq_true rfl) rfl dX6_turn_17 (fun r12 σ11 h => ?_)
      exact AW.iret rfl dX6_turn_20 h
theorem ok_X6_turn : OkV M_X6_turn 2 := ⟨w_350, w_351, w_1, w_352, by decide +kernel, (Nat.le_of_ble_eq_true rfl)⟩
def M_X6_isSeat : MT := (yX6_isSeat, cX6_isSeat, 3, some .boolean, 2)
def f_X6_isSeat (a1 : Int32) (a2 : Int32) (σ : Mm) (K : Bool → Mm → Prop) : Prop := (f_X6_isBench a1 σ (fun b2 σ1 => (if b2 = true then (if a2 < 0 then (K false σ1) else (vp_in a1 5 ∧ ((5 * 0 + a1.toNatClampNeg) < 17 ∧ (if (σ1 0 (5 * 0 + a1.toNatClampNeg) 1) ≤ a2 then (K false σ1) else (K true σ1))))) else (K false σ1))))
set_option maxRecDepth 100000 in
set_option maxHeartbeats 4000000 in
theorem C_X6_isSeat {g : GG} {a1 : Int32} {a2 : Int32} {σ : Mm} {K : Bool → Mm → Prop} (h : f_X6_isSeat a1 a2 σ K) : Ct g 0 M_X6_isSeat (QB g 0 K) [.ref (gad g 16 0), .int a1, .int a2] σ := by
  unfold f_X6_isSeat at h
  refine Ct.of (L := [(0, .ref (gad g 16 0)), (1, .int a1), (2, .int a2)]) (show plainName RX6 = true by decide) (Nat.le_of_ble_eq_true rfl) rfl ?_
  refine AW.aload_n dX6_isSeat_0 0 rfl ?_
  refine AW.iload_n dX6_isSeat_1 1 rfl ?_
  refine AW.callVB [.int a1] (C_X6_isBench h) ok_X6_isBench (id0_16_0) rfl rfl w_308 rfl (Nat.le_of_ble_eq_true rfl) (Nat.le_of_ble_eq_true rfl) rfl dX6_isSeat_2 (fun b2 σ1 h => ?_)
  refine AW.ifb_eq (tgt := 32) dX6_isSeat_5 rfl (fun c => ?_) (fun c => ?_)
  · replace h := ite_f c h
    refine AW.iconst (v := (0 : Int32)) dX6_isSeat_32 rfl ?_
    exact AW.bret false rfl rfl dX6_isSeat_33 h
  · replace h := ite_t c h
    refine AW.iload_n dX6_isSeat_8 2 rfl ?_
    refine AW.if_lt (tgt := 32) dX6_isSeat_9 rfl (fun c => ?_) (fun c => ?_)
    · replace h := ite_t c h
      refine AW.iconst (v := (0 : Int32)) dX6_isSeat_32 rfl ?_
      exact AW.bret false rfl rfl dX6_isSeat_33 h
    · replace h := ite_f c h
      refine AW.iload_n dX6_isSeat_12 2 rfl ?_
      refine AW.aload_n dX6_isSeat_13 0 rfl ?_
      refine AW.get (k := 0) (v := .ref (gad g 5 0)) (id0_16_0) rfl rfl inGX6 (Nat.le_of_ble_eq_true rfl) w_203 rfl dX6_isSeat_14 ?_
      refine AW.get (k := 1) (v := .ref (gad g 6 0)) (id0_5_0) rfl rfl inGX2 (Nat.le_of_ble_eq_true rfl) w_96 rfl dX6_isSeat_17 ?_
      refine AW.iload_n dX6_isSeat_20 1 rfl ?_
      obtain ⟨hq3, h⟩ := h
      obtain ⟨hv4, h⟩ := h
      refine AW.aald (a' := gad g 0 (5 * 0 + a1.toNatClampNeg)) (ty := 1) (id0_6_0) rfl rfl rfl hq3 dX6_isSeat_21 ?_
      refine AW.get (k := 1) (v := .int (σ1 0 (5 * 0 + a1.toNatClampNeg) 1)) (ids_in (Nat.le_of_ble_eq_true rfl) hv4) rfl rfl inGX0 (Nat.le_of_ble_eq_true rfl) w_75 rfl dX6_isSeat_22 ?_
      refine AW.icmp_ge (tgt := 32) dX6_isSeat_25 rfl (fun c => ?_) (fun c => ?_)
      · replace h := ite_t c h
        refine AW.iconst (v := (0 : Int32)) dX6_isSeat_32 rfl ?_
        exact AW.bret false rfl rfl dX6_isSeat_33 h
      · replace h := ite_f c h
        refine AW.iconst (v := (1 : Int32)) dX6_isSeat_28 rfl ?_
        refine AW.goto (tgt := 33) dX6_isSeat_29 rfl ?_
        exact AW.bret true rfl rfl dX6_isSeat_33 h
theorem ok_X6_isSeat : OkV M_X6_isSeat 2 := ⟨w_359, wp_2, w_1, w_360, by decide +kernel, (Nat.le_of_ble_eq_true rfl)⟩
def M_X6_seat : MT := (yX6_seat, cX6_seat, 3, some .int, 3)
def f_X6_seat (a1 : Int32) (a2 : Int32) (σ : Mm) (K : Int32 → Mm → Prop) : Prop := (f_X6_isSeat a1 a2 σ (fun b2 σ1 => (if b2 = true then (vp_in a1 5 ∧ ((5 * 0 + a1.toNatClampNeg) < 17 ∧ (vp_in a2 8 ∧ (K (σ1 1 (5 * 0 + a1.toNatClampNeg) (a2.toNatClampNeg)) σ1)))) else (f_X6_finding (0 : Int32) σ1 (fun r4 σ3 => (K r4 σ3))))))
set_option maxRecDepth 100000 in
set_option maxHeartbeats 4000000 in
theorem C_X6_seat {g : GG} {a1 : Int32} {a2 : Int32} {σ : Mm} {K : Int32 → Mm → Prop} (h : f_X6_seat a1 a2 σ K) : Ct g 0 M_X6_seat (QI g 0 K) [.ref (gad g 16 0), .int a1, .int a2] σ := by
  unfold f_X6_seat at h
  refine Ct.of (L := [(0, .ref (gad g 16 0)), (1, .int a1), (2, .int a2)]) (show plainName RX6 = true by decide) (Nat.le_of_ble_eq_true rfl) rfl ?_
  refine AW.aload_n dX6_seat_0 0 rfl ?_
  refine AW.iload_n dX6_seat_1 1 rfl ?_
  refine AW.iload_n dX6_seat_2 2 rfl ?_
  refine AW.callVB [.int a1, .int a2] (C_X6_isSeat h) ok_X6_isSeat (id0_16_0) rfl rfl w_357 rfl (Nat.le_of_ble_eq_true rfl) (Nat.le_of_ble_eq_true rfl) rfl dX6_seat_3 (fun b2 σ1 h => ?_)
  refine AW.ifb_eq (tgt := 26) dX6_seat_6 rfl (fun c => ?_) (fun c => ?_)
  · replace h := ite_f c h
    refine AW.aload_n dX6_seat_26 0 rfl ?_
    refine AW.iconst (v := (0 : Int32)) dX6_seat_27 rfl ?_
    refine AW.callVI [.int (0 : Int32)] (C_X6_finding h) ok_X6_finding (id0_16_0) rfl rfl w_247 rfl (Nat.le_of_ble_eq_true rfl) (Nat.le_of_ble_eq_true rfl) rfl dX6_seat_28 (fun r4 σ3 h => ?_)
    exact AW.iret rfl dX6_seat_31 h
  · replace h := ite_t c h
    refine AW.aload_n dX6_seat_9 0 rfl ?_
    refine AW.get (k := 0) (v := .ref (gad g 5 0)) (id0_16_0) rfl rfl inGX6 (Nat.le_of_ble_eq_true rfl) w_203 rfl dX6_seat_10 ?_
    refine AW.get (k := 1) (v := .ref (gad g 6 0)) (id0_5_0) rfl rfl inGX2 (Nat.le_of_ble_eq_true rfl) w_96 rfl dX6_seat_13 ?_
    refine AW.iload_n dX6_seat_16 1 rfl ?_
    obtain ⟨hq5, h⟩ := h
    obtain ⟨hv6, h⟩ := h
    refine AW.aald (a' := gad g 0 (5 * 0 + a1.toNatClampNeg)) (ty := 1) (id0_6_0) rfl rfl rfl hq5 dX6_seat_17 ?_
    refine AW.get (k := 2) (v := .ref (gad g 1 (5 * 0 + a1.toNatClampNeg))) (ids_in (Nat.le_of_ble_eq_true rfl) hv6) rfl rfl inGX0 (Nat.le_of_ble_eq_true rfl) w_82 rfl dX6_seat_18 ?_
    refine AW.iload_n dX6_seat_21 2 rfl ?_
    obtain ⟨hq7, h⟩ := h
    refine AW.iald (jn := (a2.toNatClampNeg)) (ids_in (Nat.le_of_ble_eq_true rfl) hv6) rfl hq7 rfl dX6_seat_22 ?_
    refine AW.goto (tgt := 31) dX6_seat_23 rfl ?_
    exact AW.iret rfl dX6_seat_31 h
theorem ok_X6_seat : OkV M_X6_seat 2 := ⟨w_354, w_355, w_1, w_356, by decide +kernel, (Nat.le_of_ble_eq_true rfl)⟩
def M_X6_beside : MT := (yX6_beside, cX6_beside, 4, some .int, 3)
def f_X6_beside (a1 : Int32) (a2 : Int32) (a3 : Int32) (σ : Mm) (K : Int32 → Mm → Prop) : Prop := (f_X6_isSeat a1 a2 σ (fun b2 σ1 => (if b2 = true then (if a3 < 0 then (f_X6_finding (0 : Int32) σ1 (fun r6 σ5 => (K r6 σ5))) else (if a3 ≤ (1 : Int32) then (vp_in a1 5 ∧ ((5 * 0 + a1.toNatClampNeg) < 17 ∧ (if a3 = 0 then (f_X0_neighbour (5 * 0 + a1.toNatClampNeg) a2 (-1 : Int32) σ1 (fun r12 σ11 => (K r12 σ11))) else (f_X0_neighbour (5 * 0 + a1.toNatClampNeg) a2 (1 : Int32) σ1 (fun r10 σ9 => (K r10 σ9)))))) else (f_X6_finding (0 : Int32) σ1 (fun r14 σ13 => (K r14 σ13))))) else (f_X6_finding (0 : Int32) σ1 (fun r4 σ3 => (K r4 σ3))))))
set_option maxRecDepth 100000 in
set_option maxHeartbeats 4000000 in
theorem C_X6_beside {g : GG} {a1 : Int32} {a2 : Int32} {a3 : Int32} {σ : Mm} {K : Int32 → Mm → Prop} (h : f_X6_beside a1 a2 a3 σ K) : Ct g 0 M_X6_beside (QI g 0 K) [.ref (gad g 16 0), .int a1, .int a2, .int a3] σ := by
  unfold f_X6_beside at h
  refine Ct.of (L := [(0, .ref (gad g 16 0)), (1, .int a1), (2, .int a2), (3, .int a3)]) (show plainName RX6 = true by decide) (Nat.le_of_ble_eq_true rfl) rfl ?_
  refine AW.aload_n dX6_beside_0 0 rfl ?_
  refine AW.iload_n dX6_beside_1 1 rfl ?_
  refine AW.iload_n dX6_beside_2 2 rfl ?_
  refine AW.callVB [.int a1, .int a2] (C_X6_isSeat h) ok_X6_isSeat (id0_16_0) rfl rfl w_357 rfl (Nat.le_of_ble_eq_true rfl) (Nat.le_of_ble_eq_true rfl) rfl dX6_beside_3 (fun b2 σ1 h => ?_)
  refine AW.ifb_eq (tgt := 18) dX6_beside_6 rfl (fun c => ?_) (fun c => ?_)
  · replace h := ite_f c h
    refine AW.aload_n dX6_beside_18 0 rfl ?_
    refine AW.iconst (v := (0 : Int32)) dX6_beside_19 rfl ?_
    refine AW.callVI [.int (0 : Int32)] (C_X6_finding h) ok_X6_finding (id0_16_0) rfl rfl w_247 rfl (Nat.le_of_ble_eq_true rfl) (Nat.le_of_ble_eq_true rfl) rfl dX6_beside_20 (fun r4 σ3 h => ?_)
    exact AW.iret rfl dX6_beside_23 h
  · replace h := ite_t c h
    refine AW.iload_n dX6_beside_9 3 rfl ?_
    refine AW.if_lt (tgt := 18) dX6_beside_10 rfl (fun c => ?_) (fun c => ?_)
    · replace h := ite_t c h
      refine AW.aload_n dX6_beside_18 0 rfl ?_
      refine AW.iconst (v := (0 : Int32)) dX6_beside_19 rfl ?_
      refine AW.callVI [.int (0 : Int32)] (C_X6_finding h) ok_X6_finding (id0_16_0) rfl rfl w_247 rfl (Nat.le_of_ble_eq_true rfl) (Nat.le_of_ble_eq_true rfl) rfl dX6_beside_20 (fun r6 σ5 h => ?_)
      exact AW.iret rfl dX6_beside_23 h
    · replace h := ite_f c h
      refine AW.iload_n dX6_beside_13 3 rfl ?_
      refine AW.iconst (v := (1 : Int32)) dX6_beside_14 rfl ?_
      refine AW.icmp_le (tgt := 24) dX6_beside_15 rfl (fun c => ?_) (fun c => ?_)
      · replace h := ite_t c h
        refine AW.aload_n dX6_beside_24 0 rfl ?_
        refine AW.get (k := 0) (v := .ref (gad g 5 0)) (id0_16_0) rfl rfl inGX6 (Nat.le_of_ble_eq_true rfl) w_203 rfl dX6_beside_25 ?_
        refine AW.get (k := 1) (v := .ref (gad g 6 0)) (id0_5_0) rfl rfl inGX2 (Nat.le_of_ble_eq_true rfl) w_96 rfl dX6_beside_28 ?_
        refine AW.iload_n dX6_beside_31 1 rfl ?_
        obtain ⟨hq7, h⟩ := h
        obtain ⟨hv8, h⟩ := h
        refine AW.aald (a' := gad g 0 (5 * 0 + a1.toNatClampNeg)) (ty := 1) (id0_6_0) rfl rfl rfl hq7 dX6_beside_32 ?_
        refine AW.iload_n dX6_beside_33 2 rfl ?_
        refine AW.iload_n dX6_beside_34 3 rfl ?_
        refine AW.if_ne (tgt := 42) dX6_beside_35 rfl (fun c => ?_) (fun c => ?_)
        · replace h := ite_f c h
          refine AW.iconst (v := (1 : Int32)) dX6_beside_42 rfl ?_
          refine AW.callVI [.int a2, .int (1 : Int32)] (C_X0_neighbour h) ok_X0_neighbour (ids_in (Nat.le_of_ble_eq_true rfl) hv8) rfl rfl w_365 rfl (Nat.le_of_ble_eq_true rfl) (Nat.le_of_ble_eq_true rfl) rfl dX6_beside_43 (fun r10 σ9 h => ?_)
          exact AW.iret rfl dX6_beside_46 h
        · replace h := ite_t c h
          refine AW.iconst (v := (-1 : Int32)) dX6_beside_38 rfl ?_
          refine AW.goto (tgt := 43) dX6_beside_39 rfl ?_
          refine AW.callVI [.int a2, .int (-1 : Int32)] (C_X0_neighbour h) ok_X0_neighbour (ids_in (Nat.le_of_ble_eq_true rfl) hv8) rfl rfl w_365 rfl (Nat.le_of_ble_eq_true rfl) (Nat.le_of_ble_eq_true rfl) rfl dX6_beside_43 (fun r12 σ11 h => ?_)
          exact AW.iret rfl dX6_beside_46 h
      · replace h := ite_f c h
        refine AW.aload_n dX6_beside_18 0 rfl ?_
        refine AW.iconst (v := (0 : Int32)) dX6_beside_19 rfl ?_
        refine AW.callVI [.int (0 : Int32)] (C_X6_finding h) ok_X6_finding (id0_16_0) rfl rfl w_247 rfl (Nat.le_of_ble_eq_true rfl) (Nat.le_of_ble_eq_true rfl) rfl dX6_beside_20 (fun r14 σ13 h => ?_)
        exact AW.iret rfl dX6_beside_23 h
theorem ok_X6_beside : OkV M_X6_beside 3 := ⟨w_362, w_363, w_1, w_364, by decide +kernel, (Nat.le_of_ble_eq_true rfl)⟩
def M_X6_wrong : MT := (yX6_wrong, cX6_wrong, 4, some .int, 4)
def f_X6_wrong (a1 : Int32) (σ : Mm) (K : Int32 → Mm → Prop) : Prop := (f_X6_isBench a1 σ (fun b2 σ1 => (if b2 = true then (vp_in a1 5 ∧ ((5 * 0 + a1.toNatClampNeg) < 17 ∧ (f_X1_firstWrong 0 (5 * 0 + a1.toNatClampNeg) (0 : Int32) (σ1 0 (5 * 0 + a1.toNatClampNeg) 1) σ1 (fun r6 σ5 => (if r6 = (-1 : Int32) then (f_X6_finding (3 : Int32) σ5 (fun r8 σ7 => (K r8 σ7))) else (K r6 σ5)))))) else (f_X6_finding (0 : Int32) σ1 (fun r10 σ9 => (K r10 σ9))))))
set_option maxRecDepth 100000 in
set_option maxHeartbeats 4000000 in
theorem C_X6_wrong {g : GG} {a1 : Int32} {σ : Mm} {K : Int32 → Mm → Prop} (h : f_X6_wrong a1 σ K) : Ct g 0 M_X6_wrong (QI g 0 K) [.ref (gad g 16 0), .int a1] σ := by
  unfold f_X6_wrong at h
  refine Ct.of (L := [(0, .ref (gad g 16 0)), (1, .int a1)]) (show plainName RX6 = true by decide) (Nat.le_of_ble_eq_true rfl) rfl ?_
  refine AW.aload_n dX6_wrong_0 0 rfl ?_
  refine AW.iload_n dX6_wrong_1 1 rfl ?_
  refine AW.callVB [.int a1] (C_X6_isBench h) ok_X6_isBench (id0_16_0) rfl rfl w_308 rfl (Nat.le_of_ble_eq_true rfl) (Nat.le_of_ble_eq_true rfl) rfl dX6_wrong_2 (fun b2 σ1 h => ?_)
  refine AW.ifb_ne (tgt := 14) dX6_wrong_5 rfl (fun c => ?_) (fun c => ?_)
  · replace h := ite_t c h
    refine AW.aload_n dX6_wrong_14 0 rfl ?_
    refine AW.get (k := 0) (v := .ref (gad g 5 0)) (id0_16_0) rfl rfl inGX6 (Nat.le_of_ble_eq_true rfl) w_203 rfl dX6_wrong_15 ?_
    refine AW.get (k := 1) (v := .ref (gad g 6 0)) (id0_5_0) rfl rfl inGX2 (Nat.le_of_ble_eq_true rfl) w_96 rfl dX6_wrong_18 ?_
    refine AW.iload_n dX6_wrong_21 1 rfl ?_
    obtain ⟨hq3, h⟩ := h
    obtain ⟨hv4, h⟩ := h
    refine AW.aald (a' := gad g 0 (5 * 0 + a1.toNatClampNeg)) (ty := 1) (id0_6_0) rfl rfl rfl hq3 dX6_wrong_22 ?_
    refine AW.astore_n (L' := [(0, .ref (gad g 16 0)), (1, .int a1), (2, .ref (gad g 0 (5 * 0 + a1.toNatClampNeg)))]) dX6_wrong_23 (Nat.le_of_ble_eq_true rfl) rfl ?_
    refine AW.aload_n dX6_wrong_24 0 rfl ?_
    refine AW.get (k := 0) (v := .ref (gad g 5 0)) (id0_16_0) rfl rfl inGX6 (Nat.le_of_ble_eq_true rfl) w_203 rfl dX6_wrong_25 ?_
    refine AW.get (k := 0) (v := .ref (gad g 2 0)) (id0_5_0) rfl rfl inGX2 (Nat.le_of_ble_eq_true rfl) w_93 rfl dX6_wrong_28 ?_
    refine AW.aload_n dX6_wrong_31 2 rfl ?_
    refine AW.iconst (v := (0 : Int32)) dX6_wrong_32 rfl ?_
    refine AW.aload_n dX6_wrong_33 2 rfl ?_
    refine AW.get (k := 1) (v := .int (σ1 0 (5 * 0 + a1.toNatClampNeg) 1)) (ids_in (Nat.le_of_ble_eq_true rfl) hv4) rfl rfl inGX0 (Nat.le_of_ble_eq_true rfl) w_75 rfl dX6_wrong_34 ?_
    refine AW.callVI [.ref (gad g 0 (5 * 0 + a1.toNatClampNeg)), .int (0 : Int32), .int (σ1 0 (5 * 0 + a1.toNatClampNeg) 1)] (C_X1_firstWrong h) ok_X1_firstWrong (id0_2_0) rfl rfl w_370 rfl (Nat.le_of_ble_eq_true rfl) (Nat.le_of_ble_eq_true rfl) rfl dX6_wrong_37 (fun r6 σ5 h => ?_)
    refine AW.istore_n (L' := [(0, .ref (gad g 16 0)), (1, .int a1), (2, .ref (gad g 0 (5 * 0 + a1.toNatClampNeg))), (3, .int r6)]) dX6_wrong_40 (Nat.le_of_ble_eq_true rfl) rfl ?_
    refine AW.iload_n dX6_wrong_41 3 rfl ?_
    refine AW.iconst (v := (-1 : Int32)) dX6_wrong_42 rfl ?_
    refine AW.icmp_ne (tgt := 54) dX6_wrong_43 rfl (fun c => ?_) (fun c => ?_)
    · replace h := ite_f c h
      refine AW.iload_n dX6_wrong_54 3 rfl ?_
      exact AW.iret rfl dX6_wrong_55 h
    · replace h := ite_t c h
      refine AW.aload_n dX6_wrong_46 0 rfl ?_
      refine AW.iconst (v := (3 : Int32)) dX6_wrong_47 rfl ?_
      refine AW.callVI [.int (3 : Int32)] (C_X6_finding h) ok_X6_finding (id0_16_0) rfl rfl w_247 rfl (Nat.le_of_ble_eq_true rfl) (Nat.le_of_ble_eq_true rfl) rfl dX6_wrong_48 (fun r8 σ7 h => ?_)
      refine AW.goto (tgt := 55) dX6_wrong_51 rfl ?_
      exact AW.iret rfl dX6_wrong_55 h
  · replace h := ite_f c h
    refine AW.aload_n dX6_wrong_8 0 rfl ?_
    refine AW.iconst (v := (0 : Int32)) dX6_wrong_9 rfl ?_
    refine AW.callVI [.int (0 : Int32)] (C_X6_finding h) ok_X6_finding (id0_16_0) rfl rfl w_247 rfl (Nat.le_of_ble_eq_true rfl) (Nat.le_of_ble_eq_true rfl) rfl dX6_wrong_10 (fun r10 σ9 h => ?_)
    exact AW.iret rfl dX6_wrong_13 h
theorem ok_X6_wrong : OkV M_X6_wrong 1 := ⟨w_367, w_368, w_1, w_369, by decide +kernel, (Nat.le_of_ble_eq_true rfl)⟩
def M_X2_isTakenByAnother : MT := (yX2_isTakenByAnother, cX2_isTakenByAnother, 5, some .boolean, 1)
def f_X2_isTakenByAnother (i0 : Nat) (a1 : Int32) (a2 : Int32) (a3 : Int32) (σ : Mm) (K : Bool → Mm → Prop) : Prop := (i0 < 3 ∧ (vp_in a1 5 ∧ ((5 * i0 + a1.toNatClampNeg) < 17 ∧ (vp_in a2 8 ∧ (if (σ 1 (5 * i0 + a1.toNatClampNeg) (a2.toNatClampNeg)) = (-1 : Int32) then (K false σ) else (if (σ 1 (5 * i0 + a1.toNatClampNeg) (a2.toNatClampNeg)) = a3 then (K false σ) else (K true σ)))))))
set_option maxRecDepth 100000 in
set_option maxHeartbeats 4000000 in
theorem C_X2_isTakenByAnother {g : GG} {i0 : Nat} {a1 : Int32} {a2 : Int32} {a3 : Int32} {σ : Mm} {K : Bool → Mm → Prop} (h : f_X2_isTakenByAnother i0 a1 a2 a3 σ K) : Ct g 0 M_X2_isTakenByAnother (QB g 0 K) [.ref (gad g 5 i0), .int a1, .int a2, .int a3] σ := by
  unfold f_X2_isTakenByAnother at h
  obtain ⟨hi0, h⟩ := h
  refine Ct.of (L := [(0, .ref (gad g 5 i0)), (1, .int a1), (2, .int a2), (3, .int a3)]) (show plainName RX2 = true by decide) (Nat.le_of_ble_eq_true rfl) rfl ?_
  refine AW.aload_n dX2_isTakenByAnother_0 0 rfl ?_
  refine AW.get (k := 1) (v := .ref (gad g 6 i0)) (ids_in (Nat.le_of_ble_eq_true rfl) hi0) rfl rfl inGX2 (Nat.le_of_ble_eq_true rfl) w_95 rfl dX2_isTakenByAnother_1 ?_
  refine AW.iload_n dX2_isTakenByAnother_4 1 rfl ?_
  obtain ⟨hq1, h⟩ := h
  obtain ⟨hv2, h⟩ := h
  refine AW.aald (a' := gad g 0 (5 * i0 + a1.toNatClampNeg)) (ty := 1) (ids_in (Nat.le_of_ble_eq_true rfl) hi0) rfl rfl rfl hq1 dX2_isTakenByAnother_5 ?_
  refine AW.get (k := 2) (v := .ref (gad g 1 (5 * i0 + a1.toNatClampNeg))) (ids_in (Nat.le_of_ble_eq_true rfl) hv2) rfl rfl inGX0 (Nat.le_of_ble_eq_true rfl) w_79 rfl dX2_isTakenByAnother_6 ?_
  refine AW.iload_n dX2_isTakenByAnother_9 2 rfl ?_
  obtain ⟨hq3, h⟩ := h
  refine AW.iald (jn := (a2.toNatClampNeg)) (ids_in (Nat.le_of_ble_eq_true rfl) hv2) rfl hq3 rfl dX2_isTakenByAnother_10 ?_
  refine AW.istore (L' := [(0, .ref (gad g 5 i0)), (1, .int a1), (2, .int a2), (3, .int a3), (4, .int (σ 1 (5 * i0 + a1.toNatClampNeg) (a2.toNatClampNeg)))]) dX2_isTakenByAnother_11 (Nat.le_of_ble_eq_true rfl) rfl ?_
  refine AW.iload dX2_isTakenByAnother_13 4 rfl ?_
  refine AW.iconst (v := (-1 : Int32)) dX2_isTakenByAnother_15 rfl ?_
  refine AW.icmp_eq (tgt := 29) dX2_isTakenByAnother_16 rfl (fun c => ?_) (fun c => ?_)
  · replace h := ite_t c h
    refine AW.iconst (v := (0 : Int32)) dX2_isTakenByAnother_29 rfl ?_
    exact AW.bret false rfl rfl dX2_isTakenByAnother_30 h
  · replace h := ite_f c h
    refine AW.iload dX2_isTakenByAnother_19 4 rfl ?_
    refine AW.iload_n dX2_isTakenByAnother_21 3 rfl ?_
    refine AW.icmp_eq (tgt := 29) dX2_isTakenByAnother_22 rfl (fun c => ?_) (fun c => ?_)
    · replace h := ite_t c h
      refine AW.iconst (v := (0 : Int32)) dX2_isTakenByAnother_29 rfl ?_
      exact AW.bret false rfl rfl dX2_isTakenByAnother_30 h
    · replace h := ite_f c h
      refine AW.iconst (v := (1 : Int32)) dX2_isTakenByAnother_25 rfl ?_
      refine AW.goto (tgt := 30) dX2_isTakenByAnother_26 rfl ?_
      exact AW.bret true rfl rfl dX2_isTakenByAnother_30 h
theorem ok_X2_isTakenByAnother : OkV M_X2_isTakenByAnother 3 := ⟨w_376, w_377, w_2, w_378, by decide +kernel, (Nat.le_of_ble_eq_true rfl)⟩
def M_X0_seatOf : MT := (yX0_seatOf, cX0_seatOf, 3, some .int, 1)
set_option maxRecDepth 100000 in
def f_X0_seatOf_2 (i0 : Nat) (a1 : Int32) (K : Int32 → Mm → Prop) : Nat → Int32 → Mm → Prop
  | 0, _, _ => False
  | n + 1, a2, σ => (if (σ 0 i0 1) ≤ a2 then (K (-1 : Int32) σ) else (vp_in a2 8 ∧ (if (σ 1 i0 (a2.toNatClampNeg)) = a1 then (K a2 σ) else (f_X0_seatOf_2 i0 a1 K n (a2 + (1 : Int32)) σ))))
set_option maxRecDepth 100000 in
set_option maxHeartbeats 4000000 in
theorem T_X0_seatOf_2 {g : GG} {i0 : Nat} {a1 : Int32} {K : Int32 → Mm → Prop} (hi0 : i0 < 17) : ∀ (n : Nat) (a2 : Int32) (σ : Mm), f_X0_seatOf_2 i0 a1 K n a2 σ → AW g 0 M_X0_seatOf (QI g 0 K) 2 [(0, .ref (gad g 0 i0)), (1, .int a1), (2, .int a2)] [] σ := by
  intro n
  induction n with
  | zero => intro a2 σ h; exact False.elim h
  | succ n ih =>
    intro a2 σ h
    rw [f_X0_seatOf_2] at h
    refine AW.iload_n dX0_seatOf_2 2 rfl ?_
    refine AW.aload_n dX0_seatOf_3 0 rfl ?_
    refine AW.get (k := 1) (v := .int (σ 0 i0 1)) (ids_in (Nat.le_of_ble_eq_true rfl) hi0) rfl rfl inGX0 (Nat.le_of_ble_eq_true rfl) w_72 rfl dX0_seatOf_4 ?_
    refine AW.icmp_ge (tgt := 28) dX0_seatOf_7 rfl (fun c => ?_) (fun c => ?_)
    · replace h := ite_t c h
      refine AW.iconst (v := (-1 : Int32)) dX0_seatOf_28 rfl ?_
      exact AW.iret rfl dX0_seatOf_29 h
    · replace h := ite_f c h
      refine AW.aload_n dX0_seatOf_10 0 rfl ?_
      refine AW.get (k := 2) (v := .ref (gad g 1 i0)) (ids_in (Nat.le_of_ble_eq_true rfl) hi0) rfl rfl inGX0 (Nat.le_of_ble_eq_true rfl) w_78 rfl dX0_seatOf_11 ?_
      refine AW.iload_n dX0_seatOf_14 2 rfl ?_
      obtain ⟨hq1, h⟩ := h
      refine AW.iald (jn := (a2.toNatClampNeg)) (ids_in (Nat.le_of_ble_eq_true rfl) hi0) rfl hq1 rfl dX0_seatOf_15 ?_
      refine AW.iload_n dX0_seatOf_16 1 rfl ?_
      refine AW.icmp_ne (tgt := 22) dX0_seatOf_17 rfl (fun c => ?_) (fun c => ?_)
      · replace h := ite_f c h
        refine AW.iinc (v := (a2 + (1 : Int32))) (L' := [(0, .ref (gad g 0 i0)), (1, .int a1), (2, .int (a2 + (1 : Int32)))]) dX0_seatOf_22 2 rfl rfl (Nat.le_of_ble_eq_true rfl) rfl ?_
        refine AW.goto (tgt := 2) dX0_seatOf_25 rfl ?_
        exact ih _ _ h
      · replace h := ite_t c h
        refine AW.iload_n dX0_seatOf_20 2 rfl ?_
        exact AW.iret rfl dX0_seatOf_21 h
def f_X0_seatOf (i0 : Nat) (a1 : Int32) (σ : Mm) (K : Int32 → Mm → Prop) : Prop := (i0 < 17 ∧ (∃ m, f_X0_seatOf_2 i0 a1 K m (0 : Int32) σ))
set_option maxRecDepth 100000 in
set_option maxHeartbeats 4000000 in
theorem C_X0_seatOf {g : GG} {i0 : Nat} {a1 : Int32} {σ : Mm} {K : Int32 → Mm → Prop} (h : f_X0_seatOf i0 a1 σ K) : Ct g 0 M_X0_seatOf (QI g 0 K) [.ref (gad g 0 i0), .int a1] σ := by
  unfold f_X0_seatOf at h
  obtain ⟨hi0, h⟩ := h
  refine Ct.of (L := [(0, .ref (gad g 0 i0)), (1, .int a1)]) (show plainName RX0 = true by decide) (Nat.le_of_ble_eq_true rfl) rfl ?_
  refine AW.iconst (v := (0 : Int32)) dX0_seatOf_0 rfl ?_
  refine AW.istore_n (L' := [(0, .ref (gad g 0 i0)), (1, .int a1), (2, .int (0 : Int32))]) dX0_seatOf_1 (Nat.le_of_ble_eq_true rfl) rfl ?_
  obtain ⟨m, h⟩ := h
  refine T_X0_seatOf_2 hi0 m _ _ h
theorem ok_X0_seatOf : OkV M_X0_seatOf 1 := ⟨w_392, w_393, w_5, w_394, by decide +kernel, (Nat.le_of_ble_eq_true rfl)⟩
def M_X2_benchWith : MT := (yX2_benchWith, cX2_benchWith, 3, some .int, 2)
set_option maxRecDepth 100000 in
def f_X2_benchWith_2 (i0 : Nat) (a1 : Int32) (K : Int32 → Mm → Prop) : Nat → Int32 → Mm → Prop
  | 0, _, _ => False
  | n + 1, a2, σ => (if (σ 5 i0 2) ≤ a2 then (K (-1 : Int32) σ) else (vp_in a2 5 ∧ ((5 * i0 + a2.toNatClampNeg) < 17 ∧ (f_X0_seatOf (5 * i0 + a2.toNatClampNeg) a1 σ (fun r4 σ3 => (if r4 = (-1 : Int32) then (f_X2_benchWith_2 i0 a1 K n (a2 + (1 : Int32)) σ3) else (K a2 σ3)))))))
set_option maxRecDepth 100000 in
set_option maxHeartbeats 4000000 in
theorem T_X2_benchWith_2 {g : GG} {i0 : Nat} {a1 : Int32} {K : Int32 → Mm → Prop} (hi0 : i0 < 3) : ∀ (n : Nat) (a2 : Int32) (σ : Mm), f_X2_benchWith_2 i0 a1 K n a2 σ → AW g 0 M_X2_benchWith (QI g 0 K) 2 [(0, .ref (gad g 5 i0)), (1, .int a1), (2, .int a2)] [] σ := by
  intro n
  induction n with
  | zero => intro a2 σ h; exact False.elim h
  | succ n ih =>
    intro a2 σ h
    rw [f_X2_benchWith_2] at h
    refine AW.iload_n dX2_benchWith_2 2 rfl ?_
    refine AW.aload_n dX2_benchWith_3 0 rfl ?_
    refine AW.get (k := 2) (v := .int (σ 5 i0 2)) (ids_in (Nat.le_of_ble_eq_true rfl) hi0) rfl rfl inGX2 (Nat.le_of_ble_eq_true rfl) w_98 rfl dX2_benchWith_4 ?_
    refine AW.icmp_ge (tgt := 32) dX2_benchWith_7 rfl (fun c => ?_) (fun c => ?_)
    · replace h := ite_t c h
      refine AW.iconst (v := (-1 : Int32)) dX2_benchWith_32 rfl ?_
      exact AW.iret rfl dX2_benchWith_33 h
    · replace h := ite_f c h
      refine AW.aload_n dX2_benchWith_10 0 rfl ?_
      refine AW.get (k := 1) (v := .ref (gad g 6 i0)) (ids_in (Nat.le_of_ble_eq_true rfl) hi0) rfl rfl inGX2 (Nat.le_of_ble_eq_true rfl) w_95 rfl dX2_benchWith_11 ?_
      refine AW.iload_n dX2_benchWith_14 2 rfl ?_
      obtain ⟨hq1, h⟩ := h
      obtain ⟨hv2, h⟩ := h
      refine AW.aald (a' := gad g 0 (5 * i0 + a2.toNatClampNeg)) (ty := 1) (ids_in (Nat.le_of_ble_eq_true rfl) hi0) rfl rfl rfl hq1 dX2_benchWith_15 ?_
      refine AW.iload_n dX2_benchWith_16 1 rfl ?_
      refine AW.callVI [.int a1] (C_X0_seatOf h) ok_X0_seatOf (ids_in (Nat.le_of_ble_eq_true rfl) hv2) rfl rfl w_391 rfl (Nat.le_of_ble_eq_true rfl) (Nat.le_of_ble_eq_true rfl) rfl dX2_benchWith_17 (fun r4 σ3 h => ?_)
      refine AW.iconst (v := (-1 : Int32)) dX2_benchWith_20 rfl ?_
      refine AW.icmp_eq (tgt := 26) dX2_benchWith_21 rfl (fun c => ?_) (fun c => ?_)
      · replace h := ite_t c h
        refine AW.iinc (v := (a2 + (1 : Int32))) (L' := [(0, .ref (gad g 5 i0)), (1, .int a1), (2, .int (a2 + (1 : Int32)))]) dX2_benchWith_26 2 rfl rfl (Nat.le_of_ble_eq_true rfl) rfl ?_
        refine AW.goto (tgt := 2) dX2_benchWith_29 rfl ?_
        exact ih _ _ h
      · replace h := ite_f c h
        refine AW.iload_n dX2_benchWith_24 2 rfl ?_
        exact AW.iret rfl dX2_benchWith_25 h
def f_X2_benchWith (i0 : Nat) (a1 : Int32) (σ : Mm) (K : Int32 → Mm → Prop) : Prop := (i0 < 3 ∧ (∃ m, f_X2_benchWith_2 i0 a1 K m (0 : Int32) σ))
set_option maxRecDepth 100000 in
set_option maxHeartbeats 4000000 in
theorem C_X2_benchWith {g : GG} {i0 : Nat} {a1 : Int32} {σ : Mm} {K : Int32 → Mm → Prop} (h : f_X2_benchWith i0 a1 σ K) : Ct g 0 M_X2_benchWith (QI g 0 K) [.ref (gad g 5 i0), .int a1] σ := by
  unfold f_X2_benchWith at h
  obtain ⟨hi0, h⟩ := h
  refine Ct.of (L := [(0, .ref (gad g 5 i0)), (1, .int a1)]) (show plainName RX2 = true by decide) (Nat.le_of_ble_eq_true rfl) rfl ?_
  refine AW.iconst (v := (0 : Int32)) dX2_benchWith_0 rfl ?_
  refine AW.istore_n (L' := [(0, .ref (gad g 5 i0)), (1, .int a1), (2, .int (0 : Int32))]) dX2_benchWith_1 (Nat.le_of_ble_eq_true rfl) rfl ?_
  obtain ⟨m, h⟩ := h
  refine T_X2_benchWith_2 hi0 m _ _ h
theorem ok_X2_benchWith : OkV M_X2_benchWith 1 := ⟨w_388, w_389, w_2, w_390, by decide +kernel, (Nat.le_of_ble_eq_true rfl)⟩
def M_X0_empty : MT := (yX0_empty, cX0_empty, 3, none, 2)
def f_X0_empty (i0 : Nat) (a1 : Int32) (σ : Mm) (K : Mm → Prop) : Prop := (i0 < 17 ∧ (f_X0_seatOf i0 a1 σ (fun r2 σ1 => (if r2 = (-1 : Int32) then (K σ1) else (vp_in r2 8 ∧ (∃ σ4, σ4 = mset σ1 1 i0 (r2.toNatClampNeg) (-1 : Int32) ∧ (K σ4)))))))
set_option maxRecDepth 100000 in
set_option maxHeartbeats 4000000 in
theorem C_X0_empty {g : GG} {i0 : Nat} {a1 : Int32} {σ : Mm} {K : Mm → Prop} (h : f_X0_empty i0 a1 σ K) : Ct g 0 M_X0_empty (QV g 0 K) [.ref (gad g 0 i0), .int a1] σ := by
  unfold f_X0_empty at h
  obtain ⟨hi0, h⟩ := h
  refine Ct.of (L := [(0, .ref (gad g 0 i0)), (1, .int a1)]) (show plainName RX0 = true by decide) (Nat.le_of_ble_eq_true rfl) rfl ?_
  refine AW.aload_n dX0_empty_0 0 rfl ?_
  refine AW.iload_n dX0_empty_1 1 rfl ?_
  refine AW.callVI [.int a1] (C_X0_seatOf h) ok_X0_seatOf (ids_in (Nat.le_of_ble_eq_true rfl) hi0) rfl rfl w_399 rfl (Nat.le_of_ble_eq_true rfl) (Nat.le_of_ble_eq_true rfl) rfl dX0_empty_2 (fun r2 σ1 h => ?_)
  refine AW.istore_n (L' := [(0, .ref (gad g 0 i0)), (1, .int a1), (2, .int r2)]) dX0_empty_5 (Nat.le_of_ble_eq_true rfl) rfl ?_
  refine AW.iload_n dX0_empty_6 2 rfl ?_
  refine AW.iconst (v := (-1 : Int32)) dX0_empty_7 rfl ?_
  refine AW.icmp_eq (tgt := 18) dX0_empty_8 rfl (fun c => ?_) (fun c => ?_)
  · replace h := ite_t c h
    exact AW.vret rfl dX0_empty_18 h
  · replace h := ite_f c h
    refine AW.aload_n dX0_empty_11 0 rfl ?_
    refine AW.get (k := 2) (v := .ref (gad g 1 i0)) (ids_in (Nat.le_of_ble_eq_true rfl) hi0) rfl rfl inGX0 (Nat.le_of_ble_eq_true rfl) w_78 rfl dX0_empty_12 ?_
    refine AW.iload_n dX0_empty_15 2 rfl ?_
    refine AW.iconst (v := (-1 : Int32)) dX0_empty_16 rfl ?_
    obtain ⟨hq3, h⟩ := h
    refine AW.iast (jn := (r2.toNatClampNeg)) (ids_in (Nat.le_of_ble_eq_true rfl) hi0) (fun _ => rfl) hq3 rfl dX0_empty_17 ?_
    obtain ⟨σ4, eσ4, h⟩ := h
    rw [← eσ4]
    exact AW.vret rfl dX0_empty_18 h
theorem ok_X0_empty : OkV M_X0_empty 1 := ⟨w_396, w_397, w_5, w_398, by decide +kernel, (Nat.le_of_ble_eq_true rfl)⟩
def M_X2_lift : MT := (yX2_lift, cX2_lift, 3, some .boolean, 3)
def f_X2_lift (i0 : Nat) (a1 : Int32) (σ : Mm) (K : Bool → Mm → Prop) : Prop := (i0 < 3 ∧ (f_X2_benchWith i0 a1 σ (fun r2 σ1 => (if r2 = (-1 : Int32) then (K false σ1) else (vp_in r2 5 ∧ ((5 * i0 + r2.toNatClampNeg) < 17 ∧ (f_X0_empty (5 * i0 + r2.toNatClampNeg) a1 σ1 (fun σ5 => (K true σ5)))))))))
set_option maxRecDepth 100000 in
set_option maxHeartbeats 4000000 in
theorem C_X2_lift {g : GG} {i0 : Nat} {a1 : Int32} {σ : Mm} {K : Bool → Mm → Prop} (h : f_X2_lift i0 a1 σ K) : Ct g 0 M_X2_lift (QB g 0 K) [.ref (gad g 5 i0), .int a1] σ := by
  unfold f_X2_lift at h
  obtain ⟨hi0, h⟩ := h
  refine Ct.of (L := [(0, .ref (gad g 5 i0)), (1, .int a1)]) (show plainName RX2 = true by decide) (Nat.le_of_ble_eq_true rfl) rfl ?_
  refine AW.aload_n dX2_lift_0 0 rfl ?_
  refine AW.iload_n dX2_lift_1 1 rfl ?_
  refine AW.callVI [.int a1] (C_X2_benchWith h) ok_X2_benchWith (ids_in (Nat.le_of_ble_eq_true rfl) hi0) rfl rfl w_387 rfl (Nat.le_of_ble_eq_true rfl) (Nat.le_of_ble_eq_true rfl) rfl dX2_lift_2 (fun r2 σ1 h => ?_)
  refine AW.istore_n (L' := [(0, .ref (gad g 5 i0)), (1, .int a1), (2, .int r2)]) dX2_lift_5 (Nat.le_of_ble_eq_true rfl) rfl ?_
  refine AW.iload_n dX2_lift_6 2 rfl ?_
  refine AW.iconst (v := (-1 : Int32)) dX2_lift_7 rfl ?_
  refine AW.icmp_ne (tgt := 13) dX2_lift_8 rfl (fun c => ?_) (fun c => ?_)
  · replace h := ite_f c h
    refine AW.aload_n dX2_lift_13 0 rfl ?_
    refine AW.get (k := 1) (v := .ref (gad g 6 i0)) (ids_in (Nat.le_of_ble_eq_true rfl) hi0) rfl rfl inGX2 (Nat.le_of_ble_eq_true rfl) w_95 rfl dX2_lift_14 ?_
    refine AW.iload_n dX2_lift_17 2 rfl ?_
    obtain ⟨hq3, h⟩ := h
    obtain ⟨hv4, h⟩ := h
    refine AW.aald (a' := gad g 0 (5 * i0 + r2.toNatClampNeg)) (ty := 1) (ids_in (Nat.le_of_ble_eq_true rfl) hi0) rfl rfl rfl hq3 dX2_lift_18 ?_
    refine AW.iload_n dX2_lift_19 1 rfl ?_
    refine AW.callVV [.int a1] (C_X0_empty h) ok_X0_empty (ids_in (Nat.le_of_ble_eq_true rfl) hv4) rfl rfl w_395 rfl (Nat.le_of_ble_eq_true rfl) (Nat.le_of_ble_eq_true rfl) rfl dX2_lift_20 (fun σ5 h => ?_)
    refine AW.iconst (v := (1 : Int32)) dX2_lift_23 rfl ?_
    exact AW.bret true rfl rfl dX2_lift_24 h
  · replace h := ite_t c h
    refine AW.iconst (v := (0 : Int32)) dX2_lift_11 rfl ?_
    exact AW.bret false rfl rfl dX2_lift_12 h
theorem ok_X2_lift : OkV M_X2_lift 1 := ⟨w_384, w_385, w_2, w_386, by decide +kernel, (Nat.le_of_ble_eq_true rfl)⟩
def M_X2_putDown : MT := (yX2_putDown, cX2_putDown, 4, none, 4)
def f_X2_putDown (i0 : Nat) (a1 : Int32) (a2 : Int32) (a3 : Int32) (σ : Mm) (K : Mm → Prop) : Prop := (i0 < 3 ∧ (f_X2_lift i0 a1 σ (fun b2 σ1 => (vp_in a2 5 ∧ ((5 * i0 + a2.toNatClampNeg) < 17 ∧ (vp_in a3 8 ∧ (∃ σ6, σ6 = mset σ1 1 (5 * i0 + a2.toNatClampNeg) (a3.toNatClampNeg) a1 ∧ (K σ6))))))))
set_option maxRecDepth 100000 in
set_option maxHeartbeats 4000000 in
theorem C_X2_putDown {g : GG} {i0 : Nat} {a1 : Int32} {a2 : Int32} {a3 : Int32} {σ : Mm} {K : Mm → Prop} (h : f_X2_putDown i0 a1 a2 a3 σ K) : Ct g 0 M_X2_putDown (QV g 0 K) [.ref (gad g 5 i0), .int a1, .int a2, .int a3] σ := by
  unfold f_X2_putDown at h
  obtain ⟨hi0, h⟩ := h
  refine Ct.of (L := [(0, .ref (gad g 5 i0)), (1, .int a1), (2, .int a2), (3, .int a3)]) (show plainName RX2 = true by decide) (Nat.le_of_ble_eq_true rfl) rfl ?_
  refine AW.aload_n dX2_putDown_0 0 rfl ?_
  refine AW.iload_n dX2_putDown_1 1 rfl ?_
  refine AW.callVB [.int a1] (C_X2_lift h) ok_X2_lift (ids_in (Nat.le_of_ble_eq_true rfl) hi0) rfl rfl w_383 rfl (Nat.le_of_ble_eq_true rfl) (Nat.le_of_ble_eq_true rfl) rfl dX2_putDown_2 (fun b2 σ1 h => ?_)
  refine AW.pop dX2_putDown_5 rfl ?_
  refine AW.aload_n dX2_putDown_6 0 rfl ?_
  refine AW.get (k := 1) (v := .ref (gad g 6 i0)) (ids_in (Nat.le_of_ble_eq_true rfl) hi0) rfl rfl inGX2 (Nat.le_of_ble_eq_true rfl) w_95 rfl dX2_putDown_7 ?_
  refine AW.iload_n dX2_putDown_10 2 rfl ?_
  obtain ⟨hq3, h⟩ := h
  obtain ⟨hv4, h⟩ := h
  refine AW.aald (a' := gad g 0 (5 * i0 + a2.toNatClampNeg)) (ty := 1) (ids_in (Nat.le_of_ble_eq_true rfl) hi0) rfl rfl rfl hq3 dX2_putDown_11 ?_
  refine AW.get (k := 2) (v := .ref (gad g 1 (5 * i0 + a2.toNatClampNeg))) (ids_in (Nat.le_of_ble_eq_true rfl) hv4) rfl rfl inGX0 (Nat.le_of_ble_eq_true rfl) w_79 rfl dX2_putDown_12 ?_
  refine AW.iload_n dX2_putDown_15 3 rfl ?_
  refine AW.iload_n dX2_putDown_16 1 rfl ?_
  obtain ⟨hq5, h⟩ := h
  refine AW.iast (jn := (a3.toNatClampNeg)) (ids_in (Nat.le_of_ble_eq_true rfl) hv4) (fun _ => rfl) hq5 rfl dX2_putDown_17 ?_
  obtain ⟨σ6, eσ6, h⟩ := h
  rw [← eσ6]
  exact AW.vret rfl dX2_putDown_18 h
theorem ok_X2_putDown : OkV M_X2_putDown 3 := ⟨w_380, w_381, w_2, w_382, by decide +kernel, (Nat.le_of_ble_eq_true rfl)⟩
