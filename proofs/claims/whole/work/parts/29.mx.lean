def M_X2_benchesThatHold : MT := (yX2_benchesThatHold, cX2_benchesThatHold, 3, some .int, 5)
set_option maxRecDepth 100000 in
def f_X2_benchesThatHold_4 (i0 : Nat) (K : Int32 → Mm → Prop) : Nat → Int32 → Int32 → Mm → Prop
  | 0, _, _, _ => False
  | n + 1, a1, a2, σ => (if (σ 5 i0 2) ≤ a2 then (K a1 σ) else (vp_in a2 5 ∧ ((5 * i0 + a2.toNatClampNeg) < 17 ∧ (f_X1_holds i0 (5 * i0 + a2.toNatClampNeg) σ (fun b4 σ3 => (if b4 = true then (f_X2_benchesThatHold_4 i0 K n (a1 + (1 : Int32)) (a2 + (1 : Int32)) σ3) else (f_X2_benchesThatHold_4 i0 K n a1 (a2 + (1 : Int32)) σ3)))))))
set_option maxRecDepth 100000 in
set_option maxHeartbeats 4000000 in
theorem T_X2_benchesThatHold_4 {g : GG} {i0 : Nat} {K : Int32 → Mm → Prop} (hi0 : i0 < 3) : ∀ (n : Nat) (a1 : Int32) (a2 : Int32) (σ : Mm), f_X2_benchesThatHold_4 i0 K n a1 a2 σ → AW g 0 M_X2_benchesThatHold (QI g 0 K) 4 [(0, .ref (gad g 5 i0)), (1, .int a1), (2, .int a2)] [] σ := by
  intro n
  induction n with
  | zero => intro a1 a2 σ h; exact False.elim h
  | succ n ih =>
    intro a1 a2 σ h
    rw [f_X2_benchesThatHold_4] at h
    refine AW.iload_n dX2_benchesThatHold_4 2 rfl ?_
    refine AW.aload_n dX2_benchesThatHold_5 0 rfl ?_
    refine AW.get (k := 2) (v := .int (σ 5 i0 2)) (ids_in (Nat.le_of_ble_eq_true rfl) hi0) rfl rfl inGX2 (Nat.le_of_ble_eq_true rfl) w_98 rfl dX2_benchesThatHold_6 ?_
    refine AW.icmp_ge (tgt := 37) dX2_benchesThatHold_9 rfl (fun c => ?_) (fun c => ?_)
    · replace h := ite_t c h
      refine AW.iload_n dX2_benchesThatHold_37 1 rfl ?_
      exact AW.iret rfl dX2_benchesThatHold_38 h
    · replace h := ite_f c h
      refine AW.aload_n dX2_benchesThatHold_12 0 rfl ?_
      refine AW.get (k := 0) (v := .ref (gad g 2 i0)) (ids_in (Nat.le_of_ble_eq_true rfl) hi0) rfl rfl inGX2 (Nat.le_of_ble_eq_true rfl) w_92 rfl dX2_benchesThatHold_13 ?_
      refine AW.aload_n dX2_benchesThatHold_16 0 rfl ?_
      refine AW.get (k := 1) (v := .ref (gad g 6 i0)) (ids_in (Nat.le_of_ble_eq_true rfl) hi0) rfl rfl inGX2 (Nat.le_of_ble_eq_true rfl) w_95 rfl dX2_benchesThatHold_17 ?_
      refine AW.iload_n dX2_benchesThatHold_20 2 rfl ?_
      obtain ⟨hq1, h⟩ := h
      obtain ⟨hv2, h⟩ := h
      refine AW.aald (a' := gad g 0 (5 * i0 + a2.toNatClampNeg)) (ty := 1) (ids_in (Nat.le_of_ble_eq_true rfl) hi0) rfl rfl rfl hq1 dX2_benchesThatHold_21 ?_
      refine AW.callVB [.ref (gad g 0 (5 * i0 + a2.toNatClampNeg))] (C_X1_holds h) ok_X1_holds (ids_in (Nat.le_of_ble_eq_true rfl) hi0) rfl rfl w_861 rfl (Nat.le_of_ble_eq_true rfl) (Nat.le_of_ble_eq_true rfl) rfl dX2_benchesThatHold_22 (fun b4 σ3 h => ?_)
      refine AW.ifb_eq (tgt := 31) dX2_benchesThatHold_25 rfl (fun c => ?_) (fun c => ?_)
      · replace h := ite_f c h
        refine AW.iinc (v := (a2 + (1 : Int32))) (L' := [(0, .ref (gad g 5 i0)), (1, .int a1), (2, .int (a2 + (1 : Int32)))]) dX2_benchesThatHold_31 2 rfl rfl (Nat.le_of_ble_eq_true rfl) rfl ?_
        refine AW.goto (tgt := 4) dX2_benchesThatHold_34 rfl ?_
        exact ih _ _ _ h
      · replace h := ite_t c h
        refine AW.iinc (v := (a1 + (1 : Int32))) (L' := [(0, .ref (gad g 5 i0)), (1, .int (a1 + (1 : Int32))), (2, .int a2)]) dX2_benchesThatHold_28 1 rfl rfl (Nat.le_of_ble_eq_true rfl) rfl ?_
        refine AW.iinc (v := (a2 + (1 : Int32))) (L' := [(0, .ref (gad g 5 i0)), (1, .int (a1 + (1 : Int32))), (2, .int (a2 + (1 : Int32)))]) dX2_benchesThatHold_31 2 rfl rfl (Nat.le_of_ble_eq_true rfl) rfl ?_
        refine AW.goto (tgt := 4) dX2_benchesThatHold_34 rfl ?_
        exact ih _ _ _ h
def f_X2_benchesThatHold (i0 : Nat) (σ : Mm) (K : Int32 → Mm → Prop) : Prop := (i0 < 3 ∧ (∃ m, f_X2_benchesThatHold_4 i0 K m (0 : Int32) (0 : Int32) σ))
set_option maxRecDepth 100000 in
set_option maxHeartbeats 4000000 in
theorem C_X2_benchesThatHold {g : GG} {i0 : Nat} {σ : Mm} {K : Int32 → Mm → Prop} (h : f_X2_benchesThatHold i0 σ K) : Ct g 0 M_X2_benchesThatHold (QI g 0 K) [.ref (gad g 5 i0)] σ := by
  unfold f_X2_benchesThatHold at h
  obtain ⟨hi0, h⟩ := h
  refine Ct.of (L := [(0, .ref (gad g 5 i0))]) (show plainName RX2 = true by decide) (Nat.le_of_ble_eq_true rfl) rfl ?_
  refine AW.iconst (v := (0 : Int32)) dX2_benchesThatHold_0 rfl ?_
  refine AW.istore_n (L' := [(0, .ref (gad g 5 i0)), (1, .int (0 : Int32))]) dX2_benchesThatHold_1 (Nat.le_of_ble_eq_true rfl) rfl ?_
  refine AW.iconst (v := (0 : Int32)) dX2_benchesThatHold_2 rfl ?_
  refine AW.istore_n (L' := [(0, .ref (gad g 5 i0)), (1, .int (0 : Int32)), (2, .int (0 : Int32))]) dX2_benchesThatHold_3 (Nat.le_of_ble_eq_true rfl) rfl ?_
  obtain ⟨m, h⟩ := h
  refine T_X2_benchesThatHold_4 hi0 m _ _ _ h
theorem ok_X2_benchesThatHold : OkV M_X2_benchesThatHold 0 := ⟨w_858, w_859, w_2, w_860, by decide +kernel, (Nat.le_of_ble_eq_true rfl)⟩
def M_X6_count : MT := (yX6_count, cX6_count, 2, some .int, 6)
def f_X6_count (a1 : Int32) (σ : Mm) (K : Int32 → Mm → Prop) : Prop := (if a1 = (0 : Int32) then (K (σ 5 0 2) σ) else (if a1 = (1 : Int32) then (f_X2_howManySit 0 σ (fun r4 σ3 => (K r4 σ3))) else (if a1 = (2 : Int32) then (f_X1_pairsThatCount 0 σ (fun r6 σ5 => (K r6 σ5))) else (if a1 = (3 : Int32) then (f_X1_secretPairs 0 σ (fun r8 σ7 => (K r8 σ7))) else (if a1 = (4 : Int32) then (K (σ 2 0 3) σ) else (if a1 = (5 : Int32) then (K (σ 16 0 7) σ) else (if a1 = (6 : Int32) then (K (σ 5 0 4) σ) else (if a1 = (7 : Int32) then (f_X2_benchesThatHold 0 σ (fun r10 σ9 => (K r10 σ9))) else (f_X6_finding (0 : Int32) σ (fun r2 σ1 => (K r2 σ1)))))))))))
set_option maxRecDepth 100000 in
set_option maxHeartbeats 4000000 in
theorem C_X6_count {g : GG} {a1 : Int32} {σ : Mm} {K : Int32 → Mm → Prop} (h : f_X6_count a1 σ K) : Ct g 0 M_X6_count (QI g 0 K) [.ref (gad g 16 0), .int a1] σ := by
  unfold f_X6_count at h
  refine Ct.of (L := [(0, .ref (gad g 16 0)), (1, .int a1)]) (show plainName RX6 = true by decide) (Nat.le_of_ble_eq_true rfl) rfl ?_
  refine AW.iload_n dX6_count_0 1 rfl ?_
  by_cases c0 : a1 = (0 : Int32)
  · replace h := ite_t c0 h
    refine AW.tswIn (tgt := 48) (0 : Int32) dX6_count_1 c0 (by decide) (by decide) rfl rfl ?_
    refine AW.aload_n dX6_count_48 0 rfl ?_
    refine AW.get (k := 0) (v := .ref (gad g 5 0)) (id0_16_0) rfl rfl inGX6 (Nat.le_of_ble_eq_true rfl) w_203 rfl dX6_count_49 ?_
    refine AW.get (k := 2) (v := .int (σ 5 0 2)) (id0_5_0) rfl rfl inGX2 (Nat.le_of_ble_eq_true rfl) w_99 rfl dX6_count_52 ?_
    exact AW.iret rfl dX6_count_55 h
  · replace h := ite_f c0 h
    by_cases c1 : a1 = (1 : Int32)
    · replace h := ite_t c1 h
      refine AW.tswIn (tgt := 56) (1 : Int32) dX6_count_1 c1 (by decide) (by decide) rfl rfl ?_
      refine AW.aload_n dX6_count_56 0 rfl ?_
      refine AW.get (k := 0) (v := .ref (gad g 5 0)) (id0_16_0) rfl rfl inGX6 (Nat.le_of_ble_eq_true rfl) w_203 rfl dX6_count_57 ?_
      refine AW.callVI [] (C_X2_howManySit h) ok_X2_howManySit (id0_5_0) rfl rfl w_842 rfl (Nat.le_of_ble_eq_true rfl) (Nat.le_of_ble_eq_true rfl) rfl dX6_count_60 (fun r4 σ3 h => ?_)
      exact AW.iret rfl dX6_count_63 h
    · replace h := ite_f c1 h
      by_cases c2 : a1 = (2 : Int32)
      · replace h := ite_t c2 h
        refine AW.tswIn (tgt := 64) (2 : Int32) dX6_count_1 c2 (by decide) (by decide) rfl rfl ?_
        refine AW.aload_n dX6_count_64 0 rfl ?_
        refine AW.get (k := 0) (v := .ref (gad g 5 0)) (id0_16_0) rfl rfl inGX6 (Nat.le_of_ble_eq_true rfl) w_203 rfl dX6_count_65 ?_
        refine AW.get (k := 0) (v := .ref (gad g 2 0)) (id0_5_0) rfl rfl inGX2 (Nat.le_of_ble_eq_true rfl) w_93 rfl dX6_count_68 ?_
        refine AW.callVI [] (C_X1_pairsThatCount h) ok_X1_pairsThatCount (id0_2_0) rfl rfl w_847 rfl (Nat.le_of_ble_eq_true rfl) (Nat.le_of_ble_eq_true rfl) rfl dX6_count_71 (fun r6 σ5 h => ?_)
        exact AW.iret rfl dX6_count_74 h
      · replace h := ite_f c2 h
        by_cases c3 : a1 = (3 : Int32)
        · replace h := ite_t c3 h
          refine AW.tswIn (tgt := 75) (3 : Int32) dX6_count_1 c3 (by decide) (by decide) rfl rfl ?_
          refine AW.aload_n dX6_count_75 0 rfl ?_
          refine AW.get (k := 0) (v := .ref (gad g 5 0)) (id0_16_0) rfl rfl inGX6 (Nat.le_of_ble_eq_true rfl) w_203 rfl dX6_count_76 ?_
          refine AW.get (k := 0) (v := .ref (gad g 2 0)) (id0_5_0) rfl rfl inGX2 (Nat.le_of_ble_eq_true rfl) w_93 rfl dX6_count_79 ?_
          refine AW.callVI [] (C_X1_secretPairs h) ok_X1_secretPairs (id0_2_0) rfl rfl w_853 rfl (Nat.le_of_ble_eq_true rfl) (Nat.le_of_ble_eq_true rfl) rfl dX6_count_82 (fun r8 σ7 h => ?_)
          exact AW.iret rfl dX6_count_85 h
        · replace h := ite_f c3 h
          by_cases c4 : a1 = (4 : Int32)
          · replace h := ite_t c4 h
            refine AW.tswIn (tgt := 86) (4 : Int32) dX6_count_1 c4 (by decide) (by decide) rfl rfl ?_
            refine AW.aload_n dX6_count_86 0 rfl ?_
            refine AW.get (k := 0) (v := .ref (gad g 5 0)) (id0_16_0) rfl rfl inGX6 (Nat.le_of_ble_eq_true rfl) w_203 rfl dX6_count_87 ?_
            refine AW.get (k := 0) (v := .ref (gad g 2 0)) (id0_5_0) rfl rfl inGX2 (Nat.le_of_ble_eq_true rfl) w_93 rfl dX6_count_90 ?_
            refine AW.get (k := 3) (v := .int (σ 2 0 3)) (id0_2_0) rfl rfl inGX1 (Nat.le_of_ble_eq_true rfl) w_48 rfl dX6_count_93 ?_
            exact AW.iret rfl dX6_count_96 h
          · replace h := ite_f c4 h
            by_cases c5 : a1 = (5 : Int32)
            · replace h := ite_t c5 h
              refine AW.tswIn (tgt := 97) (5 : Int32) dX6_count_1 c5 (by decide) (by decide) rfl rfl ?_
              refine AW.aload_n dX6_count_97 0 rfl ?_
              refine AW.get (k := 7) (v := .int (σ 16 0 7)) (id0_16_0) rfl rfl inGX6 (Nat.le_of_ble_eq_true rfl) w_210 rfl dX6_count_98 ?_
              exact AW.iret rfl dX6_count_101 h
            · replace h := ite_f c5 h
              by_cases c6 : a1 = (6 : Int32)
              · replace h := ite_t c6 h
                refine AW.tswIn (tgt := 102) (6 : Int32) dX6_count_1 c6 (by decide) (by decide) rfl rfl ?_
                refine AW.aload_n dX6_count_102 0 rfl ?_
                refine AW.get (k := 0) (v := .ref (gad g 5 0)) (id0_16_0) rfl rfl inGX6 (Nat.le_of_ble_eq_true rfl) w_203 rfl dX6_count_103 ?_
                refine AW.get (k := 4) (v := .int (σ 5 0 4)) (id0_5_0) rfl rfl inGX2 (Nat.le_of_ble_eq_true rfl) w_104 rfl dX6_count_106 ?_
                exact AW.iret rfl dX6_count_109 h
              · replace h := ite_f c6 h
                by_cases c7 : a1 = (7 : Int32)
                · replace h := ite_t c7 h
                  refine AW.tswIn (tgt := 110) (7 : Int32) dX6_count_1 c7 (by decide) (by decide) rfl rfl ?_
                  refine AW.aload_n dX6_count_110 0 rfl ?_
                  refine AW.get (k := 0) (v := .ref (gad g 5 0)) (id0_16_0) rfl rfl inGX6 (Nat.le_of_ble_eq_true rfl) w_203 rfl dX6_count_111 ?_
                  refine AW.callVI [] (C_X2_benchesThatHold h) ok_X2_benchesThatHold (id0_5_0) rfl rfl w_857 rfl (Nat.le_of_ble_eq_true rfl) (Nat.le_of_ble_eq_true rfl) rfl dX6_count_114 (fun r10 σ9 h => ?_)
                  exact AW.iret rfl dX6_count_117 h
                · replace h := ite_f c7 h
                  refine AW.tswOut (tgt := 118) dX6_count_1 (tsw_out fun k h1 h2 => ?_) rfl ?_
                  · rcases (show k = 0 ∨ k = 1 ∨ k = 2 ∨ k = 3 ∨ k = 4 ∨ k = 5 ∨ k = 6 ∨ k = 7 by omega) with rfl | rfl | rfl | rfl | rfl | rfl | rfl | rfl
                    all_goals assumption
                  · refine AW.aload_n dX6_count_118 0 rfl ?_
                    refine AW.iconst (v := (0 : Int32)) dX6_count_119 rfl ?_
                    refine AW.callVI [.int (0 : Int32)] (C_X6_finding h) ok_X6_finding (id0_16_0) rfl rfl w_247 rfl (Nat.le_of_ble_eq_true rfl) (Nat.le_of_ble_eq_true rfl) rfl dX6_count_120 (fun r2 σ1 h => ?_)
                    exact AW.iret rfl dX6_count_123 h
theorem ok_X6_count : OkV M_X6_count 1 := ⟨w_839, w_840, w_1, w_841, by decide +kernel, (Nat.le_of_ble_eq_true rfl)⟩
def M_X6_status : MT := (yX6_status, cX6_status, 4, some .int, 2)
set_option maxRecDepth 100000 in
def f_X6_status_32 (K : Int32 → Mm → Prop) : Nat → Int32 → Int32 → Mm → Prop
  | 0, _, _, _ => False
  | n + 1, a2, a3, σ => (if (7 : Int32) ≤ a3 then (K a2 σ) else (vp_in a3 7 ∧ (f_X6_status_32 K n (a2 + (σ 15 0 (a3.toNatClampNeg))) (a3 + (1 : Int32)) σ)))
set_option maxRecDepth 100000 in
set_option maxHeartbeats 4000000 in
theorem T_X6_status_32 {g : GG} {K : Int32 → Mm → Prop} : ∀ (n : Nat) (a2 : Int32) (a3 : Int32) (σ : Mm), f_X6_status_32 K n a2 a3 σ → AW g 0 M_X6_status (QI g 0 K) 32 [(0, .ref (gad g 16 0)), (2, .int a2), (3, .int a3)] [] σ := by
  intro n
  induction n with
  | zero => intro a2 a3 σ h; exact False.elim h
  | succ n ih =>
    intro a2 a3 σ h
    rw [f_X6_status_32] at h
    refine AW.iload_n dX6_status_32 2 rfl ?_
    refine AW.bipush (v := (7 : Int32)) dX6_status_33 rfl ?_
    refine AW.icmp_ge (tgt := 53) dX6_status_35 rfl (fun c => ?_) (fun c => ?_)
    · replace h := ite_t c h
      refine AW.iload_n dX6_status_53 1 rfl ?_
      exact AW.iret rfl dX6_status_54 h
    · replace h := ite_f c h
      refine AW.iload_n dX6_status_38 1 rfl ?_
      refine AW.aload_n dX6_status_39 0 rfl ?_
      refine AW.get (k := 10) (v := .ref (gad g 15 0)) (id0_16_0) rfl rfl inGX6 (Nat.le_of_ble_eq_true rfl) w_213 rfl dX6_status_40 ?_
      refine AW.iload_n dX6_status_43 2 rfl ?_
      obtain ⟨hq3, h⟩ := h
      refine AW.iald (jn := (a3.toNatClampNeg)) (id0_15_0) rfl hq3 rfl dX6_status_44 ?_
      refine AW.iadd dX6_status_45 ?_
      refine AW.istore_n (L' := [(0, .ref (gad g 16 0)), (2, .int (a2 + (σ 15 0 (a3.toNatClampNeg)))), (3, .int a3)]) dX6_status_46 (Nat.le_of_ble_eq_true rfl) rfl ?_
      refine AW.iinc (v := (a3 + (1 : Int32))) (L' := [(0, .ref (gad g 16 0)), (2, .int (a2 + (σ 15 0 (a3.toNatClampNeg)))), (3, .int (a3 + (1 : Int32)))]) dX6_status_47 2 rfl rfl (Nat.le_of_ble_eq_true rfl) rfl ?_
      refine AW.goto (tgt := 32) dX6_status_50 rfl ?_
      exact ih _ _ _ h
def f_X6_status (a1 : Int32) (σ : Mm) (K : Int32 → Mm → Prop) : Prop := (if a1 < (-1 : Int32) then (f_X6_finding (0 : Int32) σ (fun r2 σ1 => (K r2 σ1))) else (if a1 < (7 : Int32) then (if a1 < 0 then (∃ m, f_X6_status_32 K m (0 : Int32) (0 : Int32) σ) else (vp_in a1 7 ∧ (K (σ 15 0 (a1.toNatClampNeg)) σ))) else (f_X6_finding (0 : Int32) σ (fun r6 σ5 => (K r6 σ5)))))
set_option maxRecDepth 100000 in
set_option maxHeartbeats 4000000 in
theorem C_X6_status {g : GG} {a1 : Int32} {σ : Mm} {K : Int32 → Mm → Prop} (h : f_X6_status a1 σ K) : Ct g 0 M_X6_status (QI g 0 K) [.ref (gad g 16 0), .int a1] σ := by
  unfold f_X6_status at h
  refine Ct.of (L := [(0, .ref (gad g 16 0)), (1, .int a1)]) (show plainName RX6 = true by decide) (Nat.le_of_ble_eq_true rfl) rfl ?_
  refine AW.iload_n dX6_status_0 1 rfl ?_
  refine AW.iconst (v := (-1 : Int32)) dX6_status_1 rfl ?_
  refine AW.icmp_lt (tgt := 11) dX6_status_2 rfl (fun c => ?_) (fun c => ?_)
  · replace h := ite_t c h
    refine AW.aload_n dX6_status_11 0 rfl ?_
    refine AW.iconst (v := (0 : Int32)) dX6_status_12 rfl ?_
    refine AW.callVI [.int (0 : Int32)] (C_X6_finding h) ok_X6_finding (id0_16_0) rfl rfl w_247 rfl (Nat.le_of_ble_eq_true rfl) (Nat.le_of_ble_eq_true rfl) rfl dX6_status_13 (fun r2 σ1 h => ?_)
    exact AW.iret rfl dX6_status_16 h
  · replace h := ite_f c h
    refine AW.iload_n dX6_status_5 1 rfl ?_
    refine AW.bipush (v := (7 : Int32)) dX6_status_6 rfl ?_
    refine AW.icmp_lt (tgt := 17) dX6_status_8 rfl (fun c => ?_) (fun c => ?_)
    · replace h := ite_t c h
      refine AW.iload_n dX6_status_17 1 rfl ?_
      refine AW.if_lt (tgt := 28) dX6_status_18 rfl (fun c => ?_) (fun c => ?_)
      · replace h := ite_t c h
        refine AW.iconst (v := (0 : Int32)) dX6_status_28 rfl ?_
        refine AW.istore_n (L' := [(0, .ref (gad g 16 0)), (1, .int a1), (2, .int (0 : Int32))]) dX6_status_29 (Nat.le_of_ble_eq_true rfl) rfl ?_
        refine AW.iconst (v := (0 : Int32)) dX6_status_30 rfl ?_
        refine AW.istore_n (L' := [(0, .ref (gad g 16 0)), (1, .int a1), (2, .int (0 : Int32)), (3, .int (0 : Int32))]) dX6_status_31 (Nat.le_of_ble_eq_true rfl) rfl ?_
        obtain ⟨m, h⟩ := h
        refine AW.eqL [0, 2, 3] rfl ?_
        refine T_X6_status_32 m _ _ _ h
      · replace h := ite_f c h
        refine AW.aload_n dX6_status_21 0 rfl ?_
        refine AW.get (k := 10) (v := .ref (gad g 15 0)) (id0_16_0) rfl rfl inGX6 (Nat.le_of_ble_eq_true rfl) w_213 rfl dX6_status_22 ?_
        refine AW.iload_n dX6_status_25 1 rfl ?_
        obtain ⟨hq4, h⟩ := h
        refine AW.iald (jn := (a1.toNatClampNeg)) (id0_15_0) rfl hq4 rfl dX6_status_26 ?_
        exact AW.iret rfl dX6_status_27 h
    · replace h := ite_f c h
      refine AW.aload_n dX6_status_11 0 rfl ?_
      refine AW.iconst (v := (0 : Int32)) dX6_status_12 rfl ?_
      refine AW.callVI [.int (0 : Int32)] (C_X6_finding h) ok_X6_finding (id0_16_0) rfl rfl w_247 rfl (Nat.le_of_ble_eq_true rfl) (Nat.le_of_ble_eq_true rfl) rfl dX6_status_13 (fun r6 σ5 h => ?_)
      exact AW.iret rfl dX6_status_16 h
theorem ok_X6_status : OkV M_X6_status 1 := ⟨w_863, w_864, w_1, w_865, by decide +kernel, (Nat.le_of_ble_eq_true rfl)⟩
