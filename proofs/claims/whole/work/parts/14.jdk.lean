def M_J3_checkIndex : MT := (yJ3_checkIndex_8e157, cJ3_checkIndex_8e157, 3, some .int, 1)
theorem ok_J3_checkIndex : OkS M_J3_checkIndex 3 := ⟨w_694, w_15, w_695, by decide +kernel, (Nat.le_of_ble_eq_true rfl)⟩
theorem C_J3_checkIndex {g : GG} {ly : Nat} {a0 a1 : Int32} {σ : Mm} {K : Int32 → Mm → Prop} (v : Value) (hv : v = .null ∨ ∃ t, v = .ref t) (h0 : ¬ a0 < 0) (h1 : a0 < a1) (h : K a0 σ) : Ct g ly M_J3_checkIndex (QI g ly K) [.int a0, .int a1, v] σ := by
  have main : ∀ L : List (Nat × Value), L[0]? = some (0, .int a0) → L[1]? = some (1, .int a1) → AW g ly M_J3_checkIndex (QI g ly K) 0 L [] σ := by
    intro L q0 q1
    refine AW.iload_n dJ3_checkIndex_8e157_0 0 q0 ?_
    refine AW.if_lt (tgt := 9) dJ3_checkIndex_8e157_1 rfl (fun c => absurd c h0) (fun _ => ?_)
    refine AW.iload_n dJ3_checkIndex_8e157_4 0 q0 ?_
    refine AW.iload_n dJ3_checkIndex_8e157_5 1 q1 ?_
    refine AW.icmp_lt (tgt := 16) dJ3_checkIndex_8e157_6 rfl (fun _ => ?_) (fun c => absurd h1 c)
    refine AW.iload_n dJ3_checkIndex_8e157_16 0 q0 ?_
    exact AW.iret rfl dJ3_checkIndex_8e157_17 h
  rcases hv with rfl | ⟨t, rfl⟩
  · exact Ct.of (L := [(0, .int a0), (1, .int a1), (2, .null)]) (by decide) (Nat.le_of_ble_eq_true rfl) rfl (main _ rfl rfl)
  · exact Ct.of (L := [(0, .int a0), (1, .int a1), (2, .ref t)]) (by decide) (Nat.le_of_ble_eq_true rfl) rfl (main _ rfl rfl)
def M_J0_checkIndex_df160 : MT := (yJ0_checkIndex_df160, cJ0_checkIndex_df160, 2, none, 2)
theorem ok_J0_checkIndex_df160 : OkS M_J0_checkIndex_df160 2 := ⟨w_689, w_13, w_690, by decide +kernel, (Nat.le_of_ble_eq_true rfl)⟩
def f_J0_checkIndex_df160 (a0 a1 : Int32) (σ : Mm) (K : Mm → Prop) : Prop := ¬ a0 < 0 ∧ a0 < a1 ∧ K σ
theorem C_J0_checkIndex_df160 {g : GG} {ly : Nat} {a0 a1 : Int32} {σ : Mm} {K : Mm → Prop} (h : f_J0_checkIndex_df160 a0 a1 σ K) : Ct g ly M_J0_checkIndex_df160 (QV g ly K) [.int a0, .int a1] σ := by
  obtain ⟨h0, h1, h⟩ := h
  refine Ct.of (L := [(0, .int a0), (1, .int a1)]) (by decide) (Nat.le_of_ble_eq_true rfl) rfl ?_
  refine AW.iload_n dJ0_checkIndex_df160_0 0 rfl ?_
  refine AW.iload_n dJ0_checkIndex_df160_1 1 rfl ?_
  refine AW.getsQ w_691 dJ0_checkIndex_df160_2 (fun v hv => ?_)
  refine AW.callSI [.int a0, .int a1, v] (C_J3_checkIndex (K := fun _ u => K u) v hv h0 h1 h) ok_J3_checkIndex w_693 rfl (Nat.le_of_ble_eq_true rfl) (Nat.le_of_ble_eq_true rfl) rfl dJ0_checkIndex_df160_5 (fun r u h => ?_)
  refine AW.pop dJ0_checkIndex_df160_8 rfl ?_
  exact AW.vret rfl dJ0_checkIndex_df160_9 h
