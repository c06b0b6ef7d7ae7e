/-! the constructors: written by wip/whole/mkctor.py -/
theorem GW.norm {k : CT} {M : MT} {mc ms : Nat} {A : Nat → Prop} {Qc : Array Value → State → Outcome → State → Prop} {pc : Nat} {L : List (Nat × Value)} {S : List Value} {ws ws' : va_W} {cl sl : Nat} (hw : ws = ws') (kk : GW k M mc ms A Qc pc L S ws' cl sl) : GW k M mc ms A Qc pc L S ws cl sl := by rw [hw]; exact kk
def M_fillC : MT := (yJ7_fill_53178, cJ7_fill_53178, 4, none, 0)
theorem ok_fillC : OkS M_fillC 2 := ⟨w_38, w_4, w_39, by decide +kernel, (Nat.le_of_ble_eq_true rfl)⟩
theorem fill_fn {f : Nat → Int32} {i : Nat} {v : Int32} : upd (fun j => if j < i then v else f j) i v = fun j => if j < i + 1 then v else f j := by
  funext j
  by_cases c : j = i
  · subst c; rw [upd_eq, if_pos (by omega)]
  · rw [upd_ne c]
    by_cases d : j < i
    · rw [if_pos d, if_pos (by omega)]
    · rw [if_neg d, if_neg (by omega)]
set_option maxRecDepth 100000 in
set_option maxHeartbeats 4000000 in
theorem c_fill (k : CT) (a n : Nat) (f : Nat → Int32) (v : Int32) (hn : n < 2 ^ 31) : CC k M_fillC 0 0 [.ref a, .int v] [(a, .inl (k.2.2 0, n, .inl f))] (fun _ : Unit => [(a, .inl (k.2.2 0, n, .inl (fun j => if j < n then v else f j)))]) := by
  refine CC.of (L := [(0, .ref a), (1, .int v)]) (by decide) (Nat.le_of_ble_eq_true rfl) rfl (fun A => ?_)
  have main : ∀ (d i : Nat), i + d = n → GW k M_fillC 0 0 A (va_Qv (fun _ : Unit => True) (fun u t => va_P k.2.1 vwCl ((fun _ : Unit => [(a, .inl (k.2.2 0, n, .inl (fun j => if j < n then v else f j)))]) u) t.heap ∧ va_D A ((fun _ : Unit => [(a, .inl (k.2.2 0, n, .inl (fun j => if j < n then v else f j)))]) u)) A) 5 [(0, .ref a), (1, .int v), (2, .int (nI i)), (3, .int (nI n))] [] [(a, .inl (k.2.2 0, n, .inl (fun j => if j < i then v else f j)))] 0 0 := by
    intro d
    induction d with
    | zero =>
      intro i hi
      have : i = n := by omega
      subst this
      refine GW.iload_n dJ7_fill_53178_5 2 rfl ?_
      refine GW.iload_n dJ7_fill_53178_6 3 rfl ?_
      refine GW.icmp_ge (tgt := 20) dJ7_fill_53178_7 (by decide) (fun _ => ?_) (fun c => absurd (nI_le (Nat.le_refl i) hn) c)
      exact GW.vret (w1 := (fun _ : Unit => [(a, .inl (k.2.2 0, i, .inl (fun j => if j < i then v else f j)))])) () [0] rfl (by decide) rfl (Nat.le_refl 0) (Nat.le_refl 0) dJ7_fill_53178_20
    | succ d ih =>
      intro i hi
      refine GW.iload_n dJ7_fill_53178_5 2 rfl ?_
      refine GW.iload_n dJ7_fill_53178_6 3 rfl ?_
      refine GW.icmp_ge (tgt := 20) dJ7_fill_53178_7 (by decide) (fun c => absurd c (nI_ge (by omega) hn)) (fun _ => ?_)
      refine GW.aload_n dJ7_fill_53178_10 0 rfl ?_
      refine GW.iload_n dJ7_fill_53178_11 2 rfl ?_
      refine GW.iload_n dJ7_fill_53178_12 1 rfl ?_
      refine GW.iast (q0 := 0) (ws' := [(a, .inl (k.2.2 0, n, .inl (fun j => if j < i + 1 then v else f j)))]) rfl (vp_in_nI (n := i) (by omega) hn) dJ7_fill_53178_13 (by rw [nI_clamp (by omega), fill_fn]; rfl) ?_
      refine GW.iinc (v := nI (i + 1)) (L' := [(0, .ref a), (1, .int v), (2, .int (nI (i + 1))), (3, .int (nI n))]) dJ7_fill_53178_14 2 rfl (nI_1 i) (by decide) rfl ?_
      refine GW.goto (tgt := 5) dJ7_fill_53178_17 (by decide) ?_
      exact ih (i + 1) (by omega)
  refine GW.iconst (v := (0 : Int32)) dJ7_fill_53178_0 (by decide) ?_
  refine GW.istore_n (L' := [(0, .ref a), (1, .int v), (2, .int (0 : Int32))]) dJ7_fill_53178_1 (by decide) rfl ?_
  refine GW.aload_n dJ7_fill_53178_2 0 rfl ?_
  refine GW.alen (v := nI n) (q0 := 0) rfl rfl dJ7_fill_53178_3 ?_
  refine GW.istore_n (L' := [(0, .ref a), (1, .int v), (2, .int (0 : Int32)), (3, .int (nI n))]) dJ7_fill_53178_4 (by decide) rfl ?_
  refine GW.norm (ws' := [(a, .inl (k.2.2 0, n, .inl (fun j => if j < 0 then v else f j)))]) ?_ (main n 0 (by omega))
  have : (fun j => if j < 0 then v else f j) = f := by funext j; rw [if_neg (by omega)]
  rw [this]
def M_X0_init : MT := (yX0_init, cX0_init, 1, none, 1)
theorem ok_X0_init : OkI M_X0_init 0 := ⟨rfl, w_64, w_5, w_65, rfl, by decide +kernel, (Nat.le_of_ble_eq_true rfl)⟩
def w1_X0_init (k : CT) (h0 : Nat) (u : Nat → Nat) : va_W := [(h0, .inr (0, [.int (0 : Int32), .int (1 : Int32), .ref (u 0)])), ((u 0), .inl (k.2.2 0, 8, .inl (fun j => if j < 8 then (-1 : Int32) else (fun _ => 0) j)))]
set_option maxRecDepth 100000 in
set_option maxHeartbeats 4000000 in
theorem c_X0 (k : CT) (h0 : Nat) : CC k M_X0_init 1 8 [.ref h0] [(h0, .inr (0, [.int (0 : Int32), .int (0 : Int32), .null]))] (w1_X0_init k h0) := by
  refine CC.of (L := [(0, .ref h0)]) (by decide) (Nat.le_of_ble_eq_true rfl) rfl (fun A => ?_)
  refine GW.aload_n dX0_init_0 0 rfl ?_
  refine GW.obj dX0_init_1 w_66 w_23 w_24 (Nat.le_of_ble_eq_true rfl) (Nat.le_of_ble_eq_true rfl) ?_
  refine GW.aload_n dX0_init_4 0 rfl ?_
  refine GW.iconst (v := (0 : Int32)) dX0_init_5 (by decide) ?_
  refine GW.put (q0 := 0) (ws' := [(h0, .inr (0, [.int (0 : Int32), .int (0 : Int32), .null]))]) inGX0 tyX0 tyX0_ok nmX0 0 (by decide) rfl rfl w_68 rfl (tyX0_ok 0 (by decide)) rfl rfl (Nat.le_of_ble_eq_true rfl) dX0_init_6 rfl ?_
  refine GW.aload_n dX0_init_9 0 rfl ?_
  refine GW.iconst (v := (1 : Int32)) dX0_init_10 (by decide) ?_
  refine GW.put (q0 := 0) (ws' := [(h0, .inr (0, [.int (0 : Int32), .int (1 : Int32), .null]))]) inGX0 tyX0 tyX0_ok nmX0 1 (by decide) rfl rfl w_72 rfl (tyX0_ok 1 (by decide)) rfl rfl (Nat.le_of_ble_eq_true rfl) dX0_init_11 rfl ?_
  refine GW.aload_n dX0_init_14 0 rfl ?_
  refine GW.bipush (v := (8 : Int32)) dX0_init_15 (by decide) ?_
  refine GW.newa (N := 8) w_59 (by decide) (by decide) (Nat.le_of_ble_eq_true rfl) (Nat.le_of_ble_eq_true rfl) (Nat.le_of_ble_eq_true rfl) dX0_init_17 (fun q1 => ?_)
  refine GW.putF (q0 := 0) (ws' := [(h0, .inr (0, [.int (0 : Int32), .int (1 : Int32), .ref q1])), (q1, .inl (k.2.2 0, 8, .inl (fun _ => 0)))]) inGX0 tyX0 tyX0_ok nmX0 2 (by decide) rfl rfl w_78 rfl rfl rfl (tyX0_ok 2 (by decide)) rfl rfl (Nat.le_of_ble_eq_true rfl) dX0_init_19 rfl ?_
  refine GW.aload_n dX0_init_22 0 rfl ?_
  refine GW.get (q0 := 0) inGX0 2 (by decide) rfl rfl w_78 rfl dX0_init_23 ?_
  refine GW.iconst (v := (-1 : Int32)) dX0_init_26 (by decide) ?_
  refine GW.callS (n := 2) (wr := [(h0, .inr (0, [.int (0 : Int32), .int (1 : Int32), .ref q1]))]) [.ref q1, .int (-1 : Int32)] (c_fill k q1 8 (fun _ => 0) (-1 : Int32) (by decide)) ok_fillC w_67 rfl (Nat.le_of_ble_eq_true rfl) (Nat.le_of_ble_eq_true rfl) rfl [1] [0] rfl rfl (by decide) (by decide) (by decide) (Nat.le_of_ble_eq_true rfl) (Nat.le_of_ble_eq_true rfl) dX0_init_27 (fun _ => ?_)
  refine GW.norm (ws' := [(h0, .inr (0, [.int (0 : Int32), .int (1 : Int32), .ref q1])), (q1, .inl (k.2.2 0, 8, .inl (fun j => if j < 8 then (-1 : Int32) else (fun _ => 0) j)))]) rfl ?_
  exact GW.vret (fun j => [q1].getD j 0) [0, 1] rfl (by decide) rfl (Nat.le_of_ble_eq_true rfl) (Nat.le_of_ble_eq_true rfl) dX0_init_30
def M_X1_init : MT := (yX1_init, cX1_init, 1, none, 1)
theorem ok_X1_init : OkI M_X1_init 0 := ⟨rfl, w_34, w_3, w_35, rfl, by decide +kernel, (Nat.le_of_ble_eq_true rfl)⟩
def w1_X1_init (k : CT) (h0 : Nat) (u : Nat → Nat) : va_W := [(h0, .inr (1, [.ref (u 0), .ref (u 1), .int (0 : Int32), .int (50 : Int32)])), ((u 0), .inl (k.2.2 0, 64, .inl (fun _ => 0))), ((u 1), .inl (k.2.2 0, 8, .inl (fun j => if j < 8 then (10 : Int32) else (fun _ => 0) j)))]
set_option maxRecDepth 100000 in
set_option maxHeartbeats 4000000 in
theorem c_X1 (k : CT) (h0 : Nat) : CC k M_X1_init 2 72 [.ref h0] [(h0, .inr (1, [.null, .null, .int (0 : Int32), .int (0 : Int32)]))] (w1_X1_init k h0) := by
  refine CC.of (L := [(0, .ref h0)]) (by decide) (Nat.le_of_ble_eq_true rfl) rfl (fun A => ?_)
  refine GW.aload_n dX1_init_0 0 rfl ?_
  refine GW.obj dX1_init_1 w_36 w_23 w_24 (Nat.le_of_ble_eq_true rfl) (Nat.le_of_ble_eq_true rfl) ?_
  refine GW.aload_n dX1_init_4 0 rfl ?_
  refine GW.bipush (v := (64 : Int32)) dX1_init_5 (by decide) ?_
  refine GW.newa (N := 64) w_59 (by decide) (by decide) (Nat.le_of_ble_eq_true rfl) (Nat.le_of_ble_eq_true rfl) (Nat.le_of_ble_eq_true rfl) dX1_init_7 (fun q1 => ?_)
  refine GW.putF (q0 := 0) (ws' := [(h0, .inr (1, [.ref q1, .null, .int (0 : Int32), .int (0 : Int32)])), (q1, .inl (k.2.2 0, 64, .inl (fun _ => 0)))]) inGX1 tyX1 tyX1_ok nmX1 0 (by decide) rfl rfl w_40 rfl rfl rfl (tyX1_ok 0 (by decide)) rfl rfl (Nat.le_of_ble_eq_true rfl) dX1_init_9 rfl ?_
  refine GW.aload_n dX1_init_12 0 rfl ?_
  refine GW.bipush (v := (8 : Int32)) dX1_init_13 (by decide) ?_
  refine GW.newa (N := 8) w_59 (by decide) (by decide) (Nat.le_of_ble_eq_true rfl) (Nat.le_of_ble_eq_true rfl) (Nat.le_of_ble_eq_true rfl) dX1_init_15 (fun q2 => ?_)
  refine GW.putF (q0 := 0) (ws' := [(h0, .inr (1, [.ref q1, .ref q2, .int (0 : Int32), .int (0 : Int32)])), (q1, .inl (k.2.2 0, 64, .inl (fun _ => 0))), (q2, .inl (k.2.2 0, 8, .inl (fun _ => 0)))]) inGX1 tyX1 tyX1_ok nmX1 1 (by decide) rfl rfl w_41 rfl rfl rfl (tyX1_ok 1 (by decide)) rfl rfl (Nat.le_of_ble_eq_true rfl) dX1_init_17 rfl ?_
  refine GW.aload_n dX1_init_20 0 rfl ?_
  refine GW.iconst (v := (0 : Int32)) dX1_init_21 (by decide) ?_
  refine GW.put (q0 := 0) (ws' := [(h0, .inr (1, [.ref q1, .ref q2, .int (0 : Int32), .int (0 : Int32)])), (q1, .inl (k.2.2 0, 64, .inl (fun _ => 0))), (q2, .inl (k.2.2 0, 8, .inl (fun _ => 0)))]) inGX1 tyX1 tyX1_ok nmX1 2 (by decide) rfl rfl w_45 rfl (tyX1_ok 2 (by decide)) rfl rfl (Nat.le_of_ble_eq_true rfl) dX1_init_22 rfl ?_
  refine GW.aload_n dX1_init_25 0 rfl ?_
  refine GW.bipush (v := (50 : Int32)) dX1_init_26 (by decide) ?_
  refine GW.put (q0 := 0) (ws' := [(h0, .inr (1, [.ref q1, .ref q2, .int (0 : Int32), .int (50 : Int32)])), (q1, .inl (k.2.2 0, 64, .inl (fun _ => 0))), (q2, .inl (k.2.2 0, 8, .inl (fun _ => 0)))]) inGX1 tyX1 tyX1_ok nmX1 3 (by decide) rfl rfl w_47 rfl (tyX1_ok 3 (by decide)) rfl rfl (Nat.le_of_ble_eq_true rfl) dX1_init_28 rfl ?_
  refine GW.aload_n dX1_init_31 0 rfl ?_
  refine GW.get (q0 := 0) inGX1 1 (by decide) rfl rfl w_41 rfl dX1_init_32 ?_
  refine GW.bipush (v := (10 : Int32)) dX1_init_35 (by decide) ?_
  refine GW.callS (n := 2) (wr := [(h0, .inr (1, [.ref q1, .ref q2, .int (0 : Int32), .int (50 : Int32)])), (q1, .inl (k.2.2 0, 64, .inl (fun _ => 0)))]) [.ref q2, .int (10 : Int32)] (c_fill k q2 8 (fun _ => 0) (10 : Int32) (by decide)) ok_fillC w_37 rfl (Nat.le_of_ble_eq_true rfl) (Nat.le_of_ble_eq_true rfl) rfl [2] [0, 1] rfl rfl (by decide) (by decide) (by decide) (Nat.le_of_ble_eq_true rfl) (Nat.le_of_ble_eq_true rfl) dX1_init_37 (fun _ => ?_)
  refine GW.norm (ws' := [(h0, .inr (1, [.ref q1, .ref q2, .int (0 : Int32), .int (50 : Int32)])), (q1, .inl (k.2.2 0, 64, .inl (fun _ => 0))), (q2, .inl (k.2.2 0, 8, .inl (fun j => if j < 8 then (10 : Int32) else (fun _ => 0) j)))]) rfl ?_
  exact GW.vret (fun j => [q1, q2].getD j 0) [0, 1, 2] rfl (by decide) rfl (Nat.le_of_ble_eq_true rfl) (Nat.le_of_ble_eq_true rfl) dX1_init_40
def M_X4_init : MT := (yX4_init, cX4_init, 1, none, 1)
theorem ok_X4_init : OkI M_X4_init 0 := ⟨rfl, w_187, w_8, w_188, rfl, by decide +kernel, (Nat.le_of_ble_eq_true rfl)⟩
def w1_X4_init (k : CT) (h0 : Nat) (u : Nat → Nat) : va_W := [(h0, .inr (4, [.int (0 : Int32), .int (0 : Int32), .ref (u 0)])), ((u 0), .inl (k.2.2 0, 40, .inl (fun _ => 0)))]
set_option maxRecDepth 100000 in
set_option maxHeartbeats 4000000 in
theorem c_X4 (k : CT) (h0 : Nat) : CC k M_X4_init 1 40 [.ref h0] [(h0, .inr (4, [.int (0 : Int32), .int (0 : Int32), .null]))] (w1_X4_init k h0) := by
  refine CC.of (L := [(0, .ref h0)]) (by decide) (Nat.le_of_ble_eq_true rfl) rfl (fun A => ?_)
  refine GW.aload_n dX4_init_0 0 rfl ?_
  refine GW.obj dX4_init_1 w_189 w_23 w_24 (Nat.le_of_ble_eq_true rfl) (Nat.le_of_ble_eq_true rfl) ?_
  refine GW.aload_n dX4_init_4 0 rfl ?_
  refine GW.iconst (v := (0 : Int32)) dX4_init_5 (by decide) ?_
  refine GW.put (q0 := 0) (ws' := [(h0, .inr (4, [.int (0 : Int32), .int (0 : Int32), .null]))]) inGX4 tyX4 tyX4_ok nmX4 0 (by decide) rfl rfl w_190 rfl (tyX4_ok 0 (by decide)) rfl rfl (Nat.le_of_ble_eq_true rfl) dX4_init_6 rfl ?_
  refine GW.aload_n dX4_init_9 0 rfl ?_
  refine GW.iconst (v := (0 : Int32)) dX4_init_10 (by decide) ?_
  refine GW.put (q0 := 0) (ws' := [(h0, .inr (4, [.int (0 : Int32), .int (0 : Int32), .null]))]) inGX4 tyX4 tyX4_ok nmX4 1 (by decide) rfl rfl w_192 rfl (tyX4_ok 1 (by decide)) rfl rfl (Nat.le_of_ble_eq_true rfl) dX4_init_11 rfl ?_
  refine GW.aload_n dX4_init_14 0 rfl ?_
  refine GW.bipush (v := (40 : Int32)) dX4_init_15 (by decide) ?_
  refine GW.newa (N := 40) w_59 (by decide) (by decide) (Nat.le_of_ble_eq_true rfl) (Nat.le_of_ble_eq_true rfl) (Nat.le_of_ble_eq_true rfl) dX4_init_17 (fun q1 => ?_)
  refine GW.putF (q0 := 0) (ws' := [(h0, .inr (4, [.int (0 : Int32), .int (0 : Int32), .ref q1])), (q1, .inl (k.2.2 0, 40, .inl (fun _ => 0)))]) inGX4 tyX4 tyX4_ok nmX4 2 (by decide) rfl rfl w_194 rfl rfl rfl (tyX4_ok 2 (by decide)) rfl rfl (Nat.le_of_ble_eq_true rfl) dX4_init_19 rfl ?_
  exact GW.vret (fun j => [q1].getD j 0) [0, 1] rfl (by decide) rfl (Nat.le_of_ble_eq_true rfl) (Nat.le_of_ble_eq_true rfl) dX4_init_22
def M_X5_init : MT := (yX5_init, cX5_init, 3, none, 1)
theorem ok_X5_init : OkI M_X5_init 2 := ⟨rfl, w_158, w_7, w_159, rfl, by decide +kernel, (Nat.le_of_ble_eq_true rfl)⟩
def w1_X5_init (k : CT) (h0 a1 a2 : Nat) (u : Nat → Nat) : va_W := [(h0, .inr (5, [.ref a1, .ref a2, .int (0 : Int32), .int (0 : Int32), .int (0 : Int32), .int (0 : Int32), .int (0 : Int32)]))]
set_option maxRecDepth 100000 in
set_option maxHeartbeats 4000000 in
theorem c_X5 (k : CT) (h0 a1 a2 : Nat) : CC k M_X5_init 0 0 [.ref h0, .ref a1, .ref a2] [(h0, .inr (5, [.null, .null, .int (0 : Int32), .int (0 : Int32), .int (0 : Int32), .int (0 : Int32), .int (0 : Int32)]))] (w1_X5_init k h0 a1 a2) := by
  refine CC.of (L := [(0, .ref h0), (1, .ref a1), (2, .ref a2)]) (by decide) (Nat.le_of_ble_eq_true rfl) rfl (fun A => ?_)
  refine GW.aload_n dX5_init_0 0 rfl ?_
  refine GW.obj dX5_init_1 w_160 w_23 w_24 (Nat.le_of_ble_eq_true rfl) (Nat.le_of_ble_eq_true rfl) ?_
  refine GW.aload_n dX5_init_4 0 rfl ?_
  refine GW.iconst (v := (0 : Int32)) dX5_init_5 (by decide) ?_
  refine GW.put (q0 := 0) (ws' := [(h0, .inr (5, [.null, .null, .int (0 : Int32), .int (0 : Int32), .int (0 : Int32), .int (0 : Int32), .int (0 : Int32)]))]) inGX5 tyX5 tyX5_ok nmX5 2 (by decide) rfl rfl w_163 rfl (tyX5_ok 2 (by decide)) rfl rfl (Nat.le_of_ble_eq_true rfl) dX5_init_6 rfl ?_
  refine GW.aload_n dX5_init_9 0 rfl ?_
  refine GW.iconst (v := (0 : Int32)) dX5_init_10 (by decide) ?_
  refine GW.put (q0 := 0) (ws' := [(h0, .inr (5, [.null, .null, .int (0 : Int32), .int (0 : Int32), .int (0 : Int32), .int (0 : Int32), .int (0 : Int32)]))]) inGX5 tyX5 tyX5_ok nmX5 3 (by decide) rfl rfl w_164 rfl (tyX5_ok 3 (by decide)) rfl rfl (Nat.le_of_ble_eq_true rfl) dX5_init_11 rfl ?_
  refine GW.aload_n dX5_init_14 0 rfl ?_
  refine GW.iconst (v := (0 : Int32)) dX5_init_15 (by decide) ?_
  refine GW.put (q0 := 0) (ws' := [(h0, .inr (5, [.null, .null, .int (0 : Int32), .int (0 : Int32), .int (0 : Int32), .int (0 : Int32), .int (0 : Int32)]))]) inGX5 tyX5 tyX5_ok nmX5 4 (by decide) rfl rfl w_165 rfl (tyX5_ok 4 (by decide)) rfl rfl (Nat.le_of_ble_eq_true rfl) dX5_init_16 rfl ?_
  refine GW.aload_n dX5_init_19 0 rfl ?_
  refine GW.iconst (v := (0 : Int32)) dX5_init_20 (by decide) ?_
  refine GW.put (q0 := 0) (ws' := [(h0, .inr (5, [.null, .null, .int (0 : Int32), .int (0 : Int32), .int (0 : Int32), .int (0 : Int32), .int (0 : Int32)]))]) inGX5 tyX5 tyX5_ok nmX5 5 (by decide) rfl rfl w_166 rfl (tyX5_ok 5 (by decide)) rfl rfl (Nat.le_of_ble_eq_true rfl) dX5_init_21 rfl ?_
  refine GW.aload_n dX5_init_24 0 rfl ?_
  refine GW.iconst (v := (0 : Int32)) dX5_init_25 (by decide) ?_
  refine GW.put (q0 := 0) (ws' := [(h0, .inr (5, [.null, .null, .int (0 : Int32), .int (0 : Int32), .int (0 : Int32), .int (0 : Int32), .int (0 : Int32)]))]) inGX5 tyX5 tyX5_ok nmX5 6 (by decide) rfl rfl w_167 rfl (tyX5_ok 6 (by decide)) rfl rfl (Nat.le_of_ble_eq_true rfl) dX5_init_26 rfl ?_
  refine GW.aload_n dX5_init_29 0 rfl ?_
  refine GW.aload_n dX5_init_30 1 rfl ?_
  refine GW.putF (q0 := 0) (ws' := [(h0, .inr (5, [.ref a1, .null, .int (0 : Int32), .int (0 : Int32), .int (0 : Int32), .int (0 : Int32), .int (0 : Int32)]))]) inGX5 tyX5 tyX5_ok nmX5 0 (by decide) rfl rfl w_161 rfl rfl rfl (tyX5_ok 0 (by decide)) rfl rfl (Nat.le_of_ble_eq_true rfl) dX5_init_31 rfl ?_
  refine GW.aload_n dX5_init_34 0 rfl ?_
  refine GW.aload_n dX5_init_35 2 rfl ?_
  refine GW.putF (q0 := 0) (ws' := [(h0, .inr (5, [.ref a1, .ref a2, .int (0 : Int32), .int (0 : Int32), .int (0 : Int32), .int (0 : Int32), .int (0 : Int32)]))]) inGX5 tyX5 tyX5_ok nmX5 1 (by decide) rfl rfl w_162 rfl rfl rfl (tyX5_ok 1 (by decide)) rfl rfl (Nat.le_of_ble_eq_true rfl) dX5_init_36 rfl ?_
  exact GW.vret (fun j => [].getD j 0) [0] rfl (by decide) rfl (Nat.le_of_ble_eq_true rfl) (Nat.le_of_ble_eq_true rfl) dX5_init_39
def M_X2_init : MT := (yX2_init, cX2_init, 2, none, 2)
theorem ok_X2_init : OkI M_X2_init 0 := ⟨rfl, w_28, w_2, w_29, rfl, by decide +kernel, (Nat.le_of_ble_eq_true rfl)⟩
def w1_X2_init (k : CT) (h0 : Nat) (u : Nat → Nat) : va_W := [(h0, .inr (2, [.ref (u 0), .ref (u 3), .int (0 : Int32), .ref (u 14), .int (1 : Int32)])), ((u 0), .inr (1, [.ref (u 1), .ref (u 2), .int (0 : Int32), .int (50 : Int32)])), ((u 1), .inl (k.2.2 0, 64, .inl (fun _ => 0))), ((u 2), .inl (k.2.2 0, 8, .inl (fun j => if j < 8 then (10 : Int32) else (fun _ => 0) j))), ((u 3), .inl (k.2.2 1, 5, .inr (.inr (.inr (.inr (va_up (va_up (va_up (va_up (va_up (fun _ => none) 0 (some (u 4))) 1 (some (u 6))) 2 (some (u 8))) 3 (some (u 10))) 4 (some (u 12)))))))), ((u 4), .inr (0, [.int (0 : Int32), .int (1 : Int32), .ref (u 5)])), ((u 5), .inl (k.2.2 0, 8, .inl (fun j => if j < 8 then (-1 : Int32) else (fun _ => 0) j))), ((u 6), .inr (0, [.int (0 : Int32), .int (1 : Int32), .ref (u 7)])), ((u 7), .inl (k.2.2 0, 8, .inl (fun j => if j < 8 then (-1 : Int32) else (fun _ => 0) j))), ((u 8), .inr (0, [.int (0 : Int32), .int (1 : Int32), .ref (u 9)])), ((u 9), .inl (k.2.2 0, 8, .inl (fun j => if j < 8 then (-1 : Int32) else (fun _ => 0) j))), ((u 10), .inr (0, [.int (0 : Int32), .int (1 : Int32), .ref (u 11)])), ((u 11), .inl (k.2.2 0, 8, .inl (fun j => if j < 8 then (-1 : Int32) else (fun _ => 0) j))), ((u 12), .inr (0, [.int (0 : Int32), .int (1 : Int32), .ref (u 13)])), ((u 13), .inl (k.2.2 0, 8, .inl (fun j => if j < 8 then (-1 : Int32) else (fun _ => 0) j))), ((u 14), .inl (k.2.2 0, 10, .inl (fun j => if j < 10 then (-1 : Int32) else (fun _ => 0) j)))]
set_option maxRecDepth 100000 in
set_option maxHeartbeats 4000000 in
theorem c_X2 (k : CT) (h0 : Nat) : CC k M_X2_init 15 146 [.ref h0] [(h0, .inr (2, [.null, .null, .int (0 : Int32), .null, .int (0 : Int32)]))] (w1_X2_init k h0) := by
  refine CC.of (L := [(0, .ref h0)]) (by decide) (Nat.le_of_ble_eq_true rfl) rfl (fun A => ?_)
  refine GW.aload_n dX2_init_0 0 rfl ?_
  refine GW.obj dX2_init_1 w_30 w_23 w_24 (Nat.le_of_ble_eq_true rfl) (Nat.le_of_ble_eq_true rfl) ?_
  refine GW.aload_n dX2_init_4 0 rfl ?_
  refine GW.new (ci := 1) (fs := [.null, .null, .int (0 : Int32), .int (0 : Int32)]) inGX1 tyX1 tyX1_ok w_31 w_32 w_3 rfl (by decide +kernel) (Nat.le_of_ble_eq_true rfl) (Nat.le_of_ble_eq_true rfl) dX2_init_5 (fun q1 => ?_)
  refine GW.dup dX2_init_8 rfl ?_
  refine GW.callI (n := 0) (wr := [(h0, .inr (2, [.null, .null, .int (0 : Int32), .null, .int (0 : Int32)]))]) [] (c_X1 k q1) ok_X1_init w_33 rfl (Nat.le_of_ble_eq_true rfl) (Nat.le_of_ble_eq_true rfl) rfl [1] [0] rfl rfl (by decide) (by decide) (by decide) (Nat.le_of_ble_eq_true rfl) (Nat.le_of_ble_eq_true rfl) dX2_init_9 (fun u2 => ?_)
  refine GW.norm (ws' := [(h0, .inr (2, [.null, .null, .int (0 : Int32), .null, .int (0 : Int32)])), (q1, .inr (1, [.ref (u2 0), .ref (u2 1), .int (0 : Int32), .int (50 : Int32)])), ((u2 0), .inl (k.2.2 0, 64, .inl (fun _ => 0))), ((u2 1), .inl (k.2.2 0, 8, .inl (fun j => if j < 8 then (10 : Int32) else (fun _ => 0) j)))]) rfl ?_
  refine GW.putF (q0 := 0) (ws' := [(h0, .inr (2, [.ref q1, .null, .int (0 : Int32), .null, .int (0 : Int32)])), (q1, .inr (1, [.ref (u2 0), .ref (u2 1), .int (0 : Int32), .int (50 : Int32)])), ((u2 0), .inl (k.2.2 0, 64, .inl (fun _ => 0))), ((u2 1), .inl (k.2.2 0, 8, .inl (fun j => if j < 8 then (10 : Int32) else (fun _ => 0) j)))]) inGX2 tyX2 tyX2_ok nmX2 0 (by decide) rfl rfl w_92 rfl rfl rfl (tyX2_ok 0 (by decide)) rfl rfl (Nat.le_of_ble_eq_true rfl) dX2_init_12 rfl ?_
  refine GW.aload_n dX2_init_15 0 rfl ?_
  refine GW.iconst (v := (5 : Int32)) dX2_init_16 (by decide) ?_
  refine GW.newq (N := 5) (t0 := 1) w_60 (fun s h => h.2.1) rfl (by decide) (by decide) (Nat.le_of_ble_eq_true rfl) (Nat.le_of_ble_eq_true rfl) (Nat.le_of_ble_eq_true rfl) dX2_init_17 (fun q3 => ?_)
  refine GW.putF (q0 := 0) (ws' := [(h0, .inr (2, [.ref q1, .ref q3, .int (0 : Int32), .null, .int (0 : Int32)])), (q1, .inr (1, [.ref (u2 0), .ref (u2 1), .int (0 : Int32), .int (50 : Int32)])), ((u2 0), .inl (k.2.2 0, 64, .inl (fun _ => 0))), ((u2 1), .inl (k.2.2 0, 8, .inl (fun j => if j < 8 then (10 : Int32) else (fun _ => 0) j))), (q3, .inl (k.2.2 1, 5, .inr (.inr (.inr (.inr (fun _ => none))))))]) inGX2 tyX2 tyX2_ok nmX2 1 (by decide) rfl rfl w_95 rfl rfl rfl (tyX2_ok 1 (by decide)) rfl rfl (Nat.le_of_ble_eq_true rfl) dX2_init_20 rfl ?_
  refine GW.aload_n dX2_init_23 0 rfl ?_
  refine GW.iconst (v := (0 : Int32)) dX2_init_24 (by decide) ?_
  refine GW.put (q0 := 0) (ws' := [(h0, .inr (2, [.ref q1, .ref q3, .int (0 : Int32), .null, .int (0 : Int32)])), (q1, .inr (1, [.ref (u2 0), .ref (u2 1), .int (0 : Int32), .int (50 : Int32)])), ((u2 0), .inl (k.2.2 0, 64, .inl (fun _ => 0))), ((u2 1), .inl (k.2.2 0, 8, .inl (fun j => if j < 8 then (10 : Int32) else (fun _ => 0) j))), (q3, .inl (k.2.2 1, 5, .inr (.inr (.inr (.inr (fun _ => none))))))]) inGX2 tyX2 tyX2_ok nmX2 2 (by decide) rfl rfl w_98 rfl (tyX2_ok 2 (by decide)) rfl rfl (Nat.le_of_ble_eq_true rfl) dX2_init_25 rfl ?_
  refine GW.aload_n dX2_init_28 0 rfl ?_
  refine GW.bipush (v := (10 : Int32)) dX2_init_29 (by decide) ?_
  refine GW.newa (N := 10) w_59 (by decide) (by decide) (Nat.le_of_ble_eq_true rfl) (Nat.le_of_ble_eq_true rfl) (Nat.le_of_ble_eq_true rfl) dX2_init_31 (fun q4 => ?_)
  refine GW.putF (q0 := 0) (ws' := [(h0, .inr (2, [.ref q1, .ref q3, .int (0 : Int32), .ref q4, .int (0 : Int32)])), (q1, .inr (1, [.ref (u2 0), .ref (u2 1), .int (0 : Int32), .int (50 : Int32)])), ((u2 0), .inl (k.2.2 0, 64, .inl (fun _ => 0))), ((u2 1), .inl (k.2.2 0, 8, .inl (fun j => if j < 8 then (10 : Int32) else (fun _ => 0) j))), (q3, .inl (k.2.2 1, 5, .inr (.inr (.inr (.inr (fun _ => none)))))), (q4, .inl (k.2.2 0, 10, .inl (fun _ => 0)))]) inGX2 tyX2 tyX2_ok nmX2 3 (by decide) rfl rfl w_101 rfl rfl rfl (tyX2_ok 3 (by decide)) rfl rfl (Nat.le_of_ble_eq_true rfl) dX2_init_33 rfl ?_
  refine GW.aload_n dX2_init_36 0 rfl ?_
  refine GW.iconst (v := (1 : Int32)) dX2_init_37 (by decide) ?_
  refine GW.put (q0 := 0) (ws' := [(h0, .inr (2, [.ref q1, .ref q3, .int (0 : Int32), .ref q4, .int (1 : Int32)])), (q1, .inr (1, [.ref (u2 0), .ref (u2 1), .int (0 : Int32), .int (50 : Int32)])), ((u2 0), .inl (k.2.2 0, 64, .inl (fun _ => 0))), ((u2 1), .inl (k.2.2 0, 8, .inl (fun j => if j < 8 then (10 : Int32) else (fun _ => 0) j))), (q3, .inl (k.2.2 1, 5, .inr (.inr (.inr (.inr (fun _ => none)))))), (q4, .inl (k.2.2 0, 10, .inl (fun _ => 0)))]) inGX2 tyX2 tyX2_ok nmX2 4 (by decide) rfl rfl w_103 rfl (tyX2_ok 4 (by decide)) rfl rfl (Nat.le_of_ble_eq_true rfl) dX2_init_38 rfl ?_
  refine GW.iconst (v := (0 : Int32)) dX2_init_41 (by decide) ?_
  refine GW.istore_n (L' := [(0, .ref h0), (1, .int (0 : Int32))]) dX2_init_42 (by decide) rfl ?_
  refine GW.iload_n dX2_init_43 1 rfl ?_
  refine GW.iconst (v := (5 : Int32)) dX2_init_44 (by decide) ?_
  refine GW.icmp_ge (tgt := 67) dX2_init_45 (by decide) (fun c => absurd c (by decide)) (fun _ => ?_)
  refine GW.aload_n dX2_init_48 0 rfl ?_
  refine GW.get (q0 := 0) inGX2 1 (by decide) rfl rfl w_95 rfl dX2_init_49 ?_
  refine GW.iload_n dX2_init_52 1 rfl ?_
  refine GW.new (ci := 0) (fs := [.int (0 : Int32), .int (0 : Int32), .null]) inGX0 tyX0 tyX0_ok w_60 w_62 w_5 rfl (by decide +kernel) (Nat.le_of_ble_eq_true rfl) (Nat.le_of_ble_eq_true rfl) dX2_init_53 (fun q5 => ?_)
  refine GW.dup dX2_init_56 rfl ?_
  refine GW.callI (n := 0) (wr := [(h0, .inr (2, [.ref q1, .ref q3, .int (0 : Int32), .ref q4, .int (1 : Int32)])), (q1, .inr (1, [.ref (u2 0), .ref (u2 1), .int (0 : Int32), .int (50 : Int32)])), ((u2 0), .inl (k.2.2 0, 64, .inl (fun _ => 0))), ((u2 1), .inl (k.2.2 0, 8, .inl (fun j => if j < 8 then (10 : Int32) else (fun _ => 0) j))), (q3, .inl (k.2.2 1, 5, .inr (.inr (.inr (.inr (fun _ => none)))))), (q4, .inl (k.2.2 0, 10, .inl (fun _ => 0)))]) [] (c_X0 k q5) ok_X0_init w_63 rfl (Nat.le_of_ble_eq_true rfl) (Nat.le_of_ble_eq_true rfl) rfl [6] [0, 1, 2, 3, 4, 5] rfl rfl (by decide) (by decide) (by decide) (Nat.le_of_ble_eq_true rfl) (Nat.le_of_ble_eq_true rfl) dX2_init_57 (fun u6 => ?_)
  refine GW.norm (ws' := [(h0, .inr (2, [.ref q1, .ref q3, .int (0 : Int32), .ref q4, .int (1 : Int32)])), (q1, .inr (1, [.ref (u2 0), .ref (u2 1), .int (0 : Int32), .int (50 : Int32)])), ((u2 0), .inl (k.2.2 0, 64, .inl (fun _ => 0))), ((u2 1), .inl (k.2.2 0, 8, .inl (fun j => if j < 8 then (10 : Int32) else (fun _ => 0) j))), (q3, .inl (k.2.2 1, 5, .inr (.inr (.inr (.inr (fun _ => none)))))), (q4, .inl (k.2.2 0, 10, .inl (fun _ => 0))), (q5, .inr (0, [.int (0 : Int32), .int (1 : Int32), .ref (u6 0)])), ((u6 0), .inl (k.2.2 0, 8, .inl (fun j => if j < 8 then (-1 : Int32) else (fun _ => 0) j)))]) rfl ?_
  refine GW.astq (q0 := 4) (qk := 6) (t0 := 1) (ci := 0) (ws' := [(h0, .inr (2, [.ref q1, .ref q3, .int (0 : Int32), .ref q4, .int (1 : Int32)])), (q1, .inr (1, [.ref (u2 0), .ref (u2 1), .int (0 : Int32), .int (50 : Int32)])), ((u2 0), .inl (k.2.2 0, 64, .inl (fun _ => 0))), ((u2 1), .inl (k.2.2 0, 8, .inl (fun j => if j < 8 then (10 : Int32) else (fun _ => 0) j))), (q3, .inl (k.2.2 1, 5, .inr (.inr (.inr (.inr (va_up (fun _ => none) 0 (some q5))))))), (q4, .inl (k.2.2 0, 10, .inl (fun _ => 0))), (q5, .inr (0, [.int (0 : Int32), .int (1 : Int32), .ref (u6 0)])), ((u6 0), .inl (k.2.2 0, 8, .inl (fun j => if j < 8 then (-1 : Int32) else (fun _ => 0) j)))]) rfl rfl rfl rfl (vp_in_nI (n := 0) (by decide) (by decide)) dX2_init_60 rfl ?_
  refine GW.iinc (v := (1 : Int32)) (L' := [(0, .ref h0), (1, .int (1 : Int32))]) dX2_init_61 1 rfl (by decide) (by decide) rfl ?_
  refine GW.goto (tgt := 43) dX2_init_64 (by decide) ?_
  refine GW.iload_n dX2_init_43 1 rfl ?_
  refine GW.iconst (v := (5 : Int32)) dX2_init_44 (by decide) ?_
  refine GW.icmp_ge (tgt := 67) dX2_init_45 (by decide) (fun c => absurd c (by decide)) (fun _ => ?_)
  refine GW.aload_n dX2_init_48 0 rfl ?_
  refine GW.get (q0 := 0) inGX2 1 (by decide) rfl rfl w_95 rfl dX2_init_49 ?_
  refine GW.iload_n dX2_init_52 1 rfl ?_
  refine GW.new (ci := 0) (fs := [.int (0 : Int32), .int (0 : Int32), .null]) inGX0 tyX0 tyX0_ok w_60 w_62 w_5 rfl (by decide +kernel) (Nat.le_of_ble_eq_true rfl) (Nat.le_of_ble_eq_true rfl) dX2_init_53 (fun q7 => ?_)
  refine GW.dup dX2_init_56 rfl ?_
  refine GW.callI (n := 0) (wr := [(h0, .inr (2, [.ref q1, .ref q3, .int (0 : Int32), .ref q4, .int (1 : Int32)])), (q1, .inr (1, [.ref (u2 0), .ref (u2 1), .int (0 : Int32), .int (50 : Int32)])), ((u2 0), .inl (k.2.2 0, 64, .inl (fun _ => 0))), ((u2 1), .inl (k.2.2 0, 8, .inl (fun j => if j < 8 then (10 : Int32) else (fun _ => 0) j))), (q3, .inl (k.2.2 1, 5, .inr (.inr (.inr (.inr (va_up (fun _ => none) 0 (some q5))))))), (q4, .inl (k.2.2 0, 10, .inl (fun _ => 0))), (q5, .inr (0, [.int (0 : Int32), .int (1 : Int32), .ref (u6 0)])), ((u6 0), .inl (k.2.2 0, 8, .inl (fun j => if j < 8 then (-1 : Int32) else (fun _ => 0) j)))]) [] (c_X0 k q7) ok_X0_init w_63 rfl (Nat.le_of_ble_eq_true rfl) (Nat.le_of_ble_eq_true rfl) rfl [8] [0, 1, 2, 3, 4, 5, 6, 7] rfl rfl (by decide) (by decide) (by decide) (Nat.le_of_ble_eq_true rfl) (Nat.le_of_ble_eq_true rfl) dX2_init_57 (fun u8 => ?_)
  refine GW.norm (ws' := [(h0, .inr (2, [.ref q1, .ref q3, .int (0 : Int32), .ref q4, .int (1 : Int32)])), (q1, .inr (1, [.ref (u2 0), .ref (u2 1), .int (0 : Int32), .int (50 : Int32)])), ((u2 0), .inl (k.2.2 0, 64, .inl (fun _ => 0))), ((u2 1), .inl (k.2.2 0, 8, .inl (fun j => if j < 8 then (10 : Int32) else (fun _ => 0) j))), (q3, .inl (k.2.2 1, 5, .inr (.inr (.inr (.inr (va_up (fun _ => none) 0 (some q5))))))), (q4, .inl (k.2.2 0, 10, .inl (fun _ => 0))), (q5, .inr (0, [.int (0 : Int32), .int (1 : Int32), .ref (u6 0)])), ((u6 0), .inl (k.2.2 0, 8, .inl (fun j => if j < 8 then (-1 : Int32) else (fun _ => 0) j))), (q7, .inr (0, [.int (0 : Int32), .int (1 : Int32), .ref (u8 0)])), ((u8 0), .inl (k.2.2 0, 8, .inl (fun j => if j < 8 then (-1 : Int32) else (fun _ => 0) j)))]) rfl ?_
  refine GW.astq (q0 := 4) (qk := 8) (t0 := 1) (ci := 0) (ws' := [(h0, .inr (2, [.ref q1, .ref q3, .int (0 : Int32), .ref q4, .int (1 : Int32)])), (q1, .inr (1, [.ref (u2 0), .ref (u2 1), .int (0 : Int32), .int (50 : Int32)])), ((u2 0), .inl (k.2.2 0, 64, .inl (fun _ => 0))), ((u2 1), .inl (k.2.2 0, 8, .inl (fun j => if j < 8 then (10 : Int32) else (fun _ => 0) j))), (q3, .inl (k.2.2 1, 5, .inr (.inr (.inr (.inr (va_up (va_up (fun _ => none) 0 (some q5)) 1 (some q7))))))), (q4, .inl (k.2.2 0, 10, .inl (fun _ => 0))), (q5, .inr (0, [.int (0 : Int32), .int (1 : Int32), .ref (u6 0)])), ((u6 0), .inl (k.2.2 0, 8, .inl (fun j => if j < 8 then (-1 : Int32) else (fun _ => 0) j))), (q7, .inr (0, [.int (0 : Int32), .int (1 : Int32), .ref (u8 0)])), ((u8 0), .inl (k.2.2 0, 8, .inl (fun j => if j < 8 then (-1 : Int32) else (fun _ => 0) j)))]) rfl rfl rfl rfl (vp_in_nI (n := 1) (by decide) (by decide)) dX2_init_60 rfl ?_
  refine GW.iinc (v := (2 : Int32)) (L' := [(0, .ref h0), (1, .int (2 : Int32))]) dX2_init_61 1 rfl (by decide) (by decide) rfl ?_
  refine GW.goto (tgt := 43) dX2_init_64 (by decide) ?_
  refine GW.iload_n dX2_init_43 1 rfl ?_
  refine GW.iconst (v := (5 : Int32)) dX2_init_44 (by decide) ?_
  refine GW.icmp_ge (tgt := 67) dX2_init_45 (by decide) (fun c => absurd c (by decide)) (fun _ => ?_)
  refine GW.aload_n dX2_init_48 0 rfl ?_
  refine GW.get (q0 := 0) inGX2 1 (by decide) rfl rfl w_95 rfl dX2_init_49 ?_
  refine GW.iload_n dX2_init_52 1 rfl ?_
  refine GW.new (ci := 0) (fs := [.int (0 : Int32), .int (0 : Int32), .null]) inGX0 tyX0 tyX0_ok w_60 w_62 w_5 rfl (by decide +kernel) (Nat.le_of_ble_eq_true rfl) (Nat.le_of_ble_eq_true rfl) dX2_init_53 (fun q9 => ?_)
  refine GW.dup dX2_init_56 rfl ?_
  refine GW.callI (n := 0) (wr := [(h0, .inr (2, [.ref q1, .ref q3, .int (0 : Int32), .ref q4, .int (1 : Int32)])), (q1, .inr (1, [.ref (u2 0), .ref (u2 1), .int (0 : Int32), .int (50 : Int32)])), ((u2 0), .inl (k.2.2 0, 64, .inl (fun _ => 0))), ((u2 1), .inl (k.2.2 0, 8, .inl (fun j => if j < 8 then (10 : Int32) else (fun _ => 0) j))), (q3, .inl (k.2.2 1, 5, .inr (.inr (.inr (.inr (va_up (va_up (fun _ => none) 0 (some q5)) 1 (some q7))))))), (q4, .inl (k.2.2 0, 10, .inl (fun _ => 0))), (q5, .inr (0, [.int (0 : Int32), .int (1 : Int32), .ref (u6 0)])), ((u6 0), .inl (k.2.2 0, 8, .inl (fun j => if j < 8 then (-1 : Int32) else (fun _ => 0) j))), (q7, .inr (0, [.int (0 : Int32), .int (1 : Int32), .ref (u8 0)])), ((u8 0), .inl (k.2.2 0, 8, .inl (fun j => if j < 8 then (-1 : Int32) else (fun _ => 0) j)))]) [] (c_X0 k q9) ok_X0_init w_63 rfl (Nat.le_of_ble_eq_true rfl) (Nat.le_of_ble_eq_true rfl) rfl [10] [0, 1, 2, 3, 4, 5, 6, 7, 8, 9] rfl rfl (by decide) (by decide) (by decide) (Nat.le_of_ble_eq_true rfl) (Nat.le_of_ble_eq_true rfl) dX2_init_57 (fun u10 => ?_)
  refine GW.norm (ws' := [(h0, .inr (2, [.ref q1, .ref q3, .int (0 : Int32), .ref q4, .int (1 : Int32)])), (q1, .inr (1, [.ref (u2 0), .ref (u2 1), .int (0 : Int32), .int (50 : Int32)])), ((u2 0), .inl (k.2.2 0, 64, .inl (fun _ => 0))), ((u2 1), .inl (k.2.2 0, 8, .inl (fun j => if j < 8 then (10 : Int32) else (fun _ => 0) j))), (q3, .inl (k.2.2 1, 5, .inr (.inr (.inr (.inr (va_up (va_up (fun _ => none) 0 (some q5)) 1 (some q7))))))), (q4, .inl (k.2.2 0, 10, .inl (fun _ => 0))), (q5, .inr (0, [.int (0 : Int32), .int (1 : Int32), .ref (u6 0)])), ((u6 0), .inl (k.2.2 0, 8, .inl (fun j => if j < 8 then (-1 : Int32) else (fun _ => 0) j))), (q7, .inr (0, [.int (0 : Int32), .int (1 : Int32), .ref (u8 0)])), ((u8 0), .inl (k.2.2 0, 8, .inl (fun j => if j < 8 then (-1 : Int32) else (fun _ => 0) j))), (q9, .inr (0, [.int (0 : Int32), .int (1 : Int32), .ref (u10 0)])), ((u10 0), .inl (k.2.2 0, 8, .inl (fun j => if j < 8 then (-1 : Int32) else (fun _ => 0) j)))]) rfl ?_
  refine GW.astq (q0 := 4) (qk := 10) (t0 := 1) (ci := 0) (ws' := [(h0, .inr (2, [.ref q1, .ref q3, .int (0 : Int32), .ref q4, .int (1 : Int32)])), (q1, .inr (1, [.ref (u2 0), .ref (u2 1), .int (0 : Int32), .int (50 : Int32)])), ((u2 0), .inl (k.2.2 0, 64, .inl (fun _ => 0))), ((u2 1), .inl (k.2.2 0, 8, .inl (fun j => if j < 8 then (10 : Int32) else (fun _ => 0) j))), (q3, .inl (k.2.2 1, 5, .inr (.inr (.inr (.inr (va_up (va_up (va_up (fun _ => none) 0 (some q5)) 1 (some q7)) 2 (some q9))))))), (q4, .inl (k.2.2 0, 10, .inl (fun _ => 0))), (q5, .inr (0, [.int (0 : Int32), .int (1 : Int32), .ref (u6 0)])), ((u6 0), .inl (k.2.2 0, 8, .inl (fun j => if j < 8 then (-1 : Int32) else (fun _ => 0) j))), (q7, .inr (0, [.int (0 : Int32), .int (1 : Int32), .ref (u8 0)])), ((u8 0), .inl (k.2.2 0, 8, .inl (fun j => if j < 8 then (-1 : Int32) else (fun _ => 0) j))), (q9, .inr (0, [.int (0 : Int32), .int (1 : Int32), .ref (u10 0)])), ((u10 0), .inl (k.2.2 0, 8, .inl (fun j => if j < 8 then (-1 : Int32) else (fun _ => 0) j)))]) rfl rfl rfl rfl (vp_in_nI (n := 2) (by decide) (by decide)) dX2_init_60 rfl ?_
  refine GW.iinc (v := (3 : Int32)) (L' := [(0, .ref h0), (1, .int (3 : Int32))]) dX2_init_61 1 rfl (by decide) (by decide) rfl ?_
  refine GW.goto (tgt := 43) dX2_init_64 (by decide) ?_
  refine GW.iload_n dX2_init_43 1 rfl ?_
  refine GW.iconst (v := (5 : Int32)) dX2_init_44 (by decide) ?_
  refine GW.icmp_ge (tgt := 67) dX2_init_45 (by decide) (fun c => absurd c (by decide)) (fun _ => ?_)
  refine GW.aload_n dX2_init_48 0 rfl ?_
  refine GW.get (q0 := 0) inGX2 1 (by decide) rfl rfl w_95 rfl dX2_init_49 ?_
  refine GW.iload_n dX2_init_52 1 rfl ?_
  refine GW.new (ci := 0) (fs := [.int (0 : Int32), .int (0 : Int32), .null]) inGX0 tyX0 tyX0_ok w_60 w_62 w_5 rfl (by decide +kernel) (Nat.le_of_ble_eq_true rfl) (Nat.le_of_ble_eq_true rfl) dX2_init_53 (fun q11 => ?_)
  refine GW.dup dX2_init_56 rfl ?_
  refine GW.callI (n := 0) (wr := [(h0, .inr (2, [.ref q1, .ref q3, .int (0 : Int32), .ref q4, .int (1 : Int32)])), (q1, .inr (1, [.ref (u2 0), .ref (u2 1), .int (0 : Int32), .int (50 : Int32)])), ((u2 0), .inl (k.2.2 0, 64, .inl (fun _ => 0))), ((u2 1), .inl (k.2.2 0, 8, .inl (fun j => if j < 8 then (10 : Int32) else (fun _ => 0) j))), (q3, .inl (k.2.2 1, 5, .inr (.inr (.inr (.inr (va_up (va_up (va_up (fun _ => none) 0 (some q5)) 1 (some q7)) 2 (some q9))))))), (q4, .inl (k.2.2 0, 10, .inl (fun _ => 0))), (q5, .inr (0, [.int (0 : Int32), .int (1 : Int32), .ref (u6 0)])), ((u6 0), .inl (k.2.2 0, 8, .inl (fun j => if j < 8 then (-1 : Int32) else (fun _ => 0) j))), (q7, .inr (0, [.int (0 : Int32), .int (1 : Int32), .ref (u8 0)])), ((u8 0), .inl (k.2.2 0, 8, .inl (fun j => if j < 8 then (-1 : Int32) else (fun _ => 0) j))), (q9, .inr (0, [.int (0 : Int32), .int (1 : Int32), .ref (u10 0)])), ((u10 0), .inl (k.2.2 0, 8, .inl (fun j => if j < 8 then (-1 : Int32) else (fun _ => 0) j)))]) [] (c_X0 k q11) ok_X0_init w_63 rfl (Nat.le_of_ble_eq_true rfl) (Nat.le_of_ble_eq_true rfl) rfl [12] [0, 1, 2, 3, 4, 5, 6, 7, 8, 9, 10, 11] rfl rfl (by decide) (by decide) (by decide) (Nat.le_of_ble_eq_true rfl) (Nat.le_of_ble_eq_true rfl) dX2_init_57 (fun u12 => ?_)
  refine GW.norm (ws' := [(h0, .inr (2, [.ref q1, .ref q3, .int (0 : Int32), .ref q4, .int (1 : Int32)])), (q1, .inr (1, [.ref (u2 0), .ref (u2 1), .int (0 : Int32), .int (50 : Int32)])), ((u2 0), .inl (k.2.2 0, 64, .inl (fun _ => 0))), ((u2 1), .inl (k.2.2 0, 8, .inl (fun j => if j < 8 then (10 : Int32) else (fun _ => 0) j))), (q3, .inl (k.2.2 1, 5, .inr (.inr (.inr (.inr (va_up (va_up (va_up (fun _ => none) 0 (some q5)) 1 (some q7)) 2 (some q9))))))), (q4, .inl (k.2.2 0, 10, .inl (fun _ => 0))), (q5, .inr (0, [.int (0 : Int32), .int (1 : Int32), .ref (u6 0)])), ((u6 0), .inl (k.2.2 0, 8, .inl (fun j => if j < 8 then (-1 : Int32) else (fun _ => 0) j))), (q7, .inr (0, [.int (0 : Int32), .int (1 : Int32), .ref (u8 0)])), ((u8 0), .inl (k.2.2 0, 8, .inl (fun j => if j < 8 then (-1 : Int32) else (fun _ => 0) j))), (q9, .inr (0, [.int (0 : Int32), .int (1 : Int32), .ref (u10 0)])), ((u10 0), .inl (k.2.2 0, 8, .inl (fun j => if j < 8 then (-1 : Int32) else (fun _ => 0) j))), (q11, .inr (0, [.int (0 : Int32), .int (1 : Int32), .ref (u12 0)])), ((u12 0), .inl (k.2.2 0, 8, .inl (fun j => if j < 8 then (-1 : Int32) else (fun _ => 0) j)))]) rfl ?_
  refine GW.astq (q0 := 4) (qk := 12) (t0 := 1) (ci := 0) (ws' := [(h0, .inr (2, [.ref q1, .ref q3, .int (0 : Int32), .ref q4, .int (1 : Int32)])), (q1, .inr (1, [.ref (u2 0), .ref (u2 1), .int (0 : Int32), .int (50 : Int32)])), ((u2 0), .inl (k.2.2 0, 64, .inl (fun _ => 0))), ((u2 1), .inl (k.2.2 0, 8, .inl (fun j => if j < 8 then (10 : Int32) else (fun _ => 0) j))), (q3, .inl (k.2.2 1, 5, .inr (.inr (.inr (.inr (va_up (va_up (va_up (va_up (fun _ => none) 0 (some q5)) 1 (some q7)) 2 (some q9)) 3 (some q11))))))), (q4, .inl (k.2.2 0, 10, .inl (fun _ => 0))), (q5, .inr (0, [.int (0 : Int32), .int (1 : Int32), .ref (u6 0)])), ((u6 0), .inl (k.2.2 0, 8, .inl (fun j => if j < 8 then (-1 : Int32) else (fun _ => 0) j))), (q7, .inr (0, [.int (0 : Int32), .int (1 : Int32), .ref (u8 0)])), ((u8 0), .inl (k.2.2 0, 8, .inl (fun j => if j < 8 then (-1 : Int32) else (fun _ => 0) j))), (q9, .inr (0, [.int (0 : Int32), .int (1 : Int32), .ref (u10 0)])), ((u10 0), .inl (k.2.2 0, 8, .inl (fun j => if j < 8 then (-1 : Int32) else (fun _ => 0) j))), (q11, .inr (0, [.int (0 : Int32), .int (1 : Int32), .ref (u12 0)])), ((u12 0), .inl (k.2.2 0, 8, .inl (fun j => if j < 8 then (-1 : Int32) else (fun _ => 0) j)))]) rfl rfl rfl rfl (vp_in_nI (n := 3) (by decide) (by decide)) dX2_init_60 rfl ?_
  refine GW.iinc (v := (4 : Int32)) (L' := [(0, .ref h0), (1, .int (4 : Int32))]) dX2_init_61 1 rfl (by decide) (by decide) rfl ?_
  refine GW.goto (tgt := 43) dX2_init_64 (by decide) ?_
  refine GW.iload_n dX2_init_43 1 rfl ?_
  refine GW.iconst (v := (5 : Int32)) dX2_init_44 (by decide) ?_
  refine GW.icmp_ge (tgt := 67) dX2_init_45 (by decide) (fun c => absurd c (by decide)) (fun _ => ?_)
  refine GW.aload_n dX2_init_48 0 rfl ?_
  refine GW.get (q0 := 0) inGX2 1 (by decide) rfl rfl w_95 rfl dX2_init_49 ?_
  refine GW.iload_n dX2_init_52 1 rfl ?_
  refine GW.new (ci := 0) (fs := [.int (0 : Int32), .int (0 : Int32), .null]) inGX0 tyX0 tyX0_ok w_60 w_62 w_5 rfl (by decide +kernel) (Nat.le_of_ble_eq_true rfl) (Nat.le_of_ble_eq_true rfl) dX2_init_53 (fun q13 => ?_)
  refine GW.dup dX2_init_56 rfl ?_
  refine GW.callI (n := 0) (wr := [(h0, .inr (2, [.ref q1, .ref q3, .int (0 : Int32), .ref q4, .int (1 : Int32)])), (q1, .inr (1, [.ref (u2 0), .ref (u2 1), .int (0 : Int32), .int (50 : Int32)])), ((u2 0), .inl (k.2.2 0, 64, .inl (fun _ => 0))), ((u2 1), .inl (k.2.2 0, 8, .inl (fun j => if j < 8 then (10 : Int32) else (fun _ => 0) j))), (q3, .inl (k.2.2 1, 5, .inr (.inr (.inr (.inr (va_up (va_up (va_up (va_up (fun _ => none) 0 (some q5)) 1 (some q7)) 2 (some q9)) 3 (some q11))))))), (q4, .inl (k.2.2 0, 10, .inl (fun _ => 0))), (q5, .inr (0, [.int (0 : Int32), .int (1 : Int32), .ref (u6 0)])), ((u6 0), .inl (k.2.2 0, 8, .inl (fun j => if j < 8 then (-1 : Int32) else (fun _ => 0) j))), (q7, .inr (0, [.int (0 : Int32), .int (1 : Int32), .ref (u8 0)])), ((u8 0), .inl (k.2.2 0, 8, .inl (fun j => if j < 8 then (-1 : Int32) else (fun _ => 0) j))), (q9, .inr (0, [.int (0 : Int32), .int (1 : Int32), .ref (u10 0)])), ((u10 0), .inl (k.2.2 0, 8, .inl (fun j => if j < 8 then (-1 : Int32) else (fun _ => 0) j))), (q11, .inr (0, [.int (0 : Int32), .int (1 : Int32), .ref (u12 0)])), ((u12 0), .inl (k.2.2 0, 8, .inl (fun j => if j < 8 then (-1 : Int32) else (fun _ => 0) j)))]) [] (c_X0 k q13) ok_X0_init w_63 rfl (Nat.le_of_ble_eq_true rfl) (Nat.le_of_ble_eq_true rfl) rfl [14] [0, 1, 2, 3, 4, 5, 6, 7, 8, 9, 10, 11, 12, 13] rfl rfl (by decide) (by decide) (by decide) (Nat.le_of_ble_eq_true rfl) (Nat.le_of_ble_eq_true rfl) dX2_init_57 (fun u14 => ?_)
  refine GW.norm (ws' := [(h0, .inr (2, [.ref q1, .ref q3, .int (0 : Int32), .ref q4, .int (1 : Int32)])), (q1, .inr (1, [.ref (u2 0), .ref (u2 1), .int (0 : Int32), .int (50 : Int32)])), ((u2 0), .inl (k.2.2 0, 64, .inl (fun _ => 0))), ((u2 1), .inl (k.2.2 0, 8, .inl (fun j => if j < 8 then (10 : Int32) else (fun _ => 0) j))), (q3, .inl (k.2.2 1, 5, .inr (.inr (.inr (.inr (va_up (va_up (va_up (va_up (fun _ => none) 0 (some q5)) 1 (some q7)) 2 (some q9)) 3 (some q11))))))), (q4, .inl (k.2.2 0, 10, .inl (fun _ => 0))), (q5, .inr (0, [.int (0 : Int32), .int (1 : Int32), .ref (u6 0)])), ((u6 0), .inl (k.2.2 0, 8, .inl (fun j => if j < 8 then (-1 : Int32) else (fun _ => 0) j))), (q7, .inr (0, [.int (0 : Int32), .int (1 : Int32), .ref (u8 0)])), ((u8 0), .inl (k.2.2 0, 8, .inl (fun j => if j < 8 then (-1 : Int32) else (fun _ => 0) j))), (q9, .inr (0, [.int (0 : Int32), .int (1 : Int32), .ref (u10 0)])), ((u10 0), .inl (k.2.2 0, 8, .inl (fun j => if j < 8 then (-1 : Int32) else (fun _ => 0) j))), (q11, .inr (0, [.int (0 : Int32), .int (1 : Int32), .ref (u12 0)])), ((u12 0), .inl (k.2.2 0, 8, .inl (fun j => if j < 8 then (-1 : Int32) else (fun _ => 0) j))), (q13, .inr (0, [.int (0 : Int32), .int (1 : Int32), .ref (u14 0)])), ((u14 0), .inl (k.2.2 0, 8, .inl (fun j => if j < 8 then (-1 : Int32) else (fun _ => 0) j)))]) rfl ?_
  refine GW.astq (q0 := 4) (qk := 14) (t0 := 1) (ci := 0) (ws' := [(h0, .inr (2, [.ref q1, .ref q3, .int (0 : Int32), .ref q4, .int (1 : Int32)])), (q1, .inr (1, [.ref (u2 0), .ref (u2 1), .int (0 : Int32), .int (50 : Int32)])), ((u2 0), .inl (k.2.2 0, 64, .inl (fun _ => 0))), ((u2 1), .inl (k.2.2 0, 8, .inl (fun j => if j < 8 then (10 : Int32) else (fun _ => 0) j))), (q3, .inl (k.2.2 1, 5, .inr (.inr (.inr (.inr (va_up (va_up (va_up (va_up (va_up (fun _ => none) 0 (some q5)) 1 (some q7)) 2 (some q9)) 3 (some q11)) 4 (some q13))))))), (q4, .inl (k.2.2 0, 10, .inl (fun _ => 0))), (q5, .inr (0, [.int (0 : Int32), .int (1 : Int32), .ref (u6 0)])), ((u6 0), .inl (k.2.2 0, 8, .inl (fun j => if j < 8 then (-1 : Int32) else (fun _ => 0) j))), (q7, .inr (0, [.int (0 : Int32), .int (1 : Int32), .ref (u8 0)])), ((u8 0), .inl (k.2.2 0, 8, .inl (fun j => if j < 8 then (-1 : Int32) else (fun _ => 0) j))), (q9, .inr (0, [.int (0 : Int32), .int (1 : Int32), .ref (u10 0)])), ((u10 0), .inl (k.2.2 0, 8, .inl (fun j => if j < 8 then (-1 : Int32) else (fun _ => 0) j))), (q11, .inr (0, [.int (0 : Int32), .int (1 : Int32), .ref (u12 0)])), ((u12 0), .inl (k.2.2 0, 8, .inl (fun j => if j < 8 then (-1 : Int32) else (fun _ => 0) j))), (q13, .inr (0, [.int (0 : Int32), .int (1 : Int32), .ref (u14 0)])), ((u14 0), .inl (k.2.2 0, 8, .inl (fun j => if j < 8 then (-1 : Int32) else (fun _ => 0) j)))]) rfl rfl rfl rfl (vp_in_nI (n := 4) (by decide) (by decide)) dX2_init_60 rfl ?_
  refine GW.iinc (v := (5 : Int32)) (L' := [(0, .ref h0), (1, .int (5 : Int32))]) dX2_init_61 1 rfl (by decide) (by decide) rfl ?_
  refine GW.goto (tgt := 43) dX2_init_64 (by decide) ?_
  refine GW.iload_n dX2_init_43 1 rfl ?_
  refine GW.iconst (v := (5 : Int32)) dX2_init_44 (by decide) ?_
  refine GW.icmp_ge (tgt := 67) dX2_init_45 (by decide) (fun _ => ?_) (fun c => absurd (by decide) c)
  refine GW.aload_n dX2_init_67 0 rfl ?_
  refine GW.get (q0 := 0) inGX2 3 (by decide) rfl rfl w_101 rfl dX2_init_68 ?_
  refine GW.iconst (v := (-1 : Int32)) dX2_init_71 (by decide) ?_
  refine GW.callS (n := 2) (wr := [(h0, .inr (2, [.ref q1, .ref q3, .int (0 : Int32), .ref q4, .int (1 : Int32)])), (q1, .inr (1, [.ref (u2 0), .ref (u2 1), .int (0 : Int32), .int (50 : Int32)])), ((u2 0), .inl (k.2.2 0, 64, .inl (fun _ => 0))), ((u2 1), .inl (k.2.2 0, 8, .inl (fun j => if j < 8 then (10 : Int32) else (fun _ => 0) j))), (q3, .inl (k.2.2 1, 5, .inr (.inr (.inr (.inr (va_up (va_up (va_up (va_up (va_up (fun _ => none) 0 (some q5)) 1 (some q7)) 2 (some q9)) 3 (some q11)) 4 (some q13))))))), (q5, .inr (0, [.int (0 : Int32), .int (1 : Int32), .ref (u6 0)])), ((u6 0), .inl (k.2.2 0, 8, .inl (fun j => if j < 8 then (-1 : Int32) else (fun _ => 0) j))), (q7, .inr (0, [.int (0 : Int32), .int (1 : Int32), .ref (u8 0)])), ((u8 0), .inl (k.2.2 0, 8, .inl (fun j => if j < 8 then (-1 : Int32) else (fun _ => 0) j))), (q9, .inr (0, [.int (0 : Int32), .int (1 : Int32), .ref (u10 0)])), ((u10 0), .inl (k.2.2 0, 8, .inl (fun j => if j < 8 then (-1 : Int32) else (fun _ => 0) j))), (q11, .inr (0, [.int (0 : Int32), .int (1 : Int32), .ref (u12 0)])), ((u12 0), .inl (k.2.2 0, 8, .inl (fun j => if j < 8 then (-1 : Int32) else (fun _ => 0) j))), (q13, .inr (0, [.int (0 : Int32), .int (1 : Int32), .ref (u14 0)])), ((u14 0), .inl (k.2.2 0, 8, .inl (fun j => if j < 8 then (-1 : Int32) else (fun _ => 0) j)))]) [.ref q4, .int (-1 : Int32)] (c_fill k q4 10 (fun _ => 0) (-1 : Int32) (by decide)) ok_fillC w_91 rfl (Nat.le_of_ble_eq_true rfl) (Nat.le_of_ble_eq_true rfl) rfl [5] [0, 1, 2, 3, 4, 6, 7, 8, 9, 10, 11, 12, 13, 14, 15] rfl rfl (by decide) (by decide) (by decide) (Nat.le_of_ble_eq_true rfl) (Nat.le_of_ble_eq_true rfl) dX2_init_72 (fun _ => ?_)
  refine GW.norm (ws' := [(h0, .inr (2, [.ref q1, .ref q3, .int (0 : Int32), .ref q4, .int (1 : Int32)])), (q1, .inr (1, [.ref (u2 0), .ref (u2 1), .int (0 : Int32), .int (50 : Int32)])), ((u2 0), .inl (k.2.2 0, 64, .inl (fun _ => 0))), ((u2 1), .inl (k.2.2 0, 8, .inl (fun j => if j < 8 then (10 : Int32) else (fun _ => 0) j))), (q3, .inl (k.2.2 1, 5, .inr (.inr (.inr (.inr (va_up (va_up (va_up (va_up (va_up (fun _ => none) 0 (some q5)) 1 (some q7)) 2 (some q9)) 3 (some q11)) 4 (some q13))))))), (q5, .inr (0, [.int (0 : Int32), .int (1 : Int32), .ref (u6 0)])), ((u6 0), .inl (k.2.2 0, 8, .inl (fun j => if j < 8 then (-1 : Int32) else (fun _ => 0) j))), (q7, .inr (0, [.int (0 : Int32), .int (1 : Int32), .ref (u8 0)])), ((u8 0), .inl (k.2.2 0, 8, .inl (fun j => if j < 8 then (-1 : Int32) else (fun _ => 0) j))), (q9, .inr (0, [.int (0 : Int32), .int (1 : Int32), .ref (u10 0)])), ((u10 0), .inl (k.2.2 0, 8, .inl (fun j => if j < 8 then (-1 : Int32) else (fun _ => 0) j))), (q11, .inr (0, [.int (0 : Int32), .int (1 : Int32), .ref (u12 0)])), ((u12 0), .inl (k.2.2 0, 8, .inl (fun j => if j < 8 then (-1 : Int32) else (fun _ => 0) j))), (q13, .inr (0, [.int (0 : Int32), .int (1 : Int32), .ref (u14 0)])), ((u14 0), .inl (k.2.2 0, 8, .inl (fun j => if j < 8 then (-1 : Int32) else (fun _ => 0) j))), (q4, .inl (k.2.2 0, 10, .inl (fun j => if j < 10 then (-1 : Int32) else (fun _ => 0) j)))]) rfl ?_
  exact GW.vret (fun j => [q1, (u2 0), (u2 1), q3, q5, (u6 0), q7, (u8 0), q9, (u10 0), q11, (u12 0), q13, (u14 0), q4].getD j 0) [0, 1, 2, 3, 4, 5, 6, 7, 8, 9, 10, 11, 12, 13, 14, 15] rfl (by decide) rfl (Nat.le_of_ble_eq_true rfl) (Nat.le_of_ble_eq_true rfl) dX2_init_75
def M_X3_init : MT := (yX3_init, cX3_init, 2, none, 2)
theorem ok_X3_init : OkI M_X3_init 1 := ⟨rfl, w_121, w_6, w_122, rfl, by decide +kernel, (Nat.le_of_ble_eq_true rfl)⟩
def w1_X3_init (k : CT) (h0 a1 : Nat) (u : Nat → Nat) : va_W := [(h0, .inr (3, [.ref (u 0), .ref a1, .ref (u 2), .int (1 : Int32), .int (0 : Int32), .int (0 : Int32), .int (0 : Int32), .int (-1 : Int32), .int (-1 : Int32)])), ((u 0), .inr (0, [.int (0 : Int32), .int (1 : Int32), .ref (u 1)])), ((u 1), .inl (k.2.2 0, 8, .inl (fun j => if j < 8 then (-1 : Int32) else (fun _ => 0) j))), ((u 2), .inl (k.2.2 0, 9, .inl (upd (fun _ => 0) 0 (-1 : Int32))))]
set_option maxRecDepth 100000 in
set_option maxHeartbeats 4000000 in
theorem c_X3 (k : CT) (h0 a1 : Nat) : CC k M_X3_init 3 20 [.ref h0, .ref a1] [(h0, .inr (3, [.null, .null, .null, .int (0 : Int32), .int (0 : Int32), .int (0 : Int32), .int (0 : Int32), .int (0 : Int32), .int (0 : Int32)]))] (w1_X3_init k h0 a1) := by
  refine CC.of (L := [(0, .ref h0), (1, .ref a1)]) (by decide) (Nat.le_of_ble_eq_true rfl) rfl (fun A => ?_)
  refine GW.aload_n dX3_init_0 0 rfl ?_
  refine GW.obj dX3_init_1 w_123 w_23 w_24 (Nat.le_of_ble_eq_true rfl) (Nat.le_of_ble_eq_true rfl) ?_
  refine GW.aload_n dX3_init_4 0 rfl ?_
  refine GW.new (ci := 0) (fs := [.int (0 : Int32), .int (0 : Int32), .null]) inGX0 tyX0 tyX0_ok w_124 w_62 w_5 rfl (by decide +kernel) (Nat.le_of_ble_eq_true rfl) (Nat.le_of_ble_eq_true rfl) dX3_init_5 (fun q1 => ?_)
  refine GW.dup dX3_init_8 rfl ?_
  refine GW.callI (n := 0) (wr := [(h0, .inr (3, [.null, .null, .null, .int (0 : Int32), .int (0 : Int32), .int (0 : Int32), .int (0 : Int32), .int (0 : Int32), .int (0 : Int32)]))]) [] (c_X0 k q1) ok_X0_init w_125 rfl (Nat.le_of_ble_eq_true rfl) (Nat.le_of_ble_eq_true rfl) rfl [1] [0] rfl rfl (by decide) (by decide) (by decide) (Nat.le_of_ble_eq_true rfl) (Nat.le_of_ble_eq_true rfl) dX3_init_9 (fun u2 => ?_)
  refine GW.norm (ws' := [(h0, .inr (3, [.null, .null, .null, .int (0 : Int32), .int (0 : Int32), .int (0 : Int32), .int (0 : Int32), .int (0 : Int32), .int (0 : Int32)])), (q1, .inr (0, [.int (0 : Int32), .int (1 : Int32), .ref (u2 0)])), ((u2 0), .inl (k.2.2 0, 8, .inl (fun j => if j < 8 then (-1 : Int32) else (fun _ => 0) j)))]) rfl ?_
  refine GW.putF (q0 := 0) (ws' := [(h0, .inr (3, [.ref q1, .null, .null, .int (0 : Int32), .int (0 : Int32), .int (0 : Int32), .int (0 : Int32), .int (0 : Int32), .int (0 : Int32)])), (q1, .inr (0, [.int (0 : Int32), .int (1 : Int32), .ref (u2 0)])), ((u2 0), .inl (k.2.2 0, 8, .inl (fun j => if j < 8 then (-1 : Int32) else (fun _ => 0) j)))]) inGX3 tyX3 tyX3_ok nmX3 0 (by decide) rfl rfl w_126 rfl rfl rfl (tyX3_ok 0 (by decide)) rfl rfl (Nat.le_of_ble_eq_true rfl) dX3_init_12 rfl ?_
  refine GW.aload_n dX3_init_15 0 rfl ?_
  refine GW.bipush (v := (9 : Int32)) dX3_init_16 (by decide) ?_
  refine GW.newa (N := 9) w_59 (by decide) (by decide) (Nat.le_of_ble_eq_true rfl) (Nat.le_of_ble_eq_true rfl) (Nat.le_of_ble_eq_true rfl) dX3_init_18 (fun q3 => ?_)
  refine GW.putF (q0 := 0) (ws' := [(h0, .inr (3, [.ref q1, .null, .ref q3, .int (0 : Int32), .int (0 : Int32), .int (0 : Int32), .int (0 : Int32), .int (0 : Int32), .int (0 : Int32)])), (q1, .inr (0, [.int (0 : Int32), .int (1 : Int32), .ref (u2 0)])), ((u2 0), .inl (k.2.2 0, 8, .inl (fun j => if j < 8 then (-1 : Int32) else (fun _ => 0) j))), (q3, .inl (k.2.2 0, 9, .inl (fun _ => 0)))]) inGX3 tyX3 tyX3_ok nmX3 2 (by decide) rfl rfl w_129 rfl rfl rfl (tyX3_ok 2 (by decide)) rfl rfl (Nat.le_of_ble_eq_true rfl) dX3_init_20 rfl ?_
  refine GW.aload_n dX3_init_23 0 rfl ?_
  refine GW.iconst (v := (1 : Int32)) dX3_init_24 (by decide) ?_
  refine GW.put (q0 := 0) (ws' := [(h0, .inr (3, [.ref q1, .null, .ref q3, .int (1 : Int32), .int (0 : Int32), .int (0 : Int32), .int (0 : Int32), .int (0 : Int32), .int (0 : Int32)])), (q1, .inr (0, [.int (0 : Int32), .int (1 : Int32), .ref (u2 0)])), ((u2 0), .inl (k.2.2 0, 8, .inl (fun j => if j < 8 then (-1 : Int32) else (fun _ => 0) j))), (q3, .inl (k.2.2 0, 9, .inl (fun _ => 0)))]) inGX3 tyX3 tyX3_ok nmX3 3 (by decide) rfl rfl w_130 rfl (tyX3_ok 3 (by decide)) rfl rfl (Nat.le_of_ble_eq_true rfl) dX3_init_25 rfl ?_
  refine GW.aload_n dX3_init_28 0 rfl ?_
  refine GW.iconst (v := (0 : Int32)) dX3_init_29 (by decide) ?_
  refine GW.put (q0 := 0) (ws' := [(h0, .inr (3, [.ref q1, .null, .ref q3, .int (1 : Int32), .int (0 : Int32), .int (0 : Int32), .int (0 : Int32), .int (0 : Int32), .int (0 : Int32)])), (q1, .inr (0, [.int (0 : Int32), .int (1 : Int32), .ref (u2 0)])), ((u2 0), .inl (k.2.2 0, 8, .inl (fun j => if j < 8 then (-1 : Int32) else (fun _ => 0) j))), (q3, .inl (k.2.2 0, 9, .inl (fun _ => 0)))]) inGX3 tyX3 tyX3_ok nmX3 4 (by decide) rfl rfl w_131 rfl (tyX3_ok 4 (by decide)) rfl rfl (Nat.le_of_ble_eq_true rfl) dX3_init_30 rfl ?_
  refine GW.aload_n dX3_init_33 0 rfl ?_
  refine GW.iconst (v := (0 : Int32)) dX3_init_34 (by decide) ?_
  refine GW.put (q0 := 0) (ws' := [(h0, .inr (3, [.ref q1, .null, .ref q3, .int (1 : Int32), .int (0 : Int32), .int (0 : Int32), .int (0 : Int32), .int (0 : Int32), .int (0 : Int32)])), (q1, .inr (0, [.int (0 : Int32), .int (1 : Int32), .ref (u2 0)])), ((u2 0), .inl (k.2.2 0, 8, .inl (fun j => if j < 8 then (-1 : Int32) else (fun _ => 0) j))), (q3, .inl (k.2.2 0, 9, .inl (fun _ => 0)))]) inGX3 tyX3 tyX3_ok nmX3 5 (by decide) rfl rfl w_132 rfl (tyX3_ok 5 (by decide)) rfl rfl (Nat.le_of_ble_eq_true rfl) dX3_init_35 rfl ?_
  refine GW.aload_n dX3_init_38 0 rfl ?_
  refine GW.iconst (v := (0 : Int32)) dX3_init_39 (by decide) ?_
  refine GW.put (q0 := 0) (ws' := [(h0, .inr (3, [.ref q1, .null, .ref q3, .int (1 : Int32), .int (0 : Int32), .int (0 : Int32), .int (0 : Int32), .int (0 : Int32), .int (0 : Int32)])), (q1, .inr (0, [.int (0 : Int32), .int (1 : Int32), .ref (u2 0)])), ((u2 0), .inl (k.2.2 0, 8, .inl (fun j => if j < 8 then (-1 : Int32) else (fun _ => 0) j))), (q3, .inl (k.2.2 0, 9, .inl (fun _ => 0)))]) inGX3 tyX3 tyX3_ok nmX3 6 (by decide) rfl rfl w_133 rfl (tyX3_ok 6 (by decide)) rfl rfl (Nat.le_of_ble_eq_true rfl) dX3_init_40 rfl ?_
  refine GW.aload_n dX3_init_43 0 rfl ?_
  refine GW.iconst (v := (-1 : Int32)) dX3_init_44 (by decide) ?_
  refine GW.put (q0 := 0) (ws' := [(h0, .inr (3, [.ref q1, .null, .ref q3, .int (1 : Int32), .int (0 : Int32), .int (0 : Int32), .int (0 : Int32), .int (-1 : Int32), .int (0 : Int32)])), (q1, .inr (0, [.int (0 : Int32), .int (1 : Int32), .ref (u2 0)])), ((u2 0), .inl (k.2.2 0, 8, .inl (fun j => if j < 8 then (-1 : Int32) else (fun _ => 0) j))), (q3, .inl (k.2.2 0, 9, .inl (fun _ => 0)))]) inGX3 tyX3 tyX3_ok nmX3 7 (by decide) rfl rfl w_134 rfl (tyX3_ok 7 (by decide)) rfl rfl (Nat.le_of_ble_eq_true rfl) dX3_init_45 rfl ?_
  refine GW.aload_n dX3_init_48 0 rfl ?_
  refine GW.iconst (v := (-1 : Int32)) dX3_init_49 (by decide) ?_
  refine GW.put (q0 := 0) (ws' := [(h0, .inr (3, [.ref q1, .null, .ref q3, .int (1 : Int32), .int (0 : Int32), .int (0 : Int32), .int (0 : Int32), .int (-1 : Int32), .int (-1 : Int32)])), (q1, .inr (0, [.int (0 : Int32), .int (1 : Int32), .ref (u2 0)])), ((u2 0), .inl (k.2.2 0, 8, .inl (fun j => if j < 8 then (-1 : Int32) else (fun _ => 0) j))), (q3, .inl (k.2.2 0, 9, .inl (fun _ => 0)))]) inGX3 tyX3 tyX3_ok nmX3 8 (by decide) rfl rfl w_135 rfl (tyX3_ok 8 (by decide)) rfl rfl (Nat.le_of_ble_eq_true rfl) dX3_init_50 rfl ?_
  refine GW.aload_n dX3_init_53 0 rfl ?_
  refine GW.aload_n dX3_init_54 1 rfl ?_
  refine GW.putF (q0 := 0) (ws' := [(h0, .inr (3, [.ref q1, .ref a1, .ref q3, .int (1 : Int32), .int (0 : Int32), .int (0 : Int32), .int (0 : Int32), .int (-1 : Int32), .int (-1 : Int32)])), (q1, .inr (0, [.int (0 : Int32), .int (1 : Int32), .ref (u2 0)])), ((u2 0), .inl (k.2.2 0, 8, .inl (fun j => if j < 8 then (-1 : Int32) else (fun _ => 0) j))), (q3, .inl (k.2.2 0, 9, .inl (fun _ => 0)))]) inGX3 tyX3 tyX3_ok nmX3 1 (by decide) rfl rfl w_128 rfl rfl rfl (tyX3_ok 1 (by decide)) rfl rfl (Nat.le_of_ble_eq_true rfl) dX3_init_55 rfl ?_
  refine GW.aload_n dX3_init_58 0 rfl ?_
  refine GW.get (q0 := 0) inGX3 2 (by decide) rfl rfl w_129 rfl dX3_init_59 ?_
  refine GW.iconst (v := (0 : Int32)) dX3_init_62 (by decide) ?_
  refine GW.iconst (v := (-1 : Int32)) dX3_init_63 (by decide) ?_
  refine GW.iast (q0 := 3) (ws' := [(h0, .inr (3, [.ref q1, .ref a1, .ref q3, .int (1 : Int32), .int (0 : Int32), .int (0 : Int32), .int (0 : Int32), .int (-1 : Int32), .int (-1 : Int32)])), (q1, .inr (0, [.int (0 : Int32), .int (1 : Int32), .ref (u2 0)])), ((u2 0), .inl (k.2.2 0, 8, .inl (fun j => if j < 8 then (-1 : Int32) else (fun _ => 0) j))), (q3, .inl (k.2.2 0, 9, .inl (upd (fun _ => 0) 0 (-1 : Int32))))]) rfl (vp_in_nI (n := 0) (by decide) (by decide)) dX3_init_64 rfl ?_
  exact GW.vret (fun j => [q1, (u2 0), q3].getD j 0) [0, 1, 2, 3] rfl (by decide) rfl (Nat.le_of_ble_eq_true rfl) (Nat.le_of_ble_eq_true rfl) dX3_init_65
