/-! what the start gives: classes, array classes, static tables, texts -/
def strIx : List Nat := [64, 73, 75, 80, 92, 94, 96, 98, 100, 102, 104, 131, 136]
def strIy : List Nat := [278, 283, 285, 290, 254, 256, 258, 260, 262, 264, 266, 270, 274]
def tmS (i : Nat) : Term := .string "NobodyBetween$TextReader" (strIx.getD i 0)
def tmM (i : Nat) : Term := .string "NobodyBetweenModel" (strIy.getD i 0)
def tmT (k : Nat) : Term := .static "NobodyBetween" (stNm.getD k "") "[I"
abbrev gvF : List Cond := flatC (Jvm.Cond.and given_1 narrow_1)
set_option maxRecDepth 100000 in
theorem gv_ex : ∀ i, i < 13 → Cond.exactly (tmS i) "java/lang/String" ∈ gvF := by decide +kernel
set_option maxRecDepth 100000 in
theorem gv_co : ∀ i, i < 13 → Cond.eq (.field (tmS i) "java/lang/String" "coder" "B") (.int 0) ∈ gvF := by decide +kernel
set_option maxRecDepth 100000 in
theorem gv_ar : ∀ i, i < 13 → Cond.arrayOf (.field (tmS i) "java/lang/String" "value" "[B") .byte ∈ gvF := by decide +kernel
set_option maxRecDepth 100000 in
theorem gv_le : ∀ i, i < 13 → Cond.eq (.length (.field (tmS i) "java/lang/String" "value" "[B")) (.int (Int32.ofNat (strLn.getD i 0))) ∈ gvF := by decide +kernel
set_option maxRecDepth 100000 in
theorem gv_el : ∀ i, i < 13 → ∀ j, j < strLn.getD i 0 → Cond.eq (.elem (.field (tmS i) "java/lang/String" "value" "[B") (.int (Int32.ofNat j))) (.int ((strBy.getD i []).getD j 0)) ∈ gvF := by decide +kernel
set_option maxRecDepth 100000 in
theorem gv_eq : ∀ i, i < 13 → Cond.eq (tmS i) (tmM i) ∈ gvF := by decide +kernel
set_option maxRecDepth 100000 in
theorem gv_ta : ∀ k, k < 3 → Cond.arrayOf (tmT k) .int ∈ gvF := by decide +kernel
set_option maxRecDepth 100000 in
theorem gv_tl : ∀ k, k < 3 → Cond.eq (.length (tmT k)) (.int (Int32.ofNat 7)) ∈ gvF := by decide +kernel
set_option maxRecDepth 100000 in
theorem gv_te : ∀ k, k < 3 → ∀ j, j < 7 → Cond.eq (.elem (tmT k) (.int (Int32.ofNat j))) (.int (stF k j)) ∈ gvF := by decide +kernel
set_option maxRecDepth 100000 in
theorem gv_cs : Cond.eq (.static "java/lang/String" "COMPACT_STRINGS" "Z") (.int 1) ∈ gvF := by decide +kernel
set_option maxRecDepth 100000 in
theorem gv_sf : Cond.isRef (.static "jdk/internal/util/Preconditions" "SIOOBE_FORMATTER" "Ljava/util/function/BiFunction;") ∈ gvF := by decide +kernel
theorem tbl_i {w : Cond} (i : Nat) (h : tables_1[i]? = some w) : w ∈ lw_tbl := List.mem_append_right _ (List.mem_of_getElem? h)
theorem str_dif : ∀ i, i < 13 → ∀ j, j < 13 → strLn.getD i 0 = strLn.getD j 0 → (∀ k, k < strLn.getD i 0 → (strBy.getD i []).getD k 0 = (strBy.getD j []).getD k 0) → i = j := by decide +kernel
theorem str_ln : ∀ i, i < 13 → strLn.getD i 0 < 8 := by decide
/-- texts of other bytes are other objects -/
theorem str_inj {A : Nat → Prop} {s : State} {a b q r i j : Nat} (hi : i < 13) (hj : j < 13) (o1 : va_OF "java/lang/String" "value" "[B" (.ref q) a A s s.heap) (o2 : va_OF "java/lang/String" "value" "[B" (.ref r) b A s s.heap) (t1 : va_T .byte q (strLn.getD i 0) (fun k => .int ((strBy.getD i []).getD k 0)) A s s.heap) (t2 : va_T .byte r (strLn.getD j 0) (fun k => .int ((strBy.getD j []).getD k 0)) A s s.heap) (e : a = b) : i = j := by
  subst e
  obtain ⟨cf, k, fi, f, cell, g1, g2, g3, g4, g5, g6⟩ := o1
  obtain ⟨cf', k', fi', f', cell', p1, p2, p3, p4, p5, p6⟩ := o2
  have e1 := Option.some.inj (g1.symm.trans p1)
  cases e1
  have e2 := Option.some.inj (g3.symm.trans p3)
  subst e2
  have e3 := Option.some.inj (g5.symm.trans p5)
  cases e3
  obtain ⟨c1, x1, x2, x3, x4, x5, x6, x7⟩ := t1
  obtain ⟨c2, y1, y2, y3, y4, y5, y6, y7⟩ := t2
  have e4 := Option.some.inj (x1.symm.trans y1)
  subst e4
  have li := str_ln i hi
  have lj := str_ln j hj
  have el : strLn.getD i 0 = strLn.getD j 0 := (nI_eq (a := strLn.getD i 0) (b := strLn.getD j 0) (by omega) (by omega)).mp (x5.symm.trans y5)
  refine str_dif i hi j hj el (fun k hk => ?_)
  have := Option.some.inj ((x6 k hk).symm.trans (y6 k (by omega)))
  exact Value.int.inj this
theorem en_start {p : Program} {s : State} {m : MethodId} {meth : Method} {c : Code} {b L : Nat} {xs : Nat → Int32} (l : Launch) (C0 : lw_At p s m meth c b L xs) : ∃ (D : va_G) (cy : Nat → ClassId) (st aK aV : Nat → Nat), Kx (l, D, cy) s ∧ ∀ (ad : Nat → Nat → Nat) (A : Nat → Prop), (∀ a : Nat, a < s.heap.size → ¬ A a) → En (l, D, ad, cy, st, aK, aV) A s s.heap := by
  obtain ⟨hx, hb, hr, hml, hown, hts, hX, hbl, hlocks, hgv⟩ := C0
  have hg : ∀ w ∈ wsG, w.before #[Value.ref b] s = true := fun w hw => hts w (wsG_tbl w hw)
  have hf : ∀ w ∈ gvF, w.before #[Value.ref b] s = true := flat_of_before _ hgv
  -- the classes
  obtain ⟨c0, i0, k0⟩ := u_known (C := RX0) (T := TX0) (N := 3) (n := 3) hg inGX0 (hg _ w_62)
  obtain ⟨c1, i1, k1⟩ := u_known (C := RX1) (T := TX1) (N := 4) (n := 4) hg inGX1 (hg _ w_32)
  obtain ⟨c2, i2, k2⟩ := u_known (C := RX2) (T := TX2) (N := 5) (n := 5) hg inGX2 (hg _ w_26)
  obtain ⟨c3, i3, k3⟩ := u_known (C := RX3) (T := TX3) (N := 9) (n := 9) hg inGX3 (hg _ w_119)
  obtain ⟨c4, i4, k4⟩ := u_known (C := RX4) (T := TX4) (N := 3) (n := 3) hg inGX4 (hg _ w_185)
  obtain ⟨c5, i5, k5⟩ := u_known (C := RX5) (T := TX5) (N := 7) (n := 7) hg inGX5 (hg _ w_156)
  obtain ⟨c6, i6, k6⟩ := u_known (C := RX6) (T := TX6) (N := 11) (n := 11) hg inGX6 (hg _ w_18)
  obtain ⟨c7, i7, k7⟩ := u_known (C := RX7) (T := TX7) (N := 21) (n := 21) hg inGX7 (hg _ w_867)
  have hKc : ∀ (k : Nat) (q : vw_C), vwCl[k]? = some q → u_Kn s q.1 q.2.1 q.2.2 ([c0, c1, c2, c3, c4, c5, c6, c7].getD k c0) ([i0, i1, i2, i3, i4, i5, i6, i7].getD k i0) := by
    intro k q hq
    match k, hq with
    | 0, hq => cases hq; exact k0
    | 1, hq => cases hq; exact k1
    | 2, hq => cases hq; exact k2
    | 3, hq => cases hq; exact k3
    | 4, hq => cases hq; exact k4
    | 5, hq => cases hq; exact k5
    | 6, hq => cases hq; exact k6
    | 7, hq => cases hq; exact k7
    | k + 8, hq => simp [vwCl] at hq
  -- the array classes
  obtain ⟨a0, ka0, co0, f01, f02, f03⟩ := Cond.arrayClass_spec (hg _ w_59)
  have over1 : (Cond.arrayOver (.object RX0)).before #[Value.ref b] s = true := hts _ (tbl_i 61 (by decide +kernel))
  have over2 : (Cond.arrayOver (.object RX4)).before #[Value.ref b] s = true := hts _ (tbl_i 184 (by decide +kernel))
  obtain ⟨co1, a1, ka1, f11, f12, f13, f14, f15⟩ := Cond.arrayOver_spec over1
  obtain ⟨co2, a2, ka2, f21, f22, f23, f24, f25⟩ := Cond.arrayOver_spec over2
  have hKt : ∀ (k : Nat) (q : ClassId × FieldType), ([(a0, .int), (a1, .object RX0), (a2, .object RX4)] : List (ClassId × FieldType))[k]? = some q → ArrOfT s q.1 q.2 ∧ va_RA s q.1 q.2 := by
    intro k q hq
    match k, hq with
    | 0, hq => cases hq; exact ⟨fun n z => ⟨fun k h => (by cases h), ka0, f02, co0, f03⟩, f01⟩
    | 1, hq => cases hq; exact ⟨fun n z => ⟨fun k h => (by cases h), ka1, f13, co1, f14⟩, ka1, co1, f13, f14, f11, f15⟩
    | 2, hq => cases hq; exact ⟨fun n z => ⟨fun k h => (by cases h), ka2, f23, co2, f24⟩, ka2, co2, f23, f24, f21, f25⟩
    | k + 3, hq => simp at hq
  have hA0 : ∀ a : Nat, a < s.heap.size → ¬ (fun q : Nat => s.heap.size ≤ q) a := fun a h => Nat.not_le.mpr h
  -- the static tables
  have hT : ∀ k, k < 3 → ∃ t : Nat, (tmT k).eval #[Value.ref b] s none [] s = some (.ref t) ∧ va_T .int t 7 (fun j => .int (stF k j)) (fun q : Nat => s.heap.size ≤ q) s s.heap := fun k hk => va_Tof (by decide) (hf _ (gv_ta k hk)) (va_eqt (hf _ (gv_tl k hk))) (fun j hj => va_eqt (hf _ (gv_te k hk j hj))) hA0
  obtain ⟨t0, u0, v0⟩ := hT 0 (by decide)
  obtain ⟨t1, u1, v1⟩ := hT 1 (by decide)
  obtain ⟨t2, u2, v2⟩ := hT 2 (by decide)
  have z0 : va_Z "NobodyBetween" "REACH" "[I" (.ref t0) (fun q : Nat => s.heap.size ≤ q) s s.heap := va_Zref (hts _ (tbl_i 346 (by decide +kernel))) (hg _ w_1) u0 hA0
  have z1 : va_Z "NobodyBetween" "ROUND" "[I" (.ref t1) (fun q : Nat => s.heap.size ≤ q) s s.heap := va_Zref (hts _ (tbl_i 348 (by decide +kernel))) (hg _ w_1) u1 hA0
  have z2 : va_Z "NobodyBetween" "UNDER" "[I" (.ref t2) (fun q : Nat => s.heap.size ≤ q) s s.heap := va_Zref (hts _ (tbl_i 773 (by decide +kernel))) (hg _ w_1) u2 hA0
  -- the texts
  have h0 : ∀ i : Nat, ∃ q : Nat × Nat, i < 13 → (tmS i).eval #[Value.ref b] s none [] s = some (.ref q.1) ∧ va_O "java/lang/String" q.1 (fun q : Nat => s.heap.size ≤ q) s s.heap ∧ va_OF "java/lang/String" "coder" "B" (.int 0) q.1 (fun q : Nat => s.heap.size ≤ q) s s.heap ∧ va_OF "java/lang/String" "value" "[B" (.ref q.2) q.1 (fun q : Nat => s.heap.size ≤ q) s s.heap ∧ va_T .byte q.2 (strLn.getD i 0) (fun j => .int ((strBy.getD i []).getD j 0)) (fun q : Nat => s.heap.size ≤ q) s s.heap := by
    intro i
    by_cases hi : i < 13
    · have l8 := str_ln i hi
      obtain ⟨a, c', cA, kA, q1, q2, q3, q4, q5, q6, -⟩ := Cond.exactly_spec (args := #[Value.ref b]) (first := s) (o := none) (s := s) (idx := []) (t := tmS i) (cls := "java/lang/String") (hf _ (gv_ex i hi))
      obtain ⟨t, ht, hT'⟩ := va_Tof (f := fun j => .int ((strBy.getD i []).getD j 0)) (A := fun q : Nat => s.heap.size ≤ q) (show strLn.getD i 0 < 2 ^ 31 by omega) (hf _ (gv_ar i hi)) (va_eqt (hf _ (gv_le i hi))) (fun j hj => va_eqt (hf _ (gv_el i hi j hj))) hA0
      exact ⟨(a, t), fun _ => ⟨q1, ⟨cA, q3, q5, by rw [q6]; exact q2, hA0 a (Array.getElem?_eq_some_iff.mp q3).1⟩, vk_OFof q1 (va_eqt (hf _ (gv_co i hi))) hA0, vk_OFof q1 ht hA0, hT'⟩⟩
    · exact ⟨(0, 0), fun h => absurd h hi⟩
  obtain ⟨ad, had⟩ := Classical.axiomOfChoice h0
  have hS : vk_S 13 strLn strBy (fun i => (ad i).1) (fun i => (ad i).2) (fun q : Nat => s.heap.size ≤ q) s s.heap := ⟨fun i hi => (had i hi).2, fun i j hi hj e => str_inj hi hj (had i hi).2.2.2.1 (had j hj).2.2.2.1 (had i hi).2.2.2.2 (had j hj).2.2.2.2 e⟩
  have hR : ∀ i, i < 13 → (tmS i).eval #[Value.ref b] s none [] s = some (.ref (ad i).1) := fun i hi => (had i hi).1
  have hM : ∀ i, i < 13 → (tmM i).eval #[Value.ref b] s none [] s = some (.ref (ad i).1) := fun i hi => va_eqR (hf _ (gv_eq i hi)) (hR i hi)
  refine ⟨(fun k => [c0, c1, c2, c3, c4, c5, c6, c7].getD k c0, fun k => [i0, i1, i2, i3, i4, i5, i6, i7].getD k i0), fun k => [a0, a1, a2].getD k a0, fun k => [t0, t1, t2].getD k 0, fun i => (ad i).1, fun i => (ad i).2, ⟨⟨hKc, hKt⟩, va_AO.of (A := #[Value.ref b]) over1, va_AO.of (A := #[Value.ref b]) over2⟩, fun ad' A hA => ?_⟩
  have nar : ∀ q, A q → (fun q : Nat => s.heap.size ≤ q) q := fun q hq => Nat.not_lt.mp (fun h => hA q h hq)
  refine ⟨⟨hKc, hKt⟩, fun k hk => ?_, hS.narrow nar, (va_Zof (hts _ (tbl_i 676 (by decide +kernel))) (hg _ w_13) (va_eqi (hf _ gv_cs)) hA0).narrow nar, fun q hq => ?_, fun q hq => ?_, fun q hq => ?_, (va_Zqof (hts _ (tbl_i 692 (by decide +kernel))) (hg _ w_15) (hf _ gv_sf) hA0).narrow nar⟩
  · rcases (show k = 0 ∨ k = 1 ∨ k = 2 by omega) with rfl | rfl | rfl
    · exact ⟨z0.narrow nar, v0.narrow nar⟩
    · exact ⟨z1.narrow nar, v1.narrow nar⟩
    · exact ⟨z2.narrow nar, v2.narrow nar⟩
  · have hq : q ∈ [(RX5, 64, "friends", 0), (RX5, 73, "secret", 1), (RX5, 75, "weight", 2), (RX5, 80, "held", 3), (RX5, 92, "bench", 4), (RX5, 94, "pew", 5), (RX5, 96, "ring", 6), (RX5, 98, "boat", 7), (RX5, 100, "bed", 8), (RX5, 102, "table", 9), (RX5, 104, "raft", 10), (RX5, 131, "seats", 11), (RX5, 136, "sits", 12), (RX7, 278, "friends", 0), (RX7, 283, "secret", 1), (RX7, 285, "weight", 2), (RX7, 290, "held", 3), (RX7, 254, "bench", 4), (RX7, 256, "pew", 5), (RX7, 258, "ring", 6), (RX7, 260, "boat", 7), (RX7, 262, "bed", 8), (RX7, 264, "table", 9), (RX7, 266, "raft", 10), (RX7, 270, "seats", 11), (RX7, 274, "sits", 12)] := hq
    simp only [List.mem_cons, List.not_mem_nil, or_false] at hq
    rcases hq with rfl | rfl | rfl | rfl | rfl | rfl | rfl | rfl | rfl | rfl | rfl | rfl | rfl | rfl | rfl | rfl | rfl | rfl | rfl | rfl | rfl | rfl | rfl | rfl | rfl | rfl
    · exact vk_R.of (A := #[Value.ref b]) (hts _ (tbl_i 662 (by decide +kernel))) (hR 0 (by decide))
    · exact vk_R.of (A := #[Value.ref b]) (hts _ (tbl_i 724 (by decide +kernel))) (hR 1 (by decide))
    · exact vk_R.of (A := #[Value.ref b]) (hts _ (tbl_i 725 (by decide +kernel))) (hR 2 (by decide))
    · exact vk_R.of (A := #[Value.ref b]) (hts _ (tbl_i 730 (by decide +kernel))) (hR 3 (by decide))
    · exact vk_R.of (A := #[Value.ref b]) (hts _ (tbl_i 738 (by decide +kernel))) (hR 4 (by decide))
    · exact vk_R.of (A := #[Value.ref b]) (hts _ (tbl_i 739 (by decide +kernel))) (hR 5 (by decide))
    · exact vk_R.of (A := #[Value.ref b]) (hts _ (tbl_i 740 (by decide +kernel))) (hR 6 (by decide))
    · exact vk_R.of (A := #[Value.ref b]) (hts _ (tbl_i 741 (by decide +kernel))) (hR 7 (by decide))
    · exact vk_R.of (A := #[Value.ref b]) (hts _ (tbl_i 742 (by decide +kernel))) (hR 8 (by decide))
    · exact vk_R.of (A := #[Value.ref b]) (hts _ (tbl_i 743 (by decide +kernel))) (hR 9 (by decide))
    · exact vk_R.of (A := #[Value.ref b]) (hts _ (tbl_i 744 (by decide +kernel))) (hR 10 (by decide))
    · exact vk_R.of (A := #[Value.ref b]) (hts _ (tbl_i 749 (by decide +kernel))) (hR 11 (by decide))
    · exact vk_R.of (A := #[Value.ref b]) (hts _ (tbl_i 751 (by decide +kernel))) (hR 12 (by decide))
    · exact vk_R.of (A := #[Value.ref b]) (hts _ (tbl_i 1258 (by decide +kernel))) (hM 0 (by decide))
    · exact vk_R.of (A := #[Value.ref b]) (hts _ (tbl_i 1277 (by decide +kernel))) (hM 1 (by decide))
    · exact vk_R.of (A := #[Value.ref b]) (hts _ (tbl_i 1278 (by decide +kernel))) (hM 2 (by decide))
    · exact vk_R.of (A := #[Value.ref b]) (hts _ (tbl_i 1283 (by decide +kernel))) (hM 3 (by decide))
    · exact vk_R.of (A := #[Value.ref b]) (hts _ (tbl_i 1292 (by decide +kernel))) (hM 4 (by decide))
    · exact vk_R.of (A := #[Value.ref b]) (hts _ (tbl_i 1293 (by decide +kernel))) (hM 5 (by decide))
    · exact vk_R.of (A := #[Value.ref b]) (hts _ (tbl_i 1294 (by decide +kernel))) (hM 6 (by decide))
    · exact vk_R.of (A := #[Value.ref b]) (hts _ (tbl_i 1295 (by decide +kernel))) (hM 7 (by decide))
    · exact vk_R.of (A := #[Value.ref b]) (hts _ (tbl_i 1296 (by decide +kernel))) (hM 8 (by decide))
    · exact vk_R.of (A := #[Value.ref b]) (hts _ (tbl_i 1297 (by decide +kernel))) (hM 9 (by decide))
    · exact vk_R.of (A := #[Value.ref b]) (hts _ (tbl_i 1298 (by decide +kernel))) (hM 10 (by decide))
    · exact vk_R.of (A := #[Value.ref b]) (hts _ (tbl_i 1303 (by decide +kernel))) (hM 11 (by decide))
    · exact vk_R.of (A := #[Value.ref b]) (hts _ (tbl_i 1304 (by decide +kernel))) (hM 12 (by decide))
  · have hq : q ∈ [(RX0, 42, "REACH"), (RX0, 45, "ROUND"), (RX3, 55, "REACH"), (RX3, 114, "ROUND")] := hq
    simp only [List.mem_cons, List.not_mem_nil, or_false] at hq
    rcases hq with rfl | rfl | rfl | rfl
    · exact va_Nw.of (A := #[Value.ref b]) rfl (hts _ (tbl_i 345 (by decide +kernel)))
    · exact va_Nw.of (A := #[Value.ref b]) rfl (hts _ (tbl_i 347 (by decide +kernel)))
    · exact va_Nw.of (A := #[Value.ref b]) rfl (hts _ (tbl_i 482 (by decide +kernel)))
    · exact va_Nw.of (A := #[Value.ref b]) rfl (hts _ (tbl_i 504 (by decide +kernel)))
  · have hq : q ∈ [(RX2, 77, yX6_has), (RX3, 80, yX6_has), (RX4, 28, yX6_isPerson), (RX4, 32, yX6_has)] := hq
    simp only [List.mem_cons, List.not_mem_nil, or_false] at hq
    rcases hq with rfl | rfl | rfl | rfl
    · exact va_Nw.of (A := #[Value.ref b]) rfl (hts _ (tbl_i 538 (by decide +kernel)))
    · exact va_Nw.of (A := #[Value.ref b]) rfl (hts _ (tbl_i 489 (by decide +kernel)))
    · exact va_Nw.of (A := #[Value.ref b]) rfl (hts _ (tbl_i 824 (by decide +kernel)))
    · exact va_Nw.of (A := #[Value.ref b]) rfl (hts _ (tbl_i 825 (by decide +kernel)))
