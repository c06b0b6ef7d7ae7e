/-! A GROWING WORLD: the constructors. k: launch, the classes' numbers and slots, array classes. GW: the machine comes from here to its return, the cells being ws. -/
abbrev CT : Type := Launch × va_G × (Nat → ClassId)
abbrev ctys (k : CT) : List (ClassId × FieldType) := [(k.2.2 0, .int), (k.2.2 1, .object RX0), (k.2.2 2, .object RX4)]
def Kx (k : CT) (U : State) : Prop := va_K k.2.1 vwCl (ctys k) U ∧ va_AO RX0 U ∧ va_AO RX4 U
theorem Kx.moved {k : CT} {u U : State} (hvm : u.vm.Alike U.vm) (h : Kx k u) : Kx k U := ⟨h.1.moved hvm, h.2.1.moved hvm, h.2.2.moved hvm⟩
def rmC (d mc ms : Nat) : Room := { frames := d, cells := mc, slots := ms, locals := 40 * d }
def Gx (k : CT) (M : MT) (p : Program) (s : State) (m : MethodId) (args : Array Value) (meth : Method) (c : Code) : Prop :=
  p.tables.exec = Jvm.exec ∧ c.code = M.2.1 ∧ c.maxLocals = M.2.2.1 ∧ s.vm.findClass M.1.cls = some m.cls ∧ (∀ w ∈ wsG, w.before args s = true) ∧ meth.sig.returnType = M.2.2.2.1 ∧ meth.locks = false ∧ meth.name = M.1.name ∧ Kx k s
def Gy (k : CT) (A : Nat → Prop) (n : Nat) (L : List (Nat × Value)) (ws : va_W) (s : State) (H : Heap) (locs : List Loc) (ls : Array Slot) : Prop := (∀ q, s.heap.size ≤ q → A q) ∧ va_P k.2.1 vwCl ws H ∧ va_D A ws ∧ va_S A s.heap H locs ∧ lv_has ls n L
def GW (k : CT) (M : MT) (mc ms : Nat) (A : Nat → Prop) (Qc : Array Value → State → Outcome → State → Prop) (pc : Nat) (L : List (Nat × Value)) (S : List Value) (ws : va_W) (cl sl : Nat) : Prop :=
  ∀ (p : Program) (e : Env) (s : State) (m : MethodId) (args : Array Value) (below : List Frame) (meth : Method) (c : Code) (H : Heap) (locs : List Loc) (ls : Array Slot),
    Gx k M p s m args meth c → Gy k A M.2.2.1 L ws s H locs ls → W p k.1 e (rmC M.2.2.2.2 mc ms) s m args below meth c H locs cl sl (MQ below Qc args s mc ms A) (F0 m pc ls S)
section GWrows
variable {k : CT} {M : MT} {mc ms : Nat} {A : Nat → Prop} {Qc : Array Value → State → Outcome → State → Prop} {pc : Nat} {L : List (Nat × Value)} {S : List Value} {ws : va_W} {cl sl : Nat}
theorem GW.iconst {n : Int} {v : Int32} (hd : decode M.2.1 pc = .ok (.iconst n, 1)) (hv : Int32.ofInt n = v) (kk : GW k M mc ms A Qc (pc + 1) L (.int v :: S) ws cl sl) : GW k M mc ms A Qc pc L S ws cl sl := fun p e s m a b me c H lo ls x y => lv_iconst x.1 x.2.1 hd hv (kk p e s m a b me c H lo ls x y)
theorem GW.bipush {n : Int} {v : Int32} (hd : decode M.2.1 pc = .ok (.bipush n, 2)) (hv : (Int8.ofInt n).toInt32 = v) (kk : GW k M mc ms A Qc (pc + 2) L (.int v :: S) ws cl sl) : GW k M mc ms A Qc pc L S ws cl sl := fun p e s m a b me c H lo ls x y => lv_bipush x.1 x.2.1 hd hv (kk p e s m a b me c H lo ls x y)
theorem GW.sipush {n : Int} {v : Int32} (hd : decode M.2.1 pc = .ok (.sipush n, 3)) (hv : (Int16.ofInt n).toInt32 = v) (kk : GW k M mc ms A Qc (pc + 3) L (.int v :: S) ws cl sl) : GW k M mc ms A Qc pc L S ws cl sl := fun p e s m a b me c H lo ls x y => lv_sipush x.1 x.2.1 hd hv (kk p e s m a b me c H lo ls x y)
theorem GW.iadd {x1 y1 v : Int32} (hd : decode M.2.1 pc = .ok (.iadd, 1)) (hv : x1 + y1 = v) (kk : GW k M mc ms A Qc (pc + 1) L (.int v :: S) ws cl sl) : GW k M mc ms A Qc pc L (.int y1 :: .int x1 :: S) ws cl sl := by subst hv; exact fun p e s m a b me c H lo ls x y => lv_iadd x.1 x.2.1 hd (kk p e s m a b me c H lo ls x y)
theorem GW.dup {v : Value} (hd : decode M.2.1 pc = .ok (.dup, 1)) (hv : v.category = 1) (kk : GW k M mc ms A Qc (pc + 1) L (v :: v :: S) ws cl sl) : GW k M mc ms A Qc pc L (v :: S) ws cl sl := fun p e s m a b me c H lo ls x y => lv_dup x.1 x.2.1 hd hv (kk p e s m a b me c H lo ls x y)
theorem GW.aload_n {j : Fin 4} {r : Nat} (hd : decode M.2.1 pc = .ok (.aload_n j, 1)) (q : Nat) (hq : L[q]? = some ((j : Nat), .ref r)) (kk : GW k M mc ms A Qc (pc + 1) L (.ref r :: S) ws cl sl) : GW k M mc ms A Qc pc L S ws cl sl := fun p e s m a b me c H lo ls x y => lv_aload_n x.1 x.2.1 hd rfl (lv_at y.2.2.2.2 q hq) (kk p e s m a b me c H lo ls x y)
theorem GW.iload_n {j : Fin 4} {r : Int32} (hd : decode M.2.1 pc = .ok (.iload_n j, 1)) (q : Nat) (hq : L[q]? = some ((j : Nat), .int r)) (kk : GW k M mc ms A Qc (pc + 1) L (.int r :: S) ws cl sl) : GW k M mc ms A Qc pc L S ws cl sl := fun p e s m a b me c H lo ls x y => lv_iload_n x.1 x.2.1 hd rfl (lv_at y.2.2.2.2 q hq) (kk p e s m a b me c H lo ls x y)
theorem GW.istore_n {j : Fin 4} {r : Int32} {L' : List (Nat × Value)} (hd : decode M.2.1 pc = .ok (.istore_n j, 1)) (hn : (j : Nat) < M.2.2.1) (hL : lvins j (.int r) (L.filter (fun q => !(q.1 == (j : Nat)) && !(q.1 + 1 == (j : Nat) && q.2.category == 2))) = L') (kk : GW k M mc ms A Qc (pc + 1) L' S ws cl sl) : GW k M mc ms A Qc pc L (.int r :: S) ws cl sl := fun p e s m a b me c H lo ls x y => lv_istore_n x.1 x.2.1 hd rfl y.2.2.2.2 hn rfl fun ls' hl' => kk p e s m a b me c H lo ls' x ⟨y.1, y.2.1, y.2.2.1, y.2.2.2.1, lvins_has hl' hL⟩
theorem GW.iinc {i : Nat} {n : Int} {r v : Int32} {L' : List (Nat × Value)} (hd : decode M.2.1 pc = .ok (.iinc i n, 3)) (q : Nat) (hq : L[q]? = some (i, .int r)) (hv : r + Int32.ofInt n = v) (hn : i < M.2.2.1) (hL : lvins i (.int v) (L.filter (fun q => !(q.1 == i) && !(q.1 + 1 == i && q.2.category == 2))) = L') (kk : GW k M mc ms A Qc (pc + 3) L' S ws cl sl) : GW k M mc ms A Qc pc L S ws cl sl := fun p e s m a b me c H lo ls x y => lv_iinc x.1 x.2.1 hd y.2.2.2.2 hq hv hn rfl fun ls' hl' => kk p e s m a b me c H lo ls' x ⟨y.1, y.2.1, y.2.2.1, y.2.2.2.1, lvins_has hl' hL⟩
theorem GW.icmp_ge {x1 y1 : Int32} {off : Int} {tgt : Nat} (hd : decode M.2.1 pc = .ok (.if_icmp .ge off, 3)) (ht : (pc : Int) + off = (tgt : Int)) (kt : y1 ≤ x1 → GW k M mc ms A Qc tgt L S ws cl sl) (kf : ¬ (y1 ≤ x1) → GW k M mc ms A Qc (pc + 3) L S ws cl sl) : GW k M mc ms A Qc pc L (.int y1 :: .int x1 :: S) ws cl sl := fun p e s m a b me c H lo ls x y => lv_icmp_ge x.1 x.2.1 hd ht (fun z => kt z p e s m a b me c H lo ls x y) (fun z => kf z p e s m a b me c H lo ls x y)
theorem GW.goto {off : Int} {tgt : Nat} (hd : decode M.2.1 pc = .ok (.goto off, 3)) (ht : (pc : Int) + off = (tgt : Int)) (kk : GW k M mc ms A Qc tgt L S ws cl sl) : GW k M mc ms A Qc pc L S ws cl sl := fun p e s m a b me c H lo ls x y => lv_goto x.1 x.2.1 hd ht (kk p e s m a b me c H lo ls x y)
theorem GW.obj {idx r : Nat} (hd : decode M.2.1 pc = .ok (.invokespecial idx, 3)) (hl : Cond.methodLink M.1.cls idx Lib.objectInit ∈ wsG) (hin : Cond.instanceMethod Lib.objectInit ∈ wsG) (hco : Cond.code Lib.objectInit ⟨#[0xb1]⟩ 1 none ∈ wsG) (hlev : 1 ≤ M.2.2.2.2) (hst : (S.map fun v => v.category).sum ≤ 8) (kk : GW k M mc ms A Qc (pc + 3) L S ws cl sl) : GW k M mc ms A Qc pc L (.ref r :: S) ws cl sl := by
  intro p e s m a b me c H lo ls x y
  refine W.objInit x.1 x.2.1 x.2.2.2.1 (x.2.2.2.2.1 _ hl) (x.2.2.2.2.1 _ hin) (x.2.2.2.2.1 _ hco) rfl (by rw [x.2.2.1]; exact y.2.2.2.2.1) rfl hd hlev ?_ ?_
  · have h0 := lv_room (m := m) (pc := pc) (ls := ls) (rest := .ref r :: S) hst
    show _ ≤ 40 * M.2.2.2.2
    omega
  · exact W.eq (g2 := F0 m (pc + 3) ls S) rfl (kk p e s m a b me c H lo ls x y)
theorem GW.put {a0 q0 ci idx : Nat} {C : String} {T : u_T} {N : Nat} {fs : List Value} {v : Value} {ty : FieldType} (hin : ∀ w ∈ u_ws C T N, w ∈ wsG) (ty0 : Nat → FieldType) (hty : ∀ j, j < N → parseFieldDescriptor (T j).2.2.1 = some (ty0 j)) (hnm : ∀ a, a < N → ∀ b, b < N → a ≠ b → (T a).2.1 ≠ (T b).2.1) (j : Nat) (hj : j < N) (he : ws[q0]? = some (a0, .inr (ci, fs))) (hc : vwCl[ci]? = some (C, T, N)) (hl : Cond.fieldLink M.1.cls idx (T j).1 (T j).2.1 (T j).2.2.1 ∈ wsG) (hfin : (T j).2.2.2 = false) (hd0 : parseFieldDescriptor (T j).2.2.1 = some ty) (hn : narrow ty v = v) (hfit : fits ty v = true) (hlen : j < fs.length) (hd : decode M.2.1 pc = .ok (.putfield idx, 3)) {ws' : va_W} (hw : ws.set q0 (a0, .inr (ci, fs.set j v)) = ws') (kk : GW k M mc ms A Qc (pc + 3) L S ws' cl sl) : GW k M mc ms A Qc pc L (v :: .ref a0 :: S) ws cl sl := by
  subst hw
  exact fun p e s m a b me c H lo ls x y => va_put x.1 x.2.1 x.2.2.2.2.1 hin ty0 hty hnm x.2.2.2.1 x.2.2.2.2.2.2.2.2.1 y.2.1 y.2.2.1 y.2.2.2.1 q0 he hc j hj (x.2.2.2.2.1 _ hl) (fun _ h9 => h9) hfin hd0 hn hfit hlen hd (fun H1 lo1 hP hD hS => kk p e s m a b me c H1 lo1 ls x ⟨y.1, hP, hD, hS, y.2.2.2.2⟩)
theorem GW.putF {a0 q0 ci idx : Nat} {C : String} {T : u_T} {N : Nat} {fs : List Value} {v : Value} {ty : FieldType} (hin : ∀ w ∈ u_ws C T N, w ∈ wsG) (ty0 : Nat → FieldType) (hty : ∀ j, j < N → parseFieldDescriptor (T j).2.2.1 = some (ty0 j)) (hnm : ∀ a, a < N → ∀ b, b < N → a ≠ b → (T a).2.1 ≠ (T b).2.1) (j : Nat) (hj : j < N) (he : ws[q0]? = some (a0, .inr (ci, fs))) (hc : vwCl[ci]? = some (C, T, N)) (hl : Cond.fieldLink M.1.cls idx (T j).1 (T j).2.1 (T j).2.2.1 ∈ wsG) (hfin : (T j).2.2.2 = true) (hini : M.1.name = "<init>") (hdecl : (T j).1 = M.1.cls) (hd0 : parseFieldDescriptor (T j).2.2.1 = some ty) (hn : narrow ty v = v) (hfit : fits ty v = true) (hlen : j < fs.length) (hd : decode M.2.1 pc = .ok (.putfield idx, 3)) {ws' : va_W} (hw : ws.set q0 (a0, .inr (ci, fs.set j v)) = ws') (kk : GW k M mc ms A Qc (pc + 3) L S ws' cl sl) : GW k M mc ms A Qc pc L (v :: .ref a0 :: S) ws cl sl := by
  subst hw
  exact fun p e s m a b me c H lo ls x y => va_putF x.1 x.2.1 x.2.2.2.2.1 hin ty0 hty hnm x.2.2.2.1 x.2.2.2.2.2.2.2.2.1 y.2.1 y.2.2.1 y.2.2.2.1 q0 he hc j hj (x.2.2.2.2.1 _ hl) (fun _ h9 => h9) hfin (x.2.2.2.2.2.2.2.1.trans hini) hdecl hd0 hn hfit hlen hd (fun H1 lo1 hP hD hS => kk p e s m a b me c H1 lo1 ls x ⟨y.1, hP, hD, hS, y.2.2.2.2⟩)
theorem GW.get {a0 q0 ci idx : Nat} {C : String} {T : u_T} {N : Nat} {fs : List Value} {v : Value} (hin : ∀ w ∈ u_ws C T N, w ∈ wsG) (j : Nat) (hj : j < N) (he : ws[q0]? = some (a0, .inr (ci, fs))) (hc : vwCl[ci]? = some (C, T, N)) (hl : Cond.fieldLink M.1.cls idx (T j).1 (T j).2.1 (T j).2.2.1 ∈ wsG) (hv : fs[j]? = some v) (hd : decode M.2.1 pc = .ok (.getfield idx, 3)) (kk : GW k M mc ms A Qc (pc + 3) L (v :: S) ws cl sl) : GW k M mc ms A Qc pc L (.ref a0 :: S) ws cl sl := fun p e s m a b me c H lo ls x y => va_get x.1 x.2.1 x.2.2.2.2.1 hin x.2.2.2.1 x.2.2.2.2.2.2.2.2.1 y.2.1 q0 he hc j hj (x.2.2.2.2.1 _ hl) (fun _ h9 => h9) hv hd (kk p e s m a b me c H lo ls x y)
theorem cy_int {D : va_G} {U : State} {c1 c2 : ClassId} {t1 t2 : List (ClassId × FieldType)} {i j : Nat} (h1 : va_K D vwCl t1 U) (h2 : va_K D vwCl t2 U) (e1 : t1[i]? = some (c1, .int)) (e2 : t2[j]? = some (c2, .int)) : c1 = c2 := by
  have a := (h1.2 i _ e1).2
  have b := (h2.2 j _ e2).2
  have a : U.vm.findClass ("[" ++ FieldType.int.toString) = some c1 := a
  have b : U.vm.findClass ("[" ++ FieldType.int.toString) = some c2 := b
  exact Option.some.inj (a.symm.trans b)
theorem cy_obj {D : va_G} {U : State} {C : String} {c1 c2 : ClassId} {t1 t2 : List (ClassId × FieldType)} {i j : Nat} (h1 : va_K D vwCl t1 U) (h2 : va_K D vwCl t2 U) (e1 : t1[i]? = some (c1, .object C)) (e2 : t2[j]? = some (c2, .object C)) : c1 = c2 := by
  obtain ⟨-, -, -, -, -, a⟩ := (h1.2 i _ e1).2
  obtain ⟨-, -, -, -, -, b⟩ := (h2.2 j _ e2).2
  exact Option.some.inj (a.symm.trans b)
theorem GW.newa {n : Int32} {N : Nat} (harr : Cond.arrayClass FieldType.int ∈ wsG) (hn : ¬ n < 0) (hN : n.toNatClampNeg = N) (hbytes : N * 4 ≤ 536870912) (hcells : cl + 1 ≤ mc) (hslots : sl + N ≤ ms) (hd : decode M.2.1 pc = .ok (.newarray .int, 2)) (kk : ∀ q, GW k M mc ms A Qc (pc + 2) L (.ref q :: S) (ws ++ [(q, .inl (k.2.2 0, N, .inl (fun _ => 0)))]) (cl + 1) (sl + N)) : GW k M mc ms A Qc pc L (.int n :: S) ws cl sl := by
  intro p e s m a b me c H lo ls x y
  refine va_newa (atype := .int) (a0 := (N, .inl (fun _ => 0))) x.1 x.2.1 (x.2.2.2.2.1 _ harr) rfl x.2.2.2.2.2.2.2.2.1 y.2.1 y.2.2.1 y.2.2.2.1 y.1 (fun _ => rfl) hn hN hbytes hcells hslots hd (fun q cA H1 hK hP hD hS => ?_)
  have e0 : cA = k.2.2 0 := cy_int (i := 3) (j := 0) hK x.2.2.2.2.2.2.2.2.1 rfl rfl
  subst e0
  exact kk q p e s m a b me c H1 lo ls x ⟨y.1, hP, hD, hS, y.2.2.2.2⟩
theorem GW.newq {n : Int32} {N idx t0 : Nat} {C : String} (hcl : Cond.classLink M.1.cls idx C ∈ wsG) (hover : ∀ s, Kx k s → va_AO C s) (ht : (ctys k)[t0]? = some (k.2.2 t0, .object C)) (hn : ¬ n < 0) (hN : n.toNatClampNeg = N) (hbytes : N * 4 ≤ 536870912) (hcells : cl + 1 ≤ mc) (hslots : sl + N ≤ ms) (hd : decode M.2.1 pc = .ok (.anewarray idx, 3)) (kk : ∀ q, GW k M mc ms A Qc (pc + 3) L (.ref q :: S) (ws ++ [(q, .inl (k.2.2 t0, N, .inr (.inr (.inr (.inr (fun _ => none))))))]) (cl + 1) (sl + N)) : GW k M mc ms A Qc pc L (.int n :: S) ws cl sl := by
  intro p e s m a b me c H lo ls x y
  refine va_newq x.1 x.2.1 x.2.2.2.1 (x.2.2.2.2.1 _ hcl) (hover s x.2.2.2.2.2.2.2.2) x.2.2.2.2.2.2.2.2.1 y.2.1 y.2.2.1 y.2.2.2.1 y.1 hn hN hbytes hcells hslots hd (fun q cA H1 hK hP hD hS => ?_)
  have e0 : cA = k.2.2 t0 := cy_obj (i := 3) (j := t0) hK x.2.2.2.2.2.2.2.2.1 rfl ht
  subst e0
  exact kk q p e s m a b me c H1 lo ls x ⟨y.1, hP, hD, hS, y.2.2.2.2⟩
theorem GW.new {ci idx N : Nat} {C : String} {T : u_T} {fs : List Value} (hin : ∀ w ∈ u_ws C T N, w ∈ wsG) (ty0 : Nat → FieldType) (hty : ∀ j, j < N → parseFieldDescriptor (T j).2.2.1 = some (ty0 j)) (hcl : Cond.classLink M.1.cls idx C ∈ wsG) (hinst : Cond.instantiable C N ∈ wsG) (hini : Cond.initialized C ∈ wsG) (hc : vwCl[ci]? = some (C, T, N)) (hfs : ∀ j, j < N → defaultValue (ty0 j) = vp_V fs j) (hcells : cl + 1 ≤ mc) (hslots : sl + N ≤ ms) (hd : decode M.2.1 pc = .ok (.new idx, 3)) (kk : ∀ q, GW k M mc ms A Qc (pc + 3) L (.ref q :: S) (ws ++ [(q, .inr (ci, fs))]) (cl + 1) (sl + N)) : GW k M mc ms A Qc pc L S ws cl sl := fun p e s m a b me c H lo ls x y => va_new x.1 x.2.1 x.2.2.2.2.1 hin ty0 hty x.2.2.2.1 (x.2.2.2.2.1 _ hcl) (x.2.2.2.2.1 _ hinst) (x.2.2.2.2.1 _ hini) x.2.2.2.2.2.2.2.2.1 y.2.1 y.2.2.1 y.2.2.2.1 y.1 hc hfs hcells hslots hd (fun q H1 hP hD hS => kk q p e s m a b me c H1 lo ls x ⟨y.1, hP, hD, hS, y.2.2.2.2⟩)
theorem GW.iast {a0 q0 n : Nat} {f : Nat → Int32} {i v : Int32} (ha : ws[q0]? = some (a0, .inl (k.2.2 0, n, .inl f))) (hin : vp_in i n) (hd : decode M.2.1 pc = .ok (.iastore, 1)) {ws' : va_W} (hw : ws.set q0 (a0, .inl (k.2.2 0, n, .inl (upd f i.toNatClampNeg v))) = ws') (kk : GW k M mc ms A Qc (pc + 1) L S ws' cl sl) : GW k M mc ms A Qc pc L (.int v :: .int i :: .ref a0 :: S) ws cl sl := by
  subst hw
  exact fun p e s m a b me c H lo ls x y => va_iast x.1 x.2.1 x.2.2.2.2.2.2.2.2.1 y.2.1 y.2.2.1 y.2.2.2.1 q0 0 ha rfl hin hd (fun H1 lo1 hP hD hS => kk p e s m a b me c H1 lo1 ls x ⟨y.1, hP, hD, hS, y.2.2.2.2⟩)
theorem GW.astq {a0 q0 qk t0 ci n v : Nat} {r : vw_C} {vs : List Value} {f : Nat → Option Nat} {i : Int32} (ha : ws[q0]? = some (a0, .inl (k.2.2 t0, n, .inr (.inr (.inr (.inr f)))))) (ht : (ctys k)[t0]? = some (k.2.2 t0, .object r.1)) (hv : ws[qk]? = some (v, .inr (ci, vs))) (hc : vwCl[ci]? = some r) (hin : vp_in i n) (hd : decode M.2.1 pc = .ok (.aastore, 1)) {ws' : va_W} (hw : ws.set q0 (a0, .inl (k.2.2 t0, n, .inr (.inr (.inr (.inr (va_up f i.toNatClampNeg (some v))))))) = ws') (kk : GW k M mc ms A Qc (pc + 1) L S ws' cl sl) : GW k M mc ms A Qc pc L (.ref v :: .int i :: .ref a0 :: S) ws cl sl := by
  subst hw
  exact fun p e s m a b me c H lo ls x y => va_astq x.1 x.2.1 x.2.2.2.2.2.2.2.2.1 y.2.1 y.2.2.1 y.2.2.2.1 q0 t0 qk ci ha ht hv hc hin hd (fun H1 lo1 hP hD hS => kk p e s m a b me c H1 lo1 ls x ⟨y.1, hP, hD, hS, y.2.2.2.2⟩)
theorem GW.alen {a0 q0 n : Nat} {f : Nat → Int32} {v : Int32} (ha : ws[q0]? = some (a0, .inl (k.2.2 0, n, .inl f))) (hv : Int32.ofNat n = v) (hd : decode M.2.1 pc = .ok (.arraylength, 1)) (kk : GW k M mc ms A Qc (pc + 1) L (.int v :: S) ws cl sl) : GW k M mc ms A Qc pc L (.ref a0 :: S) ws cl sl := by
  subst hv
  exact fun p e s m a b me c H lo ls x y => va_alen x.1 x.2.1 x.2.2.2.2.2.2.2.2.1 y.2.1 q0 0 ha rfl rfl hd (kk p e s m a b me c H lo ls x y)
end GWrows
/-- what a constructor (or fill) does: from the cells wc to w1 u -/
def CC (k : CT) (M : MT) (mc ms : Nat) (av : List Value) (wc : va_W) {T : Type} (w1 : T → va_W) : Prop :=
  ∀ sz : Nat, Met k.1 M.1 (wsM M) (rmC M.2.2.2.2 mc ms) (va_Pc av (fun U => U.heap.size = sz ∧ va_P k.2.1 vwCl wc U.heap ∧ Kx k U ∧ va_D (fun _ => True) wc)) (va_Qv (fun _ : T => True) (fun u t => va_P k.2.1 vwCl (w1 u) t.heap ∧ va_D (va_A wc sz) (w1 u)) (va_A wc sz)) mc ms (va_A wc sz)
theorem CC.of {k : CT} {M : MT} {mc ms : Nat} {av : List Value} {wc : va_W} {T : Type} {w1 : T → va_W} {L : List (Nat × Value)} (hy : plainName M.1.cls = true) (hn : (lg_sl av).length ≤ M.2.2.1) (hL : lv_args 0 av = L) (h : ∀ A : Nat → Prop, GW k M mc ms A (va_Qv (fun _ : T => True) (fun u t => va_P k.2.1 vwCl (w1 u) t.heap ∧ va_D A (w1 u)) A) 0 L [] wc 0 0) : CC k M mc ms av wc w1 := by
  intro sz
  refine Met.ofW (cc := M.2.1) (maxL := M.2.2.1) (ret := M.2.2.2.1) (ws' := wsG) hy rfl ?_
  intro p e s m args below meth c s₁ B hml hv
  obtain ⟨rfl, hsz, hP, hK, hD0⟩ := hv
  have hts := atoms_spec (ws := wsM M) B.pre
  have hl := lv_entry av (n := M.2.2.1) hn
  rw [lg_entry_eq]
  rw [hL] at hl
  subst hsz
  have hD := hD0.self (sz := s.heap.size)
  exact h (va_A wc s.heap.size) p e s m _ below meth c s.heap [] _ ⟨B.exec, B.bytes, hml, findClass_of_methodNamed B.named, fun w hw => hts w (List.mem_cons_of_mem _ hw), B.returns, B.notSynchronized, (name_of_methodNamed B.named B.method).1, hK⟩ ⟨fun q h => Or.inr h, hP, hD, va_S.rf, hl⟩
theorem GW.vret {k : CT} {M : MT} {mc ms : Nat} {A : Nat → Prop} {T : Type} {w1 : T → va_W} {pc : Nat} {L : List (Nat × Value)} {ws : va_W} {cl sl : Nat} (u : T) (is : List Nat) (hr : M.2.2.2.1 = none) (hnd : va_nd is = true) (hs : is.map (fun i => ws[i]?) = (w1 u).map some) (hc : cl ≤ mc) (hsl : sl ≤ ms) (hd : decode M.2.1 pc = .ok (.return_, 1)) : GW k M mc ms A (va_Qv (fun _ : T => True) (fun u t => va_P k.2.1 vwCl (w1 u) t.heap ∧ va_D A (w1 u)) A) pc L [] ws cl sl := by
  intro p e s m a b me c H lo ls x y
  have hlocks := x.2.2.2.2.2.2.1
  refine W.widen hc hsl ?_
  have hf : is.filterMap (fun i => ws[i]?) = w1 u := by
    have := congrArg (fun l => l.filterMap id) hs
    simpa [List.filterMap_map, Function.comp_def] using this
  exact W.vret x.1 x.2.1 (x.2.2.2.2.2.1.trans hr) (fun t ht hW => ⟨⟨u, rfl, trivial, by rw [ht]; exact y.2.1.sub is hf, y.2.2.1.sub is hnd hs⟩, y.2.2.2.1.F ht⟩) y.2.2.2.1.2.2 hd hlocks
/-- what a call of a constructor asks of the tables -/
def OkI (M : MT) (n : Nat) : Prop := M.1.name = "<init>" ∧ Cond.instanceMethod M.1 ∈ wsG ∧ Cond.initialized M.1.cls ∈ wsG ∧ Cond.code M.1 M.2.1 M.2.2.1 none ∈ wsG ∧ M.2.2.2.1 = none ∧ (M.1.cls ≠ "java/lang/invoke/MethodHandle" ∧ M.1.cls ≠ "java/lang/invoke/VarHandle" ∧ (parseMethodDescriptor M.1.desc).map (fun d => d.parameters.length) = some n) ∧ M.2.2.1 ≤ 21
theorem levC_ok {a b x mc ms mc' ms' : Nat} (h : a + 1 ≤ b) (hx : x ≤ 21) : (rmC a mc' ms').frames + 1 ≤ (rmC b mc ms).frames ∧ 8 + (x + 11) + (rmC a mc' ms').locals ≤ (rmC b mc ms).locals := by
  refine ⟨h, ?_⟩
  show 8 + (x + 11) + 40 * a ≤ 40 * b
  omega
theorem GW.callI {k : CT} {M : MT} {mc ms : Nat} {A : Nat → Prop} {Qc : Array Value → State → Outcome → State → Prop} {pc : Nat} {L : List (Nat × Value)} {S : List Value} {ws : va_W} {cl sl : Nat} {M' : MT} {mc' ms' n idx r : Nat} {wc wr : va_W} {T : Type} {w1 : T → va_W} (As : List Value) {rest : List Value} (hM : CC k M' mc' ms' (.ref r :: As) wc w1) (ok : OkI M' n) (hl : Cond.methodLink M.1.cls idx M'.1 ∈ wsG) (hn : As.length = n) (hlev : M'.2.2.2.2 + 1 ≤ M.2.2.2.2) (hst : (rest.map fun v => v.category).sum ≤ 8) (hs : S = As.reverse ++ .ref r :: rest) (isC isR : List Nat) (hC : isC.map (fun i => ws[i]?) = wc.map some) (hR : isR.map (fun i => ws[i]?) = wr.map some) (hnd : va_nd isR = true) (hndC : va_nd isC = true) (hdis : ∀ i ∈ isR, i ∉ isC) (hcells : cl + mc' ≤ mc) (hslots : sl + ms' ≤ ms) (hd : decode M.2.1 pc = .ok (.invokespecial idx, 3)) (kk : ∀ u : T, GW k M mc ms A Qc (pc + 3) L rest (wr ++ w1 u) (cl + mc') (sl + ms')) : GW k M mc ms A Qc pc L S ws cl sl := by
  intro p e s m a b me c H lo ls x y
  obtain ⟨o0, o1, o3, o4, o7, o5, o6⟩ := ok
  have hf : isC.filterMap (fun i => ws[i]?) = wc := by
    have := congrArg (fun l => l.filterMap id) hC
    simpa [List.filterMap_map, Function.comp_def] using this
  have hPc := y.2.1.sub isC hf
  have hDc := y.2.2.1.sub isC hndC hC
  have hFc := va_free (wc := wc) y.2.2.1 y.2.2.2.1 y.1 isC hC
  have hts := x.2.2.2.2.1
  refine va_callv (va_runI (bytes := M'.2.1) (maxL := M'.2.2.1) (As := As) (rest := rest) ⟨x.1, x.2.1, x.2.2.1, x.2.2.2.1, hts⟩ (hM H.size) (cwI n hts (wsG_goodIn (ws := wsM M') (wsM_in (by rw [o7]; exact o4))) (by unfold wsM; rw [o7]) rfl rfl (hts _ o3) (hts _ hl) (hts _ o1) o0 o5 (levC_ok hlev o6)) ⟨fun a U g mk q => ⟨q.1, q.2.1, q.2.2.1, q.2.2.2.1.moved (u := U) (U := U.calling g mk a) (Vm.Alike.refl U.vm), q.2.2.2.2⟩, fun U hU hW => ⟨rfl, by rw [hU], by rw [hU]; exact hPc, x.2.2.2.2.2.2.2.2.moved hW.alike, hDc.weaken (fun _ _ _ _ => trivial)⟩⟩ rfl hn y.2.2.2.2.1 hs (lv_room hst) hd ⟨hcells, hslots⟩) y.2.2.2.1 (fun q _ h => hFc q h) hFc (fun u t H1 lo1 ht hvm hw hB hz1 hk1 hS1 => ?_)
  obtain ⟨hP1, hD1⟩ := hB
  rw [ht] at hP1
  obtain ⟨hP, hD⟩ := va_join (wr := wr) (w1 := w1 u) y.2.1 y.2.2.1 isC isR hC hR hnd hdis hk1 hFc hP1 hD1
  exact kk u p e s m a b me c H1 lo1 ls x ⟨y.1, hP, hD, hS1, y.2.2.2.2⟩
theorem GW.callS {k : CT} {M : MT} {mc ms : Nat} {A : Nat → Prop} {Qc : Array Value → State → Outcome → State → Prop} {pc : Nat} {L : List (Nat × Value)} {S : List Value} {ws : va_W} {cl sl : Nat} {M' : MT} {n idx : Nat} {wc wr : va_W} {T : Type} {w1 : T → va_W} (As : List Value) {rest : List Value} (hM : CC k M' 0 0 As wc w1) (ok : OkS M' n) (hl : Cond.methodLink M.1.cls idx M'.1 ∈ wsG) (hn : As.length = n) (hlev : M'.2.2.2.2 + 1 ≤ M.2.2.2.2) (hst : (rest.map fun v => v.category).sum ≤ 8) (hs : S = As.reverse ++ rest) (isC isR : List Nat) (hC : isC.map (fun i => ws[i]?) = wc.map some) (hR : isR.map (fun i => ws[i]?) = wr.map some) (hnd : va_nd isR = true) (hndC : va_nd isC = true) (hdis : ∀ i ∈ isR, i ∉ isC) (hcm : cl ≤ mc) (hsm : sl ≤ ms) (hd : decode M.2.1 pc = .ok (.invokestatic idx, 3)) (kk : ∀ u : T, GW k M mc ms A Qc (pc + 3) L rest (wr ++ w1 u) cl sl) : GW k M mc ms A Qc pc L S ws cl sl := by
  intro p e s m a b me c H lo ls x y
  obtain ⟨o1, o2, o4, o5, o6⟩ := ok
  have hf : isC.filterMap (fun i => ws[i]?) = wc := by
    have := congrArg (fun l => l.filterMap id) hC
    simpa [List.filterMap_map, Function.comp_def] using this
  have hPc := y.2.1.sub isC hf
  have hDc := y.2.2.1.sub isC hndC hC
  have hFc := va_free (wc := wc) y.2.2.1 y.2.2.2.1 y.1 isC hC
  have hts := x.2.2.2.2.1
  have cw := va_cwS (R := rmC M.2.2.2.2 mc ms) (s := s) (args := a) (own := M.1.cls) (index := idx) (y := M'.1) (bytes := M'.2.1) (maxL := M'.2.2.1) (ret := M'.2.2.2.1) (rm := rmC M'.2.2.2.2 0 0) (mc := 0) (ms := 0) (Ts := wsG) (ws := wsM M') (ws' := wsG) n hts (wsG_goodIn (fun w hw => by
    unfold va_wsS at hw
    rcases List.mem_append.mp hw with hw | hw
    · simp only [List.mem_cons, List.not_mem_nil, or_false] at hw
      rcases hw with rfl | rfl | rfl <;> assumption
    · exact wsM_in o4 w hw)) rfl rfl rfl o5 (levC_ok hlev o6)
  refine va_callv (va_runS (As := As) (rest := rest) ⟨x.1, x.2.1, x.2.2.1, x.2.2.2.1, hts⟩ (hM H.size) cw ⟨fun a U g mk q => ⟨q.1, q.2.1, q.2.2.1, q.2.2.2.1.moved (u := U) (U := U.calling g mk a) (Vm.Alike.refl U.vm), q.2.2.2.2⟩, fun U hU hW => ⟨rfl, by rw [hU], by rw [hU]; exact hPc, x.2.2.2.2.2.2.2.2.moved hW.alike, hDc.weaken (fun _ _ _ _ => trivial)⟩⟩ rfl hn y.2.2.2.2.1 hs (lv_room hst) hd ⟨hcm, hsm⟩) y.2.2.2.1 (fun q _ h => hFc q h) hFc (fun u t H1 lo1 ht hvm hw hB hz1 hk1 hS1 => ?_)
  obtain ⟨hP1, hD1⟩ := hB
  rw [ht] at hP1
  obtain ⟨hP, hD⟩ := va_join (wr := wr) (w1 := w1 u) y.2.1 y.2.2.1 isC isR hC hR hnd hdis hk1 hFc hP1 hD1
  exact kk u p e s m a b me c H1 lo1 ls x ⟨y.1, hP, hD, hS1, y.2.2.2.2⟩
