/-! A FIXED WORLD: after the constructors no cell is made, so a state of the class (layout 0) or of the reference (layout 1) is a memory of ints, by tag, number and slot; which cell a reference field names is written in the layout. AW: the machine comes from here to its return, whatever the stack below. -/
abbrev Mm : Type := Nat → Nat → Nat → Int32
def mrow (σ : Mm) (t i : Nat) (f : Nat → Int32) : Mm := fun t' i' => if t' = t ∧ i' = i then f else σ t' i'
def mset (σ : Mm) (t i j : Nat) (v : Int32) : Mm := mrow σ t i (upd (σ t i) j v)
theorem mrow_same (σ : Mm) (t i : Nat) (f : Nat → Int32) : mrow σ t i f t i = f := by simp [mrow]
theorem mrow_ne (σ : Mm) {t i t' i' : Nat} (f : Nat → Int32) (h : ¬ (t' = t ∧ i' = i)) : mrow σ t i f t' i' = σ t' i' := by simp [mrow, h]
/-- launch, the classes' numbers and slots, addresses by tag and number, array classes ([I, [Bench, [Sheet), the static tables' addresses (REACH, ROUND, UNDER), the texts' and their bytes' addresses -/
abbrev GG : Type := Launch × va_G × (Nat → Nat → Nat) × (Nat → ClassId) × (Nat → Nat) × (Nat → Nat) × (Nat → Nat)
abbrev gL (g : GG) : Launch := g.1
abbrev gD (g : GG) : va_G := g.2.1
abbrev gad (g : GG) : Nat → Nat → Nat := g.2.2.1
abbrev gcy (g : GG) : Nat → ClassId := g.2.2.2.1
abbrev gst (g : GG) : Nat → Nat := g.2.2.2.2.1
abbrev gaK (g : GG) : Nat → Nat := g.2.2.2.2.2.1
abbrev gaV (g : GG) : Nat → Nat := g.2.2.2.2.2.2
abbrev gtys (g : GG) : List (ClassId × FieldType) := [(gcy g 0, .int), (gcy g 1, .object RX0), (gcy g 2, .object RX4)]
/-- how many cells a tag has -/
def cntX : Nat → Nat
  | 0 => 17 | 1 => 17 | 2 => 3 | 3 => 3 | 4 => 3 | 5 => 3 | 6 => 3 | 7 => 3 | 8 => 1 | 9 => 1 | 10 => 1 | 11 => 1 | 12 => 1 | 13 => 4 | 14 => 4 | 15 => 1 | 16 => 1 | _ => 0
def cntY : Nat → Nat
  | 0 => 1 | 1 => 1 | 2 => 1 | 3 => 1 | 4 => 1 | 5 => 1 | 6 => 1 | 7 => 1 | 8 => 1 | 9 => 1 | 10 => 1 | 11 => 1 | 12 => 1 | _ => 0
def cntOf (ly : Nat) : Nat → Nat := match ly with
  | 0 => cntX
  | _ => cntY
def idsOf (ly : Nat) : List (Nat × Nat) := (List.range 17).flatMap fun t => (List.range (cntOf ly t)).map fun i => (t, i)
def enX (ad : Nat → Nat → Nat) (cy : Nat → ClassId) (t i : Nat) (r : Nat → Int32) : va_E := match t with
  | 0 => .inr (0, [.int (r 0), .int (r 1), .ref (ad 1 i)])
  | 1 => .inl (cy 0, 8, .inl r)
  | 2 => .inr (1, [.ref (ad 3 i), .ref (ad 4 i), .int (r 2), .int (r 3)])
  | 3 => .inl (cy 0, 64, .inl r)
  | 4 => .inl (cy 0, 8, .inl r)
  | 5 => .inr (2, [.ref (ad 2 i), .ref (ad 6 i), .int (r 2), .ref (ad 7 i), .int (r 4)])
  | 6 => .inl (cy 1, 5, .inr (.inr (.inr (.inr fun j => some (ad 0 (5 * i + j))))))
  | 7 => .inl (cy 0, 10, .inl r)
  | 8 => .inr (3, [.ref (ad 0 16), .ref (ad 2 0), .ref (ad 9 0), .int (r 3), .int (r 4), .int (r 5), .int (r 6), .int (r 7), .int (r 8)])
  | 9 => .inl (cy 0, 9, .inl r)
  | 10 => .inl (cy 0, 120, .inl r)
  | 11 => .inr (5, [.ref (ad 10 0), .ref (ad 5 2), .int (r 2), .int (r 3), .int (r 4), .int (r 5), .int (r 6)])
  | 12 => .inl (cy 2, 4, .inr (.inr (.inr (.inr fun j => some (ad 13 j)))))
  | 13 => .inr (4, [.int (r 0), .int (r 1), .ref (ad 14 i)])
  | 14 => .inl (cy 0, 40, .inl r)
  | 15 => .inl (cy 0, 7, .inl r)
  | _ => .inr (6, [.ref (ad 5 0), .ref (ad 5 1), .int (r 2), .ref (ad 5 2), .ref (ad 0 15), .ref (ad 8 0), .ref (ad 10 0), .int (r 7), .ref (ad 11 0), .ref (ad 12 0), .ref (ad 15 0)])
def enY (ad : Nat → Nat → Nat) (cy : Nat → ClassId) (t _i : Nat) (r : Nat → Int32) : va_E := match t with
  | 0 => .inr (7, [.ref (ad 1 0), .ref (ad 2 0), .ref (ad 3 0), .int (r 3), .ref (ad 4 0), .ref (ad 5 0), .int (r 6), .int (r 7), .ref (ad 6 0), .ref (ad 7 0), .ref (ad 8 0), .ref (ad 9 0), .int (r 12), .int (r 13), .int (r 14), .int (r 15), .int (r 16), .int (r 17), .ref (ad 10 0), .ref (ad 11 0), .ref (ad 12 0)])
  | 1 => .inl (cy 0, 136, .inl r)
  | 2 => .inl (cy 0, 136, .inl r)
  | 3 => .inl (cy 0, 136, .inl r)
  | 4 => .inl (cy 0, 7, .inl r)
  | 5 => .inl (cy 0, 8, .inl r)
  | 6 => .inl (cy 0, 64, .inl r)
  | 7 => .inl (cy 0, 8, .inl r)
  | 8 => .inl (cy 0, 8, .inl r)
  | 9 => .inl (cy 0, 120, .inl r)
  | 10 => .inl (cy 0, 4, .inl r)
  | 11 => .inl (cy 0, 4, .inl r)
  | _ => .inl (cy 0, 160, .inl r)
def enOf (ly : Nat) : (Nat → Nat → Nat) → (Nat → ClassId) → Nat → Nat → (Nat → Int32) → va_E := match ly with
  | 0 => enX
  | _ => enY
def wlf (g : GG) (ly : Nat) (σ : Mm) (q : Nat × Nat) : Nat × va_E := (gad g q.1 q.2, enOf ly (gad g) (gcy g) q.1 q.2 (σ q.1 q.2))
def wl (g : GG) (ly : Nat) (σ : Mm) : va_W := (idsOf ly).map (wlf g ly σ)
def gA (g : GG) (ly : Nat) : Nat → Prop := fun q => ∃ x ∈ idsOf ly, q = gad g x.1 x.2
theorem ids_in {ly t i : Nat} (ht : t < 17) (h : i < cntOf ly t) : (t, i) ∈ idsOf ly := List.mem_flatMap.mpr ⟨t, List.mem_range.mpr ht, List.mem_map.mpr ⟨i, List.mem_range.mpr h, rfl⟩⟩
theorem ids_at {ly t i : Nat} (h : (t, i) ∈ idsOf ly) : ∃ q0 : Nat, (idsOf ly)[q0]? = some (t, i) := List.getElem?_of_mem h
theorem ids_nodup_X : (idsOf 0).Nodup := by decide +kernel
theorem ids_nodup_Y : (idsOf 1).Nodup := by decide +kernel
theorem idsOf_y (ly : Nat) : idsOf (ly + 1) = idsOf 1 := rfl
theorem ids_nodup (ly : Nat) : (idsOf ly).Nodup := by
  cases ly with
  | zero => exact ids_nodup_X
  | succ n => rw [idsOf_y]; exact ids_nodup_Y
theorem wl_at {g : GG} {ly : Nat} {σ : Mm} {t i q0 : Nat} (h : (idsOf ly)[q0]? = some (t, i)) : (wl g ly σ)[q0]? = some (gad g t i, enOf ly (gad g) (gcy g) t i (σ t i)) := by
  unfold wl
  rw [List.getElem?_map, h]
  rfl
theorem wl_set {g : GG} {ly : Nat} {σ : Mm} {t i q0 : Nat} (h : (idsOf ly)[q0]? = some (t, i)) (f : Nat → Int32) : (wl g ly σ).set q0 (gad g t i, enOf ly (gad g) (gcy g) t i f) = wl g ly (mrow σ t i f) := by
  have hn := ids_nodup ly
  apply List.ext_getElem?
  intro n
  unfold wl
  rw [List.getElem?_set, List.getElem?_map]
  by_cases hq : q0 = n
  · subst hq
    have hl : q0 < (idsOf ly).length := (List.getElem?_eq_some_iff.mp h).1
    rw [List.getElem?_map, h]
    simp [wlf, mrow_same, hl]
  · rw [if_neg hq, List.getElem?_map]
    cases hx : (idsOf ly)[n]? with
    | none => rfl
    | some x =>
      have hne : ¬ (x.1 = t ∧ x.2 = i) := by
        intro ⟨e1, e2⟩
        have hxx : x = (t, i) := by rw [← e1, ← e2]
        rw [hxx] at hx
        exact hq ((List.getElem?_inj (List.getElem?_eq_some_iff.mp h).1 hn).mp (h.trans hx.symm))
      simp only [Option.map_some, wlf, mrow_ne σ f hne]
/-- the texts: by their places -/
def strTx : List String := ["friends", "secret", "weight", "held", "bench", "pew", "ring", "boat", "bed", "table", "raft", "seats", "sits"]
def strBy : List (List Int32) := [[102, 114, 105, 101, 110, 100, 115], [115, 101, 99, 114, 101, 116], [119, 101, 105, 103, 104, 116], [104, 101, 108, 100], [98, 101, 110, 99, 104], [112, 101, 119], [114, 105, 110, 103], [98, 111, 97, 116], [98, 101, 100], [116, 97, 98, 108, 101], [114, 97, 102, 116], [115, 101, 97, 116, 115], [115, 105, 116, 115]]
def strLn : List Nat := [7, 6, 6, 4, 5, 3, 4, 4, 3, 5, 4, 5, 4]
/-- who speaks which text, at which entry -/
def strTb : List (String × Nat × String × Nat) := [(RX5, 64, "friends", 0), (RX5, 73, "secret", 1), (RX5, 75, "weight", 2), (RX5, 80, "held", 3), (RX5, 92, "bench", 4), (RX5, 94, "pew", 5), (RX5, 96, "ring", 6), (RX5, 98, "boat", 7), (RX5, 100, "bed", 8), (RX5, 102, "table", 9), (RX5, 104, "raft", 10), (RX5, 131, "seats", 11), (RX5, 136, "sits", 12),
  (RX7, 278, "friends", 0), (RX7, 283, "secret", 1), (RX7, 285, "weight", 2), (RX7, 290, "held", 3), (RX7, 254, "bench", 4), (RX7, 256, "pew", 5), (RX7, 258, "ring", 6), (RX7, 260, "boat", 7), (RX7, 262, "bed", 8), (RX7, 264, "table", 9), (RX7, 266, "raft", 10), (RX7, 270, "seats", 11), (RX7, 274, "sits", 12)]
/-- words of nest mates -/
def nestF : List (String × Nat × String) := [(RX0, 42, "REACH"), (RX0, 45, "ROUND"), (RX3, 55, "REACH"), (RX3, 114, "ROUND")]
def nestM : List (String × Nat × MethodName) := [(RX2, 77, yX6_has), (RX3, 80, yX6_has), (RX4, 28, yX6_isPerson), (RX4, 32, yX6_has)]
def stNm : List String := ["REACH", "ROUND", "UNDER"]
def stVal : List (List Int32) := [[1, 2, 1, 1, 8, 2, 1], [0, 0, 1, 0, 0, 1, 0], [-1, 0, 0, 0, 1, 2, 3]]
def stF (k j : Nat) : Int32 := (stVal.getD k []).getD j 0
/-- what the tables and the static cells say, A being what may be written -/
def En (g : GG) (A : Nat → Prop) (U : State) (H : Heap) : Prop :=
  va_K (gD g) vwCl (gtys g) U ∧
  (∀ k, k < 3 → va_Z "NobodyBetween" (stNm.getD k "") "[I" (.ref (gst g k)) A U H ∧ va_T .int (gst g k) 7 (fun j => .int (stF k j)) A U H) ∧
  vk_S 13 strLn strBy (gaK g) (gaV g) A U H ∧ va_Z "java/lang/String" "COMPACT_STRINGS" "Z" (.int 1) A U H ∧
  (∀ q ∈ strTb, vk_R q.1 q.2.1 q.2.2.1 (gaK g q.2.2.2) U) ∧
  (∀ q ∈ nestF, va_Nw (.fieldLinkNest q.1 q.2.1 "NobodyBetween" q.2.2 "[I" "NobodyBetween") U) ∧
  (∀ q ∈ nestM, va_Nw (.methodLinkNest q.1 q.2.1 q.2.2 "NobodyBetween") U) ∧
  va_Zq "jdk/internal/util/Preconditions" "SIOOBE_FORMATTER" "Ljava/util/function/BiFunction;" A U H
theorem En.kept {g : GG} {A : Nat → Prop} {U : State} {H H1 : Heap} (h : En g A U H) (hq : ∀ a : Nat, a < H.size → ¬ A a → H1[a]? = H[a]?) : En g A U H1 := by
  obtain ⟨h1, h2, h3, h4, h5, h6, h7, h8⟩ := h
  exact ⟨h1, fun k hk => ⟨(h2 k hk).1.kept hq, (h2 k hk).2.kept hq⟩, h3.kept hq, h4.kept hq, h5, h6, h7, h8.kept hq⟩
theorem En.warm {g : GG} {A : Nat → Prop} {s U : State} {H : Heap} (hW : s.WarmedH U.vm) (h : En g A s H) : En g A U H := by
  obtain ⟨h1, h2, h3, h4, h5, h6, h7, h8⟩ := h
  have ha := hW.alike
  exact ⟨h1.moved ha, fun k hk => ⟨(h2 k hk).1.moved ha, (h2 k hk).2.moved ha⟩, h3.moved ha, h4.moved ha, fun q hq => (h5 q hq).warm hW, fun q hq => (h6 q hq).warmF hW, fun q hq => (h7 q hq).warmM hW, h8.moved ha⟩
theorem En.calling {g : GG} {A : Nat → Prop} {U : State} {H : Heap} (f : JFrame) (mk : MethodId) (a : Array Value) (h : En g A U H) : En g A (U.calling f mk a) H := by
  obtain ⟨h1, h2, h3, h4, h5, h6, h7, h8⟩ := h
  have ha : U.vm.Alike (U.calling f mk a).vm := Vm.Alike.refl U.vm
  exact ⟨h1.moved ha, fun k hk => ⟨(h2 k hk).1.moved ha, (h2 k hk).2.moved ha⟩, h3.moved ha, h4.moved ha, fun q hq => vk_R.same rfl (h5 q hq), fun q hq => (h6 q hq).same rfl rfl, fun q hq => (h7 q hq).same rfl rfl, h8.moved ha⟩
/-- the world of a layout at a state -/
def Wo (g : GG) (ly : Nat) (σ : Mm) (U : State) : Prop := va_P (gD g) vwCl (wl g ly σ) U.heap ∧ va_D (gA g ly) (wl g ly σ) ∧ En g (gA g ly) U U.heap
/-- name, code, locals, answer's type, level (how many frames it may stand on) -/
abbrev MT : Type := MethodName × ByteArray × Nat × Option FieldType × Nat
def rmL (d : Nat) : Room := { frames := d, cells := 0, slots := 0, locals := 40 * d }
def wsM (M : MT) : List Cond := .code M.1 M.2.1 M.2.2.1 M.2.2.2.1 :: wsG
def Cx (g : GG) (ly : Nat) (M : MT) (p : Program) (s : State) (m : MethodId) (args : Array Value) (meth : Method) (c : Code) : Prop :=
  p.tables.exec = Jvm.exec ∧ c.code = M.2.1 ∧ c.maxLocals = M.2.2.1 ∧ s.vm.findClass M.1.cls = some m.cls ∧ (∀ w ∈ wsG, w.before args s = true) ∧ meth.sig.returnType = M.2.2.2.1 ∧ meth.locks = false ∧ En g (gA g ly) s s.heap
def Hy (g : GG) (ly : Nat) (M : MT) (σ : Mm) (L : List (Nat × Value)) (p : Program) (s : State) (m : MethodId) (args : Array Value) (meth : Method) (c : Code) (H : Heap) (locs : List Loc) (ls : Array Slot) : Prop :=
  Cx g ly M p s m args meth c ∧ va_P (gD g) vwCl (wl g ly σ) H ∧ va_D (gA g ly) (wl g ly σ) ∧ va_S (gA g ly) s.heap H locs ∧ lv_has ls M.2.2.1 L
def AW (g : GG) (ly : Nat) (M : MT) (Qc : Array Value → State → Outcome → State → Prop) (pc : Nat) (L : List (Nat × Value)) (S : List Value) (σ : Mm) : Prop :=
  ∀ (p : Program) (e : Env) (s : State) (m : MethodId) (args : Array Value) (below : List Frame) (meth : Method) (c : Code) (H : Heap) (locs : List Loc) (ls : Array Slot),
    Hy g ly M σ L p s m args meth c H locs ls → W p (gL g) e (rmL M.2.2.2.2) s m args below meth c H locs 0 0 (MQ below Qc args s 0 0 (gA g ly)) (F0 m pc ls S)
def BW (g : GG) (ly : Nat) : Mm → State → Prop := fun u t => va_P (gD g) vwCl (wl g ly u) t.heap
def QI (g : GG) (ly : Nat) (K : Int32 → Mm → Prop) : Array Value → State → Outcome → State → Prop := va_Qi K (BW g ly) (gA g ly)
def QV (g : GG) (ly : Nat) (K : Mm → Prop) : Array Value → State → Outcome → State → Prop := va_Qv K (BW g ly) (gA g ly)
def b2i (b : Bool) : Int32 := match b with
  | true => 1
  | false => 0
def QB (g : GG) (ly : Nat) (K : Bool → Mm → Prop) : Array Value → State → Outcome → State → Prop := QI g ly fun r u => ∃ b, r = b2i b ∧ K b u
/-- a method's contract: from the world σ and these values -/
def Ct (g : GG) (ly : Nat) (M : MT) (Qc : Array Value → State → Outcome → State → Prop) (av : List Value) (σ : Mm) : Prop :=
  Met (gL g) M.1 (wsM M) (rmL M.2.2.2.2) (va_Pc av (Wo g ly σ)) Qc 0 0 (gA g ly)
theorem Ct.of {g : GG} {ly : Nat} {M : MT} {Qc : Array Value → State → Outcome → State → Prop} {av : List Value} {σ : Mm} {L : List (Nat × Value)} (hy : plainName M.1.cls = true) (hn : (lg_sl av).length ≤ M.2.2.1) (hL : lv_args 0 av = L) (h : AW g ly M Qc 0 L [] σ) : Ct g ly M Qc av σ := by
  refine Met.ofW (cc := M.2.1) (maxL := M.2.2.1) (ret := M.2.2.2.1) (ws' := wsG) hy rfl ?_
  intro p e s m args below meth c s₁ B hml hv
  obtain ⟨rfl, hP, hD, hE⟩ := hv
  have hts := atoms_spec (ws := wsM M) B.pre
  have hl := lv_entry av (n := M.2.2.1) hn
  rw [lg_entry_eq]
  rw [hL] at hl
  exact h p e s m _ below meth c s.heap [] _ ⟨⟨B.exec, B.bytes, hml, findClass_of_methodNamed B.named, fun w hw => hts w (List.mem_cons_of_mem _ hw), B.returns, B.notSynchronized, hE⟩, hP, hD, va_S.rf, hl⟩
