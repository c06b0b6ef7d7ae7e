/-! THE CLAIM OUT OF ONE WALK OF THE LAW'S BODY. Your part is whole_start (and what it stands on); all else here is the same for every law, but numbers. -/
def R_law : String := "NobodyBetweenLaw"
def lw_P (b : Addr) (xs : List Int32) (args : Array Value) (s : State) : Prop := args = #[.ref b] ∧ s.IntsAt b xs ∧ xs.length ≤ 3072 ∧ (Jvm.Cond.and given_1 narrow_1).before args s = true
def lw_Q (_ : Array Value) (s : State) (o : Outcome) (t : State) : Prop := o = .returned (some (.int 1)) ∧ Framed s o t [] 600000 7302250
def lw_Z (below : List Frame) (a : Array Value) (s : State) : State → Prop := fun t => ∃ o, t.status = .running ∧ Ended t below o ∧ lw_Q a s o t
/-- the law's own end, with 1 on the stack, nothing written that was there before, its room as the claim has it -/
theorem lw_ret {p : Program} {l : Launch} {e : Env} {s : State} {m : MethodId} {below : List Frame} {meth : Method} {c : Code} {b : Nat} (hx : p.tables.exec = Jvm.exec) (hb : c.code = code) (hr : meth.sig.returnType = ret) (hlocks : meth.locks = false) {pc : Nat} {H : Heap} {ls : Array Slot} (hdg : decode code pc = .ok (.ireturn, 1)) : W p l e room_1 s m #[Value.ref b] below meth c H [] 600000 7302250 (lw_Z below #[Value.ref b] s) (F0 m pc ls [.int 1]) := by
  intro T hT X
  obtain ⟨fs, hret, hrun, hended, hW, hframe⟩ := X.leave (v := some (.int 1)) (hlocks := hlocks) (fun h => by rw [hr] at h; cases h)
  have hmeth' : T.vm.method? m = some meth := X.method'
  refine ⟨T.setFrames fs, ?_, .returned (some (.int 1)), hrun, hended, rfl, ⟨_, rfl⟩, hW, hframe⟩
  jvm_step X.here [X.here.top, hx, hb, hdg, hmeth', hr, ret, narrow_b1]
  (try refine ⟨rfl, ?_⟩); (try refine ⟨rfl, ?_⟩)
  first | (intro acts; rw [hret _ acts rfl rfl rfl]) | rw [hret _ _ rfl rfl rfl]
  exact Steps.refl _
/-- what holds at the law's entry: the machine, the code, the tables' words (any of lw_tbl by 'hts w (by decide +kernel)'), the script of L ints xs at the cell b, what the Statement gives of the start (any of its parts by flat_of_before) -/
def lw_At (p : Program) (s : State) (m : MethodId) (meth : Method) (c : Code) (b L : Nat) (xs : Nat → Int32) : Prop :=
  p.tables.exec = Jvm.exec ∧ c.code = code ∧ meth.sig.returnType = ret ∧ c.maxLocals = 4 ∧ s.vm.findClass R_law = some m.cls ∧ (∀ w ∈ lw_tbl, w.before #[Value.ref b] s = true) ∧ va_X b L xs s s.heap ∧ b < s.heap.size ∧ meth.locks = false ∧ (Jvm.Cond.and given_1 narrow_1).before #[Value.ref b] s = true
/-! THE LAW, walked: LW: with the class's memory σ and the reference's μ the law comes to its end with true -/
def LX (p : Program) (s : State) (m : MethodId) (meth : Method) (c : Code) (b L : Nat) (xs : Nat → Int32) (gx gy : GG) : Prop := lw_At p s m meth c b L xs ∧ gL gy = gL gx ∧ En gx (gA gx 0) s s.heap ∧ En gy (gA gy 1) s s.heap ∧ (∀ q, gA gx 0 q → s.heap.size ≤ q) ∧ (∀ q, gA gy 1 q → s.heap.size ≤ q) ∧ (∀ q, gA gx 0 q → ¬ gA gy 1 q) ∧ (∀ σ, va_D (gA gx 0) (wl gx 0 σ)) ∧ ∀ μ, va_D (gA gy 1) (wl gy 1 μ)
def LW (p : Program) (e : Env) (s : State) (m : MethodId) (below : List Frame) (meth : Method) (c : Code) (b : Nat) (gx gy : GG) (pc : Nat) (Lc : List (Nat × Value)) (S : List Value) (σ μ : Mm) : Prop :=
  ∀ (H : Heap) (locs : List Loc) (ls : Array Slot), va_P (gD gx) vwCl (wl gx 0 σ) H → va_P (gD gy) vwCl (wl gy 1 μ) H → va_S (fun q : Nat => s.heap.size ≤ q) s.heap H locs → lv_has ls 4 Lc → W p (gL gx) e room_1 s m #[Value.ref b] below meth c H locs 600000 7302250 (lw_Z below #[Value.ref b] s) (F0 m pc ls S)
section LWrows
variable {p : Program} {e : Env} {s : State} {m : MethodId} {below : List Frame} {meth : Method} {c : Code} {b L : Nat} {xs : Nat → Int32} {gx gy : GG} {pc : Nat} {Lc : List (Nat × Value)} {S : List Value} {σ μ : Mm}
theorem LX.hts (x : LX p s m meth c b L xs gx gy) : ∀ w ∈ wsG, w.before #[Value.ref b] s = true := fun w hw => x.1.2.2.2.2.2.1 w (wsG_tbl w hw)
theorem LW.iconst (x : LX p s m meth c b L xs gx gy) {n : Int} {v : Int32} (hd : decode code pc = .ok (.iconst n, 1)) (hv : Int32.ofInt n = v) (kk : LW p e s m below meth c b gx gy (pc + 1) Lc (.int v :: S) σ μ) : LW p e s m below meth c b gx gy pc Lc S σ μ := fun H lo ls h1 h2 h3 h4 => lv_iconst x.1.1 x.1.2.1 hd hv (kk H lo ls h1 h2 h3 h4)
theorem LW.bipush (x : LX p s m meth c b L xs gx gy) {n : Int} {v : Int32} (hd : decode code pc = .ok (.bipush n, 2)) (hv : (Int8.ofInt n).toInt32 = v) (kk : LW p e s m below meth c b gx gy (pc + 2) Lc (.int v :: S) σ μ) : LW p e s m below meth c b gx gy pc Lc S σ μ := fun H lo ls h1 h2 h3 h4 => lv_bipush x.1.1 x.1.2.1 hd hv (kk H lo ls h1 h2 h3 h4)
theorem LW.iadd (x : LX p s m meth c b L xs gx gy) {x1 y1 v : Int32} (hd : decode code pc = .ok (.iadd, 1)) (hv : x1 + y1 = v) (kk : LW p e s m below meth c b gx gy (pc + 1) Lc (.int v :: S) σ μ) : LW p e s m below meth c b gx gy pc Lc (.int y1 :: .int x1 :: S) σ μ := by subst hv; exact fun H lo ls h1 h2 h3 h4 => lv_iadd x.1.1 x.1.2.1 hd (kk H lo ls h1 h2 h3 h4)
theorem LW.isub (x : LX p s m meth c b L xs gx gy) {x1 y1 : Int32} (hd : decode code pc = .ok (.isub, 1)) (kk : LW p e s m below meth c b gx gy (pc + 1) Lc (.int (x1 - y1) :: S) σ μ) : LW p e s m below meth c b gx gy pc Lc (.int y1 :: .int x1 :: S) σ μ := fun H lo ls h1 h2 h3 h4 => lv_isub x.1.1 x.1.2.1 hd (kk H lo ls h1 h2 h3 h4)
theorem LW.iand (x : LX p s m meth c b L xs gx gy) {x1 y1 : Int32} (hd : decode code pc = .ok (.iand, 1)) (kk : LW p e s m below meth c b gx gy (pc + 1) Lc (.int (x1 &&& y1) :: S) σ μ) : LW p e s m below meth c b gx gy pc Lc (.int y1 :: .int x1 :: S) σ μ := fun H lo ls h1 h2 h3 h4 => lv_iand x.1.1 x.1.2.1 hd (kk H lo ls h1 h2 h3 h4)
theorem LW.aload_n (x : LX p s m meth c b L xs gx gy) {j : Fin 4} {r : Nat} (hd : decode code pc = .ok (.aload_n j, 1)) (q : Nat) (hq : Lc[q]? = some ((j : Nat), .ref r)) (kk : LW p e s m below meth c b gx gy (pc + 1) Lc (.ref r :: S) σ μ) : LW p e s m below meth c b gx gy pc Lc S σ μ := fun H lo ls h1 h2 h3 h4 => lv_aload_n x.1.1 x.1.2.1 hd rfl (lv_at h4 q hq) (kk H lo ls h1 h2 h3 h4)
theorem LW.iload_n (x : LX p s m meth c b L xs gx gy) {j : Fin 4} {r : Int32} (hd : decode code pc = .ok (.iload_n j, 1)) (q : Nat) (hq : Lc[q]? = some ((j : Nat), .int r)) (kk : LW p e s m below meth c b gx gy (pc + 1) Lc (.int r :: S) σ μ) : LW p e s m below meth c b gx gy pc Lc S σ μ := fun H lo ls h1 h2 h3 h4 => lv_iload_n x.1.1 x.1.2.1 hd rfl (lv_at h4 q hq) (kk H lo ls h1 h2 h3 h4)
theorem LW.iinc (x : LX p s m meth c b L xs gx gy) {i : Nat} {n : Int} {r v : Int32} {L' : List (Nat × Value)} (hd : decode code pc = .ok (.iinc i n, 3)) (q : Nat) (hq : Lc[q]? = some (i, .int r)) (hv : r + Int32.ofInt n = v) (hn : i < 4) (hL : lvins i (.int v) (Lc.filter (fun q => !(q.1 == i) && !(q.1 + 1 == i && q.2.category == 2))) = L') (kk : LW p e s m below meth c b gx gy (pc + 3) L' S σ μ) : LW p e s m below meth c b gx gy pc Lc S σ μ := fun H lo ls h1 h2 h3 h4 => lv_iinc x.1.1 x.1.2.1 hd h4 hq hv hn rfl fun ls' hl' => kk H lo ls' h1 h2 h3 (lvins_has hl' hL)
theorem LW.goto (x : LX p s m meth c b L xs gx gy) {off : Int} {tgt : Nat} (hd : decode code pc = .ok (.goto off, 3)) (ht : (pc : Int) + off = (tgt : Int)) (kk : LW p e s m below meth c b gx gy tgt Lc S σ μ) : LW p e s m below meth c b gx gy pc Lc S σ μ := fun H lo ls h1 h2 h3 h4 => lv_goto x.1.1 x.1.2.1 hd ht (kk H lo ls h1 h2 h3 h4)
theorem LW.icmp_gt (x : LX p s m meth c b L xs gx gy) {x1 y1 : Int32} {off : Int} {tgt : Nat} (hd : decode code pc = .ok (.if_icmp .gt off, 3)) (ht : (pc : Int) + off = (tgt : Int)) (kt : y1 < x1 → LW p e s m below meth c b gx gy tgt Lc S σ μ) (kf : ¬ y1 < x1 → LW p e s m below meth c b gx gy (pc + 3) Lc S σ μ) : LW p e s m below meth c b gx gy pc Lc (.int y1 :: .int x1 :: S) σ μ := fun H lo ls h1 h2 h3 h4 => lv_icmp_gt x.1.1 x.1.2.1 hd ht (fun z => kt z H lo ls h1 h2 h3 h4) (fun z => kf z H lo ls h1 h2 h3 h4)
theorem LW.icmp_eq (x : LX p s m meth c b L xs gx gy) {x1 y1 : Int32} {off : Int} {tgt : Nat} (hd : decode code pc = .ok (.if_icmp .eq off, 3)) (ht : (pc : Int) + off = (tgt : Int)) (hq : x1 = y1) (kt : LW p e s m below meth c b gx gy tgt Lc S σ μ) : LW p e s m below meth c b gx gy pc Lc (.int y1 :: .int x1 :: S) σ μ := fun H lo ls h1 h2 h3 h4 => lv_icmp_eq x.1.1 x.1.2.1 hd ht (fun z => kt H lo ls h1 h2 h3 h4) (fun z => absurd hq z)
theorem LW.if_eq (x : LX p s m meth c b L xs gx gy) {x1 : Int32} {off : Int} {tgt : Nat} (hd : decode code pc = .ok (.ifCond .eq off, 3)) (ht : (pc : Int) + off = (tgt : Int)) (kt : x1 = 0 → LW p e s m below meth c b gx gy tgt Lc S σ μ) (kf : ¬ x1 = 0 → LW p e s m below meth c b gx gy (pc + 3) Lc S σ μ) : LW p e s m below meth c b gx gy pc Lc (.int x1 :: S) σ μ := fun H lo ls h1 h2 h3 h4 => lv_if_eq x.1.1 x.1.2.1 hd ht (fun z => kt z H lo ls h1 h2 h3 h4) (fun z => kf z H lo ls h1 h2 h3 h4)
theorem LW.tabIn (x : LX p s m meth c b L xs gx gy) {dflt lo hi : Int} {offs : Array Int} {len : Nat} {x1 : Int32} {off : Int} {tgt : Nat} (hd : decode code pc = .ok (.tableswitch dflt lo hi offs, len)) (h1 : ¬ x1.toInt < lo) (h2 : ¬ hi < x1.toInt) (ho : offs[(x1.toInt - lo).toNat]? = some off) (ht : (pc : Int) + off = (tgt : Int)) (kk : LW p e s m below meth c b gx gy tgt Lc S σ μ) : LW p e s m below meth c b gx gy pc Lc (.int x1 :: S) σ μ := fun H lo' ls g1 g2 g3 g4 => lv_tableIn x.1.1 x.1.2.1 hd h1 h2 ho ht (kk H lo' ls g1 g2 g3 g4)
theorem LW.tabOut (x : LX p s m meth c b L xs gx gy) {dflt lo hi : Int} {offs : Array Int} {len : Nat} {x1 : Int32} {tgt : Nat} (hd : decode code pc = .ok (.tableswitch dflt lo hi offs, len)) (h : x1.toInt < lo ∨ hi < x1.toInt) (ht : (pc : Int) + dflt = (tgt : Int)) (kk : LW p e s m below meth c b gx gy tgt Lc S σ μ) : LW p e s m below meth c b gx gy pc Lc (.int x1 :: S) σ μ := fun H lo' ls g1 g2 g3 g4 => lv_tableOut x.1.1 x.1.2.1 hd h ht (kk H lo' ls g1 g2 g3 g4)
theorem LW.sld (x : LX p s m meth c b L xs gx gy) {i : Int32} (hin : vp_in i L) (hd : decode code pc = .ok (.iaload, 1)) (kk : LW p e s m below meth c b gx gy (pc + 1) Lc (.int (xs i.toNatClampNeg) :: S) σ μ) : LW p e s m below meth c b gx gy pc Lc (.int i :: .ref b :: S) σ μ := fun H lo ls h1 h2 h3 h4 => va_sld x.1.1 x.1.2.1 x.1.2.2.2.2.2.2.1 x.1.2.2.2.2.2.2.2.1 (Nat.not_le.mpr x.1.2.2.2.2.2.2.2.1) h3 hin hd (kk H lo ls h1 h2 h3 h4)
theorem LW.slen (x : LX p s m meth c b L xs gx gy) (hd : decode code pc = .ok (.arraylength, 1)) (kk : LW p e s m below meth c b gx gy (pc + 1) Lc (.int (nI L) :: S) σ μ) : LW p e s m below meth c b gx gy pc Lc (.ref b :: S) σ μ := fun H lo ls h1 h2 h3 h4 => va_slen x.1.1 x.1.2.1 x.1.2.2.2.2.2.2.1 x.1.2.2.2.2.2.2.2.1 (Nat.not_le.mpr x.1.2.2.2.2.2.2.2.1) h3 hd (kk H lo ls h1 h2 h3 h4)
theorem LW.ret1 (x : LX p s m meth c b L xs gx gy) (hd : decode code pc = .ok (.ireturn, 1)) : LW p e s m below meth c b gx gy pc Lc [.int 1] σ μ := fun H lo ls h1 h2 h3 h4 => va_forget h3.2.2 (lw_ret x.1.1 x.1.2.1 x.1.2.2.1 x.1.2.2.2.2.2.2.2.2.1 hd)
theorem lev_room {a x : Nat} (h : a ≤ 100) (hx : x ≤ 21) : (rmL a).frames + 1 ≤ room_1.frames ∧ 8 + (x + 11) + (rmL a).locals ≤ room_1.locals := by
  refine ⟨?_, ?_⟩
  · show a + 1 ≤ 2048
    omega
  · show 8 + (x + 11) + 40 * a ≤ 84000
    omega
theorem LW.callX (x : LX p s m meth c b L xs gx gy) {K : Int32 → Mm → Prop} {M' : MT} {n idx : Nat} (As : List Value) {rest : List Value} (hM : Ct gx 0 M' (QI gx 0 K) (.ref (gad gx 16 0) :: As) σ) (ok : OkV M' n) (hc : vwCl[6]? = some (M'.1.cls, TX6, 11)) (hl : Cond.methodLink R_law idx M'.1 ∈ wsG) (hn : As.length = n) (hlev : M'.2.2.2.2 ≤ 100) (hst : (rest.map fun v => v.category).sum ≤ 8) (hs : S = As.reverse ++ .ref (gad gx 16 0) :: rest) (hd : decode code pc = .ok (.invokevirtual idx, 3)) (kk : ∀ r u, K r u → LW p e s m below meth c b gx gy (pc + 3) Lc (.int r :: rest) u μ) : LW p e s m below meth c b gx gy pc Lc S σ μ := by
  intro H lo ls h1 h2 h3 h4
  obtain ⟨q0, hq0⟩ := ids_at id0_16_0
  obtain ⟨o1, o2, o3, o4, o5, o6⟩ := ok
  have hts := x.hts
  obtain ⟨a1, a2, a3, a4, a5, a6, a7, a8, a9⟩ := x
  have hK := a3.1
  have wo : ∀ U : State, U.heap = H → s.WarmedH U.vm → Wo gx 0 σ U := fun U hU hW => ⟨by rw [hU]; exact h1, a8 σ, by rw [hU]; exact En.warm hW (a3.kept (fun q hq hn => h3.2.1 q hq (Nat.not_le.mpr hq)))⟩
  have cw : CallW room_1 s #[Value.ref b] R_law M'.1.cls idx M'.1 M'.2.1 M'.2.2.1 M'.2.2.2.1 (wsM M') (rmL M'.2.2.2.2) 0 0 n := cwV n hts (wsG_goodIn (fun w hw => by
    unfold wsV at hw
    rcases List.mem_append.mp hw with hw | hw
    · simp only [List.mem_cons, List.not_mem_nil, or_false] at hw
      rcases hw with rfl | rfl | rfl | rfl <;> assumption
    · exact wsM_in o4 w hw)) rfl rfl rfl ⟨rfl, o5⟩ (lev_room hlev o6)
  refine va_calli (va_runV (As := As) (rest := rest) ⟨a1.1, a1.2.1, a1.2.2.2.1, a1.2.2.2.2.1, hts⟩ hM cw ⟨Wo.blind, va_recv hK h1 hc ((wl_at hq0).trans rfl), fun U hU hW => ⟨rfl, wo U hU hW⟩⟩ rfl hn h4.1 hs (lv_room hst) hd ⟨Nat.le_refl _, Nat.le_refl _⟩) h3 (fun q _ z => a5 q z) (fun q z => a5 q z) (fun r u t H1 lo1 ht hvm hw hB hz1 hk1 hS1 => kk r u hw H1 lo1 ls (by unfold BW at hB; rw [ht] at hB; exact hB) (h2.kept (fun k q hk => hk1 q.1 ((h2 k q hk).lt) (fun hx => a7 q.1 hx ((a9 μ).2 k q hk)))) hS1 h4)
theorem LW.callY (x : LX p s m meth c b L xs gx gy) {K : Int32 → Mm → Prop} {M' : MT} {n idx : Nat} (As : List Value) {rest : List Value} (hM : Ct gy 1 M' (QI gy 1 K) (.ref (gad gy 0 0) :: As) μ) (ok : OkV M' n) (hc : vwCl[7]? = some (M'.1.cls, TX7, 21)) (hl : Cond.methodLink R_law idx M'.1 ∈ wsG) (hn : As.length = n) (hlev : M'.2.2.2.2 ≤ 100) (hst : (rest.map fun v => v.category).sum ≤ 8) (hs : S = As.reverse ++ .ref (gad gy 0 0) :: rest) (hd : decode code pc = .ok (.invokevirtual idx, 3)) (kk : ∀ r u, K r u → LW p e s m below meth c b gx gy (pc + 3) Lc (.int r :: rest) σ u) : LW p e s m below meth c b gx gy pc Lc S σ μ := by
  intro H lo ls h1 h2 h3 h4
  obtain ⟨q0, hq0⟩ := ids_at id1_0_0
  obtain ⟨o1, o2, o3, o4, o5, o6⟩ := ok
  have hts := x.hts
  obtain ⟨a1, a2, a3, a4, a5, a6, a7, a8, a9⟩ := x
  have hK := a4.1
  have wo : ∀ U : State, U.heap = H → s.WarmedH U.vm → Wo gy 1 μ U := fun U hU hW => ⟨by rw [hU]; exact h2, a9 μ, by rw [hU]; exact En.warm hW (a4.kept (fun q hq hn => h3.2.1 q hq (Nat.not_le.mpr hq)))⟩
  have cw : CallW room_1 s #[Value.ref b] R_law M'.1.cls idx M'.1 M'.2.1 M'.2.2.1 M'.2.2.2.1 (wsM M') (rmL M'.2.2.2.2) 0 0 n := cwV n hts (wsG_goodIn (fun w hw => by
    unfold wsV at hw
    rcases List.mem_append.mp hw with hw | hw
    · simp only [List.mem_cons, List.not_mem_nil, or_false] at hw
      rcases hw with rfl | rfl | rfl | rfl <;> assumption
    · exact wsM_in o4 w hw)) rfl rfl rfl ⟨rfl, o5⟩ (lev_room hlev o6)
  have hM2 : Met (gL gx) M'.1 (wsM M') (rmL M'.2.2.2.2) (va_Pc (.ref (gad gy 0 0) :: As) (Wo gy 1 μ)) (QI gy 1 K) 0 0 (gA gy 1) := by
    rw [← a2]; exact hM
  refine va_calli (va_runV (As := As) (rest := rest) ⟨a1.1, a1.2.1, a1.2.2.2.1, a1.2.2.2.2.1, hts⟩ hM2 cw ⟨Wo.blind, va_recv hK h2 hc ((wl_at hq0).trans rfl), fun U hU hW => ⟨rfl, wo U hU hW⟩⟩ rfl hn h4.1 hs (lv_room hst) hd ⟨Nat.le_refl _, Nat.le_refl _⟩) h3 (fun q _ z => a6 q z) (fun q z => a6 q z) (fun r u t H1 lo1 ht hvm hw hB hz1 hk1 hS1 => kk r u hw H1 lo1 ls (h1.kept (fun k q hk => hk1 q.1 ((h1 k q hk).lt) (fun hx => a7 q.1 ((a8 σ).2 k q hk) hx))) (by unfold BW at hB; rw [ht] at hB; exact hB) hS1 h4)
/-- the script's int at i + j -/
theorem LW.arg (x : LX p s m meth c b L xs gx gy) {i j : Nat} {n : Int} (hi : i + j < L) (hL : L ≤ 3072) (hv : Int32.ofInt n = nI j) (h0 : Lc[0]? = some (0, .ref b)) (h3 : Lc[3]? = some (3, .int (nI i))) (d0 : decode code pc = .ok (.aload_n 0, 1)) (d1 : decode code (pc + 1) = .ok (.iload_n 3, 1)) (d2 : decode code (pc + 1 + 1) = .ok (.iconst n, 1)) (d3 : decode code (pc + 1 + 1 + 1) = .ok (.iadd, 1)) (d4 : decode code (pc + 1 + 1 + 1 + 1) = .ok (.iaload, 1)) (kk : LW p e s m below meth c b gx gy (pc + 1 + 1 + 1 + 1 + 1) Lc (.int (xs (i + j)) :: S) σ μ) : LW p e s m below meth c b gx gy pc Lc S σ μ := by
  refine LW.aload_n x d0 0 h0 ?_
  refine LW.iload_n x d1 3 h3 ?_
  refine LW.iconst x d2 hv ?_
  refine LW.iadd x d3 (nI_add i j) ?_
  refine LW.sld x (vp_in_nI hi (by omega)) d4 ?_
  rw [nI_clamp (by omega)]
  exact kk
theorem and63 (v : Int32) : ∃ j, j < 64 ∧ v &&& (63 : Int32) = nI j := by
  refine ⟨(v &&& (63 : Int32)).toBitVec.toNat, ?_, ?_⟩
  · rw [Int32.toBitVec_and, BitVec.toNat_and]
    have : v.toBitVec.toNat &&& (63 : Int32).toBitVec.toNat ≤ (63 : Int32).toBitVec.toNat := Nat.and_le_right
    have e : (63 : Int32).toBitVec.toNat = 63 := by decide
    omega
  · apply Int32.toBitVec_inj.1
    show _ = BitVec.ofNat 32 _
    rw [BitVec.ofNat_toNat, BitVec.setWidth_eq]
end LWrows
