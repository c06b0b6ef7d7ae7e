/-! the law from its entry; the claim -/
theorem gA_of {g : GG} {ly : Nat} {σ : Mm} {A : Nat → Prop} (h : va_D A (wl g ly σ)) : ∀ q, gA g ly q → A q := by
  rintro q ⟨x, hx, rfl⟩
  obtain ⟨k, hk⟩ := ids_at (t := x.1) (i := x.2) hx
  exact h.2 k _ (wl_at (σ := σ) hk)
theorem gA_D {g : GG} {ly : Nat} {σ : Mm} {A : Nat → Prop} (h : va_D A (wl g ly σ)) : ∀ τ, va_D (gA g ly) (wl g ly τ) := by
  intro τ
  refine wl_D (σ := σ) ⟨h.1, fun k q hq => ?_⟩
  unfold wl at hq
  rw [List.getElem?_map] at hq
  cases hx : (idsOf ly)[k]? with
  | none => rw [hx] at hq; cases hq
  | some x =>
    rw [hx] at hq
    have e : wlf g ly σ x = q := Option.some.inj hq
    rw [← e]
    exact ⟨x, List.mem_of_getElem? hx, rfl⟩
def mvX : List Nat := List.range 67
def mvY : List Nat := (List.range 13).map (fun j => 67 + j)
set_option maxHeartbeats 8000000 in
set_option maxRecDepth 100000 in
/-- THE LAW, from its entry -/
theorem whole_start {p : Program} {e : Env} {s : State} {m : MethodId} {below : List Frame} {meth : Method} {c : Code} (l : Launch) (hflags : l.flags = flags0) {b L : Nat} {xs : Nat → Int32} (hL : L ≤ 3072) (C0 : lw_At p s m meth c b L xs) : W p l e room_1 s m #[Value.ref b] below meth c s.heap [] 0 0 (lw_Z below #[Value.ref b] s) (entryFrame m ([Value.ref b] : List Value).toArray 4) := by
  obtain ⟨D, cy, st, aK, aV, hKx, hEn⟩ := en_start l C0
  obtain ⟨hx, hb, hr, hml, hown, hts, hX, hbl, hlocks, hgv⟩ := id C0
  have hg : ∀ w ∈ wsG, w.before #[Value.ref b] s = true := fun w hw => hts w (wsG_tbl w hw)
  have hA : ∀ q : Nat, s.heap.size ≤ q → (fun q : Nat => s.heap.size ≤ q) q := fun _ h => h
  have hS : va_S (fun q : Nat => s.heap.size ≤ q) s.heap s.heap [] := va_S.rf
  have hK : va_K D vwCl (ctys (l, D, cy)) s := hKx.1
  have hP : va_P D vwCl [] s.heap := fun k q h => by simp at h
  have hD : va_D (fun q : Nat => s.heap.size ≤ q) [] := ⟨fun i j p q h => by simp at h, fun k q h => by simp at h⟩
  have hl := lv_entry ([.ref b]) (n := 4) (Nat.le_of_ble_eq_true rfl)
  rw [lg_entry_eq]
  generalize (lg_sl ([.ref b]) ++ List.replicate (4 - (lg_sl ([.ref b])).length) Slot.unset).toArray = ls at hl ⊢
  have hl : lv_has ls 4 [(0, .ref b)] := hl
  -- the class's object
  refine va_new (ci := 6) (fs := [.null, .null, .int (0 : Int32), .null, .null, .null, .null, .int (0 : Int32), .null, .null, .null]) (C := RX6) (T := TX6) (N := 11) hx hb hg inGX6 tyX6 tyX6_ok hown (hg _ w_17) (hg _ w_18) (hg _ w_1) hK hP hD hS hA rfl (by decide +kernel) (Nat.le_of_ble_eq_true rfl) (Nat.le_of_ble_eq_true rfl) dL_law_0 (fun hx0 H hP hD hS => ?_)
  have hP : va_P D vwCl [(hx0, .inr (6, [.null, .null, .int (0 : Int32), .null, .null, .null, .null, .int (0 : Int32), .null, .null, .null]))] H := hP
  have hD : va_D (fun q : Nat => s.heap.size ≤ q) [(hx0, .inr (6, [.null, .null, .int (0 : Int32), .null, .null, .null, .null, .int (0 : Int32), .null, .null, .null]))] := hD
  refine lv_dup hx hb dL_law_3 rfl ?_
  have hFc := va_free (wc := [(hx0, .inr (6, [.null, .null, .int (0 : Int32), .null, .null, .null, .null, .int (0 : Int32), .null, .null, .null]))]) hD hS hA [0] rfl
  refine va_callv (va_runI (bytes := M_X6_init.2.1) (maxL := M_X6_init.2.2.1) (As := []) (rest := [.ref hx0]) ⟨hx, hb, hml, hown, hg⟩ (c_X6 (l, D, cy) hx0 H.size) (cwI 0 hg (wsG_goodIn (ws := wsM M_X6_init) (wsM_in ok_X6_init.2.2.2.1)) rfl rfl rfl (hg _ ok_X6_init.2.2.1) (hg _ w_19) (hg _ ok_X6_init.2.1) rfl ok_X6_init.2.2.2.2.2.1 ⟨Nat.le_of_ble_eq_true rfl, Nat.le_of_ble_eq_true rfl⟩) ⟨fun a U g mk q => ⟨q.1, q.2.1, q.2.2.1, q.2.2.2.1.moved (u := U) (U := U.calling g mk a) (Vm.Alike.refl U.vm), q.2.2.2.2⟩, fun U hU hW => ⟨rfl, by rw [hU], by rw [hU]; exact hP, hKx.moved hW.alike, hD.weaken (fun _ _ _ _ => trivial)⟩⟩ rfl rfl hl.1 rfl (lv_room (Nat.le_of_ble_eq_true rfl)) dL_law_4 ⟨Nat.le_of_ble_eq_true rfl, Nat.le_of_ble_eq_true rfl⟩) hS (fun q _ h => hFc q h) hFc (fun ux t H1 locs1 ht hvm hw hB hz1 hk1 hS => ?_)
  obtain ⟨hP1, hD1⟩ := hB
  rw [ht] at hP1
  obtain ⟨hP, hD⟩ := va_join (wr := []) hP hD [0] [] rfl rfl (by decide) (by decide) hk1 hFc hP1 hD1
  rw [List.nil_append] at hP hD
  obtain ⟨adx, ex⟩ : ∃ adx : Nat → Nat → Nat, adx = fun t i => if t = 16 ∧ i = 0 then hx0 else ux t i := ⟨_, rfl⟩
  have hP : va_P D vwCl (wL_X6_init (l, D, cy) adx) H1 := by rw [ex]; exact hP
  have hD : va_D (fun q : Nat => s.heap.size ≤ q) (wL_X6_init (l, D, cy) adx) := by rw [ex]; exact hD
  have hx0e : hx0 = adx 16 0 := by rw [ex]; rfl
  refine lv_astore_n (lv' := [(1, .ref hx0), (0, .ref b)]) hx hb dL_law_7 rfl hl (by decide) rfl (fun ls hl => ?_)
  -- the reference's object
  refine va_new (ci := 7) (fs := [.null, .null, .null, .int (0 : Int32), .null, .null, .int (0 : Int32), .int (0 : Int32), .null, .null, .null, .null, .int (0 : Int32), .int (0 : Int32), .int (0 : Int32), .int (0 : Int32), .int (0 : Int32), .int (0 : Int32), .null, .null, .null]) (C := RX7) (T := TX7) (N := 21) hx hb hg inGX7 tyX7 tyX7_ok hown (hg _ w_866) (hg _ w_867) (hg _ w_9) hK hP hD hS hA rfl (by decide +kernel) (Nat.le_of_ble_eq_true rfl) (Nat.le_of_ble_eq_true rfl) dL_law_8 (fun hy0 H2 hP hD hS => ?_)
  refine lv_dup hx hb dL_law_11 rfl ?_
  have hPc := hP.sub (ws' := [(hy0, .inr (7, [.null, .null, .null, .int (0 : Int32), .null, .null, .int (0 : Int32), .int (0 : Int32), .null, .null, .null, .null, .int (0 : Int32), .int (0 : Int32), .int (0 : Int32), .int (0 : Int32), .int (0 : Int32), .int (0 : Int32), .null, .null, .null]))]) [67] rfl
  have hDc := hD.sub (ws' := [(hy0, .inr (7, [.null, .null, .null, .int (0 : Int32), .null, .null, .int (0 : Int32), .int (0 : Int32), .null, .null, .null, .null, .int (0 : Int32), .int (0 : Int32), .int (0 : Int32), .int (0 : Int32), .int (0 : Int32), .int (0 : Int32), .null, .null, .null]))]) [67] (by decide) rfl
  have hFc := va_free (wc := [(hy0, .inr (7, [.null, .null, .null, .int (0 : Int32), .null, .null, .int (0 : Int32), .int (0 : Int32), .null, .null, .null, .null, .int (0 : Int32), .int (0 : Int32), .int (0 : Int32), .int (0 : Int32), .int (0 : Int32), .int (0 : Int32), .null, .null, .null]))]) hD hS hA [67] rfl
  refine va_callv (va_runI (bytes := M_X7_init.2.1) (maxL := M_X7_init.2.2.1) (As := []) (rest := [.ref hy0]) ⟨hx, hb, hml, hown, hg⟩ (c_X7 (l, D, cy) hy0 H2.size) (cwI 0 hg (wsG_goodIn (ws := wsM M_X7_init) (wsM_in ok_X7_init.2.2.2.1)) rfl rfl rfl (hg _ ok_X7_init.2.2.1) (hg _ w_868) (hg _ ok_X7_init.2.1) rfl ok_X7_init.2.2.2.2.2.1 ⟨Nat.le_of_ble_eq_true rfl, Nat.le_of_ble_eq_true rfl⟩) ⟨fun a U g mk q => ⟨q.1, q.2.1, q.2.2.1, q.2.2.2.1.moved (u := U) (U := U.calling g mk a) (Vm.Alike.refl U.vm), q.2.2.2.2⟩, fun U hU hW => ⟨rfl, by rw [hU], by rw [hU]; exact hPc, hKx.moved hW.alike, hDc.weaken (fun _ _ _ _ => trivial)⟩⟩ rfl rfl hl.1 rfl (lv_room (Nat.le_of_ble_eq_true rfl)) dL_law_12 ⟨Nat.le_of_ble_eq_true rfl, Nat.le_of_ble_eq_true rfl⟩) hS (fun q _ h => hFc q h) hFc (fun uy t2 H3 locs3 ht2 hvm2 hw2 hB2 hz2 hk2 hS => ?_)
  obtain ⟨hP1, hD1⟩ := hB2
  rw [ht2] at hP1
  obtain ⟨hP, hD⟩ := va_join (wr := wL_X6_init (l, D, cy) adx) hP hD [67] mvX rfl rfl (by decide) (by decide) hk2 hFc hP1 hD1
  obtain ⟨ady, ey⟩ : ∃ ady : Nat → Nat → Nat, ady = fun t i => if t = 0 ∧ i = 0 then hy0 else uy t i := ⟨_, rfl⟩
  have hP : va_P D vwCl (wL_X6_init (l, D, cy) adx ++ wL_X7_init (l, D, cy) ady) H3 := by rw [ey]; exact hP
  have hD : va_D (fun q : Nat => s.heap.size ≤ q) (wL_X6_init (l, D, cy) adx ++ wL_X7_init (l, D, cy) ady) := by rw [ey]; exact hD
  have hy0e : hy0 = ady 0 0 := by rw [ey]; rfl
  have hPx := hP.sub (ws' := wL_X6_init (l, D, cy) adx) mvX rfl
  have hDx := hD.sub (ws' := wL_X6_init (l, D, cy) adx) mvX (by decide) rfl
  have hPy := hP.sub (ws' := wL_X7_init (l, D, cy) ady) mvY rfl
  have hDy := hD.sub (ws' := wL_X7_init (l, D, cy) ady) mvY (by decide) rfl
  -- no cell is of both
  have apart : ∀ (i j : Nat) (q r : Nat × va_E), (wL_X6_init (l, D, cy) adx)[i]? = some q → (wL_X7_init (l, D, cy) ady)[j]? = some r → q.1 ≠ r.1 := by
    intro i j q r hq hr' e0
    have li : i < 67 := (List.getElem?_eq_some_iff.mp hq).1
    have := hD.1 i (67 + j) q r (by rw [List.getElem?_append_left li]; exact hq) (by rw [List.getElem?_append_right (by show 67 ≤ 67 + j; omega)]; show _[67 + j - 67]? = _; rw [show 67 + j - 67 = j by omega]; exact hr') e0
    omega
  rw [wL_X6_init_eq] at hPx hDx apart
  rw [wL_X7_init_eq] at hPy hDy apart
  obtain ⟨gx, egx⟩ : ∃ gx : GG, gx = (l, D, adx, cy, st, aK, aV) := ⟨_, rfl⟩
  obtain ⟨gy, egy⟩ : ∃ gy : GG, gy = (l, D, ady, cy, st, aK, aV) := ⟨_, rfl⟩
  have wx : wlC (l, D, cy) 0 adx sgI = wl gx 0 sgI := by rw [egx]; rfl
  have wy : wlC (l, D, cy) 1 ady mgI = wl gy 1 mgI := by rw [egy]; rfl
  rw [wx] at hPx hDx apart
  rw [wy] at hPy hDy apart
  have gAx := gA_of hDx
  have gAy := gA_of hDy
  have x : LX p s m meth c b L xs gx gy := by
    refine ⟨C0, by rw [egx, egy], ?_, ?_, gAx, gAy, ?_, gA_D hDx, gA_D hDy⟩
    · rw [egx]
      refine hEn adx _ (fun a ha h => ?_)
      rw [← egx] at h
      exact absurd (gAx a h) (Nat.not_le.mpr ha)
    · rw [egy]
      refine hEn ady _ (fun a ha h => ?_)
      rw [← egy] at h
      exact absurd (gAy a h) (Nat.not_le.mpr ha)
    · rintro q ⟨u, hu, e1⟩ ⟨v, hv, e2⟩
      obtain ⟨i, hi⟩ := ids_at (t := u.1) (i := u.2) hu
      obtain ⟨j, hj⟩ := ids_at (t := v.1) (i := v.2) hv
      exact apart i j _ _ (wl_at (σ := sgI) hi) (wl_at (σ := mgI) hj) (e1.symm.trans e2)
  have hPx : va_P (gD gx) vwCl (wl gx 0 sgI) H3 := by rw [egx] at hPx ⊢; exact hPx
  have hPy : va_P (gD gy) vwCl (wl gy 1 mgI) H3 := by rw [egy] at hPy ⊢; exact hPy
  have ax : hx0 = gad gx 16 0 := by rw [egx]; exact hx0e
  have ay : hy0 = gad gy 0 0 := by rw [egy]; exact hy0e
  have el : gL gx = l := by rw [egx]
  refine W.widen (k := 600000) (n := 7302250) (Nat.le_of_ble_eq_true rfl) (Nat.le_of_ble_eq_true rfl) ?_
  refine lv_astore_n (lv' := [(2, .ref hy0), (1, .ref hx0), (0, .ref b)]) hx hb dL_law_15 rfl hl (by decide) rfl (fun ls hl => ?_)
  refine lv_iconst (v := 0) hx hb dL_law_16 (by decide) ?_
  refine lv_istore_n (lv' := [(3, .int 0), (2, .ref hy0), (1, .ref hx0), (0, .ref b)]) hx hb dL_law_17 rfl hl (by decide) rfl (fun ls hl => ?_)
  have hl : lv_has ls 4 [(0, .ref b), (1, .ref (gad gx 16 0)), (2, .ref (gad gy 0 0)), (3, .int (nI 0))] := by
    rw [← ax, ← ay]
    exact lv_sub hl [3, 2, 1, 0] rfl
  have fin := law_loop (e := e) (below := below) x hL L 0 sgI mgI (by omega) (Nat.zero_le L) rel0 H3 locs3 ls hPx hPy hS hl
  rw [el] at fin
  exact fin
set_option maxHeartbeats 4000000 in
theorem lw_walk (l : Launch) (hflags : l.flags = flags0) (b : Addr) (xs : List Int32) : MetFree l x (headSpec (Jvm.Cond.code x code maxLocals ret :: tables_1) room_1) (lw_P b xs) (fun _ _ _ _ _ => True) lw_Q := by
  refine MetFree.of_bodyS (code := code) (maxLocals := maxLocals) (ret := ret) (by decide) ?_ ?_
  · intro args s m h hn
    obtain ⟨meth, c, h1, h2, h3, h4, h5, h6, -, -⟩ := Cond.code_spec hn (atoms_spec (ws := Jvm.Cond.code x code maxLocals ret :: tables_1) h _ List.mem_cons_self)
    exact ⟨meth, c, h1, h2, h3, h4, h5, h6⟩
  · intro p e s m args below meth c s₁ B hml0 hP _
    obtain ⟨rfl, hx, hbd, hgv⟩ := hP
    obtain ⟨scr, harrAt, hlist, hof, hsmall⟩ := hx
    obtain ⟨hcb, hkn, -, -⟩ := State.arrayAt?_spec harrAt
    have hown : s.vm.findClass R_law = some m.cls := findClass_of_methodNamed B.named
    have hts0 : ∀ c ∈ (Jvm.Cond.code x code maxLocals ret :: tables_1), c.before #[Value.ref b] s = true := atoms_spec (ws := Jvm.Cond.code x code maxLocals ret :: tables_1) B.pre
    have hts : ∀ w ∈ lw_tbl, w.before #[Value.ref b] s = true := k2_hts_sels lw_privs (fun w hw => hts0 w (List.mem_cons_of_mem _ hw)) lw_privs_ok
    have hml : c.maxLocals = 4 := B.maxLocals_eq (hts0 _ List.mem_cons_self)
    have X₀ : Stand p l e room_1 s m #[Value.ref b] below meth c s₁ [] 0 0 := Stand.of_body B
    have hh0 : s₁.heap = s.heap := by rw [B.state]; rfl
    have hsz : scr.slots.size = xs.length := by rw [← Array.length_toList, hlist, List.length_map]
    have hval : ∀ j : Nat, j < xs.length → scr.slots[j]? = some (.int (xs.getD j 0)) := fun j hj => by
      rw [← Array.getElem?_toList, hlist]
      simp [hj]
    have hbl : b < s.heap.size := (Array.getElem?_eq_some_iff.mp hcb).1
    have hX : va_X b xs.length (fun j => xs.getD j 0) s s.heap := ⟨scr, hcb, hof, hkn, hsz, hval⟩
    have K : W p l e room_1 s m #[Value.ref b] below meth c s₁.heap [] 0 0 (lw_Z below #[Value.ref b] s) (entryFrame m ([Value.ref b] : List Value).toArray 4) := by
      rw [hh0]
      exact whole_start l hflags hbd ⟨B.exec, B.bytes, B.returns, hml, hown, hts, hX, hbl, B.notSynchronized, hgv⟩
    obtain ⟨t, a1, o, b1, b2, b3⟩ := K s₁ rfl X₀
    exact ⟨t, o, a1, b1, b2, b3⟩
theorem lw_pre_spec {args : Array Value} {s : State} (h : (Jvm.Cond.and given_1 narrow_1).before args s = true) (hr : rest_1_c.before args s = true) : ∃ (b : Addr) (xs : List Int32), lw_P b xs args s := by
  have hs := flat_of_before _ h
  have hq := flat_of_before _ hr
  have hc : (Cond.count 1).before args s = true := hs _ (by decide +kernel)
  have harr : (Cond.arrayOf (.arg 0) .int).before args s = true := hs _ (by decide +kernel)
  have hle : (Cond.le (.length (.arg 0)) (.int 3072)).before args s = true := hs _ (by decide +kernel)
  have hlen : (Cond.isInt (.length (.arg 0))).before args s = true := hq _ (by decide +kernel)
  have hall : (Cond.all (.arg 0) (.isInt (.elem (.arg 0) (.index 0)))).before args s = true := hq _ (by decide +kernel)
  obtain ⟨b, xs, hb, hx⟩ := State.ints_of_pre rfl harr hlen hall
  have hsm : xs.length < 2 ^ 31 := hx.choose_spec.2.2.2
  have hev : (Term.length (.arg 0)).eval args s none [] s = some (.int xs.length.toInt32) := hx.length_eval hb
  have hv := Cond.le_ints hev (show (Term.int 3072).eval args s none [] s = some (.int 3072) from rfl)
  have hd : xs.length.toInt32 ≤ 3072 := by
    simpa [Cond.before, Cond.holds, hv] using hle
  have hN : xs.length ≤ 3072 := (Int32.ofNat_le_ofNat hsm (by decide)).mp (show Int32.ofNat xs.length ≤ Int32.ofNat 3072 from hd)
  exact ⟨b, xs, Cond.one_arg hc (show args[0]? = some (.ref b) from hb), hx, hN, h⟩
theorem lw_comes (l : Launch) (hflags : l.flags = flags0) : Comes l x (Jvm.Cond.code x code maxLocals ret :: tables_1) room_1 (fun tb e args s => Calls_1 tb e args s ∧ rest_1 tb e args s ∧ Pre_1 tb e args s)
    (fun _ _ args s o t => lw_Q args s o t) := by
  intro p e ha hc hk s m args below hf hfit hheap happ hpre
  obtain ⟨b, xs, hP⟩ := lw_pre_spec hpre.2.2 hpre.2.1
  obtain ⟨k, o, h1, h2, h3, hQ⟩ := lw_walk l hflags b xs p e ha hc hk s m args below hf ((Spec.applies_iff_loose hf).mp happ).1 hP trivial
  exact ⟨k, o, h1, h2, h3, hQ⟩
theorem lw_frame {s t : State} {o : Outcome} {args : Array Value} (h : Framed s o t [] 600000 7302250) :
    Framed s o t (fieldLocs frame_1_writes args s ++ arrayLocs frame_1_arrays args s ++ staticLocs frame_1_statics s) 600000 7302250 := h
theorem lw_limb (L : Cond) (hL : ∀ (args : Array Value) (s t : State), L.after args s (.returned (some (.int 1))) t = true) :
    ArmFor flags0 classFile x code maxLocals ret World_1 tables_1 room_1 Calls_1 rest_1 Pre_1
      (fun tb e a s o t => postC L tb e a s o t ∧ Framed s o t (fieldLocs frame_1_writes a s ++ arrayLocs frame_1_arrays a s ++ staticLocs frame_1_statics s) 600000 7302250) := by
  intro l hflags _ _ p e ha hc hk s m args below hf hfit hheap happ hpre
  obtain ⟨k, o, h1, h2, h3, rfl, hF⟩ := lw_comes l hflags p e ha hc hk s m args below hf hfit hheap happ hpre
  exact ⟨k, _, h1, h2, h3, hL args s _, lw_frame hF⟩
theorem i_vc : Claimed_1_1 ∧ Claimed_1_2 := ⟨lw_limb limb_1_1 (fun args s t => by simp [limb_1_1, Cond.after, Cond.holds, Cond.value]), lw_limb limb_1_2 (fun args s t => Cond.after_iff.mpr (by
  first | (rw [show limb_1_2 = Cond.eq .result (.int 1) from rfl, Cond.eq_ints (x := 1) (y := 1) rfl rfl]; simp; done) | (simp [limb_1_2, Cond.value, Term.eval]; done)))⟩
