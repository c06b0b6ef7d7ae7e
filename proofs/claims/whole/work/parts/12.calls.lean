theorem wl_D {g : GG} {ly : Nat} {σ u : Mm} {A : Nat → Prop} (h : va_D A (wl g ly σ)) : va_D A (wl g ly u) := by
  have key : ∀ (k : Nat) (p : Nat × va_E), (wl g ly u)[k]? = some p → ∃ p', (wl g ly σ)[k]? = some p' ∧ p'.1 = p.1 := by
    intro k p hp
    unfold wl at hp ⊢
    rw [List.getElem?_map] at hp ⊢
    cases hx : (idsOf ly)[k]? with
    | none => rw [hx] at hp; cases hp
    | some x =>
      rw [hx] at hp
      refine ⟨wlf g ly σ x, rfl, ?_⟩
      have e : wlf g ly u x = p := Option.some.inj hp
      rw [← e]
      rfl
  refine ⟨fun i j p q hp hq e => ?_, fun k q hq => ?_⟩
  · obtain ⟨p', h1, e1⟩ := key i p hp
    obtain ⟨q', h2, e2⟩ := key j q hq
    exact h.1 i j p' q' h1 h2 (by rw [e1, e2]; exact e)
  · obtain ⟨q', h1, e1⟩ := key k q hq
    rw [← e1]
    exact h.2 k q' h1
theorem Wo.blind {g : GG} {ly : Nat} {σ : Mm} {av : List Value} : FrameBlind (va_Pc av (Wo g ly σ)) := fun a U f mk q => ⟨q.1, q.2.1, q.2.2.1, En.calling f mk a q.2.2.2⟩
theorem Hy.wo {g : GG} {ly : Nat} {M : MT} {σ : Mm} {L : List (Nat × Value)} {p : Program} {s : State} {m : MethodId} {a : Array Value} {me : Method} {c : Code} {H : Heap} {lo : List Loc} {ls : Array Slot} (h : Hy g ly M σ L p s m a me c H lo ls) {U : State} (hU : U.heap = H) (hW : s.WarmedH U.vm) : Wo g ly σ U :=
  ⟨by rw [hU]; exact h.2.1, h.2.2.1, by rw [hU]; exact En.warm hW (h.1.2.2.2.2.2.2.2.kept h.2.2.2.1.2.1)⟩
/-- what a call of an instance method asks of the tables -/
def OkV (M : MT) (n : Nat) : Prop := Cond.instanceMethod M.1 ∈ wsG ∧ Cond.selects M.1.cls M.1 M.1 ∈ wsG ∧ Cond.initialized M.1.cls ∈ wsG ∧ Cond.code M.1 M.2.1 M.2.2.1 M.2.2.2.1 ∈ wsG ∧ (M.1.cls ≠ "java/lang/invoke/MethodHandle" ∧ M.1.cls ≠ "java/lang/invoke/VarHandle" ∧ (parseMethodDescriptor M.1.desc).map (fun d => d.parameters.length) = some n) ∧ M.2.2.1 ≤ 21
def OkS (M : MT) (n : Nat) : Prop := Cond.static M.1 ∈ wsG ∧ Cond.initialized M.1.cls ∈ wsG ∧ Cond.code M.1 M.2.1 M.2.2.1 M.2.2.2.1 ∈ wsG ∧ (M.1.cls ≠ "java/lang/invoke/MethodHandle" ∧ M.1.cls ≠ "java/lang/invoke/VarHandle" ∧ (parseMethodDescriptor M.1.desc).map (fun d => d.parameters.length) = some n) ∧ M.2.2.1 ≤ 21
theorem wsG_goodIn {ws : List Cond} (h : ∀ w ∈ ws, w ∈ wsG) : GoodIn wsG ws := fun w hw => ⟨h w hw, good_of_word (wsG_good w (h w hw))⟩
theorem wsM_in {M : MT} (h : Cond.code M.1 M.2.1 M.2.2.1 M.2.2.2.1 ∈ wsG) : ∀ w ∈ wsM M, w ∈ wsG := fun w hw => (List.mem_cons.mp hw).elim (fun e => by rw [e]; exact h) id
theorem lev_ok {a b x : Nat} (h : a + 1 ≤ b) (hx : x ≤ 21) : (rmL a).frames + 1 ≤ (rmL b).frames ∧ 8 + (x + 11) + (rmL a).locals ≤ (rmL b).locals := by
  refine ⟨h, ?_⟩
  show 8 + (x + 11) + 40 * a ≤ 40 * b
  omega
theorem AW.callVI {g : GG} {ly : Nat} {M : MT} {Qc : Array Value → State → Outcome → State → Prop} {pc : Nat} {L : List (Nat × Value)} {S : List Value} {σ : Mm} {K : Int32 → Mm → Prop} {M' : MT} {t i ci n N idx : Nat} {T : u_T} {fs : List Value} (As : List Value) {rest : List Value} (hM : Ct g ly M' (QI g ly K) (.ref (gad g t i) :: As) σ) (ok : OkV M' n) (hid : (t, i) ∈ idsOf ly) (he : enOf ly (gad g) (gcy g) t i (σ t i) = .inr (ci, fs)) (hc : vwCl[ci]? = some (M'.1.cls, T, N)) (hl : Cond.methodLink M.1.cls idx M'.1 ∈ wsG) (hn : As.length = n) (hlev : M'.2.2.2.2 + 1 ≤ M.2.2.2.2) (hst : (rest.map fun v => v.category).sum ≤ 8) (hs : S = As.reverse ++ .ref (gad g t i) :: rest) (hd : decode M.2.1 pc = .ok (.invokevirtual idx, 3)) (kk : ∀ r u, K r u → AW g ly M Qc (pc + 3) L (.int r :: rest) u) : AW g ly M Qc pc L S σ := by
  intro p e s m a b me c H lo ls h
  obtain ⟨q0, hq0⟩ := ids_at hid
  obtain ⟨o1, o2, o3, o4, o5, o6⟩ := ok
  have hK := h.1.2.2.2.2.2.2.2.1
  have cw : CallW (rmL M.2.2.2.2) s a M.1.cls M'.1.cls idx M'.1 M'.2.1 M'.2.2.1 M'.2.2.2.1 (wsM M') (rmL M'.2.2.2.2) 0 0 n := cwV n h.1.2.2.2.2.1 (wsG_goodIn (fun w hw => by
    unfold wsV at hw
    rcases List.mem_append.mp hw with hw | hw
    · simp only [List.mem_cons, List.not_mem_nil, or_false] at hw
      rcases hw with rfl | rfl | rfl | rfl <;> assumption
    · exact wsM_in o4 w hw)) rfl rfl rfl ⟨rfl, o5⟩ (lev_ok hlev o6)
  refine va_calli (va_runV (As := As) (rest := rest) ⟨h.1.1, h.1.2.1, h.1.2.2.1, h.1.2.2.2.1, h.1.2.2.2.2.1⟩ hM cw ⟨Wo.blind, va_recv hK h.2.1 hc ((wl_at hq0).trans (by rw [he])), fun U hU hW => ⟨rfl, h.wo hU hW⟩⟩ rfl hn h.2.2.2.2.1 hs (lv_room hst) hd ⟨Nat.zero_le _, Nat.zero_le _⟩) h.2.2.2.1 (fun q _ z => z) (fun q z => z) (fun r u t H1 lo1 ht hvm hw hB hz1 hk1 hS1 => kk r u hw p e s m a b me c H1 lo1 ls ⟨h.1, by unfold BW at hB; rw [ht] at hB; exact hB, wl_D h.2.2.1, hS1, h.2.2.2.2⟩)
theorem AW.callSI {g : GG} {ly : Nat} {M : MT} {Qc : Array Value → State → Outcome → State → Prop} {pc : Nat} {L : List (Nat × Value)} {S : List Value} {σ : Mm} {K : Int32 → Mm → Prop} {M' : MT} {n idx : Nat} (As : List Value) {rest : List Value} (hM : Ct g ly M' (QI g ly K) As σ) (ok : OkS M' n) (hl : Cond.methodLink M.1.cls idx M'.1 ∈ wsG) (hn : As.length = n) (hlev : M'.2.2.2.2 + 1 ≤ M.2.2.2.2) (hst : (rest.map fun v => v.category).sum ≤ 8) (hs : S = As.reverse ++ rest) (hd : decode M.2.1 pc = .ok (.invokestatic idx, 3)) (kk : ∀ r u, K r u → AW g ly M Qc (pc + 3) L (.int r :: rest) u) : AW g ly M Qc pc L S σ := by
  intro p e s m a b me c H lo ls h
  obtain ⟨o1, o2, o4, o5, o6⟩ := ok
  have cw := va_cwS (R := rmL M.2.2.2.2) (s := s) (args := a) (own := M.1.cls) (index := idx) (y := M'.1) (bytes := M'.2.1) (maxL := M'.2.2.1) (ret := M'.2.2.2.1) (rm := rmL M'.2.2.2.2) (mc := 0) (ms := 0) (Ts := wsG) (ws := wsM M') (ws' := wsG) n h.1.2.2.2.2.1 (wsG_goodIn (fun w hw => by
    unfold va_wsS at hw
    rcases List.mem_append.mp hw with hw | hw
    · simp only [List.mem_cons, List.not_mem_nil, or_false] at hw
      rcases hw with rfl | rfl | rfl <;> assumption
    · exact wsM_in o4 w hw)) rfl rfl rfl o5 (lev_ok hlev o6)
  refine va_calli (va_runS (As := As) (rest := rest) ⟨h.1.1, h.1.2.1, h.1.2.2.1, h.1.2.2.2.1, h.1.2.2.2.2.1⟩ hM cw ⟨Wo.blind, fun U hU hW => ⟨rfl, h.wo hU hW⟩⟩ rfl hn h.2.2.2.2.1 hs (lv_room hst) hd ⟨Nat.zero_le _, Nat.zero_le _⟩) h.2.2.2.1 (fun q _ z => z) (fun q z => z) (fun r u t H1 lo1 ht hvm hw hB hz1 hk1 hS1 => kk r u hw p e s m a b me c H1 lo1 ls ⟨h.1, by unfold BW at hB; rw [ht] at hB; exact hB, wl_D h.2.2.1, hS1, h.2.2.2.2⟩)
theorem AW.callNI {g : GG} {ly : Nat} {M : MT} {Qc : Array Value → State → Outcome → State → Prop} {pc : Nat} {L : List (Nat × Value)} {S : List Value} {σ : Mm} {K : Int32 → Mm → Prop} {M' : MT} {n idx : Nat} (As : List Value) {rest : List Value} (hM : Ct g ly M' (QI g ly K) As σ) (ok : OkS M' n) (hl : (M.1.cls, idx, M'.1) ∈ nestM) (hn : As.length = n) (hlev : M'.2.2.2.2 + 1 ≤ M.2.2.2.2) (hst : (rest.map fun v => v.category).sum ≤ 8) (hs : S = As.reverse ++ rest) (hd : decode M.2.1 pc = .ok (.invokestatic idx, 3)) (kk : ∀ r u, K r u → AW g ly M Qc (pc + 3) L (.int r :: rest) u) : AW g ly M Qc pc L S σ := by
  intro p e s m a b me c H lo ls h
  obtain ⟨o1, o2, o4, o5, o6⟩ := ok
  have cw := va_cnB (R := rmL M.2.2.2.2) (s := s) (args := a) (own := M.1.cls) (host := "NobodyBetween") (index := idx) (y := M'.1) (bytes := M'.2.1) (maxL := M'.2.2.1) (ret := M'.2.2.2.1) (rm := rmL M'.2.2.2.2) (mc := 0) (ms := 0) (Ts := wsG) (ws := wsM M') (ws' := wsG) n h.1.2.2.2.2.1 (wsG_goodIn (wsM_in o4)) rfl rfl rfl (h.1.2.2.2.2.2.2.2.2.2.2.2.2.2.1 _ hl) (h.1.2.2.2.2.1 _ o2) o5 (lev_ok hlev o6)
  refine va_calli (va_runSN (As := As) (rest := rest) ⟨h.1.1, h.1.2.1, h.1.2.2.1, h.1.2.2.2.1, h.1.2.2.2.2.1⟩ hM ⟨cw, h.1.2.2.2.2.1 _ o1, trivial⟩ ⟨Wo.blind, fun U hU hW => ⟨rfl, h.wo hU hW⟩⟩ rfl hn h.2.2.2.2.1 hs (lv_room hst) hd ⟨Nat.zero_le _, Nat.zero_le _⟩) h.2.2.2.1 (fun q _ z => z) (fun q z => z) (fun r u t H1 lo1 ht hvm hw hB hz1 hk1 hS1 => kk r u hw p e s m a b me c H1 lo1 ls ⟨h.1, by unfold BW at hB; rw [ht] at hB; exact hB, wl_D h.2.2.1, hS1, h.2.2.2.2⟩)
theorem AW.callVB {g : GG} {ly : Nat} {M : MT} {Qc : Array Value → State → Outcome → State → Prop} {pc : Nat} {L : List (Nat × Value)} {S : List Value} {σ : Mm} {K : Bool → Mm → Prop} {M' : MT} {t i ci n N idx : Nat} {T : u_T} {fs : List Value} (As : List Value) {rest : List Value} (hM : Ct g ly M' (QB g ly K) (.ref (gad g t i) :: As) σ) (ok : OkV M' n) (hid : (t, i) ∈ idsOf ly) (he : enOf ly (gad g) (gcy g) t i (σ t i) = .inr (ci, fs)) (hc : vwCl[ci]? = some (M'.1.cls, T, N)) (hl : Cond.methodLink M.1.cls idx M'.1 ∈ wsG) (hn : As.length = n) (hlev : M'.2.2.2.2 + 1 ≤ M.2.2.2.2) (hst : (rest.map fun v => v.category).sum ≤ 8) (hs : S = As.reverse ++ .ref (gad g t i) :: rest) (hd : decode M.2.1 pc = .ok (.invokevirtual idx, 3)) (kk : ∀ b0 u, K b0 u → AW g ly M Qc (pc + 3) L (.int (b2i b0) :: rest) u) : AW g ly M Qc pc L S σ := by
  intro p e s m a b me c H lo ls h
  obtain ⟨q0, hq0⟩ := ids_at hid
  obtain ⟨o1, o2, o3, o4, o5, o6⟩ := ok
  have hK := h.1.2.2.2.2.2.2.2.1
  have cw : CallW (rmL M.2.2.2.2) s a M.1.cls M'.1.cls idx M'.1 M'.2.1 M'.2.2.1 M'.2.2.2.1 (wsM M') (rmL M'.2.2.2.2) 0 0 n := cwV n h.1.2.2.2.2.1 (wsG_goodIn (fun w hw => by
    unfold wsV at hw
    rcases List.mem_append.mp hw with hw | hw
    · simp only [List.mem_cons, List.not_mem_nil, or_false] at hw
      rcases hw with rfl | rfl | rfl | rfl <;> assumption
    · exact wsM_in o4 w hw)) rfl rfl rfl ⟨rfl, o5⟩ (lev_ok hlev o6)
  refine va_calli (va_runV (As := As) (rest := rest) ⟨h.1.1, h.1.2.1, h.1.2.2.1, h.1.2.2.2.1, h.1.2.2.2.2.1⟩ hM cw ⟨Wo.blind, va_recv hK h.2.1 hc ((wl_at hq0).trans (by rw [he])), fun U hU hW => ⟨rfl, h.wo hU hW⟩⟩ rfl hn h.2.2.2.2.1 hs (lv_room hst) hd ⟨Nat.zero_le _, Nat.zero_le _⟩) h.2.2.2.1 (fun q _ z => z) (fun q z => z) (fun r u t H1 lo1 ht hvm hw hB hz1 hk1 hS1 => by obtain ⟨b0, rfl, hw⟩ := hw; exact kk b0 u hw p e s m a b me c H1 lo1 ls ⟨h.1, by unfold BW at hB; rw [ht] at hB; exact hB, wl_D h.2.2.1, hS1, h.2.2.2.2⟩)
theorem AW.callSB {g : GG} {ly : Nat} {M : MT} {Qc : Array Value → State → Outcome → State → Prop} {pc : Nat} {L : List (Nat × Value)} {S : List Value} {σ : Mm} {K : Bool → Mm → Prop} {M' : MT} {n idx : Nat} (As : List Value) {rest : List Value} (hM : Ct g ly M' (QB g ly K) As σ) (ok : OkS M' n) (hl : Cond.methodLink M.1.cls idx M'.1 ∈ wsG) (hn : As.length = n) (hlev : M'.2.2.2.2 + 1 ≤ M.2.2.2.2) (hst : (rest.map fun v => v.category).sum ≤ 8) (hs : S = As.reverse ++ rest) (hd : decode M.2.1 pc = .ok (.invokestatic idx, 3)) (kk : ∀ b0 u, K b0 u → AW g ly M Qc (pc + 3) L (.int (b2i b0) :: rest) u) : AW g ly M Qc pc L S σ := by
  intro p e s m a b me c H lo ls h
  obtain ⟨o1, o2, o4, o5, o6⟩ := ok
  have cw := va_cwS (R := rmL M.2.2.2.2) (s := s) (args := a) (own := M.1.cls) (index := idx) (y := M'.1) (bytes := M'.2.1) (maxL := M'.2.2.1) (ret := M'.2.2.2.1) (rm := rmL M'.2.2.2.2) (mc := 0) (ms := 0) (Ts := wsG) (ws := wsM M') (ws' := wsG) n h.1.2.2.2.2.1 (wsG_goodIn (fun w hw => by
    unfold va_wsS at hw
    rcases List.mem_append.mp hw with hw | hw
    · simp only [List.mem_cons, List.not_mem_nil, or_false] at hw
      rcases hw with rfl | rfl | rfl <;> assumption
    · exact wsM_in o4 w hw)) rfl rfl rfl o5 (lev_ok hlev o6)
  refine va_calli (va_runS (As := As) (rest := rest) ⟨h.1.1, h.1.2.1, h.1.2.2.1, h.1.2.2.2.1, h.1.2.2.2.2.1⟩ hM cw ⟨Wo.blind, fun U hU hW => ⟨rfl, h.wo hU hW⟩⟩ rfl hn h.2.2.2.2.1 hs (lv_room hst) hd ⟨Nat.zero_le _, Nat.zero_le _⟩) h.2.2.2.1 (fun q _ z => z) (fun q z => z) (fun r u t H1 lo1 ht hvm hw hB hz1 hk1 hS1 => by obtain ⟨b0, rfl, hw⟩ := hw; exact kk b0 u hw p e s m a b me c H1 lo1 ls ⟨h.1, by unfold BW at hB; rw [ht] at hB; exact hB, wl_D h.2.2.1, hS1, h.2.2.2.2⟩)
theorem AW.callNB {g : GG} {ly : Nat} {M : MT} {Qc : Array Value → State → Outcome → State → Prop} {pc : Nat} {L : List (Nat × Value)} {S : List Value} {σ : Mm} {K : Bool → Mm → Prop} {M' : MT} {n idx : Nat} (As : List Value) {rest : List Value} (hM : Ct g ly M' (QB g ly K) As σ) (ok : OkS M' n) (hl : (M.1.cls, idx, M'.1) ∈ nestM) (hn : As.length = n) (hlev : M'.2.2.2.2 + 1 ≤ M.2.2.2.2) (hst : (rest.map fun v => v.category).sum ≤ 8) (hs : S = As.reverse ++ rest) (hd : decode M.2.1 pc = .ok (.invokestatic idx, 3)) (kk : ∀ b0 u, K b0 u → AW g ly M Qc (pc + 3) L (.int (b2i b0) :: rest) u) : AW g ly M Qc pc L S σ := by
  intro p e s m a b me c H lo ls h
  obtain ⟨o1, o2, o4, o5, o6⟩ := ok
  have cw := va_cnB (R := rmL M.2.2.2.2) (s := s) (args := a) (own := M.1.cls) (host := "NobodyBetween") (index := idx) (y := M'.1) (bytes := M'.2.1) (maxL := M'.2.2.1) (ret := M'.2.2.2.1) (rm := rmL M'.2.2.2.2) (mc := 0) (ms := 0) (Ts := wsG) (ws := wsM M') (ws' := wsG) n h.1.2.2.2.2.1 (wsG_goodIn (wsM_in o4)) rfl rfl rfl (h.1.2.2.2.2.2.2.2.2.2.2.2.2.2.1 _ hl) (h.1.2.2.2.2.1 _ o2) o5 (lev_ok hlev o6)
  refine va_calli (va_runSN (As := As) (rest := rest) ⟨h.1.1, h.1.2.1, h.1.2.2.1, h.1.2.2.2.1, h.1.2.2.2.2.1⟩ hM ⟨cw, h.1.2.2.2.2.1 _ o1, trivial⟩ ⟨Wo.blind, fun U hU hW => ⟨rfl, h.wo hU hW⟩⟩ rfl hn h.2.2.2.2.1 hs (lv_room hst) hd ⟨Nat.zero_le _, Nat.zero_le _⟩) h.2.2.2.1 (fun q _ z => z) (fun q z => z) (fun r u t H1 lo1 ht hvm hw hB hz1 hk1 hS1 => by obtain ⟨b0, rfl, hw⟩ := hw; exact kk b0 u hw p e s m a b me c H1 lo1 ls ⟨h.1, by unfold BW at hB; rw [ht] at hB; exact hB, wl_D h.2.2.1, hS1, h.2.2.2.2⟩)
theorem AW.callVV {g : GG} {ly : Nat} {M : MT} {Qc : Array Value → State → Outcome → State → Prop} {pc : Nat} {L : List (Nat × Value)} {S : List Value} {σ : Mm} {K : Mm → Prop} {M' : MT} {t i ci n N idx : Nat} {T : u_T} {fs : List Value} (As : List Value) {rest : List Value} (hM : Ct g ly M' (QV g ly K) (.ref (gad g t i) :: As) σ) (ok : OkV M' n) (hid : (t, i) ∈ idsOf ly) (he : enOf ly (gad g) (gcy g) t i (σ t i) = .inr (ci, fs)) (hc : vwCl[ci]? = some (M'.1.cls, T, N)) (hl : Cond.methodLink M.1.cls idx M'.1 ∈ wsG) (hn : As.length = n) (hlev : M'.2.2.2.2 + 1 ≤ M.2.2.2.2) (hst : (rest.map fun v => v.category).sum ≤ 8) (hs : S = As.reverse ++ .ref (gad g t i) :: rest) (hd : decode M.2.1 pc = .ok (.invokevirtual idx, 3)) (kk : ∀ u, K u → AW g ly M Qc (pc + 3) L (rest) u) : AW g ly M Qc pc L S σ := by
  intro p e s m a b me c H lo ls h
  obtain ⟨q0, hq0⟩ := ids_at hid
  obtain ⟨o1, o2, o3, o4, o5, o6⟩ := ok
  have hK := h.1.2.2.2.2.2.2.2.1
  have cw : CallW (rmL M.2.2.2.2) s a M.1.cls M'.1.cls idx M'.1 M'.2.1 M'.2.2.1 M'.2.2.2.1 (wsM M') (rmL M'.2.2.2.2) 0 0 n := cwV n h.1.2.2.2.2.1 (wsG_goodIn (fun w hw => by
    unfold wsV at hw
    rcases List.mem_append.mp hw with hw | hw
    · simp only [List.mem_cons, List.not_mem_nil, or_false] at hw
      rcases hw with rfl | rfl | rfl | rfl <;> assumption
    · exact wsM_in o4 w hw)) rfl rfl rfl ⟨rfl, o5⟩ (lev_ok hlev o6)
  refine va_callv (va_runV (As := As) (rest := rest) ⟨h.1.1, h.1.2.1, h.1.2.2.1, h.1.2.2.2.1, h.1.2.2.2.2.1⟩ hM cw ⟨Wo.blind, va_recv hK h.2.1 hc ((wl_at hq0).trans (by rw [he])), fun U hU hW => ⟨rfl, h.wo hU hW⟩⟩ rfl hn h.2.2.2.2.1 hs (lv_room hst) hd ⟨Nat.zero_le _, Nat.zero_le _⟩) h.2.2.2.1 (fun q _ z => z) (fun q z => z) (fun u t H1 lo1 ht hvm hw hB hz1 hk1 hS1 => kk u hw p e s m a b me c H1 lo1 ls ⟨h.1, by unfold BW at hB; rw [ht] at hB; exact hB, wl_D h.2.2.1, hS1, h.2.2.2.2⟩)
theorem AW.callSV {g : GG} {ly : Nat} {M : MT} {Qc : Array Value → State → Outcome → State → Prop} {pc : Nat} {L : List (Nat × Value)} {S : List Value} {σ : Mm} {K : Mm → Prop} {M' : MT} {n idx : Nat} (As : List Value) {rest : List Value} (hM : Ct g ly M' (QV g ly K) As σ) (ok : OkS M' n) (hl : Cond.methodLink M.1.cls idx M'.1 ∈ wsG) (hn : As.length = n) (hlev : M'.2.2.2.2 + 1 ≤ M.2.2.2.2) (hst : (rest.map fun v => v.category).sum ≤ 8) (hs : S = As.reverse ++ rest) (hd : decode M.2.1 pc = .ok (.invokestatic idx, 3)) (kk : ∀ u, K u → AW g ly M Qc (pc + 3) L (rest) u) : AW g ly M Qc pc L S σ := by
  intro p e s m a b me c H lo ls h
  obtain ⟨o1, o2, o4, o5, o6⟩ := ok
  have cw := va_cwS (R := rmL M.2.2.2.2) (s := s) (args := a) (own := M.1.cls) (index := idx) (y := M'.1) (bytes := M'.2.1) (maxL := M'.2.2.1) (ret := M'.2.2.2.1) (rm := rmL M'.2.2.2.2) (mc := 0) (ms := 0) (Ts := wsG) (ws := wsM M') (ws' := wsG) n h.1.2.2.2.2.1 (wsG_goodIn (fun w hw => by
    unfold va_wsS at hw
    rcases List.mem_append.mp hw with hw | hw
    · simp only [List.mem_cons, List.not_mem_nil, or_false] at hw
      rcases hw with rfl | rfl | rfl <;> assumption
    · exact wsM_in o4 w hw)) rfl rfl rfl o5 (lev_ok hlev o6)
  refine va_callv (va_runS (As := As) (rest := rest) ⟨h.1.1, h.1.2.1, h.1.2.2.1, h.1.2.2.2.1, h.1.2.2.2.2.1⟩ hM cw ⟨Wo.blind, fun U hU hW => ⟨rfl, h.wo hU hW⟩⟩ rfl hn h.2.2.2.2.1 hs (lv_room hst) hd ⟨Nat.zero_le _, Nat.zero_le _⟩) h.2.2.2.1 (fun q _ z => z) (fun q z => z) (fun u t H1 lo1 ht hvm hw hB hz1 hk1 hS1 => kk u hw p e s m a b me c H1 lo1 ls ⟨h.1, by unfold BW at hB; rw [ht] at hB; exact hB, wl_D h.2.2.1, hS1, h.2.2.2.2⟩)
theorem AW.callNV {g : GG} {ly : Nat} {M : MT} {Qc : Array Value → State → Outcome → State → Prop} {pc : Nat} {L : List (Nat × Value)} {S : List Value} {σ : Mm} {K : Mm → Prop} {M' : MT} {n idx : Nat} (As : List Value) {rest : List Value} (hM : Ct g ly M' (QV g ly K) As σ) (ok : OkS M' n) (hl : (M.1.cls, idx, M'.1) ∈ nestM) (hn : As.length = n) (hlev : M'.2.2.2.2 + 1 ≤ M.2.2.2.2) (hst : (rest.map fun v => v.category).sum ≤ 8) (hs : S = As.reverse ++ rest) (hd : decode M.2.1 pc = .ok (.invokestatic idx, 3)) (kk : ∀ u, K u → AW g ly M Qc (pc + 3) L (rest) u) : AW g ly M Qc pc L S σ := by
  intro p e s m a b me c H lo ls h
  obtain ⟨o1, o2, o4, o5, o6⟩ := ok
  have cw := va_cnB (R := rmL M.2.2.2.2) (s := s) (args := a) (own := M.1.cls) (host := "NobodyBetween") (index := idx) (y := M'.1) (bytes := M'.2.1) (maxL := M'.2.2.1) (ret := M'.2.2.2.1) (rm := rmL M'.2.2.2.2) (mc := 0) (ms := 0) (Ts := wsG) (ws := wsM M') (ws' := wsG) n h.1.2.2.2.2.1 (wsG_goodIn (wsM_in o4)) rfl rfl rfl (h.1.2.2.2.2.2.2.2.2.2.2.2.2.2.1 _ hl) (h.1.2.2.2.2.1 _ o2) o5 (lev_ok hlev o6)
  refine va_callv (va_runSN (As := As) (rest := rest) ⟨h.1.1, h.1.2.1, h.1.2.2.1, h.1.2.2.2.1, h.1.2.2.2.2.1⟩ hM ⟨cw, h.1.2.2.2.2.1 _ o1, trivial⟩ ⟨Wo.blind, fun U hU hW => ⟨rfl, h.wo hU hW⟩⟩ rfl hn h.2.2.2.2.1 hs (lv_room hst) hd ⟨Nat.zero_le _, Nat.zero_le _⟩) h.2.2.2.1 (fun q _ z => z) (fun q z => z) (fun u t H1 lo1 ht hvm hw hB hz1 hk1 hS1 => kk u hw p e s m a b me c H1 lo1 ls ⟨h.1, by unfold BW at hB; rw [ht] at hB; exact hB, wl_D h.2.2.1, hS1, h.2.2.2.2⟩)
