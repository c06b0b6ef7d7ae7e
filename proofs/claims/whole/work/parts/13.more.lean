theorem ite_t {c A B : Prop} [Decidable c] (hc : c) (h : if c then A else B) : A := by rwa [if_pos hc] at h
theorem ite_f {c A B : Prop} [Decidable c] (hc : ¬ c) (h : if c then A else B) : B := by rwa [if_neg hc] at h
theorem b2i_fit (b : Bool) : fits .boolean (.int (b2i b)) = true := by cases b <;> rfl
/-- an int that is a boolean -/
def bz (x : Int32) : Prop := ∃ b : Bool, x = b2i b
theorem bz_nar {x : Int32} (h : bz x) : narrow .boolean (.int x) = .int x := by obtain ⟨b, rfl⟩ := h; exact b2i_nar b
theorem bz_fit {x : Int32} (h : bz x) : fits .boolean (.int x) = true := by obtain ⟨b, rfl⟩ := h; exact b2i_fit b
theorem b2i_0 {b : Bool} : b2i b = 0 ↔ ¬ b = true := by cases b <;> decide
theorem AW.ifb_eq {g : GG} {ly : Nat} {M : MT} {Qc : Array Value → State → Outcome → State → Prop} {pc : Nat} {L : List (Nat × Value)} {S : List Value} {σ : Mm} {x : Bool} {off : Int} {tgt : Nat} (hd : decode M.2.1 pc = .ok (.ifCond .eq off, 3)) (ht : (pc : Int) + off = (tgt : Int)) (kt : ¬ x = true → AW g ly M Qc (tgt) L S σ) (kf : x = true → AW g ly M Qc (pc + 3) L S σ) : AW g ly M Qc (pc) L (.int (b2i x) :: S) σ := AW.if_eq hd ht (fun z => kt (b2i_0.mp z)) (fun z => kf (Classical.byContradiction fun w => z (b2i_0.mpr w)))
theorem AW.ifb_ne {g : GG} {ly : Nat} {M : MT} {Qc : Array Value → State → Outcome → State → Prop} {pc : Nat} {L : List (Nat × Value)} {S : List Value} {σ : Mm} {x : Bool} {off : Int} {tgt : Nat} (hd : decode M.2.1 pc = .ok (.ifCond .ne off, 3)) (ht : (pc : Int) + off = (tgt : Int)) (kt : x = true → AW g ly M Qc (tgt) L S σ) (kf : ¬ x = true → AW g ly M Qc (pc + 3) L S σ) : AW g ly M Qc (pc) L (.int (b2i x) :: S) σ := AW.if_ne hd ht (fun z => kt (Classical.byContradiction fun w => z (b2i_0.mpr w))) (fun z => kf (b2i_0.mp z))
theorem AW.i2c {g : GG} {ly : Nat} {M : MT} {Qc : Array Value → State → Outcome → State → Prop} {pc : Nat} {L : List (Nat × Value)} {S : List Value} {σ : Mm} {x : Int32} (hd : decode M.2.1 pc = .ok (.i2c, 1)) (k : AW g ly M Qc (pc + 1) L (.int (x.toUInt32 % 65536).toInt32 :: S) σ) : AW g ly M Qc (pc) L (.int x :: S) σ := fun p e s m a b me c H lo ls h => lv_i2c h.1.1 h.1.2.1 hd rfl (k p e s m a b me c H lo ls h)
theorem AW.mabs {g : GG} {ly : Nat} {M : MT} {Qc : Array Value → State → Outcome → State → Prop} {pc : Nat} {L : List (Nat × Value)} {S : List Value} {σ : Mm} {x : Int32} {idx : Nat} (hl : Cond.methodLink M.1.cls idx Lib.Math.abs.name ∈ wsG) (h2 : Cond.static Lib.Math.abs.name ∈ wsG) (h3 : Cond.initialized "java/lang/Math" ∈ wsG) (h4 : Cond.code Lib.Math.abs.name Lib.Math.abs.code 1 (some .int) ∈ wsG) (hf : 1 ≤ M.2.2.2.2) (hst : (S.map fun v => v.category).sum + 13 ≤ 40 * M.2.2.2.2) (hd : decode M.2.1 pc = .ok (.invokestatic idx, 3)) (k : AW g ly M Qc (pc + 3) L (.int (if 0 ≤ x then x else 0 - x) :: S) σ) : AW g ly M Qc (pc) L (.int x :: S) σ := fun p e s m a b me c H lo ls h => va_mabs h.1.1 h.1.2.1 (h.1.2.2.1.trans h.2.2.2.2.1.symm) h.1.2.2.2.1 (h.1.2.2.2.2.1 _ hl) (h.1.2.2.2.2.1 _ h2) (h.1.2.2.2.2.1 _ h3) (h.1.2.2.2.2.1 _ h4) hf hst (Nat.zero_le _) (Nat.zero_le _) hd (k p e s m a b me c H lo ls h)
theorem AW.mmin {g : GG} {ly : Nat} {M : MT} {Qc : Array Value → State → Outcome → State → Prop} {pc : Nat} {L : List (Nat × Value)} {S : List Value} {σ : Mm} {x y : Int32} {idx : Nat} (hl : Cond.methodLink M.1.cls idx Lib.Math.min.name ∈ wsG) (h2 : Cond.static Lib.Math.min.name ∈ wsG) (h3 : Cond.initialized "java/lang/Math" ∈ wsG) (h4 : Cond.code Lib.Math.min.name Lib.Math.min.code 2 (some .int) ∈ wsG) (hf : 1 ≤ M.2.2.2.2) (hst : (S.map fun v => v.category).sum + 13 ≤ 40 * M.2.2.2.2) (hd : decode M.2.1 pc = .ok (.invokestatic idx, 3)) (k : AW g ly M Qc (pc + 3) L (.int (if y < x then y else x) :: S) σ) : AW g ly M Qc (pc) L (.int y :: .int x :: S) σ := fun p e s m a b me c H lo ls h => va_mmin h.1.1 h.1.2.1 (h.1.2.2.1.trans h.2.2.2.2.1.symm) h.1.2.2.2.1 (h.1.2.2.2.2.1 _ hl) (h.1.2.2.2.2.1 _ h2) (h.1.2.2.2.2.1 _ h3) (h.1.2.2.2.2.1 _ h4) hf hst (Nat.zero_le _) (Nat.zero_le _) hd (k p e s m a b me c H lo ls h)
theorem AW.mmax {g : GG} {ly : Nat} {M : MT} {Qc : Array Value → State → Outcome → State → Prop} {pc : Nat} {L : List (Nat × Value)} {S : List Value} {σ : Mm} {x y : Int32} {idx : Nat} (hl : Cond.methodLink M.1.cls idx Lib.Math.max.name ∈ wsG) (h2 : Cond.static Lib.Math.max.name ∈ wsG) (h3 : Cond.initialized "java/lang/Math" ∈ wsG) (h4 : Cond.code Lib.Math.max.name Lib.Math.max.code 2 (some .int) ∈ wsG) (hf : 1 ≤ M.2.2.2.2) (hst : (S.map fun v => v.category).sum + 13 ≤ 40 * M.2.2.2.2) (hd : decode M.2.1 pc = .ok (.invokestatic idx, 3)) (k : AW g ly M Qc (pc + 3) L (.int (if x < y then y else x) :: S) σ) : AW g ly M Qc (pc) L (.int y :: .int x :: S) σ := fun p e s m a b me c H lo ls h => va_mmax h.1.1 h.1.2.1 (h.1.2.2.1.trans h.2.2.2.2.1.symm) h.1.2.2.2.1 (h.1.2.2.2.2.1 _ hl) (h.1.2.2.2.2.1 _ h2) (h.1.2.2.2.2.1 _ h3) (h.1.2.2.2.2.1 _ h4) hf hst (Nat.zero_le _) (Nat.zero_le _) hd (k p e s m a b me c H lo ls h)
theorem AW.tswIn {g : GG} {ly : Nat} {M : MT} {Qc : Array Value → State → Outcome → State → Prop} {pc : Nat} {L : List (Nat × Value)} {S : List Value} {σ : Mm} {dflt lo hi : Int} {offs : Array Int} {len : Nat} {x : Int32} {off : Int} {tgt : Nat} (v : Int32) (hd : decode M.2.1 pc = .ok (.tableswitch dflt lo hi offs, len)) (hx : x = v) (h1 : ¬ v.toInt < lo) (h2 : ¬ hi < v.toInt) (ho : offs[(v.toInt - lo).toNat]? = some off) (ht : (pc : Int) + off = (tgt : Int)) (k : AW g ly M Qc (tgt) L S σ) : AW g ly M Qc (pc) L (.int x :: S) σ := by
  subst hx
  exact fun p e s m a b me c H lo ls h => lv_tableIn h.1.1 h.1.2.1 hd h1 h2 ho ht (k p e s m a b me c H lo ls h)
theorem AW.tswOut {g : GG} {ly : Nat} {M : MT} {Qc : Array Value → State → Outcome → State → Prop} {pc : Nat} {L : List (Nat × Value)} {S : List Value} {σ : Mm} {dflt lo hi : Int} {offs : Array Int} {len : Nat} {x : Int32} {tgt : Nat} (hd : decode M.2.1 pc = .ok (.tableswitch dflt lo hi offs, len)) (hx : x.toInt < lo ∨ hi < x.toInt) (ht : (pc : Int) + dflt = (tgt : Int)) (k : AW g ly M Qc (tgt) L S σ) : AW g ly M Qc (pc) L (.int x :: S) σ := fun p e s m a b me c H lo ls h => lv_tableOut h.1.1 h.1.2.1 hd hx ht (k p e s m a b me c H lo ls h)
theorem tsw_out {x : Int32} {lo hi : Int} (h : ∀ k : Int, lo ≤ k → k ≤ hi → ¬ x = Int32.ofInt k) : x.toInt < lo ∨ hi < x.toInt := by
  rcases Int.lt_or_le x.toInt lo with q | q
  · exact Or.inl q
  · rcases Int.lt_or_le hi x.toInt with r | r
    · exact Or.inr r
    · exact absurd (Int32.ofInt_toInt x).symm (h _ q r)
theorem AW.getsC {g : GG} {ly : Nat} {M : MT} {Qc : Array Value → State → Outcome → State → Prop} {pc : Nat} {L : List (Nat × Value)} {S : List Value} {σ : Mm} {idx : Nat} (hl : Cond.fieldLink M.1.cls idx "java/lang/String" "COMPACT_STRINGS" "Z" ∈ wsG) (hd : decode M.2.1 pc = .ok (.getstatic idx, 3)) (kk : AW g ly M Qc (pc + 3) L (.int 1 :: S) σ) : AW g ly M Qc (pc) L S σ := fun p e s m a b me c H lo ls h => va_gets h.1.1 h.1.2.1 h.1.2.2.2.2.2.2.2.2.2.2.1 h.2.2.2.1 h.1.2.2.2.1 (h.1.2.2.2.2.1 _ hl) (fun _ z => z) hd (kk p e s m a b me c H lo ls h)
theorem AW.getsQ {g : GG} {ly : Nat} {M : MT} {Qc : Array Value → State → Outcome → State → Prop} {pc : Nat} {L : List (Nat × Value)} {S : List Value} {σ : Mm} {idx : Nat} (hl : Cond.fieldLink M.1.cls idx "jdk/internal/util/Preconditions" "SIOOBE_FORMATTER" "Ljava/util/function/BiFunction;" ∈ wsG) (hd : decode M.2.1 pc = .ok (.getstatic idx, 3)) (kk : ∀ v : Value, (v = .null ∨ ∃ t, v = .ref t) → AW g ly M Qc (pc + 3) L (v :: S) σ) : AW g ly M Qc (pc) L S σ := by
  intro p e s m a b me c H lo ls h
  rcases h.1.2.2.2.2.2.2.2.2.2.2.2.2.2.2 with z | ⟨t, z⟩
  · exact va_gets h.1.1 h.1.2.1 z h.2.2.2.1 h.1.2.2.2.1 (h.1.2.2.2.2.1 _ hl) (fun _ z => z) hd (kk .null (Or.inl rfl) p e s m a b me c H lo ls h)
  · exact va_gets h.1.1 h.1.2.1 z h.2.2.2.1 h.1.2.2.2.1 (h.1.2.2.2.2.1 _ hl) (fun _ z => z) hd (kk (.ref t) (Or.inr ⟨t, rfl⟩) p e s m a b me c H lo ls h)
theorem AW.sval {g : GG} {ly : Nat} {M : MT} {Qc : Array Value → State → Outcome → State → Prop} {pc : Nat} {L : List (Nat × Value)} {S : List Value} {σ : Mm} {n idx : Nat} (hn : n < 13) (hl : Cond.fieldLink M.1.cls idx "java/lang/String" "value" "[B" ∈ wsG) (hd : decode M.2.1 pc = .ok (.getfield idx, 3)) (kk : AW g ly M Qc (pc + 3) L (.ref (gaV g n) :: S) σ) : AW g ly M Qc (pc) L (.ref (gaK g n) :: S) σ := fun p e s m a b me c H lo ls h => vk_getf h.1.1 h.1.2.1 (h.1.2.2.2.2.2.2.2.2.2.1.1 n hn).2.2.1 h.2.2.2.1 h.1.2.2.2.1 (h.1.2.2.2.2.1 _ hl) (fun _ z => z) hd (kk p e s m a b me c H lo ls h)
theorem AW.scod {g : GG} {ly : Nat} {M : MT} {Qc : Array Value → State → Outcome → State → Prop} {pc : Nat} {L : List (Nat × Value)} {S : List Value} {σ : Mm} {n idx : Nat} (hn : n < 13) (hl : Cond.fieldLink M.1.cls idx "java/lang/String" "coder" "B" ∈ wsG) (hd : decode M.2.1 pc = .ok (.getfield idx, 3)) (kk : AW g ly M Qc (pc + 3) L (.int 0 :: S) σ) : AW g ly M Qc (pc) L (.ref (gaK g n) :: S) σ := fun p e s m a b me c H lo ls h => vk_getf h.1.1 h.1.2.1 (h.1.2.2.2.2.2.2.2.2.2.1.1 n hn).2.1 h.2.2.2.1 h.1.2.2.2.1 (h.1.2.2.2.2.1 _ hl) (fun _ z => z) hd (kk p e s m a b me c H lo ls h)
theorem AW.slen {g : GG} {ly : Nat} {M : MT} {Qc : Array Value → State → Outcome → State → Prop} {pc : Nat} {L : List (Nat × Value)} {S : List Value} {σ : Mm} {n : Nat} (hn : n < 13) (hd : decode M.2.1 pc = .ok (.arraylength, 1)) (kk : AW g ly M Qc (pc + 1) L (.int (Int32.ofNat (strLn.getD n 0)) :: S) σ) : AW g ly M Qc (pc) L (.ref (gaV g n) :: S) σ := fun p e s m a b me c H lo ls h => va_tlen h.1.1 h.1.2.1 (h.1.2.2.2.2.2.2.2.2.2.1.1 n hn).2.2.2 h.2.2.2.1 rfl hd (kk p e s m a b me c H lo ls h)
theorem AW.sbald {g : GG} {ly : Nat} {M : MT} {Qc : Array Value → State → Outcome → State → Prop} {pc : Nat} {L : List (Nat × Value)} {S : List Value} {σ : Mm} {n : Nat} {j : Int32} (hn : n < 13) (hin : vp_in j (strLn.getD n 0)) (hd : decode M.2.1 pc = .ok (.baload, 1)) (kk : AW g ly M Qc (pc + 1) L (.int ((strBy.getD n []).getD j.toNatClampNeg 0) :: S) σ) : AW g ly M Qc (pc) L (.int j :: .ref (gaV g n) :: S) σ := fun p e s m a b me c H lo ls h => va_tb h.1.1 h.1.2.1 (h.1.2.2.2.2.2.2.2.2.2.1.1 n hn).2.2.2 h.2.2.2.1 hin rfl hd (kk p e s m a b me c H lo ls h)
theorem AW.nret {g : GG} {ly : Nat} {M : MT} {K : Int32 → Mm → Prop} {pc : Nat} {L : List (Nat × Value)} {σ : Mm} {v : Int32} {ty : FieldType} (hr : M.2.2.2.1 = some ty) (hn : narrow ty (.int v) = .int v) (hd : decode M.2.1 pc = .ok (.ireturn, 1)) (hK : K v σ) : AW g ly M (QI g ly K) pc L [.int v] σ := by
  intro p e s m a b me c H lo ls h
  exact W.zret h.1.1 h.1.2.1 (h.1.2.2.2.2.2.1.trans hr) hn (fun t ht _ => ⟨⟨v, σ, rfl, hK, by unfold BW; rw [ht]; exact h.2.1⟩, by rw [va_F, ht]; exact ⟨h.2.2.2.1.1, h.2.2.2.1.2.1⟩⟩) h.2.2.2.1.2.2 hd h.1.2.2.2.2.2.2.1
def QS (g : GG) (ly : Nat) (K : Nat → Mm → Prop) : Array Value → State → Outcome → State → Prop := va_Qr (S := Nat × Mm) (fun u => u.1 < 13 ∧ K u.1 u.2) (fun u a t => a = gaK g u.1 ∧ BW g ly u.2 t) (gA g ly)
theorem AW.sret {g : GG} {ly : Nat} {M : MT} {K : Nat → Mm → Prop} {pc : Nat} {L : List (Nat × Value)} {σ : Mm} {n : Nat} {C : String} (hn : n < 13) (hr : M.2.2.2.1 = some (.object C)) (hd : decode M.2.1 pc = .ok (.areturn, 1)) (hK : K n σ) : AW g ly M (QS g ly K) pc L [.ref (gaK g n)] σ := by
  intro p e s m a b me c H lo ls h
  exact W.aret h.1.1 h.1.2.1 (h.1.2.2.2.2.2.1.trans hr) (Or.inl ⟨_, rfl⟩) (Or.inr ⟨_, rfl⟩) (fun t ht _ => ⟨⟨(n, σ), _, rfl, ⟨hn, hK⟩, rfl, by unfold BW; rw [ht]; exact h.2.1⟩, by rw [va_F, ht]; exact ⟨h.2.2.2.1.1, h.2.2.2.1.2.1⟩⟩) h.2.2.2.1.2.2 hd h.1.2.2.2.2.2.2.1
theorem AW.callStrI {g : GG} {ly : Nat} {M : MT} {Qc : Array Value → State → Outcome → State → Prop} {pc : Nat} {L : List (Nat × Value)} {S : List Value} {σ : Mm} {K : Int32 → Mm → Prop} {M' : MT} {x n idx : Nat} (As : List Value) {rest : List Value} (hM : Ct g ly M' (QI g ly K) (.ref (gaK g x) :: As) σ) (ok : OkV M' n) (hx : x < 13) (hl : Cond.methodLink M.1.cls idx M'.1 ∈ wsG) (hn : As.length = n) (hlev : M'.2.2.2.2 + 1 ≤ M.2.2.2.2) (hst : (rest.map fun v => v.category).sum ≤ 8) (hs : S = As.reverse ++ .ref (gaK g x) :: rest) (hd : decode M.2.1 pc = .ok (.invokevirtual idx, 3)) (hcl : M'.1.cls = "java/lang/String") (kk : ∀ r u, K r u → AW g ly M Qc (pc + 3) L (.int r :: rest) u) : AW g ly M Qc pc L S σ := by
  intro p e s m a b me c H lo ls h
  obtain ⟨o1, o2, o3, o4, o5, o6⟩ := ok
  have cw : CallW (rmL M.2.2.2.2) s a M.1.cls M'.1.cls idx M'.1 M'.2.1 M'.2.2.1 M'.2.2.2.1 (wsM M') (rmL M'.2.2.2.2) 0 0 n := cwV n h.1.2.2.2.2.1 (wsG_goodIn (fun w hw => by
    unfold wsV at hw
    rcases List.mem_append.mp hw with hw | hw
    · simp only [List.mem_cons, List.not_mem_nil, or_false] at hw
      rcases hw with rfl | rfl | rfl | rfl <;> assumption
    · exact wsM_in o4 w hw)) rfl rfl rfl ⟨rfl, o5⟩ (lev_ok hlev o6)
  refine va_calli (va_runV (As := As) (rest := rest) ⟨h.1.1, h.1.2.1, h.1.2.2.1, h.1.2.2.2.1, h.1.2.2.2.2.1⟩ hM cw ⟨Wo.blind, by rw [hcl]; exact vk_recv h.1.2.2.2.2.2.2.2.2.2.1 hx h.2.2.2.1, fun U hU hW => ⟨rfl, h.wo hU hW⟩⟩ rfl hn h.2.2.2.2.1 hs (lv_room hst) hd ⟨Nat.zero_le _, Nat.zero_le _⟩) h.2.2.2.1 (fun q _ z => z) (fun q z => z) (fun r u t H1 lo1 ht hvm hw hB hz1 hk1 hS1 => kk r u hw p e s m a b me c H1 lo1 ls ⟨h.1, by unfold BW at hB; rw [ht] at hB; exact hB, wl_D h.2.2.1, hS1, h.2.2.2.2⟩)
theorem AW.callStrB {g : GG} {ly : Nat} {M : MT} {Qc : Array Value → State → Outcome → State → Prop} {pc : Nat} {L : List (Nat × Value)} {S : List Value} {σ : Mm} {K : Bool → Mm → Prop} {M' : MT} {x n idx : Nat} (As : List Value) {rest : List Value} (hM : Ct g ly M' (QB g ly K) (.ref (gaK g x) :: As) σ) (ok : OkV M' n) (hx : x < 13) (hl : Cond.methodLink M.1.cls idx M'.1 ∈ wsG) (hn : As.length = n) (hlev : M'.2.2.2.2 + 1 ≤ M.2.2.2.2) (hst : (rest.map fun v => v.category).sum ≤ 8) (hs : S = As.reverse ++ .ref (gaK g x) :: rest) (hd : decode M.2.1 pc = .ok (.invokevirtual idx, 3)) (hcl : M'.1.cls = "java/lang/String") (kk : ∀ b0 u, K b0 u → AW g ly M Qc (pc + 3) L (.int (b2i b0) :: rest) u) : AW g ly M Qc pc L S σ := by
  intro p e s m a b me c H lo ls h
  obtain ⟨o1, o2, o3, o4, o5, o6⟩ := ok
  have cw : CallW (rmL M.2.2.2.2) s a M.1.cls M'.1.cls idx M'.1 M'.2.1 M'.2.2.1 M'.2.2.2.1 (wsM M') (rmL M'.2.2.2.2) 0 0 n := cwV n h.1.2.2.2.2.1 (wsG_goodIn (fun w hw => by
    unfold wsV at hw
    rcases List.mem_append.mp hw with hw | hw
    · simp only [List.mem_cons, List.not_mem_nil, or_false] at hw
      rcases hw with rfl | rfl | rfl | rfl <;> assumption
    · exact wsM_in o4 w hw)) rfl rfl rfl ⟨rfl, o5⟩ (lev_ok hlev o6)
  refine va_calli (va_runV (As := As) (rest := rest) ⟨h.1.1, h.1.2.1, h.1.2.2.1, h.1.2.2.2.1, h.1.2.2.2.2.1⟩ hM cw ⟨Wo.blind, by rw [hcl]; exact vk_recv h.1.2.2.2.2.2.2.2.2.2.1 hx h.2.2.2.1, fun U hU hW => ⟨rfl, h.wo hU hW⟩⟩ rfl hn h.2.2.2.2.1 hs (lv_room hst) hd ⟨Nat.zero_le _, Nat.zero_le _⟩) h.2.2.2.1 (fun q _ z => z) (fun q z => z) (fun r u t H1 lo1 ht hvm hw hB hz1 hk1 hS1 => by obtain ⟨b0, rfl, hw⟩ := hw; exact kk b0 u hw p e s m a b me c H1 lo1 ls ⟨h.1, by unfold BW at hB; rw [ht] at hB; exact hB, wl_D h.2.2.1, hS1, h.2.2.2.2⟩)
theorem AW.callSS {g : GG} {ly : Nat} {M : MT} {Qc : Array Value → State → Outcome → State → Prop} {pc : Nat} {L : List (Nat × Value)} {S : List Value} {σ : Mm} {K : Nat → Mm → Prop} {M' : MT} {n idx : Nat} (As : List Value) {rest : List Value} (hM : Ct g ly M' (QS g ly K) As σ) (ok : OkS M' n) (hl : Cond.methodLink M.1.cls idx M'.1 ∈ wsG) (hn : As.length = n) (hlev : M'.2.2.2.2 + 1 ≤ M.2.2.2.2) (hst : (rest.map fun v => v.category).sum ≤ 8) (hs : S = As.reverse ++ rest) (hd : decode M.2.1 pc = .ok (.invokestatic idx, 3)) (kk : ∀ x u, x < 13 → K x u → AW g ly M Qc (pc + 3) L (.ref (gaK g x) :: rest) u) : AW g ly M Qc pc L S σ := by
  intro p e s m a b me c H lo ls h
  obtain ⟨o1, o2, o4, o5, o6⟩ := ok
  have cw := va_cwS (R := rmL M.2.2.2.2) (s := s) (args := a) (own := M.1.cls) (index := idx) (y := M'.1) (bytes := M'.2.1) (maxL := M'.2.2.1) (ret := M'.2.2.2.1) (rm := rmL M'.2.2.2.2) (mc := 0) (ms := 0) (Ts := wsG) (ws := wsM M') (ws' := wsG) n h.1.2.2.2.2.1 (wsG_goodIn (fun w hw => by
    unfold va_wsS at hw
    rcases List.mem_append.mp hw with hw | hw
    · simp only [List.mem_cons, List.not_mem_nil, or_false] at hw
      rcases hw with rfl | rfl | rfl <;> assumption
    · exact wsM_in o4 w hw)) rfl rfl rfl o5 (lev_ok hlev o6)
  refine va_callr (va_runS (As := As) (rest := rest) ⟨h.1.1, h.1.2.1, h.1.2.2.1, h.1.2.2.2.1, h.1.2.2.2.2.1⟩ hM cw ⟨Wo.blind, fun U hU hW => ⟨rfl, h.wo hU hW⟩⟩ rfl hn h.2.2.2.2.1 hs (lv_room hst) hd ⟨Nat.zero_le _, Nat.zero_le _⟩) h.2.2.2.1 (fun q _ z => z) (fun q z => z) (fun u ra t H1 lo1 ht hvm hw hB hz1 hk1 hS1 => ?_)
  obtain ⟨rfl, hB⟩ := hB
  exact kk u.1 u.2 hw.1 hw.2 p e s m a b me c H1 lo1 ls ⟨h.1, by unfold BW at hB; rw [ht] at hB; exact hB, wl_D h.2.2.1, hS1, h.2.2.2.2⟩
theorem ldcwS_st {p : Program} {l : Launch} {e : Env} {R : Room} {s : State} {m : MethodId} {args : Array Value} {below : List Frame} {meth : Method} {c : Code} {T : State} {locs : List Loc} {cells slots : Nat}
    (X : Stand p l e R s m args below meth c T locs cells slots) (hexec : p.tables.exec = Jvm.exec) {own text : String} {index : Nat} {a : Addr} (hown : s.vm.findClass own = some m.cls)
    (hconst : (Cond.stringRef own index text).before args s = true) (hev : (Term.string own index).eval args s none [] s = some (.ref a)) {g : JFrame} (hg : g.method = m) (hdg : decode c.code g.pc = .ok (.ldc_w index, 3)) :
    ∀ target, Steps p.tables e below (T.setTop { g with pc := g.pc + 3, stack := .ref a :: g.stack }) target → Steps p.tables e below (T.setTop g) target := by
  obtain ⟨k, cf, i, a', hk, hcf, hcp, -, hr, hev'⟩ := Cond.stringRef_spec hown hconst
  cases hev.symm.trans hev'
  obtain ⟨k', hk', he⟩ := X.warmed.alike.2.2 _ _ hk
  have hr' : k'.resolved[index]? = some (some (.string a)) := by
    rcases X.warmed.entry hk hk' index with h | ⟨h, -⟩
    · rw [h]; exact hr
    · rw [hr] at h; cases h
  intro target hrest
  subst hg
  jvm_step X.here [hexec, hdg, ldc_w.wp_string (e := e) (s := T) (f := g) X.here.top hk' (by rw [he]; exact hcf) hcp hr']
  exact hrest
theorem AW.ldcwS {g : GG} {ly : Nat} {M : MT} {Qc : Array Value → State → Outcome → State → Prop} {pc : Nat} {L : List (Nat × Value)} {S : List Value} {σ : Mm} {i : Nat} {tx : String} {n : Nat} (hd : decode M.2.1 pc = .ok (.ldc_w i, 3)) (hw : (M.1.cls, i, tx, n) ∈ strTb) (k : AW g ly M Qc (pc + 3) L (.ref (gaK g n) :: S) σ) : AW g ly M Qc (pc) L S σ := by
  intro p e s m a b me c H lo ls h T hT X
  obtain ⟨t, a1, b1⟩ := k p e s m a b me c H lo ls h T hT X
  have hZ := h.1.2.2.2.2.2.2.2.2.2.2.2.1 _ hw
  exact ⟨t, ldcwS_st X h.1.1 h.1.2.2.2.1 (text := tx) (a := gaK g n) hZ.1 hZ.2 (g := F0 m pc ls S) rfl (by rw [h.1.2.1]; exact hd) t a1, b1⟩
theorem id0_0_0 : (0, 0) ∈ idsOf 0 := ids_in (by decide) (by decide)
theorem id0_0_1 : (0, 1) ∈ idsOf 0 := ids_in (by decide) (by decide)
theorem id0_0_2 : (0, 2) ∈ idsOf 0 := ids_in (by decide) (by decide)
theorem id0_0_3 : (0, 3) ∈ idsOf 0 := ids_in (by decide) (by decide)
theorem id0_0_4 : (0, 4) ∈ idsOf 0 := ids_in (by decide) (by decide)
theorem id0_0_5 : (0, 5) ∈ idsOf 0 := ids_in (by decide) (by decide)
theorem id0_0_6 : (0, 6) ∈ idsOf 0 := ids_in (by decide) (by decide)
theorem id0_0_7 : (0, 7) ∈ idsOf 0 := ids_in (by decide) (by decide)
theorem id0_0_8 : (0, 8) ∈ idsOf 0 := ids_in (by decide) (by decide)
theorem id0_0_9 : (0, 9) ∈ idsOf 0 := ids_in (by decide) (by decide)
theorem id0_0_10 : (0, 10) ∈ idsOf 0 := ids_in (by decide) (by decide)
theorem id0_0_11 : (0, 11) ∈ idsOf 0 := ids_in (by decide) (by decide)
theorem id0_0_12 : (0, 12) ∈ idsOf 0 := ids_in (by decide) (by decide)
theorem id0_0_13 : (0, 13) ∈ idsOf 0 := ids_in (by decide) (by decide)
theorem id0_0_14 : (0, 14) ∈ idsOf 0 := ids_in (by decide) (by decide)
theorem id0_0_15 : (0, 15) ∈ idsOf 0 := ids_in (by decide) (by decide)
theorem id0_0_16 : (0, 16) ∈ idsOf 0 := ids_in (by decide) (by decide)
theorem id0_1_0 : (1, 0) ∈ idsOf 0 := ids_in (by decide) (by decide)
theorem id0_1_1 : (1, 1) ∈ idsOf 0 := ids_in (by decide) (by decide)
theorem id0_1_2 : (1, 2) ∈ idsOf 0 := ids_in (by decide) (by decide)
theorem id0_1_3 : (1, 3) ∈ idsOf 0 := ids_in (by decide) (by decide)
theorem id0_1_4 : (1, 4) ∈ idsOf 0 := ids_in (by decide) (by decide)
theorem id0_1_5 : (1, 5) ∈ idsOf 0 := ids_in (by decide) (by decide)
theorem id0_1_6 : (1, 6) ∈ idsOf 0 := ids_in (by decide) (by decide)
theorem id0_1_7 : (1, 7) ∈ idsOf 0 := ids_in (by decide) (by decide)
theorem id0_1_8 : (1, 8) ∈ idsOf 0 := ids_in (by decide) (by decide)
theorem id0_1_9 : (1, 9) ∈ idsOf 0 := ids_in (by decide) (by decide)
theorem id0_1_10 : (1, 10) ∈ idsOf 0 := ids_in (by decide) (by decide)
theorem id0_1_11 : (1, 11) ∈ idsOf 0 := ids_in (by decide) (by decide)
theorem id0_1_12 : (1, 12) ∈ idsOf 0 := ids_in (by decide) (by decide)
theorem id0_1_13 : (1, 13) ∈ idsOf 0 := ids_in (by decide) (by decide)
theorem id0_1_14 : (1, 14) ∈ idsOf 0 := ids_in (by decide) (by decide)
theorem id0_1_15 : (1, 15) ∈ idsOf 0 := ids_in (by decide) (by decide)
theorem id0_1_16 : (1, 16) ∈ idsOf 0 := ids_in (by decide) (by decide)
theorem id0_2_0 : (2, 0) ∈ idsOf 0 := ids_in (by decide) (by decide)
theorem id0_2_1 : (2, 1) ∈ idsOf 0 := ids_in (by decide) (by decide)
theorem id0_2_2 : (2, 2) ∈ idsOf 0 := ids_in (by decide) (by decide)
theorem id0_3_0 : (3, 0) ∈ idsOf 0 := ids_in (by decide) (by decide)
theorem id0_3_1 : (3, 1) ∈ idsOf 0 := ids_in (by decide) (by decide)
theorem id0_3_2 : (3, 2) ∈ idsOf 0 := ids_in (by decide) (by decide)
theorem id0_4_0 : (4, 0) ∈ idsOf 0 := ids_in (by decide) (by decide)
theorem id0_4_1 : (4, 1) ∈ idsOf 0 := ids_in (by decide) (by decide)
theorem id0_4_2 : (4, 2) ∈ idsOf 0 := ids_in (by decide) (by decide)
theorem id0_5_0 : (5, 0) ∈ idsOf 0 := ids_in (by decide) (by decide)
theorem id0_5_1 : (5, 1) ∈ idsOf 0 := ids_in (by decide) (by decide)
theorem id0_5_2 : (5, 2) ∈ idsOf 0 := ids_in (by decide) (by decide)
theorem id0_6_0 : (6, 0) ∈ idsOf 0 := ids_in (by decide) (by decide)
theorem id0_6_1 : (6, 1) ∈ idsOf 0 := ids_in (by decide) (by decide)
theorem id0_6_2 : (6, 2) ∈ idsOf 0 := ids_in (by decide) (by decide)
theorem id0_7_0 : (7, 0) ∈ idsOf 0 := ids_in (by decide) (by decide)
theorem id0_7_1 : (7, 1) ∈ idsOf 0 := ids_in (by decide) (by decide)
theorem id0_7_2 : (7, 2) ∈ idsOf 0 := ids_in (by decide) (by decide)
theorem id0_8_0 : (8, 0) ∈ idsOf 0 := ids_in (by decide) (by decide)
theorem id0_9_0 : (9, 0) ∈ idsOf 0 := ids_in (by decide) (by decide)
theorem id0_10_0 : (10, 0) ∈ idsOf 0 := ids_in (by decide) (by decide)
theorem id0_11_0 : (11, 0) ∈ idsOf 0 := ids_in (by decide) (by decide)
theorem id0_12_0 : (12, 0) ∈ idsOf 0 := ids_in (by decide) (by decide)
theorem id0_13_0 : (13, 0) ∈ idsOf 0 := ids_in (by decide) (by decide)
theorem id0_13_1 : (13, 1) ∈ idsOf 0 := ids_in (by decide) (by decide)
theorem id0_13_2 : (13, 2) ∈ idsOf 0 := ids_in (by decide) (by decide)
theorem id0_13_3 : (13, 3) ∈ idsOf 0 := ids_in (by decide) (by decide)
theorem id0_14_0 : (14, 0) ∈ idsOf 0 := ids_in (by decide) (by decide)
theorem id0_14_1 : (14, 1) ∈ idsOf 0 := ids_in (by decide) (by decide)
theorem id0_14_2 : (14, 2) ∈ idsOf 0 := ids_in (by decide) (by decide)
theorem id0_14_3 : (14, 3) ∈ idsOf 0 := ids_in (by decide) (by decide)
theorem id0_15_0 : (15, 0) ∈ idsOf 0 := ids_in (by decide) (by decide)
theorem id0_16_0 : (16, 0) ∈ idsOf 0 := ids_in (by decide) (by decide)
theorem id1_0_0 : (0, 0) ∈ idsOf 1 := ids_in (by decide) (by decide)
theorem id1_1_0 : (1, 0) ∈ idsOf 1 := ids_in (by decide) (by decide)
theorem id1_2_0 : (2, 0) ∈ idsOf 1 := ids_in (by decide) (by decide)
theorem id1_3_0 : (3, 0) ∈ idsOf 1 := ids_in (by decide) (by decide)
theorem id1_4_0 : (4, 0) ∈ idsOf 1 := ids_in (by decide) (by decide)
theorem id1_5_0 : (5, 0) ∈ idsOf 1 := ids_in (by decide) (by decide)
theorem id1_6_0 : (6, 0) ∈ idsOf 1 := ids_in (by decide) (by decide)
theorem id1_7_0 : (7, 0) ∈ idsOf 1 := ids_in (by decide) (by decide)
theorem id1_8_0 : (8, 0) ∈ idsOf 1 := ids_in (by decide) (by decide)
theorem id1_9_0 : (9, 0) ∈ idsOf 1 := ids_in (by decide) (by decide)
theorem id1_10_0 : (10, 0) ∈ idsOf 1 := ids_in (by decide) (by decide)
theorem id1_11_0 : (11, 0) ∈ idsOf 1 := ids_in (by decide) (by decide)
theorem id1_12_0 : (12, 0) ∈ idsOf 1 := ids_in (by decide) (by decide)
set_option maxRecDepth 20000 in
theorem inGX0 : ∀ w ∈ wsX00, w ∈ wsG := by decide +kernel
set_option maxRecDepth 20000 in
theorem inGX1 : ∀ w ∈ wsX10, w ∈ wsG := by decide +kernel
set_option maxRecDepth 20000 in
theorem inGX2 : ∀ w ∈ wsX20, w ∈ wsG := by decide +kernel
set_option maxRecDepth 20000 in
theorem inGX3 : ∀ w ∈ wsX30, w ∈ wsG := by decide +kernel
set_option maxRecDepth 20000 in
theorem inGX4 : ∀ w ∈ wsX40, w ∈ wsG := by decide +kernel
set_option maxRecDepth 20000 in
theorem inGX5 : ∀ w ∈ wsX50, w ∈ wsG := by decide +kernel
set_option maxRecDepth 20000 in
theorem inGX6 : ∀ w ∈ wsX60, w ∈ wsG := by decide +kernel
set_option maxRecDepth 20000 in
theorem inGX7 : ∀ w ∈ wsX70, w ∈ wsG := by decide +kernel
