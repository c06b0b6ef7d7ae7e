/-! PURE: the class fills a row: the induction -/
def IHF (B : Nat → Int32) (ov : Int32) (w : Nat → Int32) (h : Int32) (k n E : Nat) (P : Option (Nat × Nat)) (d x : Nat) : Prop := ∀ (s : Nat) (U : Int32) (e F : Nat) (v : Nat → Int32) (T W : Int32) (σ : Mm) (K : Mm → Prop), s + d = n → coF (fun j => bt U j) 8 + e = d → FS B ov w h k n E P σ → FP B ov w k n E P s F v σ → T.toInt = liZ w v n s → W.toInt = wsF w U 8 → (∀ σ', FX n s E ((lv d s U e v).filter (fil B ov w h k n P)) F σ σ' → K σ') → f_X3_fillN (d + 1 + x) (nI s) U (nI e) T W σ K
theorem liZ_bd {w v : Nat → Int32} {n s : Nat} (h1 : 1 ≤ n) (h8 : n ≤ 8) (hw : wok w) (hv : ∀ j, pv (v j)) (hs : s ≤ n) : -100000 ≤ liZ w v n s ∧ liZ w v n s ≤ 100000 := by
  have := (li_toInt h1 h8 hw (fun j _ => hv j) s hs).2
  omega
/-- one sits down -/
theorem down_X {B : Nat → Int32} {ov : Int32} {w : Nat → Int32} {h : Int32} {k n E : Nat} {P : Option (Nat × Nat)} (h1 : 1 ≤ n) (h8 : n ≤ 8) (hpp : PP B ov w h) {d x : Nat} (ih : IHF B ov w h k n E P d x) {s : Nat} {U : Int32} {e F p : Nat} {v : Nat → Int32} {T W : Int32} {σ : Mm} {K : Mm → Prop} (hs : s + (d + 1) = n) (hp : p < 8) (hb : bt U p = true) (hc : coF (fun j => bt U j) 8 + e = d + 1) (hS : FS B ov w h k n E P σ) (hF : FP B ov w k n E P s F v σ) (eT : T.toInt = liZ w v n s) (eW : W.toInt = wsF w U 8) (hpin : pinA P s (nI p) = true) (hck : ckB B ov v k s p = true) (hK : ∀ σ', FX n s E ((lv d (s + 1) (clr U p) e (upd v s (nI p))).filter (fil B ov w h k n P)) F σ σ' → K σ') : f_X3_setDown (f_X3_fillN (d + 1 + x)) (nI p) (nI s) U (nI e) T W σ K := by
  obtain ⟨f5, fE, f1, f9, fv, fc, fp⟩ := hF
  have hw : wok w := hpp.2.2.1
  unfold f_X3_setDown
  rw [nI_1, nI_clamp (by omega), nI_clamp (by omega), nI_clamp (by omega)]
  refine ⟨vp_in_nI (by omega) (by omega), _, rfl, vp_in_nI (by omega) (by omega), _, rfl, vp_in_nI (by omega) (by omega), ?_⟩
  have X0 : FX n s E [] F σ (mset (mset σ 1 16 s (nI p)) 9 0 (s + 1) (nI s)) := FX.sit f5 fE
  have S2 := hS.fx X0
  refine armX (by omega) S2.2.2.2.2.1 h1 h8 (by omega) (fun r er => ?_)
  have e4 : mset (mset σ 1 16 s (nI p)) 9 0 (s + 1) (nI s) 4 0 p = w p := by rw [S2.2.2.1]
  rw [e4]
  obtain ⟨y, y1, y2, ey⟩ := hw p hp
  have ewp : (w p).toInt = (y : Int) := by rw [ey, nI_toInt (by omega)]
  have bd := liZ_bd h1 h8 hw fv (show s ≤ n by omega)
  have ab : -7 ≤ armZ n s ∧ armZ n s ≤ 7 := by unfold armZ; omega
  have mb := mul_bd (x := (y : Int)) (a := armZ n s) (by omega) (by omega) ab.1 ab.2
  have wn := wsF_nn (w := w) (U := U) hw 8 (Nat.le_refl 8)
  have wl := wsF_le (w := w) (U := U) hw 8 (Nat.le_refl 8)
  have ec := wsF_clr (w := w) hp hb
  refine ih (s + 1) (clr U p) e F (upd v s (nI p)) _ _ _ _ (by omega) (by have := coF_clr hp hb; omega) S2 ⟨?_, fE, fun j hj => ?_, fun j hj => ?_, pv_upd fv (pv_nI hp), ck_step fc (fun q hq eq => ?_), pin_step hpin fp⟩ ?_ ?_ (fun σ' X1 => hK σ' ?_)
  · rw [mset_ne (by omega), mset_ne (by omega)]; exact f5
  · rw [mset_ne (by omega), mset_ap]
    by_cases c : j = s
    · subst c; rw [if_pos ⟨rfl, rfl, rfl⟩, upd_eq]
    · rw [if_neg (by omega), upd_ne c]; exact f1 j (by omega)
  · rw [mset_ap]
    by_cases c : j = s + 1
    · subst c; rw [if_pos ⟨rfl, rfl, rfl⟩, lastT_set hp]; rfl
    · rw [if_neg (by omega), mset_ne (by omega), lastT_up j (by omega)]; exact f9 j (by omega)
  · have : q = p := ((nI_eq (by omega) (by omega)).mp eq).symm
    rw [this]; exact hck
  · have e1 : liZ w (upd v s (nI p)) n (s + 1) = liZ w v n s + (w p).toInt * armZ n s := by
      rw [liZ, upd_eq, if_neg (nI_ne_m1 (by omega)), nI_clamp (by omega)]
      rw [liZ_pre (v' := v) s (fun j hj => upd_ne (by omega))]
      rfl
    rw [e1, ewp]
    exact add_toInt eT (mul_toInt ewp er (by omega) (by omega)) (by omega) (by omega)
  · have : W - w p = W + -(w p) := Int32.sub_eq_add_neg _ _
    rw [this]
    have en : (-(w p)).toInt = -(y : Int) := by rw [ey]; exact neg_toInt (by omega)
    rw [add_toInt eW en (by omega) (by omega)]
    omega
  · exact X0.tr (by show F + 0 < E; omega) X1 (by omega)
/-- the persons from one on, at a seat -/
theorem pers_X {B : Nat → Int32} {ov : Int32} {w : Nat → Int32} {h : Int32} {k n E : Nat} {P : Option (Nat × Nat)} (hk : k < 7) (h1 : 1 ≤ n) (h8 : n ≤ 8) (hE : E ≤ 1000000) (hpp : PP B ov w h) {d x : Nat} (ih : IHF B ov w h k n E P d x) {s : Nat} {U : Int32} {e : Nat} {v : Nat → Int32} {T W : Int32} {K : Mm → Prop} (hs : s + (d + 1) = n) (hc : coF (fun j => bt U j) 8 + e = d + 1) (eT : T.toInt = liZ w v n s) (eW : W.toInt = wsF w U 8) : ∀ (c p F : Nat) (σ : Mm), p + c = 8 → FS B ov w h k n E P σ → FP B ov w k n E P s F v σ → (∀ σ', FX n s E ((lvP (fun p => lv d (s + 1) (clr U p) e (upd v s (nI p))) U c p).filter (fil B ov w h k n P)) F σ σ' → K σ') → f_X3_fill_97 (nI s) U (nI e) T W (f_X3_fillN (d + 1 + x)) K (c + 1) (nI p) σ := by
  intro c
  induction c with
  | zero =>
    intro p F σ hp hS hF hK
    have : p = 8 := by omega
    subst this
    rw [f_X3_fill_97, if_pos (by decide)]
    exact hK σ (FX.nil hF.1 hF.2.1)
  | succ c ihc =>
    intro p F σ hp hS hF hK
    have n8' : ¬ (8 : Int32) ≤ nI p := nI_ge (a := p) (b := 8) (by omega) (by omega)
    have nE : ¬ σ 8 0 6 ≤ σ 8 0 5 := by
      rw [hS.2.2.2.2.2.2.2.1, hF.1]
      exact nI_ge hF.2.1 (by omega)
    have nx : (lvP (fun p => lv d (s + 1) (clr U p) e (upd v s (nI p))) U (c + 1) p).filter (fil B ov w h k n P) = (if bt U p = true then lv d (s + 1) (clr U p) e (upd v s (nI p)) else []).filter (fil B ov w h k n P) ++ (lvP (fun p => lv d (s + 1) (clr U p) e (upd v s (nI p))) U c (p + 1)).filter (fil B ov w h k n P) := by
      rw [lvP, List.filter_append]
    -- where this one's branch is empty
    have skip : (bt U p = true → (lv d (s + 1) (clr U p) e (upd v s (nI p))).filter (fil B ov w h k n P) = []) → f_X3_fill_97 (nI s) U (nI e) T W (f_X3_fillN (d + 1 + x)) K (c + 1) (nI p + 1) σ := by
      intro he
      rw [nI_1]
      refine ihc (p + 1) F σ (by omega) hS hF (fun σ' X => hK σ' ?_)
      rw [nx]
      by_cases g : bt U p = true
      · rw [if_pos g, he g, List.nil_append]; exact X
      · rw [if_neg g, List.filter_nil, List.nil_append]; exact X
    rw [f_X3_fill_97, if_neg n8', if_neg nE, has_ev U p (by omega)]
    by_cases g : bt U p = true
    · rw [if_pos g, if_neg (by decide)]
      refine pin_X (P := P) (by omega) hS.2.2.2.2.2.2.2.2 ?_
      cases ep : pinA P s (nI p) with
      | false =>
        refine itf (skip (fun _ => filt_nil (fun u hu => ?_)))
        unfold fil
        rw [pin_none ep (by rw [lv_pre hu s (by omega), upd_eq]), Bool.and_false]
      | true =>
        refine itt ?_
        refine leaves_X (v := v) (k := k) hk (by omega) (by omega) (by rw [hS.2.1]; exact hpp.2.1) hS.2.2.2.2.2.1 hF.2.2.2.1 hF.2.2.1 (fun j _ => hF.2.2.2.2.1 j) ?_
        rw [hS.1, hS.2.1]
        cases eck : ckB B ov v k s p with
        | false =>
          refine itf (skip (fun _ => filt_nil (fun u hu => ?_)))
          unfold fil
          rw [ck_none h8 hs (by omega) eck u hu, Bool.false_and]
        | true =>
          refine itt ?_
          refine down_X h1 h8 hpp ih hs (by omega) g hc hS hF eT eW ep eck (fun σ' X => ?_)
          rw [nx, if_pos g] at hK
          by_cases hl : F + ((lv d (s + 1) (clr U p) e (upd v s (nI p))).filter (fil B ov w h k n P)).length < E
          · rw [nI_1]
            exact ihc (p + 1) _ σ' (by omega) (hS.fx X) (hF.fx X (Nat.le_refl s) hl) (fun σ2 X2 => hK σ2 (X.tr hl X2 (Nat.le_refl s)))
          · refine stop_97 ?_ (hK σ' (X.stop hF.2.1 hl))
            rw [(hS.fx X).2.2.2.2.2.2.2.1]
            rcases X.2.2.2.2 with ⟨y, _⟩ | ⟨_, y, _⟩
            · exact absurd y hl
            · exact y.symm
    · rw [if_neg g, if_pos rfl]
      exact skip (fun g' => absurd g' g)
theorem fill_X {B : Nat → Int32} {ov : Int32} {w : Nat → Int32} {h : Int32} {k n E : Nat} {P : Option (Nat × Nat)} (hk : k < 7) (h1 : 1 ≤ n) (h8 : n ≤ 8) (hE : E ≤ 1000000) (hpp : PP B ov w h) (hPn : ∀ q, P = some q → q.2 < n) : ∀ d x, IHF B ov w h k n E P d x := by
  intro d
  have hw : wok w := hpp.2.2.1
  induction d with
  | zero =>
    intro x s U e F v T W σ K hs hc hS hF eT eW hK
    have e1 : s = n := by omega
    subst e1
    have w0 : wsF w U 8 = 0 := wsF_0 8 (by omega)
    rw [show 0 + 1 + x = x + 1 by omega, f_X3_fillN]
    unfold f_X3_fill
    have fv := hF.2.2.2.2.1
    have wn := wsF_nn (w := w) (U := U) hw 8 (Nat.le_refl 8)
    have hm := hm_of k hpp
    refine canB_X (k := k) (hd := h) hS.2.2.2.2.1 h1 h8 (Nat.le_refl s) hS.2.2.2.2.2.2.1 hm eT eW (liZ_bd h1 h8 hw fv (Nat.le_refl s)) (by rw [w0]; omega) ?_
    have pr : pvs (σ 1 16) s := fun j hj => by rw [hF.2.2.1 j hj]; exact fv j
    have lh := leaf_ho (B := B) (ov := ov) (h := h) (k := k) (v := σ 1 16) h1 h8 hw pr (fun t p ht hp et => by
      rw [ckB_congr (v' := v) (fun j hj => hF.2.2.1 j (by omega))]
      exact hF.2.2.2.2.2.1 t p ht hp (by rw [← hF.2.2.1 t ht]; exact et))
    rw [hoB_congr (v' := v) h1 (fun _ _ => rfl) (fun _ _ => rfl) pr hF.2.2.1, liZ_pre (v' := v) s hF.2.2.1] at lh
    rw [w0]
    have eL : (lv 0 s U e v).filter (fil B ov w h k s P) = if fil B ov w h k s P v = true then [v] else [] := by
      show [v].filter _ = _
      by_cases c : fil B ov w h k s P v = true
      · rw [if_pos c, List.filter_cons_of_pos c]; rfl
      · rw [if_neg c, List.filter_cons_of_neg c]; rfl
    rw [eL] at hK
    cases ec : cbB k s s h (liZ w v s s) 0 with
    | false =>
      refine itf (hK σ ?_)
      rw [ec, Bool.false_and] at lh
      rw [if_neg (by unfold fil; rw [lh, Bool.false_and]; decide)]
      exact FX.nil hF.1 hF.2.1
    | true =>
      refine itt ?_
      rw [hS.2.2.2.2.1, if_neg (nI_nlt (Nat.le_refl s) (by omega))]
      refine close_X hk hS.2.2.2.1 hS.2.2.2.2.1 h1 h8 hS.2.2.2.2.2.1 pr (by rw [hS.2.1]; exact hpp.2.1) ?_
      rw [hS.1, hS.2.1]
      rw [ec, Bool.true_and] at lh
      cases ecl : clB B ov (σ 1 16) k s with
      | false =>
        refine itf (hK σ ?_)
        rw [ecl] at lh
        rw [if_neg (by unfold fil; rw [lh, Bool.false_and]; decide)]
        exact FX.nil hF.1 hF.2.1
      | true =>
        refine itt ⟨_, rfl, hK _ ?_⟩
        rw [ecl] at lh
        have pb : pinB P v = true := by
          cases eP : P with
          | none => rfl
          | some q => exact decide_eq_true (hF.2.2.2.2.2.2 q eP (hPn q eP))
        rw [if_pos (by unfold fil; rw [lh, pb]; rfl), hF.1, nI_1]
        have fE := hF.2.1
        refine ⟨fun t i a b c => mset_ne c, fun j hj => by rw [mset_ap, if_neg (by omega)], fun j hj => by rw [mset_ne (by omega)], fun j hj => by rw [mset_ne (by omega)], ?_⟩
        rw [mset_ap, if_pos ⟨rfl, rfl, rfl⟩]
        by_cases g : F + 1 < E
        · exact Or.inl ⟨g, rfl⟩
        · refine Or.inr ⟨by show E ≤ F + 1; omega, by rw [show F + 1 = E by omega], v, ?_, fun j hj => ?_⟩
          · rw [show E - F - 1 = 0 by omega]; rfl
          · rw [mset_ne (by omega)]; exact hF.2.2.1 j hj
  | succ d ih =>
    intro x s U e F v T W σ K hs hc hS hF eT eW hK
    rw [show d + 1 + 1 + x = (d + 1 + x) + 1 by omega, f_X3_fillN]
    unfold f_X3_fill
    have fv := hF.2.2.2.2.1
    have wn := wsF_nn (w := w) (U := U) hw 8 (Nat.le_refl 8)
    have wl := wsF_le (w := w) (U := U) hw 8 (Nat.le_refl 8)
    refine canB_X (k := k) (hd := h) hS.2.2.2.2.1 h1 h8 (by omega) hS.2.2.2.2.2.2.1 (hm_of k hpp) eT eW (liZ_bd h1 h8 hw fv (by omega)) ⟨wn, by omega⟩ ?_
    cases ec : cbB k n s h (liZ w v n s) (wsF w U 8) with
    | false =>
      refine itf (hK σ ?_)
      rw [filt_nil (fun u hu => by unfold fil; rw [cb_none hw hs hc ec u hu, Bool.false_and])]
      exact FX.nil hF.1 hF.2.1
    | true =>
      refine itt ?_
      rw [hS.2.2.2.2.1, if_pos (nI_lt (by omega) (by omega))]
      unfold lv at hK
      rw [List.filter_append] at hK
      -- the persons, once nobody has been looked at
      have go : ∀ (F' : Nat) (σ' : Mm) (K' : Mm → Prop), FS B ov w h k n E P σ' → FP B ov w k n E P s F' v σ' → (∀ σ2, FX n s E ((lvP (fun p => lv d (s + 1) (clr U p) e (upd v s (nI p))) U 8 0).filter (fil B ov w h k n P)) F' σ' σ2 → K' σ2) → f_X3_fill_94 (nI s) U (nI e) T W (f_X3_fillN (d + 1 + x)) K' σ' := by
        intro F' σ' K' S' P' k'
        exact ⟨9, pers_X hk h1 h8 hE hpp (ih x) hs hc eT eW 8 0 F' σ' rfl S' P' k'⟩
      by_cases c0 : e = 0
      · rw [if_pos c0, List.filter_nil, List.nil_append] at hK
        rw [if_pos (by rw [c0]; decide)]
        exact go F σ K hS hF hK
      · rw [if_neg c0] at hK
        rw [if_neg (show ¬ nI e ≤ (0 : Int32) from nI_ge (a := 0) (b := e) (by omega) (by omega))]
        refine pin_X (P := P) (by omega) hS.2.2.2.2.2.2.2.2 ?_
        cases ep : pinA P s (-1) with
        | false =>
          refine itf (go F σ K hS hF (fun σ2 X => hK σ2 ?_))
          rw [filt_nil (fun u hu => by unfold fil; rw [pin_none ep (by rw [lv_pre hu s (by omega), upd_eq]), Bool.and_false]), List.nil_append]
          exact X
        | true =>
          refine itt ?_
          have hf := hF
          obtain ⟨f5, fE, f1, f9, -, fc, fp⟩ := hF
          rw [nI_1, nI_clamp (by omega), nI_clamp (by omega)]
          refine ⟨vp_in_nI (by omega) (by omega), _, rfl, vp_in_nI (by omega) (by omega), vp_in_nI (by omega) (by omega), _, rfl, ?_⟩
          have e9 : mset σ 1 16 s (-1) 9 0 s = ltV (lastT v s) := by rw [mset_ne (by omega)]; exact f9 s (Nat.le_refl s)
          rw [e9]
          have X0 : FX n s E [] F σ (mset (mset σ 1 16 s (-1)) 9 0 (s + 1) (ltV (lastT v s))) := FX.sit f5 fE
          have S2 := hS.fx X0
          rw [show nI e - (1 : Int32) = nI (e - 1) from pk_sub (a := e) (b := 1) (by omega)]
          refine ih x (s + 1) U (e - 1) F (upd v s (-1)) T W _ _ (by omega) (by omega) S2 ⟨?_, fE, fun j hj => ?_, fun j hj => ?_, pv_upd fv (Or.inl rfl), ck_step fc (fun q hq eq => absurd eq.symm (nI_ne_m1 (by omega))), pin_step ep fp⟩ ?_ eW (fun σ' X1 => ?_)
          · rw [mset_ne (by omega), mset_ne (by omega)]; exact f5
          · rw [mset_ne (by omega), mset_ap]
            by_cases c : j = s
            · subst c; rw [if_pos ⟨rfl, rfl, rfl⟩, upd_eq]
            · rw [if_neg (by omega), upd_ne c]; exact f1 j (by omega)
          · rw [mset_ap]
            by_cases c : j = s + 1
            · subst c; rw [if_pos ⟨rfl, rfl, rfl⟩, lastT_emp]
            · rw [if_neg (by omega), mset_ne (by omega), lastT_up j (by omega)]; exact f9 j (by omega)
          · rw [liZ, upd_eq, if_pos rfl, Int.add_zero, liZ_pre (v' := v) s (fun j hj => upd_ne (by omega))]; exact eT
          · have X := X0.tr (by show F + 0 < E; omega) X1 (by omega)
            rw [List.nil_append] at X
            by_cases hl : F + ((lv d (s + 1) U (e - 1) (upd v s (-1))).filter (fil B ov w h k n P)).length < E
            · exact go _ σ' K (hS.fx X) (hf.fx X (Nat.le_refl s) hl) (fun σ2 X2 => hK σ2 (X.tr hl X2 (Nat.le_refl s)))
            · refine ⟨1, stop_97 ?_ (hK σ' (X.stop fE hl))⟩
              rw [(hS.fx X).2.2.2.2.2.2.2.1]
              rcases X.2.2.2.2 with ⟨y, _⟩ | ⟨_, y, _⟩
              · exact absurd y hl
              · exact y.symm
