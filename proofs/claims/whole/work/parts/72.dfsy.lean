/-! PURE: the reference's search, seat by seat -/
def HH (m : Nat → Int32) (k n : Nat) (v : Nat → Int32) : Bool := hoB (fun j => m (4 + j)) (m 0) (fun p => m (68 + p)) (m 1) v k n
def QQ (m : Nat → Int32) (k n : Nat) (μ : Mm) : Prop := μ 1 0 = m ∧ μ 0 0 6 = nI k ∧ μ 0 0 7 = nI n
theorem QQ.eff {m : Nat → Int32} {k n s : Nat} {a2 : Int32} {G : List (Nat → Int32)} {A : Nat} {μ μ' : Mm} (h : QQ m k n μ) (e : Eff n s a2 G A μ μ') : QQ m k n μ' := ⟨by rw [e.1 1 0 (by omega)]; exact h.1, by rw [e.1 0 0 (by omega)]; exact h.2.1, by rw [e.1 0 0 (by omega)]; exact h.2.2⟩
theorem clr_back {U : Int32} {p : Nat} (hp : p < 32) (h : bt U p = true) : clr U p ||| ((1 : Int32) <<< (nI p &&& 31)) = U := by
  apply b_ext
  intro i hi
  rw [b_or, clr_bt U p i hp hi, bt_1 p hp i hi]
  by_cases c : i = p
  · subst c; rw [decide_eq_true (p := i = i) rfl, Bool.or_true]; exact h.symm
  · rw [decide_eq_false c, Bool.not_false, Bool.and_true, Bool.or_false]
theorem pvs_up {v : Nat → Int32} {s : Nat} {x : Int32} (h : pvs v s) (hx : pv x) : pvs (upd v s x) (s + 1) := by
  intro j hj
  by_cases c : j = s
  · subst c; rw [upd_eq]; exact hx
  · rw [upd_ne c]; exact h j (by omega)
theorem child_Y {m : Nat → Int32} {k n : Nat} {a2 : Int32} {K : Int32 → Mm → Prop} (hk : k < 7) (h1 : 1 ≤ n) (h8 : n ≤ 8) (hpp : PP (fun j => m (4 + j)) (m 0) (fun p => m (68 + p)) (m 1)) (d s : Nat) (hs : s + (d + 1) = n) (ihd : ∀ d', d = d' + 1 → ∀ (s : Nat) (U : Int32) (e A : Nat) (v : Nat → Int32) (μ : Mm), s + (d' + 1) = n → e ≤ 8 → QQ m k n μ → (∀ j, j < s → μ 5 0 j = v j) → pvs v s → μ 8 0 s = -2 → (∀ μ', Eff n s a2 ((lv (d' + 1) s U e v).filter (HH m k n)) A μ μ' → ∃ N, f_X7_seatingsOf_62 a2 K N (nI (A + ((lv (d' + 1) s U e v).filter (HH m k n)).length)) U (nI s + (-1 : Int32)) (nI e) μ') → ∃ N, f_X7_seatingsOf_62 a2 K N (nI A) U (nI s) (nI e) μ) (U : Int32) (e A : Nat) (w : Nat → Int32) (μ : Mm) (he : e ≤ 8) (hq : QQ m k n μ) (hw : ∀ j, j < s + 1 → μ 5 0 j = w j) (pw : pvs w (s + 1)) (hK : ∀ μ', Eff n (s + 1) a2 ((lv d (s + 1) U e w).filter (HH m k n)) A μ μ' → ∃ N, f_X7_seatingsOf_62 a2 K N (nI (A + ((lv d (s + 1) U e w).filter (HH m k n)).length)) U (nI s) (nI e) μ') : ∃ N, f_X7_seatingsOf_191 a2 (nI A) U (nI s) (nI e) K (f_X7_seatingsOf_62 a2 K N) μ := by
  cases d with
  | zero =>
    have hn : s + 1 = n := by omega
    have pn : pvs w n := by rw [← hn]; exact pw
    have hwn : ∀ j, j < n → μ 5 0 j = w j := fun j hj => hw j (by omega)
    have hv5 : pvs (μ 5 0) n := fun j hj => by rw [hwn j hj]; exact pn j hj
    have eH : hoB (fun j => μ 1 0 (4 + j)) (μ 1 0 0) (fun p => μ 1 0 (68 + p)) (μ 1 0 1) (μ 5 0) k n = HH m k n w := by
      rw [hq.1]
      exact hoB_congr h1 (fun _ _ => rfl) (fun _ _ => rfl) hv5 hwn
    have c1 : nI n - (1 : Int32) ≤ nI s := by
      rw [show nI n - (1 : Int32) = nI (n - 1) from pk_sub (a := n) (b := 1) h1]
      exact nI_le (by omega) (by omega)
    obtain ⟨μ2, E2, R2⟩ := leaf_Y (A := A) (a2 := a2) (a6 := U) (a7 := nI s) (a8 := nI e) (K := K) h8 hq.2.2 hwn pn
    by_cases c : HH m k n w = true
    · have eG : ([w] : List (Nat → Int32)).filter (HH m k n) = [w] := by rw [List.filter_cons_of_pos c]; rfl
      obtain ⟨N, hN⟩ := hK μ2 (by show Eff n (s + 1) a2 (([w] : List (Nat → Int32)).filter (HH m k n)) A μ μ2; rw [eG]; exact E2.weak (by omega))
      refine ⟨N, ?_⟩
      have hN : f_X7_seatingsOf_62 a2 K N (nI (A + 1)) U (nI s) (nI e) μ2 := by
        rw [show (lv 0 (s + 1) U e w).filter (HH m k n) = [w] from eG] at hN
        exact hN
      unfold f_X7_seatingsOf_191
      rw [hq.2.2, if_pos c1]
      refine holdsNow_Y (k := k) (n := n) hk hq.2.1 hq.2.2 h1 h8 hv5 (by rw [hq.1]; exact hpp) ?_
      rw [eH, if_pos c]
      refine R2 _ ?_
      rw [nI_1]
      exact hN
    · have eG : ([w] : List (Nat → Int32)).filter (HH m k n) = [] := by rw [List.filter_cons_of_neg c]; rfl
      obtain ⟨N, hN⟩ := hK μ (by show Eff n (s + 1) a2 (([w] : List (Nat → Int32)).filter (HH m k n)) A μ μ; rw [eG]; exact Eff.nil)
      refine ⟨N, ?_⟩
      rw [show (lv 0 (s + 1) U e w).filter (HH m k n) = [] from eG] at hN
      unfold f_X7_seatingsOf_191
      rw [hq.2.2, if_pos c1]
      refine holdsNow_Y (k := k) (n := n) hk hq.2.1 hq.2.2 h1 h8 hv5 (by rw [hq.1]; exact hpp) ?_
      rw [eH, if_neg c]
      exact hN
  | succ d =>
    have c1 : ¬ nI n - (1 : Int32) ≤ nI s := by
      rw [show nI n - (1 : Int32) = nI (n - 1) from pk_sub (a := n) (b := 1) h1]
      exact nI_ge (by omega) (by omega)
    have E0 : Eff n (s + 1) a2 [] A μ (mset μ 8 0 (s + 1) (-2)) := Eff.set (Or.inr rfl) (Nat.le_refl _)
    obtain ⟨N, hN⟩ := ihd d rfl (s + 1) U e A w (mset μ 8 0 (s + 1) (-2)) (by omega) he (hq.eff E0) (fun j hj => by rw [mset_ne (by omega)]; exact hw j hj) pw (by rw [mset_ap, if_pos ⟨rfl, rfl, rfl⟩]) (fun μ' hE => by
      rw [nI_m1]
      exact hK μ' (E0.tr hE (Nat.le_refl _)))
    refine ⟨N, ?_⟩
    unfold f_X7_seatingsOf_191
    rw [hq.2.2, if_neg c1, nI_1, nI_clamp (by omega)]
    exact ⟨vp_in_nI (by omega) (by omega), _, rfl, hN⟩
/-- the persons from one on, at a seat -/
theorem pers_Y {m : Nat → Int32} {k n : Nat} {a2 : Int32} {K : Int32 → Mm → Prop} (hk : k < 7) (h1 : 1 ≤ n) (h8 : n ≤ 8) (hpp : PP (fun j => m (4 + j)) (m 0) (fun p => m (68 + p)) (m 1)) (d s : Nat) (hs : s + (d + 1) = n) (ihd : ∀ d', d = d' + 1 → ∀ (s : Nat) (U : Int32) (e A : Nat) (v : Nat → Int32) (μ : Mm), s + (d' + 1) = n → e ≤ 8 → QQ m k n μ → (∀ j, j < s → μ 5 0 j = v j) → pvs v s → μ 8 0 s = -2 → (∀ μ', Eff n s a2 ((lv (d' + 1) s U e v).filter (HH m k n)) A μ μ' → ∃ N, f_X7_seatingsOf_62 a2 K N (nI (A + ((lv (d' + 1) s U e v).filter (HH m k n)).length)) U (nI s + (-1 : Int32)) (nI e) μ') → ∃ N, f_X7_seatingsOf_62 a2 K N (nI A) U (nI s) (nI e) μ) (U : Int32) (e : Nat) (v : Nat → Int32) (he : e ≤ 8) (pw : pvs v s) : ∀ (c p A : Nat) (μ : Mm), p + c = 8 → QQ m k n μ → (∀ j, j < s → μ 5 0 j = v j) → (∀ μ', Eff n s a2 ((lvP (fun p => lv d (s + 1) (clr U p) e (upd v s (nI p))) U c p).filter (HH m k n)) A μ μ' → ∃ N, f_X7_seatingsOf_62 a2 K N (nI (A + ((lvP (fun p => lv d (s + 1) (clr U p) e (upd v s (nI p))) U c p).filter (HH m k n)).length)) U (nI s + (-1 : Int32)) (nI e) μ') → ∃ N, ∃ M, f_X7_seatingsOf_103 a2 (nI A) U (nI s) (nI e) K (fun a10x10 σ10 => (f_X7_seatingsOf_140 a2 (nI A) U (nI s) (nI e) a10x10 K (f_X7_seatingsOf_62 a2 K N) σ10)) M (nI p) μ := by
  intro c
  induction c with
  | zero =>
    intro p A μ hp hq hw hK
    have : p = 8 := by omega
    subst this
    obtain ⟨N, hN⟩ := hK μ Eff.nil
    refine ⟨N, 1, ?_⟩
    rw [f_X7_seatingsOf_103, if_pos (by decide)]
    unfold f_X7_seatingsOf_140
    rw [if_pos (by decide)]
    exact hN
  | succ c ih =>
    intro p A μ hp hq hw hK
    have n8' : ¬ (8 : Int32) ≤ nI p := nI_ge (a := p) (b := 8) (by omega) (by omega)
    have nm : ¬ nI p = (-1 : Int32) := nI_ne_m1 (by omega)
    unfold lvP at hK
    by_cases g : bt U p = true
    · rw [if_pos g, List.filter_append] at hK
      have ts : vp_in (nI s) 8 := vp_in_nI (by omega) (by omega)
      -- the memory after this one sits down
      obtain ⟨μ2, e2⟩ : ∃ μ2, μ2 = mset (mset μ 8 0 s (nI p)) 5 0 s (nI p) := ⟨_, rfl⟩
      have E0 : Eff n s a2 [] A μ μ2 := by
        have x1 : Eff n s a2 [] A μ (mset μ 8 0 s (nI p)) := Eff.set (Or.inr rfl) (Nat.le_refl _)
        have x2 : Eff n s a2 [] A (mset μ 8 0 s (nI p)) μ2 := by rw [e2]; exact Eff.set (Or.inl rfl) (Nat.le_refl _)
        exact x1.tr x2 (Nat.le_refl _)
      have p2 : μ2 8 0 s = nI p := by rw [e2, mset_ne (by omega), mset_ap, if_pos ⟨rfl, rfl, rfl⟩]
      obtain ⟨N, hN⟩ := child_Y hk h1 h8 hpp d s hs ihd (clr U p) e A (upd v s (nI p)) μ2 he (hq.eff E0) (fun j hj => by
          by_cases cj : j = s
          · subst cj; rw [e2, mset_ap, if_pos ⟨rfl, rfl, rfl⟩, upd_eq]
          · rw [upd_ne cj, (E0.2.1 j (by omega)).1]; exact hw j (by omega)) (pvs_up pw (pv_nI (by omega))) (fun μ3 E3 => by
        have q3 := (hq.eff E0).eff E3
        have E03 := E0.tr E3 (by omega)
        have p3 : μ3 8 0 s = nI p := (E3.2.1 s (by omega)).2.trans p2
        obtain ⟨N', M', hM⟩ := ih (p + 1) (A + ((lv d (s + 1) (clr U p) e (upd v s (nI p))).filter (HH m k n)).length) μ3 (by omega) q3 (fun j hj => by rw [(E03.2.1 j hj).1]; exact hw j hj) (fun μ4 E4 => by
          obtain ⟨N4, h4⟩ := hK μ4 (E03.tr E4 (Nat.le_refl _))
          refine ⟨N4, ?_⟩
          rw [List.length_append, ← Nat.add_assoc] at h4
          exact h4)
        refine ⟨N' + 1, ?_⟩
        rw [f_X7_seatingsOf_62, if_neg (nI_pos (by omega)), nI_clamp (by omega), p3, if_neg (nI_pos (by omega)), clr_back (by omega) g]
        refine ⟨ts, ?_⟩
        unfold f_X7_seatingsOf_88
        rw [if_neg nm]
        unfold f_X7_seatingsOf_97
        rw [nI_1]
        exact ⟨M', hM⟩)
      refine ⟨N, 1, ?_⟩
      rw [f_X7_seatingsOf_103, if_neg n8', if_neg nm]
      refine has_Y (by omega) ?_
      rw [g]
      refine itt ?_
      unfold f_X7_seatingsOf_140
      rw [if_neg (fun x => n8' (by rw [x]; exact Int32.le_refl 8)), nI_clamp (by omega)]
      refine ⟨ts, _, rfl, ts, _, rfl, ?_⟩
      rw [if_neg (nI_pos (by omega)), ← e2]
      exact hN
    · rw [if_neg g, List.nil_append] at hK
      obtain ⟨N, M, hM⟩ := ih (p + 1) A μ (by omega) hq hw hK
      refine ⟨N, M + 1, ?_⟩
      rw [f_X7_seatingsOf_103, if_neg n8', if_neg nm]
      refine has_Y (by omega) ?_
      rw [ts_nt g, nI_1]
      exact itf hM
theorem dfs_Y {m : Nat → Int32} {k n : Nat} {a2 : Int32} {K : Int32 → Mm → Prop} (hk : k < 7) (h1 : 1 ≤ n) (h8 : n ≤ 8) (hpp : PP (fun j => m (4 + j)) (m 0) (fun p => m (68 + p)) (m 1)) : ∀ (d s : Nat) (U : Int32) (e A : Nat) (v : Nat → Int32) (μ : Mm), s + (d + 1) = n → e ≤ 8 → QQ m k n μ → (∀ j, j < s → μ 5 0 j = v j) → pvs v s → μ 8 0 s = -2 → (∀ μ', Eff n s a2 ((lv (d + 1) s U e v).filter (HH m k n)) A μ μ' → ∃ N, f_X7_seatingsOf_62 a2 K N (nI (A + ((lv (d + 1) s U e v).filter (HH m k n)).length)) U (nI s + (-1 : Int32)) (nI e) μ') → ∃ N, f_X7_seatingsOf_62 a2 K N (nI A) U (nI s) (nI e) μ := by
  intro d
  induction d using Nat.strongRecOn with
  | _ d ihd =>
    intro s U e A v μ hs he hq hw pw p8 hK
    have ihd' : ∀ d', d = d' + 1 → ∀ (s : Nat) (U : Int32) (e A : Nat) (v : Nat → Int32) (μ : Mm), s + (d' + 1) = n → e ≤ 8 → QQ m k n μ → (∀ j, j < s → μ 5 0 j = v j) → pvs v s → μ 8 0 s = -2 → (∀ μ', Eff n s a2 ((lv (d' + 1) s U e v).filter (HH m k n)) A μ μ' → ∃ N, f_X7_seatingsOf_62 a2 K N (nI (A + ((lv (d' + 1) s U e v).filter (HH m k n)).length)) U (nI s + (-1 : Int32)) (nI e) μ') → ∃ N, f_X7_seatingsOf_62 a2 K N (nI A) U (nI s) (nI e) μ := fun d' hd' => ihd d' (by omega)
    have ts : vp_in (nI s) 8 := vp_in_nI (by omega) (by omega)
    have lt2 : (-2 : Int32) < 0 := by decide
    have ne2 : ¬ (-2 : Int32) = -1 := by decide
    have lt1 : (-1 : Int32) < 0 := by decide
    have n18 : ¬ (8 : Int32) ≤ -1 := by decide
    have n81 : ¬ (-1 : Int32) = 8 := by decide
    have z0 : (-1 : Int32) + 1 = nI 0 := by decide
    have z1 : (-2 : Int32) + 1 = -1 := by decide
    -- the loop at this seat, once the first look is done
    have enter : ∀ N, (∃ M, f_X7_seatingsOf_103 a2 (nI A) U (nI s) (nI e) K (fun a10x10 σ10 => (f_X7_seatingsOf_140 a2 (nI A) U (nI s) (nI e) a10x10 K (f_X7_seatingsOf_62 a2 K N) σ10)) M (-1) μ) → f_X7_seatingsOf_62 a2 K (N + 1) (nI A) U (nI s) (nI e) μ := by
      intro N hM
      rw [f_X7_seatingsOf_62, if_neg (nI_pos (by omega)), nI_clamp (by omega), p8, if_pos lt2]
      refine ⟨ts, ?_⟩
      unfold f_X7_seatingsOf_88
      rw [if_neg ne2]
      unfold f_X7_seatingsOf_97
      rw [z1]
      exact hM
    unfold lv at hK
    by_cases c : e = 0
    · subst c
      rw [if_pos rfl, List.nil_append] at hK
      obtain ⟨N, M, hM⟩ := pers_Y hk h1 h8 hpp d s hs ihd' U 0 v he pw 8 0 A μ rfl hq hw hK
      refine ⟨N + 1, enter N ⟨M + 1, ?_⟩⟩
      rw [f_X7_seatingsOf_103, if_neg n18, if_pos rfl, if_pos (show nI 0 = 0 from rfl), z0]
      exact hM
    · rw [if_neg c, List.filter_append] at hK
      obtain ⟨μ2, e2⟩ : ∃ μ2, μ2 = mset (mset μ 8 0 s (-1)) 5 0 s (-1) := ⟨_, rfl⟩
      have E0 : Eff n s a2 [] A μ μ2 := by
        have x1 : Eff n s a2 [] A μ (mset μ 8 0 s (-1)) := Eff.set (Or.inr rfl) (Nat.le_refl _)
        have x2 : Eff n s a2 [] A (mset μ 8 0 s (-1)) μ2 := by rw [e2]; exact Eff.set (Or.inl rfl) (Nat.le_refl _)
        exact x1.tr x2 (Nat.le_refl _)
      have p2 : μ2 8 0 s = -1 := by rw [e2, mset_ne (by omega), mset_ap, if_pos ⟨rfl, rfl, rfl⟩]
      have em : nI e + (-1 : Int32) = nI (e - 1) := by
        obtain ⟨e', rfl⟩ : ∃ e', e = e' + 1 := ⟨e - 1, by omega⟩
        exact nI_m1 e'
      have ep : nI (e - 1) + (1 : Int32) = nI e := by rw [nI_1]; congr 1; omega
      obtain ⟨N, hN⟩ := child_Y hk h1 h8 hpp d s hs ihd' U (e - 1) A (upd v s (-1)) μ2 (by omega) (hq.eff E0) (fun j hj => by
          by_cases cj : j = s
          · subst cj; rw [e2, mset_ap, if_pos ⟨rfl, rfl, rfl⟩, upd_eq]
          · rw [upd_ne cj, (E0.2.1 j (by omega)).1]; exact hw j (by omega)) (pvs_up pw (Or.inl rfl)) (fun μ3 E3 => by
        have q3 := (hq.eff E0).eff E3
        have E03 := E0.tr E3 (by omega)
        have p3 : μ3 8 0 s = -1 := (E3.2.1 s (by omega)).2.trans p2
        obtain ⟨N', M', hM⟩ := pers_Y hk h1 h8 hpp d s hs ihd' U e v he pw 8 0 (A + ((lv d (s + 1) U (e - 1) (upd v s (-1))).filter (HH m k n)).length) μ3 rfl q3 (fun j hj => by rw [(E03.2.1 j hj).1]; exact hw j hj) (fun μ4 E4 => by
          obtain ⟨N4, h4⟩ := hK μ4 (E03.tr E4 (Nat.le_refl _))
          refine ⟨N4, ?_⟩
          rw [List.length_append, ← Nat.add_assoc] at h4
          exact h4)
        refine ⟨N' + 1, ?_⟩
        rw [f_X7_seatingsOf_62, if_neg (nI_pos (by omega)), nI_clamp (by omega), p3, if_pos lt1]
        refine ⟨ts, ?_⟩
        unfold f_X7_seatingsOf_88
        rw [if_pos rfl, ep]
        unfold f_X7_seatingsOf_97
        rw [z0]
        exact ⟨M', hM⟩)
      refine ⟨N + 1, enter N ⟨1, ?_⟩⟩
      rw [f_X7_seatingsOf_103, if_neg n18, if_pos rfl, if_neg (fun x => c ((lit_eq e 0 (by omega) (by omega)).mp x))]
      unfold f_X7_seatingsOf_140
      rw [if_neg n81, nI_clamp (by omega)]
      refine ⟨ts, _, rfl, ts, _, rfl, ?_⟩
      rw [if_pos lt1, em, ← e2]
      exact hN
