/-! PURE: the reference's search, seat by seat -/
def HH (m : Nat → Int32) (k n : Nat) (v : Nat → Int32) : Bool := hoB (fun j => m (4 + j)) (m 0) (fun p => m (68 + p)) (m 1) v k n
def QQ (m : Nat → Int32) (k n : Nat) (μ : Mm) : Prop := μ 1 0 = m ∧ μ 0 0 6 = nI k ∧ μ 0 0 7 = nI n
theorem QQ.eff {m : Nat → Int32} {k n s : Nat} {a2 : Int32} {G : List (Nat → Int32)} {A : Nat} {μ μ' : Mm} (h : QQ m k n μ) (e : Eff n s a2 G A μ μ') : QQ m k n μ' := ⟨by rw [e.1 1 0 (by omega)]; exact h.1, by rw [e.1 0 0 (by omega)]; exact h.2.1, by rw [e.1 0 0 (by omega)]; exact h.2.2⟩
theorem clr_back {U : Int32} {p : Nat} (hp : p < 32) (h : bt U p = true) : clr U p ||| ((1 : Int32) <<< (nI p &&& 31)) = U := by
  apply b_ext
  intro i hi
  rw [b_or, clr_bt U p i hp hi, bt_1 p hp i hi]
  by_cases c : i = p
  · subst c; rw [decide_eq_true (p := i = i) rfl, Bool.or_true]; exact h.symm
  · rw [decide_eq_false c, Bool.not_false, Bool.and_true, Bool.or_false]
theorem pvs_up {v : Nat → Int32} {s : Nat} {x : Int32} (h : pvs v s) (hx : pv x) : pvs (upd v s x) (s + 1) := by
  intro j hj
  by_cases c : j = s
  · subst c; rw [upd_eq]; exact hx
  · rw [upd_ne c]; exact h j (by omega)
theorem child_Y {m : Nat → Int32} {k n : Nat} {a2 : Int32} {K : Int32 → Mm → Prop} (hk : k < 7) (h1 : 1 ≤ n) (h8 : n ≤ 8) (hpp : PP (fun j => m (4 + j)) (m 0) (fun p => m (68 + p)) (m 1)) (d s : Nat) (hs : s + (d + 1) = n) (ihd : ∀ d', d = d' + 1 → ∀ (s : Nat) (U : Int32) (e A : Nat) (v : Nat → Int32) (μ : Mm), s + (d' + 1) = n → e ≤ 8 → QQ m k n μ → (∀ j, j < s → μ 5 0 j = v j) → pvs v s → μ 8 0 s = -2 → (∀ μ', Eff n s a2 ((lv (d' + 1) s U e v).filter (HH m k n)) A μ μ' → ∃ N, f_X7_seatingsOf_62 a2 K N (nI (A + ((lv (d' + 1) s U e v).filter (HH m k n)).length)) U (nI s + (-1 : Int32)) (nI e) μ') → ∃ N, f_X7_seatingsOf_62 a2 K N (nI A) U (nI s) (nI e) μ) (U : Int32) (e A : Nat) (w : Nat → Int32) (μ : Mm) (he : e ≤ 8) (hq : QQ m k n μ) (hw : ∀ j, j < s + 1 → μ 5 0 j = w j) (pw : pvs w (s + 1)) (hK : ∀ μ', Eff n (s + 1) a2 ((lv d (s + 1) U e w).filter (HH m k n)) A μ μ' → ∃ N, f_X7_seatingsOf_62 a2 K N (nI (A + ((lv d (s + 1) U e w).filter (HH m k n)).length)) U (nI s) (nI e) μ') : ∃ N, f_X7_seatingsOf_191 a2 (nI A) U (nI s) (nI e) K (f_X7_seatingsOf_62 a2 K N) μ := by
  cases d with
  | zero =>
    have hn : s + 1 = n := by omega
    have pn : pvs w n := by rw [← hn]; exact pw
    have hwn : ∀ j, j < n → μ 5 0 j = w j := fun j hj => hw j (by omega)
    have hv5 : pvs (μ 5 0) n := fun j hj => by rw [hwn j hj]; exact pn j hj
    have eH : hoB (fun j => μ 1 0 (4 + j)) (μ 1 0 0) (fun p => μ 1 0 (68 + p)) (μ 1 0 1) (μ 5 0) k n = HH m k n w := by
      rw [hq.1]
      exact hoB_congr h1 (fun _ _ => rfl) (fun _ _ => rfl) hv5 hwn
    have c1 : nI n - (1 : Int32) ≤ nI s := by
      rw [show nI n - (1 : Int32) = nI (n - 1) from pk_sub (a := n) (b := 1) h1]
      exact nI_le (by omega) (by omega)
    obtain ⟨μ2, E2, R2⟩ := leaf_Y (A := A) (a2 := a2) (a6 := U) (a7 := nI s) (a8 := nI e) (K := K) h8 hq.2.2 hwn pn
    by_cases c : HH m k n w = true
    · have eG : ([w] : List (Nat → Int32)).filter (HH m k n) = [w] := by rw [List.filter_cons_of_pos c]; rfl
      obtain ⟨N, hN⟩ := hK μ2 (by show Eff n (s + 1) a2 (([w] : List (Nat → Int32)).filter (HH m k n)) A μ μ2; rw [eG]; exact E2.weak (by omega))
      refine ⟨N, ?_⟩
      have hN : f_X7_seatingsOf_62 a2 K N (nI (A + 1)) U (nI s) (nI e) μ2 := by
        rw [show (lv 0 (s + 1) U e w).filter (HH m k n) = [w] from eG] at hN
        exact hN
      unfold f_X7_seatingsOf_191
      rw [hq.2.2, if_pos c1]
      refine holdsNow_Y (k := k) (n := n) hk hq.2.1 hq.2.2 h1 h8 hv5 (by rw [hq.1]; exact hpp) ?_
      rw [eH, if_pos c]
      refine R2 _ ?_
      rw [nI_1]
      exact hN
    · have eG : ([w] : List (Nat → Int32)).filter (HH m k n) = [] := by rw [List.filter_cons_of_neg c]; rfl
      obtain ⟨N, hN⟩ := hK μ (by show Eff n (s + 1) a2 (([w] : List (Nat → Int32)).filter (HH m k n)) A μ μ; rw [eG]; exact Eff.nil)
      refine ⟨N, ?_⟩
      rw [show (lv 0 (s + 1) U e w).filter (HH m k n) = [] from eG] at hN
      unfold f_X7_seatingsOf_191
      rw [hq.2.2, if_pos c1]
      refine holdsNow_Y (k := k) (n := n) hk hq.2.1 hq.2.2 h1 h8 hv5 (by rw [hq.1]; exact hpp) ?_
      rw [eH, if_neg c]
      exact hN
  | succ d =>
    have c1 : ¬ nI n - (1 : Int32) ≤ nI s := by
      rw [show nI n - (1 : Int32) = nI (n - 1) from pk_sub (a := n) (b := 1) h1]
      exact nI_ge (by omega) (by omega)
    have E0 : Eff n (s + 1) a2 [] A μ (mset μ 8 0 (s + 1) (-2)) := Eff.set (Or.inr rfl) (Nat.le_refl _)
    obtain ⟨N, hN⟩ := ihd d rfl (s + 1) U e A w (mset μ 8 0 (s + 1) (-2)) (by omega) he (hq.eff E0) (fun j hj => by rw [mset_ne (by omega)]; exact hw j hj) pw (by rw [mset_ap, if_pos ⟨rfl, rfl, rfl⟩]) (fun μ' hE => by
      rw [nI_m1]
      exact hK μ' (E0.tr hE (Nat.le_refl _)))
    refine ⟨N, ?_⟩
    unfold f_X7_seatingsOf_191
    rw [hq.2.2, if_neg c1, nI_1, nI_clamp (by omega)]
    exact ⟨vp_in_nI (by omega) (by omega), _, rfl, hN⟩
