/-! PURE: the class's look while it sets one down -/
theorem fw_all {B : Nat → Int32} {ov : Int32} {v : Nat → Int32} {k n : Nat} (h8 : n ≤ 8) : ∀ d s, s + d ≤ n → (fwF B ov v k n d s = -1 ↔ ∀ t, s ≤ t → t < s + d → wrS B ov v k n t = false) := by
  intro d
  induction d with
  | zero => intro s _; exact ⟨fun _ t h1 h2 => by omega, fun _ => rfl⟩
  | succ d ih =>
    intro s hs
    unfold fwF
    by_cases c : wrS B ov v k n s = true
    · rw [if_pos c]
      exact ⟨fun e => absurd e (nI_ne_m1 (by omega)), fun h => by rw [h s (by omega) (by omega)] at c; exact absurd c (by decide)⟩
    · rw [if_neg c, ih (s + 1) (by omega)]
      constructor
      · intro h t h1 h2
        by_cases e : t = s
        · subst e; exact ts_nt c
        · exact h t (by omega) (by omega)
      · intro h t h1 h2
        exact h t (by omega) (by omega)
/-- the neighbour on the left, where one sits there -/
theorem nb_leftS {v : Nat → Int32} {n t l : Nat} {rnd : Bool} (hl : l < t) (hv : ¬ v l = -1) (he : ∀ j, l < j → j < t → v j = -1) : ∀ r a, l < a → a ≤ t → nbI v n t rnd true r a = if a - l ≤ r then v l else -1 := by
  intro r
  induction r with
  | zero => intro a h1 h2; rw [if_neg (by omega)]; rfl
  | succ r ih =>
    intro a h1 h2
    obtain ⟨a, rfl⟩ : ∃ a', a = a' + 1 := ⟨a - 1, by omega⟩
    unfold nbI
    have es : stp rnd n (a + 1) true = some a := by unfold stp; simp
    rw [es]
    dsimp only
    rw [if_neg (by omega)]
    by_cases c : a = l
    · rw [c, if_neg hv, if_pos (by omega)]
    · rw [if_pos (he a (by omega) (by omega)), ih a (by omega) (by omega)]
      by_cases g : a - l ≤ r
      · rw [if_pos g, if_pos (by omega)]
      · rw [if_neg g, if_neg (by omega)]
def ckB (B : Nat → Int32) (ov : Int32) (v : Nat → Int32) (k s p : Nat) : Bool := match lastT v s with
  | none => true
  | some t => if s - t ≤ reaK k then (match lastT v t with
      | none => true
      | some l => if reaK k < t - l then true else !(frV B ov (v l) (nI p))) else true
theorem leaves_X {σ : Mm} {v : Nat → Int32} {k s p : Nat} {K : Bool → Mm → Prop} (hk : k < 7) (hs : s ≤ 8) (hp : p < 8) (hb : bz (σ 2 0 2)) (e3 : σ 8 0 3 = nI (reaK k)) (hta : ∀ j, j ≤ s → σ 9 0 j = ltV (lastT v j)) (hr : ∀ j, j < s → σ 1 16 j = v j) (hv : pvs v s) (h : K (ckB (σ 3 0) (σ 2 0 2) v k s p) σ) : f_X3_leavesNobodyBetween (nI s) (nI p) σ K := by
  have rk := reaK_le k hk
  unfold f_X3_leavesNobodyBetween
  rw [nI_clamp (by omega), hta s (Nat.le_refl s), e3]
  refine ⟨vp_in_nI (by omega) (by omega), ?_⟩
  unfold ckB at h
  cases e : lastT v s with
  | none =>
    rw [e] at h
    rw [if_pos (show ltV none = -1 from rfl)]; exact h
  | some t =>
    rw [e] at h
    dsimp only at h
    obtain ⟨t1, t2, t3⟩ := lastT_some s t e
    show if nI t = -1 then _ else if nI s - nI t ≤ nI (reaK k) then (vp_in (nI t) 9 ∧ if σ 9 0 (nI t).toNatClampNeg = -1 then K true σ else if nI (reaK k) < nI t - σ 9 0 (nI t).toNatClampNeg then K true σ else (vp_in (σ 9 0 (nI t).toNatClampNeg) 8 ∧ f_X1_areFriends 0 (σ 1 16 (σ 9 0 (nI t).toNatClampNeg).toNatClampNeg) (nI p) σ (fun b5 σ4 => if b5 = true then K false σ4 else K true σ4))) else K true σ
    rw [if_neg (nI_ne_m1 (by omega)), show nI s - nI t = nI (s - t) from pk_sub (by omega), nI_clamp (n := t) (by omega), hta t (by omega)]
    by_cases c : s - t ≤ reaK k
    · rw [if_pos c] at h
      rw [if_pos (nI_le c (by omega))]
      refine ⟨vp_in_nI (by omega) (by omega), ?_⟩
      cases e' : lastT v t with
      | none =>
        rw [e'] at h
        rw [if_pos (show ltV none = -1 from rfl)]; exact h
      | some l =>
        rw [e'] at h
        dsimp only at h
        obtain ⟨l1, l2, l3⟩ := lastT_some t l e'
        show if nI l = -1 then K true σ else if nI (reaK k) < nI t - nI l then K true σ else (vp_in (nI l) 8 ∧ f_X1_areFriends 0 (σ 1 16 (nI l).toNatClampNeg) (nI p) σ (fun b5 σ4 => if b5 = true then K false σ4 else K true σ4))
        rw [if_neg (nI_ne_m1 (by omega)), show nI t - nI l = nI (t - l) from pk_sub (by omega), nI_clamp (n := l) (by omega), hr l (by omega)]
        by_cases c2 : reaK k < t - l
        · rw [if_pos c2] at h
          rw [if_pos (nI_lt c2 (by omega))]; exact h
        · rw [if_neg c2] at h
          rw [if_neg (nI_nlt (by omega) (by omega))]
          refine ⟨vp_in_nI (by omega) (by omega), fr_X (by omega) (hv l (by omega)) (pv_nI hp) hb ?_⟩
          cases ef : frV (σ 3 0) (σ 2 0 2) (v l) (nI p) with
          | true => rw [ef] at h; exact itt h
          | false => rw [ef] at h; exact itf h
    · rw [if_neg c] at h
      rw [if_neg (nI_ge (by omega) (by omega))]; exact h
/-- what the look refuses is wrong in every row below -/
theorem ck_bad {B : Nat → Int32} {ov : Int32} {v u : Nat → Int32} {k n s p : Nat} (h8 : n ≤ 8) (hs : s < n) (hp : p < 8) (hu : ∀ j, j < s → u j = v j) (us : u s = nI p) (h : ckB B ov v k s p = false) : ¬ fwF B ov u k n n 0 = -1 := by
  unfold ckB at h
  cases e : lastT v s with
  | none => rw [e] at h; exact Bool.noConfusion (show true = false from h)
  | some t =>
    rw [e] at h
    dsimp only at h
    obtain ⟨t1, t2, t3⟩ := lastT_some s t e
    by_cases c : s - t ≤ reaK k
    · rw [if_pos c] at h
      cases e' : lastT v t with
      | none => rw [e'] at h; exact Bool.noConfusion (show true = false from h)
      | some l =>
        rw [e'] at h
        dsimp only at h
        obtain ⟨l1, l2, l3⟩ := lastT_some t l e'
        by_cases c2 : reaK k < t - l
        · rw [if_pos c2] at h; exact absurd h (by decide)
        · rw [if_neg c2] at h
          intro hf
          have w := (fw_all h8 n 0 (by omega)).mp hf t (by omega) (by omega)
          have ul : u l = v l := hu l (by omega)
          have ut : u t = v t := hu t (by omega)
          have left : nbK u k n t true = v l := by
            unfold nbK
            rw [nb_leftS l1 (by rw [ul]; exact l2) (fun j h1 h2 => by rw [hu j (by omega)]; exact l3 j h1 h2) (reaK k) t l1 (Nat.le_refl t), if_pos (by omega), ul]
          have right : nbK u k n t false = nI p := by
            unfold nbK
            rw [nb_right hs t1 (by rw [us]; exact nI_ne_m1 (by omega)) (fun j h1 h2 => by rw [hu j h2]; exact t3 j h1 h2) (reaK k) t (Nat.le_refl t) t1, if_pos c, us]
          unfold wrS at w
          rw [left, right, ut, decide_eq_false t2, Bool.not_false, Bool.true_and] at w
          rw [w] at h
          exact absurd h (by decide)
    · rw [if_neg c] at h; exact absurd h (by decide)
/-- a row that the look never refused, and that is not wrong where the look goes round, is not wrong -/
theorem ck_good {B : Nat → Int32} {ov : Int32} {u : Nat → Int32} {k n : Nat} (h1 : 1 ≤ n) (h8 : n ≤ 8) (hv : pvs u n) (hc : ∀ s p, s < n → p < 8 → u s = nI p → ckB B ov u k s p = true) (hr : rndK k = true → ∀ t, t < n → (t < reaK k ∨ n ≤ t + reaK k) → wrS B ov u k n t = false) : fwF B ov u k n n 0 = -1 := by
  refine (fw_all h8 n 0 (by omega)).mpr (fun t _ ht => ?_)
  by_cases ce : rndK k = true ∧ (t < reaK k ∨ n ≤ t + reaK k)
  · exact hr ce.1 t (by omega) ce.2
  · have nl : rndK k = false ∨ reaK k ≤ t := by
      cases er : rndK k with
      | false => exact Or.inl rfl
      | true => exact Or.inr (by have : ¬ (t < reaK k ∨ n ≤ t + reaK k) := fun g => ce ⟨er, g⟩; omega)
    have nr : rndK k = false ∨ t + reaK k < n := by
      cases er : rndK k with
      | false => exact Or.inl rfl
      | true => exact Or.inr (by have : ¬ (t < reaK k ∨ n ≤ t + reaK k) := fun g => ce ⟨er, g⟩; omega)
    unfold wrS
    by_cases ct : u t = -1
    · rw [decide_eq_true ct]; rfl
    · rw [decide_eq_false ct, Bool.not_false, Bool.true_and]
      have left := nb_left (v := u) (n := n) (t := t) (rnd := rndK k) (reaK k) t (Nat.le_refl t) nl
      cases el : lastT u t with
      | none =>
        rw [el] at left
        rw [show nbK u k n t true = -1 from left]
        rfl
      | some l =>
        rw [el] at left
        obtain ⟨l1, l2, l3⟩ := lastT_some t l el
        by_cases cl : t - l ≤ reaK k
        · have left : nbK u k n t true = u l := by
            unfold nbK; rw [left]; dsimp only; rw [if_pos cl]
          rw [left]
          -- the first after t
          have first : (∃ s, t < s ∧ s < n ∧ ¬ u s = -1 ∧ ∀ j, t < j → j < s → u j = -1) ∨ ∀ j, t < j → j < n → u j = -1 := by
            have go : ∀ d a, a + d = n → (∀ j, t < j → j < a → u j = -1) → (∃ s, t < s ∧ s < n ∧ ¬ u s = -1 ∧ ∀ j, t < j → j < s → u j = -1) ∨ ∀ j, t < j → j < n → u j = -1 := by
              intro d
              induction d with
              | zero => intro a ha g; exact Or.inr (fun j x y => g j x (by omega))
              | succ d ih =>
                intro a ha g
                by_cases ca : t < a ∧ ¬ u a = -1
                · exact Or.inl ⟨a, ca.1, by omega, ca.2, g⟩
                · refine ih (a + 1) (by omega) (fun j x y => ?_)
                  by_cases cj : j = a
                  · subst cj
                    by_cases cu : u j = -1
                    · exact cu
                    · exact absurd ⟨x, cu⟩ ca
                  · exact g j x (by omega)
            exact go n 0 (by omega) (fun j _ y => by omega)
          rcases first with ⟨s, s1, s2, s3, s4⟩ | none
          · have right : nbK u k n t false = if s - t ≤ reaK k then u s else -1 := nb_right s2 s1 s3 s4 (reaK k) t (Nat.le_refl t) s1
            rw [right]
            by_cases cr : s - t ≤ reaK k
            · rw [if_pos cr]
              obtain ⟨p, hp, ep⟩ := (hv s s2).resolve_left s3
              have ck := hc s p s2 hp ep
              unfold ckB at ck
              rw [lastT_is ct s s1 s4] at ck
              dsimp only at ck
              rw [if_pos cr, el] at ck
              dsimp only at ck
              rw [if_neg (by omega)] at ck
              rw [ep]
              cases ef : frV B ov (u l) (nI p) with
              | false => rfl
              | true => rw [ef] at ck; exact absurd ck (by decide)
            · rw [if_neg cr]
              unfold frV
              rw [decide_eq_true (p := (-1 : Int32) = -1) rfl]
              simp
          · have right : nbK u k n t false = -1 := nb_right0 none (reaK k) t (Nat.le_refl t) (by omega) nr
            rw [right]
            unfold frV
            rw [decide_eq_true (p := (-1 : Int32) = -1) rfl]
            simp
        · have left : nbK u k n t true = -1 := by
            unfold nbK; rw [left]; dsimp only; rw [if_neg cl]
          rw [left]
          rfl
