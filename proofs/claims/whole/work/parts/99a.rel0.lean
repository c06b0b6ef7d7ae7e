/-! PURE: behind the constructors the two stand to one another -/
theorem mI_0 : mI 0 = 0 ∧ mI 1 = nI 50 ∧ mI 2 = 1 ∧ mI 3 = nI 0 := by decide +kernel
theorem mI_b : ∀ k, k < 64 → mI (4 + k) = 0 := by decide +kernel
theorem mI_w : ∀ p, p < 8 → mI (68 + p) = nI 10 := by decide +kernel
theorem mI_p : ∀ k, k < 10 → mI (126 + k) = -1 := by decide +kernel
theorem mI_bq {p q : Nat} (hp : p < 8) (hq : q < 8) : mI (4 + 8 * p + q) = 0 := by
  rw [show 4 + 8 * p + q = 4 + (8 * p + q) by omega]
  exact mI_b _ (by omega)
theorem rel0 : Rel sgI mgI := by
  obtain ⟨e0, e1, e2, e3⟩ := mI_0
  refine ⟨⟨0, ⟨⟨e0, e1, e2, e3⟩, fun k hk => mI_b k hk, fun p hp => ?_, fun b hb => absurd hb (by omega), fun k hk => ?_⟩, ⟨by omega, e3, ⟨false, e0⟩, 50, by omega, e1⟩, ⟨fun p q hp hq => ⟨⟨0, by omega, mI_bq hp hq⟩, ?_⟩, fun p hp => mI_bq hp hp⟩, fun p hp => ⟨10, by omega, by omega, mI_w p hp⟩, fun b hb => absurd hb (by omega), fun b s b' s' hb => absurd hb (by omega), fun k hk => Or.inl (mI_p k hk)⟩, ⟨rfl, ⟨false, rfl⟩, fun h => absurd (show (0 : Int32) = 1 from h) (by decide)⟩, fun k hk => rfl, ⟨0, by omega, rfl, rfl, fun k hk => absurd hk (by omega)⟩, fun s hs => ⟨⟨rfl, Or.inl rfl⟩, ⟨0, by omega, rfl, rfl⟩, fun k hk => rfl⟩, rfl, rfl⟩
  · show mI (68 + p) = if p < 8 then 10 else 0
    rw [if_pos hp, mI_w p hp]; rfl
  · show mI (126 + k) = if k < 10 then -1 else 0
    rw [if_pos hk, mI_p k hk]
  · show mI (4 + 8 * p + q) = mI (4 + 8 * q + p)
    rw [mI_bq hp hq, mI_bq hq hp]
