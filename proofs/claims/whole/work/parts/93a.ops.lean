/-! every call; the start -/
theorem Inv_s {k : Nat} {h : Hp} (hI : Inv k h) : Inv (k + 1) h := by
  obtain ⟨K, m, g, ik, gk, hB, hX, hM⟩ := hI
  exact inv_same hB hX hM
theorem ops_inv : OPS Inv := by
  intro k h hk hI a1 a2 a3 c hc
  match c, hc with
  | 0, _ => exact op_letter hI a1
  | 1, _ => exact op_blank hI
  | 2, _ => exact op_fault hI
  | 3, _ => exact op_line hI
  | 4, _ => exact op_king hI a1 a2
  | 5, _ => exact op_as hI a1 a2
  | 6, _ => exact op_stocking hI a1 a2
  | 7, _ => exact op_wrong hI a1 a2
  | 8, _ => exact op_peg hI a1
  | 9, _ => exact op_wash hI
  | 10, _ => exact op_starch hI a1 a2
  | 11, _ => exact op_darn hI a1
  | 12, _ => exact op_wind hI a1
  | 13, _ => exact op_pin hI a1 a2
  | 14, _ => exact op_drop hI a1
  | 15, _ => exact op_throne hI a1
  | 16, _ => exact op_match hI a1
  | 17, _ => exact op_chance hI a1 a2
  | 18, _ => exact op_dog hI a1
  | 19, _ => exact op_coup hI a1
  | 20, _ => exact op_fold hI
  | 21, _ => exact op_lies hI a1 a2
  | 22, _ => exact op_sweep hI
  | 23, _ => exact op_winds hI a1
  | 24, _ => exact op_tryOn hI a1 a2 a3
  | 25, _ => exact op_forget hI
  | 26, _ => exact op_years hI a1 a2 a3
  | 27, _ => exact op_image hI
  | 28, _ => exact op_restore hk hI
  | 29, _ => exact op_count hI a1
  | 30, _ => exact op_digest hI
  | 31, _ => exact Inv_s hI
  | n + 32, h => omega
theorem pegs0_ok : ∀ s, s < 6 → pegs0 s = pI 0 := by decide +kernel
theorem inv_ini : Inv 0 hini := by
  refine ⟨0, 0, fun _ _ => 0, false, fun _ _ => 0, ⟨⟨by decide, by decide, fun i hi => absurd hi (Nat.not_lt_zero i), fun i hi => absurd hi (Nat.not_lt_zero i), fun _ => Nat.zero_le _, fun _ _ => rfl⟩, ⟨by decide, by decide, by decide, fun i hi => absurd hi (Nat.not_lt_zero i), fun i hi => absurd hi (Nat.not_lt_zero i)⟩, ⟨by decide, fun i hi => absurd hi (Nat.not_lt_zero i)⟩, fun a b _ z => absurd rfl z, fun z => absurd rfl z, by decide, Nat.le_refl _, fun z => (by cases z)⟩, ⟨⟨rfl, fun i hi => absurd hi (Nat.not_lt_zero i)⟩, ⟨rfl, fun i hi => absurd hi (Nat.not_lt_zero i), fun s hs => pegs0_ok s hs⟩, ⟨rfl, rfl, rfl, rfl, fun i hi => absurd hi (Nat.not_lt_zero i), fun i hi => absurd hi (Nat.not_lt_zero i), fun i _ => Or.inl rfl⟩, ⟨rfl, fun i hi => absurd hi (Nat.not_lt_zero i)⟩, rfl, rfl, rfl, fun z => (by cases z)⟩, ⟨⟨rfl, rfl, fun i hi => absurd hi (Nat.not_lt_zero i), fun i hi => absurd hi (Nat.not_lt_zero i)⟩, ⟨rfl, rfl, rfl, rfl, fun i hi => absurd hi (Nat.not_lt_zero i), fun i hi => absurd hi (Nat.not_lt_zero i)⟩, ⟨rfl, fun i hi => absurd hi (Nat.not_lt_zero i)⟩, rfl, rfl, fun z => (by cases z), fun _ => Or.inl rfl⟩⟩
