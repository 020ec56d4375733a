/-! all that ties the class and the reference to the state; what holds between calls -/
def RR14 (h : Hp) (m : Nat) (g : Gs) : Prop := h.1 14 5 = nI m ∧ (∀ s, s < m → h.1 15 s = nI (g 4 s) ∧ h.1 16 s = nI (g 5 s) ∧ h.1 17 s = nI (g 6 s) ∧ h.1 18 s = nI (g 7 s)) ∧ ∀ s, s < 6 → h.1 19 s = pI (g 8 s)
def RK (h : Hp) (g : Gs) : Prop := h.1 32 5 = nI (g 14 2) ∧ h.1 32 6 = nI (g 14 3) ∧ h.1 32 7 = nI (g 14 0) ∧ h.1 32 8 = nI (g 14 1) ∧ (∀ i, i < g 14 0 → h.1 33 i = nI (g 9 i) ∧ h.1 34 i = pI (g 10 i)) ∧ (∀ i, i < g 14 1 → h.1 35 i = nI (g 11 i) ∧ h.1 36 i = nI (g 12 i) ∧ h.1 37 i = nI (g 13 i)) ∧ ∀ i, i < 8 → h.1 37 i = 0 ∨ h.1 37 i = 1
def KM (h : Hp) (m : Nat) (g : Gs) : Prop := h.1 46 41 = nI (g 14 2) ∧ h.1 46 42 = nI (g 14 3) ∧ h.1 46 43 = nI (g 14 0) ∧ h.1 46 44 = nI (g 14 1) ∧ (∀ s, s < m → h.1 70 s = nI (g 4 s) ∧ h.1 71 s = nI (g 5 s) ∧ h.1 72 s = nI (g 7 s) ∧ h.1 73 s = pI (g 8 s)) ∧ (∀ i, i < g 14 0 → h.1 74 i = nI (g 9 i) ∧ h.1 75 i = pI (g 10 i)) ∧ ∀ i, i < g 14 1 → h.1 76 i = nI (g 11 i) ∧ h.1 77 i = nI (g 12 i) ∧ h.1 78 i = nI (g 13 i)
/-- the class's side -/
def XS (h : Hp) (K m : Nat) (g : Gs) (ik : Bool) (gk : Gs) : Prop := RC h K g ∧ RR8 h m g ∧ RN h g ∧ RP h g ∧ h.1 0 11 = nI (g 16 1) ∧ h.1 0 12 = nI (g 16 2) ∧ h.1 0 10 = bz ik ∧ (ik = true → RR14 h m gk ∧ RK h gk)
/-- the reference's side -/
def MS (h : Hp) (K m : Nat) (g : Gs) (ik : Bool) (gk : Gs) : Prop := RM h K m g ∧ RO h g ∧ RQ h g ∧ h.1 46 0 = nI (g 16 1) ∧ h.1 46 21 = nI (g 16 2) ∧ (ik = true → h.1 46 39 = 1 ∧ h.1 46 40 = nI (g 16 1) ∧ KM h m gk) ∧ (ik = false → h.1 46 39 = 0 ∨ ∃ l, l < g 16 1 ∧ h.1 46 40 = nI l)
/-- what is kept goes with the kings and the knitters as they are -/
def KB (K m : Nat) (g gk : Gs) : Prop := GB K m gk ∧ NB K m gk ∧ DP gk ∧ (∀ k, k < K → gk 0 k = g 0 k ∧ gk 1 k = g 1 k ∧ gk 2 k = g 2 k ∧ gk 3 k = g 3 k) ∧ ∀ s, s < m → gk 6 s = g 6 s
def BS (k K m : Nat) (g : Gs) (ik : Bool) (gk : Gs) : Prop := GB K m g ∧ NB K m g ∧ PB g ∧ DP g ∧ (m ≠ 0 → 0 < K) ∧ g 16 2 ≤ 20 ∧ g 16 1 ≤ k ∧ (ik = true → KB K m g gk)
def Inv (k : Nat) (h : Hp) : Prop := ∃ K m g ik gk, BS k K m g ik gk ∧ XS h K m g ik gk ∧ MS h K m g ik gk
theorem BS_s {k K m : Nat} {g : Gs} {ik : Bool} {gk : Gs} (h : BS k K m g ik gk) : BS (k + 1) K m g ik gk := by
  obtain ⟨h1, h2, h3, h4, h5, h6, h7, h8⟩ := h
  exact ⟨h1, h2, h3, h4, h5, h6, by omega, h8⟩
/-- cells that the ties don't speak of -/
theorem XS_of {h h' : Hp} {K m : Nat} {g : Gs} {ik : Bool} {gk : Gs} (e : ∀ i, i < 46 → scC i = false → h'.1 i = h.1 i) (H : XS h K m g ik gk) : XS h' K m g ik gk := by
  unfold XS RC RR8 RN RP RR14 RK at H ⊢
  rw [e 0 (by decide) rfl, e 1 (by decide) rfl, e 2 (by decide) rfl, e 3 (by decide) rfl, e 4 (by decide) rfl, e 5 (by decide) rfl, e 6 (by decide) rfl, e 7 (by decide) rfl, e 8 (by decide) rfl, e 9 (by decide) rfl, e 10 (by decide) rfl, e 11 (by decide) rfl, e 12 (by decide) rfl, e 13 (by decide) rfl, e 14 (by decide) rfl, e 15 (by decide) rfl, e 16 (by decide) rfl, e 17 (by decide) rfl, e 18 (by decide) rfl, e 19 (by decide) rfl, e 26 (by decide) rfl, e 27 (by decide) rfl, e 28 (by decide) rfl, e 29 (by decide) rfl, e 30 (by decide) rfl, e 31 (by decide) rfl, e 32 (by decide) rfl, e 33 (by decide) rfl, e 34 (by decide) rfl, e 35 (by decide) rfl, e 36 (by decide) rfl, e 37 (by decide) rfl]
  exact H
theorem MS_of {h h' : Hp} {K m : Nat} {g : Gs} {ik : Bool} {gk : Gs} (e : ∀ i, 46 ≤ i → scM i = false → h'.1 i = h.1 i) (f : ∀ j, scF j = false → h'.1 46 j = h.1 46 j) (H : MS h K m g ik gk) : MS h' K m g ik gk := by
  unfold MS RM RO RQ KM at H ⊢
  rw [f 0 rfl, f 1 rfl, f 2 rfl, f 12 rfl, f 13 rfl, f 14 rfl, f 17 rfl, f 21 rfl, f 22 rfl, f 39 rfl, f 40 rfl, f 41 rfl, f 42 rfl, f 43 rfl, f 44 rfl, e 47 (by decide) rfl, e 48 (by decide) rfl, e 49 (by decide) rfl, e 50 (by decide) rfl, e 51 (by decide) rfl, e 52 (by decide) rfl, e 53 (by decide) rfl, e 54 (by decide) rfl, e 55 (by decide) rfl, e 56 (by decide) rfl, e 57 (by decide) rfl, e 58 (by decide) rfl, e 59 (by decide) rfl, e 60 (by decide) rfl, e 61 (by decide) rfl, e 70 (by decide) rfl, e 71 (by decide) rfl, e 72 (by decide) rfl, e 73 (by decide) rfl, e 74 (by decide) rfl, e 75 (by decide) rfl, e 76 (by decide) rfl, e 77 (by decide) rfl, e 78 (by decide) rfl]
  exact H
theorem scC_hi {i : Nat} (h : 46 ≤ i) : scC i = false := by
  unfold scC
  rw [show Nat.ble i 25 = false from by rw [← Bool.not_eq_true, Nat.ble_eq]; omega, show Nat.ble i 45 = false from by rw [← Bool.not_eq_true, Nat.ble_eq]; omega]
  simp
theorem scM_lo {i : Nat} (h : i < 46) : scM i = false := by
  unfold scM
  rw [show Nat.beq i 46 = false from by rw [← Bool.not_eq_true]; exact fun z => by have := Nat.eq_of_beq_eq_true z; omega, show Nat.ble 62 i = false from by rw [← Bool.not_eq_true, Nat.ble_eq]; omega]
  rfl
section FRM
variable {h h' : Hp} {K m : Nat} {g : Gs} {ik : Bool} {gk : Gs}
theorem XS_SC (s : SC h h') (H : XS h K m g ik gk) : XS h' K m g ik gk := XS_of (fun i _ hc => s i hc) H
theorem MS_SC (s : SC h h') (H : MS h K m g ik gk) : MS h' K m g ik gk := MS_of (fun i hi _ => s i (scC_hi hi)) (fun j _ => by rw [s 46 rfl]) H
theorem XS_SM (s : SM h h') (H : XS h K m g ik gk) : XS h' K m g ik gk := XS_of (fun i hi _ => s.1 i (scM_lo hi)) H
theorem MS_SM (s : SM h h') (H : MS h K m g ik gk) : MS h' K m g ik gk := MS_of (fun i _ hc => s.1 i hc) (fun j hj => s.2 j hj) H
/-- the class's side, when only the reference's cells change; the reference's side, when only the class's do -/
theorem XS_lo (e : ∀ i, i < 46 → h'.1 i = h.1 i) (H : XS h K m g ik gk) : XS h' K m g ik gk := XS_of (fun i hi _ => e i hi) H
theorem MS_hi (e : ∀ i, 46 ≤ i → h'.1 i = h.1 i) (H : MS h K m g ik gk) : MS h' K m g ik gk := MS_of (fun i hi _ => e i hi) (fun j _ => by rw [e 46 (Nat.le_refl _)]) H
end FRM
/-- a call that asks: the class's answer and the reference's, with scratch cells changed alone -/
theorem inv_ask {k K m : Nat} {g : Gs} {ik : Bool} {gk : Gs} {h h1 h2 : Hp} (hB : BS k K m g ik gk) (hX : XS h K m g ik gk) (hM : MS h K m g ik gk) (s1 : SC h h1) (s2 : SM h1 h2) : Inv (k + 1) h2 := ⟨K, m, g, ik, gk, BS_s hB, XS_SM s2 (XS_SC s1 hX), MS_SM s2 (MS_SC s1 hM)⟩
theorem inv_same {k K m : Nat} {g : Gs} {ik : Bool} {gk : Gs} {h : Hp} (hB : BS k K m g ik gk) (hX : XS h K m g ik gk) (hM : MS h K m g ik gk) : Inv (k + 1) h := ⟨K, m, g, ik, gk, BS_s hB, hX, hM⟩
theorem gset_o {g : Gs} {r i v b : Nat} (h : b ≠ i) : gset g r i v r b = g r b := if_neg (fun z => h z.2)
theorem in_cases (a : Int32) (n : Nat) : inR a n = false ∨ ∃ j, j < n ∧ a = nI j := by
  cases h : inR a n
  · exact Or.inl rfl
  · exact Or.inr (inR_of h)
/-- changes go up by one -/
def cg (g : Gs) : Gs := gset g 14 2 (g 14 2 + 1)
