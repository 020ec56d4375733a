/-! the class reads a line -/
theorem s_C_readFrom (d : Nat) {h : Hp} {g : Gs} (hR : RP h g) (hP : PB g) {K m : Nat} (hL : LN (lt g) (g 16 0) K m) {Kk : Hp → Prop} (hq : ∀ h', (∀ i, i < 3 ∨ 7 < i → h'.1 i = h.1 i) → RC h' K (gln g K m) → Kk h') : Ev mtb shp (d + 6) m_C_readFrom [.ref 3, .ref 1, .int (nI K)] h (qV Kk) := by
  obtain ⟨l1, l2, l3, l4, l5, l6, l7⟩ := hL
  refine e_C_readFrom (d + 5) _ h _ ?_
  rw [mn_4 K l2]
  refine dn (T := fun i => ∀ h', (∀ i, i < 3 ∨ 7 < i → h'.1 i = h.1 i) → h'.1 3 4 = nI K → (∀ j, j < i → h'.1 4 j = nI (gln g K m 0 j) ∧ h'.1 5 j = nI (gln g K m 1 j) ∧ h'.1 6 j = nI (gln g K m 2 j) ∧ h'.1 7 j = nI (gln g K m 3 j)) → PP (Ev mtb shp (d + 5)) shp cd_C_readFrom 0 (qV Kk) 11 [.ref 3, .ref 1, .int (nI K), .int (nI i)] [] h') (m := K) (fun h' f1 f2 f3 => ?_) (fun i hi ih h' f1 f2 f3 => ?_) 0 (Nat.zero_le _) _ (fun i hi => hs_off _ _ (by omega)) rfl (fun j hj => absurd hj (Nat.not_lt_zero j))
  · refine p_C_readFrom_11 (d + 5) _ _ h' _ ?_
    rw [f2]
    exact lpE (hq h' f1 ⟨f2, f3⟩)
  · have hR' : RP h' g := RP_of (f1 1 (by omega)) (f1 2 (by omega)) hR
    have v4 := vp_in_nI (show i < 4 by omega) (by decide)
    have hl := l6 i hi
    have hk5 := kx_lt (lt g (5 * i))
    refine p_C_readFrom_11 (d + 5) _ _ h' _ ?_
    rw [f2]
    refine lpS hi (by omega) (s_P_kindOf d hR' hP (by omega) ⟨v4, ?_⟩)
    rw [nI_clamp (by omega), mx_k _ (by omega) hl.1]
    refine s_P_digitOf (d + 4) (q := i) (j := 1) (g := g) (by exact hR') hP (by omega) (by decide) (fun _ => hl.2.1.1) ⟨v4, ?_⟩
    refine s_P_digitOf (d + 4) (q := i) (j := 2) (g := g) (by exact hR') hP (by omega) (by decide) (fun _ => hl.2.2.1.1) ⟨v4, ?_⟩
    refine s_P_digitOf (d + 4) (q := i) (j := 3) (g := g) (by exact hR') hP (by omega) (by decide) (fun _ => hl.2.2.2.1) ⟨v4, ?_⟩
    rw [nI_s]
    refine ih _ (fun i hi => by rw [hs_off _ _ (by omega), hs_off _ _ (by omega), hs_off _ _ (by omega), hs_off _ _ (by omega)]; exact f1 i hi) (by exact f2) (fun j hj => ?_)
    exact ⟨upd_k (fun e => (f3 j (by omega)).1) (fun e => by rw [e]; rfl), upd_k (fun e => (f3 j (by omega)).2.1) (fun e => by rw [e]; rfl), upd_k (fun e => (f3 j (by omega)).2.2.1) (fun e => by rw [e]; rfl), upd_k (fun e => (f3 j (by omega)).2.2.2) (fun e => by rw [e]; rfl)⟩
theorem s_R_readFrom (d : Nat) {h : Hp} {g : Gs} (hR : RP h g) (hP : PB g) {K m : Nat} (hL : LN (lt g) (g 16 0) K m) {Kk : Hp → Prop} (hq : ∀ h', (∀ i, i < 8 ∨ 13 < i → h'.1 i = h.1 i) → RR8 h' m (gln g K m) → Kk h') : Ev mtb shp (d + 2) m_R_readFrom [.ref 8, .ref 1, .int (nI K)] h (qV Kk) := by
  obtain ⟨l1, l2, l3, l4, l5, l6, l7⟩ := hL
  refine e_R_readFrom (d + 1) _ h _ (s_P_items d hR hP ?_)
  rw [l5, show 5 * (K + m) / 5 = K + m by omega, pk_sub (by omega), show K + m - K = m by omega, mn_6 m l4]
  refine dn (T := fun i => ∀ h', (∀ i, i < 8 ∨ 13 < i → h'.1 i = h.1 i) → h'.1 8 5 = nI m → (∀ j, j < i → h'.1 9 j = nI (gln g K m 4 j) ∧ h'.1 10 j = nI (gln g K m 5 j) ∧ h'.1 11 j = nI (gln g K m 6 j) ∧ h'.1 12 j = nI (gln g K m 7 j) ∧ h'.1 13 j = pI (gln g K m 8 j)) → ∀ w, PP (Ev mtb shp (d + 1)) shp cd_R_readFrom 0 (qV Kk) 17 [.ref 8, .ref 1, .int (nI K), .int (nI i), w] [] h') (m := 6) (fun h' f1 f2 f3 w => ?_) (fun i hi ih h' f1 f2 f3 w => ?_) 0 (Nat.zero_le _) _ (fun i hi => hs_off _ _ (by omega)) rfl (fun j hj => absurd hj (Nat.not_lt_zero j)) unv
  · refine p_R_readFrom_17 (d + 1) _ _ _ h' _ (lpE (m := 6) (hq h' f1 ⟨f2, fun s hs => ?_, fun s hs => (f3 s hs).2.2.2.2⟩))
    obtain ⟨q1, q2, q3, q4, -⟩ := f3 s (by omega)
    exact ⟨q1, q2, q3, q4⟩
  · have hR' : RP h' g := RP_of (f1 1 (by omega)) (f1 2 (by omega)) hR
    have v6 := vp_in_nI hi (by decide)
    have lo : ∀ j, j < 4 → 5 * (K + i) + j < g 16 0 → 48 ≤ lt g (5 * (K + i) + j) := by
      intro j hj hz
      have hl := l7 i (by omega)
      rcases (show j = 0 ∨ j = 1 ∨ j = 2 ∨ j = 3 by omega) with rfl | rfl | rfl | rfl
      · exact hl.1.1
      · exact hl.2.1.1
      · exact hl.2.2.1.1
      · exact hl.2.2.2.1
    refine p_R_readFrom_17 (d + 1) _ _ _ h' _ (lpS (m := 6) hi (by decide) ?_)
    rw [nI_add, nI_s i]
    refine s_P_digitOf d (q := K + i) (j := 0) hR' hP (by omega) (by decide) (lo 0 (by decide)) ⟨v6, ?_⟩
    rw [nI_clamp (by omega)]
    refine s_P_digitOf d (q := K + i) (j := 1) (g := g) (by exact hR') hP (by omega) (by decide) (lo 1 (by decide)) ⟨v6, ?_⟩
    refine s_P_digitOf d (q := K + i) (j := 2) (g := g) (by exact hR') hP (by omega) (by decide) (lo 2 (by decide)) ⟨v6, ?_⟩
    refine s_P_digitOf d (q := K + i) (j := 3) (g := g) (by exact hR') hP (by omega) (by decide) (lo 3 (by decide)) ⟨v6, ?_⟩
    have fin : ∀ x, x = pI (gln g K m 8 i) → PP (Ev mtb shp (d + 1)) shp cd_R_readFrom 0 (qV Kk) 17 [.ref 8, .ref 1, .int (nI K), .int (nI (i + 1)), .int (nI (K + i))] [] (hs (hs (hs (hs (hs h' 9 (upd (h'.1 9) i (nI (lt g (5 * (K + i) + 0) - 48)))) 10 (upd (h'.1 10) i (nI (lt g (5 * (K + i) + 1) - 48)))) 11 (upd (h'.1 11) i (nI (lt g (5 * (K + i) + 2) - 48)))) 12 (upd (h'.1 12) i (nI (lt g (5 * (K + i) + 3) - 48)))) 13 (upd (h'.1 13) i x)) := by
      intro x hx
      refine ih _ (fun i hi => by rw [hs_off _ _ (by omega), hs_off _ _ (by omega), hs_off _ _ (by omega), hs_off _ _ (by omega), hs_off _ _ (by omega)]; exact f1 i hi) (by exact f2) (fun j hj => ?_) _
      exact ⟨upd_k (fun e => (f3 j (by omega)).1) (fun e => by rw [e]; rfl), upd_k (fun e => (f3 j (by omega)).2.1) (fun e => by rw [e]; rfl), upd_k (fun e => (f3 j (by omega)).2.2.1) (fun e => by rw [e]; rfl), upd_k (fun e => (f3 j (by omega)).2.2.2.1) (fun e => by rw [e]; rfl), upd_k (fun e => (f3 j (by omega)).2.2.2.2) (fun e => by rw [e]; exact hx)⟩
    refine ⟨?_, ?_⟩
    · intro z
      refine ⟨v6, fin (-1) ?_⟩
      have z : h'.1 8 5 ≤ nI i := z
      rw [f2, le_toInt, nI_toInt (by omega), nI_toInt (by omega)] at z
      show _ = pI (if i < m then i + 1 else 0)
      rw [if_neg (by omega)]
      rfl
    · intro z
      refine ⟨v6, fin (nI i) ?_⟩
      have z : ¬ h'.1 8 5 ≤ nI i := z
      rw [f2, le_toInt, nI_toInt (by omega), nI_toInt (by omega)] at z
      show _ = pI (if i < m then i + 1 else 0)
      rw [if_pos (by omega), sub1]
