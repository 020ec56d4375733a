/-! the reference reads a line; line -/
/-- the reference behind its reading: kings, stockings, their rows; the rest as it was -/
def LMF (h0 h' : Hp) : Prop := (∀ c, (c < 47 ∨ 55 < c) → h'.1 c = h0.1 c)
theorem s_M_lineL (d : Nat) {h0 : Hp} {g : Gs} (hP : PB g) {K m : Nat} (hL : LN (lt g) (g 16 0) K m) (h1 : h0.1 46 1 = nI K) (h2 : h0.1 46 2 = nI m) (h61 : ∀ i, i < g 16 0 → h0.1 61 i = nI (lt g i)) {Kk : Int32 → Hp → Prop} (hq : ∀ h', LMF h0 h' → RM h' K m (gln g K m) → Kk (nI m) (hs (hs (hs (hs (hs (hs h' 46 (upd (h'.1 46) 0 ((h'.1 46 0) + 1))) 46 (upd (upd (h'.1 46) 0 ((h'.1 46 0) + 1)) 12 0)) 46 (upd (upd (upd (h'.1 46) 0 ((h'.1 46 0) + 1)) 12 0) 13 0)) 46 (upd (upd (upd (upd (h'.1 46) 0 ((h'.1 46 0) + 1)) 12 0) 13 0) 14 0)) 46 (upd (upd (upd (upd (upd (h'.1 46) 0 ((h'.1 46 0) + 1)) 12 0) 13 0) 14 0) 17 0)) 46 (upd (upd (upd (upd (upd (upd (h'.1 46) 0 ((h'.1 46 0) + 1)) 12 0) 13 0) 14 0) 17 0) 22 0))) : PP (Ev mtb shp (d + 1)) shp cd_M_line 1 (qI Kk) 33 [.ref 46, .int 0, unv] [] h0 := by
  obtain ⟨l1, l2, l3, l4, l5, l6, l7⟩ := hL
  have hP1 := hP.1
  refine dn (T := fun i => ∀ h', LMF h0 h' → (∀ j, j < i → h'.1 47 j = nI (gln g K m 0 j) ∧ h'.1 48 j = nI (gln g K m 1 j) ∧ h'.1 49 j = nI (gln g K m 2 j) ∧ h'.1 50 j = nI (gln g K m 3 j)) → PP (Ev mtb shp (d + 1)) shp cd_M_line 1 (qI Kk) 33 [.ref 46, .int (nI i), unv] [] h') (m := K) (fun h' f1 f3 => ?_) (fun i hi ih h' f1 f3 => ?_) 0 (Nat.zero_le _) h0 (fun _ _ => rfl) (fun j hj => absurd hj (Nat.not_lt_zero j))
  · refine p_M_line_33 (d + 1) _ _ h' _ ?_
    rw [f1 46 (by omega), h1]
    refine lpE ?_
    rw [show (5 : Int32) = nI 5 from rfl, pk_mul]
    refine dn (T := fun i => ∀ h', LMF h0 h' → (∀ j, j < K → h'.1 47 j = nI (gln g K m 0 j) ∧ h'.1 48 j = nI (gln g K m 1 j) ∧ h'.1 49 j = nI (gln g K m 2 j) ∧ h'.1 50 j = nI (gln g K m 3 j)) → (∀ j, j < i → h'.1 51 j = nI (gln g K m 4 j) ∧ h'.1 52 j = nI (gln g K m 5 j) ∧ h'.1 53 j = nI (gln g K m 6 j) ∧ h'.1 54 j = nI (gln g K m 7 j) ∧ h'.1 55 j = pI (gln g K m 8 j)) → PP (Ev mtb shp (d + 1)) shp cd_M_line 1 (qI Kk) 130 [.ref 46, .int (nI (5 * K)), .int (nI i)] [] h') (m := m) (fun h' f1 f3 f4 => ?_) (fun i hi ih h' f1 f3 f4 => ?_) 0 (Nat.zero_le _) h' f1 f3 (fun j hj => absurd hj (Nat.not_lt_zero j))
    · refine p_M_line_130 (d + 1) _ _ h' _ ?_
      have e2 : h'.1 46 2 = nI m := by rw [f1 46 (by omega)]; exact h2
      have e1 : h'.1 46 1 = nI K := by rw [f1 46 (by omega)]; exact h1
      have ev : (upd (upd (upd (upd (upd (upd (h'.1 46) 0 ((h'.1 46 0) + 1)) 12 0) 13 0) 14 0) 17 0) 22 0) 2 = nI m := e2
      rw [ev, e2]
      exact lpE (hq h' f1 ⟨e1, e2, f3, f4⟩)
    · have v6 := vp_in_nI (show i < 6 by omega) (by decide)
      have hl := l7 i hi
      have e2 : h'.1 46 2 = nI m := by rw [f1 46 (by omega)]; exact h2
      have e61 : ∀ j, j < 4 → h'.1 61 (5 * (K + i) + j) - 48 = nI (lt g (5 * (K + i) + j) - 48) := by
        intro j hj
        rw [f1 61 (by omega), h61 _ (by omega)]
        refine pk_sub (b := 48) ?_
        rcases (show j = 0 ∨ j = 1 ∨ j = 2 ∨ j = 3 by omega) with rfl | rfl | rfl | rfl
        · exact hl.1.1
        · exact hl.2.1.1
        · exact hl.2.2.1.1
        · exact hl.2.2.2.1
      have a0 : nI (5 * K) + 5 * nI i = nI (5 * (K + i) + 0) := by rw [show (5 : Int32) = nI 5 from rfl, pk_mul, nI_add, ← Nat.mul_add, Nat.add_zero]
      have a1 : nI (5 * (K + i) + 0) + 1 = nI (5 * (K + i) + 1) := nI_add _ 1
      have a2 : nI (5 * (K + i) + 0) + 2 = nI (5 * (K + i) + 2) := nI_add _ 2
      have a3 : nI (5 * (K + i) + 0) + 3 = nI (5 * (K + i) + 3) := nI_add _ 3
      refine p_M_line_130 (d + 1) _ _ h' _ ?_
      rw [e2, a0, a1, a2, a3, nI_clamp (show i < 2 ^ 31 by omega), nI_clamp (show 5 * (K + i) + 0 < 2 ^ 31 by omega), nI_clamp (show 5 * (K + i) + 1 < 2 ^ 31 by omega), nI_clamp (show 5 * (K + i) + 2 < 2 ^ 31 by omega), nI_clamp (show 5 * (K + i) + 3 < 2 ^ 31 by omega), e61 0 (by decide), e61 1 (by decide), e61 2 (by decide), e61 3 (by decide), nI_s i]
      refine lpS hi (by omega) ⟨vp_in_nI (by omega) (by decide), v6, vp_in_nI (by omega) (by decide), v6, vp_in_nI (by omega) (by decide), v6, vp_in_nI (by omega) (by decide), v6, v6, ?_⟩
      refine ih _ (fun c hc => by rw [hs_off _ _ (by omega), hs_off _ _ (by omega), hs_off _ _ (by omega), hs_off _ _ (by omega), hs_off _ _ (by omega)]; exact f1 c hc) (by exact f3) (fun j hj => ?_)
      refine ⟨upd_k (fun e => (f4 j (by omega)).1) (fun e => by rw [e]; rfl), upd_k (fun e => (f4 j (by omega)).2.1) (fun e => by rw [e]; rfl), upd_k (fun e => (f4 j (by omega)).2.2.1) (fun e => by rw [e]; rfl), upd_k (fun e => (f4 j (by omega)).2.2.2.1) (fun e => by rw [e]; rfl), upd_k (fun e => (f4 j (by omega)).2.2.2.2) (fun e => ?_)⟩
      rw [e]
      show _ = pI (if i < m then i + 1 else 0)
      rw [if_pos hi, sub1]
  · have v4 := vp_in_nI (show i < 4 by omega) (by decide)
    have hl := l6 i hi
    have hk5 := kx_lt (lt g (5 * i))
    have e61 : ∀ j, j < 4 → j ≠ 0 → h'.1 61 (5 * i + j) - 48 = nI (lt g (5 * i + j) - 48) := by
      intro j hj hj0
      rw [f1 61 (by omega), h61 _ (by omega)]
      refine pk_sub (b := 48) ?_
      rcases (show j = 1 ∨ j = 2 ∨ j = 3 by omega) with rfl | rfl | rfl
      · exact hl.2.1.1
      · exact hl.2.2.1.1
      · exact hl.2.2.2.1
    have a0 : 5 * nI i = nI (5 * i) := by rw [show (5 : Int32) = nI 5 from rfl, pk_mul]
    have a1 : nI (5 * i) + 1 = nI (5 * i + 1) := nI_add _ 1
    have a2 : nI (5 * i) + 2 = nI (5 * i + 2) := nI_add _ 2
    have a3 : nI (5 * i) + 3 = nI (5 * i + 3) := nI_add _ 3
    refine p_M_line_33 (d + 1) _ _ h' _ ?_
    rw [f1 46 (by omega), h1, a0, a1, a2, a3, nI_clamp (show i < 2 ^ 31 by omega), nI_clamp (show 5 * i < 2 ^ 31 by omega), nI_clamp (show 5 * i + 1 < 2 ^ 31 by omega), nI_clamp (show 5 * i + 2 < 2 ^ 31 by omega), nI_clamp (show 5 * i + 3 < 2 ^ 31 by omega), nI_s i, show h'.1 61 (5 * i) = nI (lt g (5 * i)) from by rw [f1 61 (by omega), h61 _ (by omega)]]
    refine lpS hi (by omega) ⟨vp_in_nI (by omega) (by decide), s_M_kindBy d (lt_lt hP _) ⟨v4, vp_in_nI (by omega) (by decide), v4, vp_in_nI (by omega) (by decide), v4, vp_in_nI (by omega) (by decide), v4, ?_⟩⟩
    rw [e61 1 (by decide) (by decide), e61 2 (by decide) (by decide), e61 3 (by decide) (by decide), pI_nI hl.1]
    refine ih _ (fun c hc => by rw [hs_off _ _ (by omega), hs_off _ _ (by omega), hs_off _ _ (by omega), hs_off _ _ (by omega)]; exact f1 c hc) (fun j hj => ?_)
    exact ⟨upd_k (fun e => (f3 j (by omega)).1) (fun e => by rw [e]; rfl), upd_k (fun e => (f3 j (by omega)).2.1) (fun e => by rw [e]; rfl), upd_k (fun e => (f3 j (by omega)).2.2.1) (fun e => by rw [e]; rfl), upd_k (fun e => (f3 j (by omega)).2.2.2) (fun e => by rw [e]; rfl)⟩
theorem op_line {k : Nat} {h : Hp} (hI : Inv k h) : op2 m_X_line m_M_line [] h (Inv (k + 1)) := by
  obtain ⟨K0, m0, g, ik, gk, hB, hX, hM⟩ := hI
  obtain ⟨hG, hNB, hPB, hDP, hK0, h20, hlk, hKB⟩ := id hB
  obtain ⟨xC, xR, xN, xP, x11, x12, x10, xk⟩ := id hX
  have l0 := lt_n g
  refine e_X_line 15 h _ (s_P_kingsOfLine 7 xP hPB ?_)
  cases hw : whl (lt g) (g 16 0)
  · refine ⟨fun z => absurd rfl z, fun _ => ?_⟩
    refine e_M_line 15 h _ (s_M_read 10 hM.2.2.1 hPB (fun h' f1 w1 _ => ?_))
    rw [w1, hw]
    exact n_f ⟨rfl, inv_ask hB hX hM (SC_rfl _) (FE_SM f1)⟩
  · have hL := whl_LN l0 hw
    rw [cond_true]
    have mread : ∀ h1, MS h1 K0 m0 g ik gk → ∀ Q : Int32 → Hp → Prop, (∀ h', FE h1 h' → h'.1 46 24 = bz true → h'.1 46 25 = nI (kp (lt g) (g 16 0)) → h'.1 46 26 = nI ((g 16 0 + 1) / 5 - kp (lt g) (g 16 0)) → Q (nI (er (lt g) (g 16 0))) h') → Ev mtb shp 15 m_M_read [.ref 46] h1 (qI Q) := by
      intro h1 hM1 Q hQ
      refine s_M_read 10 hM1.2.2.1 hPB (fun h' f1 w1 w2 => ?_)
      rw [hw] at w1
      exact hQ h' f1 w1 (w2 hw).1 (w2 hw).2
    generalize kp (lt g) (g 16 0) = K at *
    generalize (g 16 0 + 1) / 5 - K = m at *
    obtain ⟨l1, l2, l3, l4, l5, l6, l7⟩ := id hL
    refine pk_ne K 0 (fun _ => ?_) (fun z => by omega)
    refine s_C_readFrom 9 xP hPB hL (fun h1 f1 c1 => ?_)
    refine s_R_readFrom 13 (RP_of (f1 1 (by omega)) (f1 2 (by omega)) xP) hPB hL (fun h2 f2 r2 => ?_)
    refine e_N_clear 14 h2 _ ⟨rfl, ?_⟩
    have e2 : ∀ i, (i < 3 ∨ 13 < i) → h2.1 i = h.1 i := fun i hi => (f2 i (by omega)).trans (f1 i (by omega))
    have ra : h2.1 8 5 = nI m := r2.1
    have hX3 : ∀ F G H : Nat → Int32, (∀ i, (i = 5 ∨ i = 6 ∨ i = 7 ∨ i = 8) → F i = 0) → G 1 = 0 → H 10 = 0 → H 11 = nI (g 16 1 + 1) → H 12 = nI (g 16 2) → ∀ h3 : Hp, (∀ i, i ≠ 26 → i ≠ 1 → i ≠ 0 → h3.1 i = h2.1 i) → h3.1 26 = F → h3.1 1 = G → h3.1 0 = H → XS h3 K m (gln g K m) false g := by
      intro F G H hF hG1 hH10 hH11 hH12 h3 e3 eF eG eH
      refine ⟨RC_of (h := h1) (fun i _ _ => (e3 i (by omega) (by omega) (by omega)).trans (f2 i (by omega))) c1, RR8_of (h := h2) (fun i _ _ => e3 i (by omega) (by omega) (by omega)) r2, ⟨?_, ?_, ?_, ?_, fun i hi => absurd hi (Nat.not_lt_zero i), fun i hi => absurd hi (Nat.not_lt_zero i), fun i hi => ?_⟩, ⟨?_, fun i hi => absurd hi (Nat.not_lt_zero i)⟩, ?_, ?_, ?_, fun z => by cases z⟩
      · rw [eF]; exact hF 5 (by omega)
      · rw [eF]; exact hF 6 (by omega)
      · rw [eF]; exact hF 7 (by omega)
      · rw [eF]; exact hF 8 (by omega)
      · rw [e3 31 (by omega) (by omega) (by omega), e2 31 (by omega)]; exact xN.2.2.2.2.2.2 i hi
      · rw [eG]; exact hG1
      · rw [eH]; exact hH11
      · rw [eH]; exact hH12
      · rw [eH]; exact hH10
    have q11 : h2.1 0 11 + 1 = nI (g 16 1 + 1) := by rw [e2 0 (by omega), x11, nI_s]
    have q12 : h2.1 0 12 = nI (g 16 2) := by rw [e2 0 (by omega)]; exact x12
    refine (fun (p : ∀ (v : Int32) (h3 : Hp), v = nI m → XS h3 K m (gln g K m) false g → MS h3 K0 m0 g ik gk → Ev mtb shp 16 m_M_line [.ref 46] h3 (qI fun w h2 => v = w ∧ Inv (k + 1) h2)) => p _ _ ra ?_ ?_) ?_
    · refine hX3 _ _ _ ?_ ?_ ?_ ?_ ?_ _ (fun i h26 h1 h0 => ?_) rfl rfl rfl
      · intro i hi
        rcases hi with rfl | rfl | rfl | rfl <;> rfl
      · rfl
      · rfl
      · exact q11
      · exact q12
      · rw [hs_off _ _ h0, hs_off _ _ h0, hs_off _ _ h1, hs_off _ _ h26, hs_off _ _ h26, hs_off _ _ h26, hs_off _ _ h26]
    · refine MS_hi (fun i hi => ?_) hM
      rw [hs_off _ _ (by omega), hs_off _ _ (by omega), hs_off _ _ (by omega), hs_off _ _ (by omega), hs_off _ _ (by omega), hs_off _ _ (by omega), hs_off _ _ (by omega)]
      exact e2 i (by omega)
    · intro v h3 hv hX4 hM4
      refine e_M_line 15 h3 _ (mread h3 hM4 _ (fun h4 fe w24 w25 w26 => ?_))
      rw [w24]
      refine n_t ?_
      have hQ4 := FE_RQ fe hM4.2.2.1
      refine s_M_lineL 14 hPB hL (by exact w25) (by exact w26) (fun i hi => by
        show h4.1 61 i = _
        rw [hQ4.2 i hi, show lt g i = g 15 i from if_pos hi]) (fun h5 lf rm => ⟨hv, ?_⟩)
      have e5 : ∀ c, (c < 46 ∨ 55 < c) → h5.1 c = h3.1 c := fun c hc => (lf c (by omega)).trans (by rw [hs_off _ _ (by omega), hs_off _ _ (by omega)]; exact fe.1 c (by omega))
      have e46 := lf 46 (by omega)
      have ef : ∀ f, f ≠ 1 → f ≠ 2 → f ≠ 24 → f ≠ 25 → f ≠ 26 → h5.1 46 f = h3.1 46 f := by
        intro f n1 n2 n3 n4 n5
        rw [e46]
        show upd (upd (h4.1 46) 1 _) 2 _ f = _
        rw [pk_un n2, pk_un n1]
        exact fe.2 f n3 n4 n5
      obtain ⟨yM, yO, yQ, y0, y21, yt, yf⟩ := hM4
      refine ⟨K, m, gln g K m, false, g, ⟨GB_ln hL, ⟨Nat.zero_le _, Nat.zero_le _, Nat.zero_le _, fun i hi => absurd hi (Nat.not_lt_zero i), fun i hi => absurd hi (Nat.not_lt_zero i)⟩, ⟨Nat.zero_le _, fun i hi => absurd hi (Nat.not_lt_zero i)⟩, DP_ln, fun _ => by omega, h20, (show g 16 1 + 1 ≤ k + 1 by omega), fun z => by cases z⟩, ?_, ?_⟩
      · refine XS_lo (fun i hi => ?_) hX4
        rw [hs_off _ _ (by omega), hs_off _ _ (by omega), hs_off _ _ (by omega), hs_off _ _ (by omega), hs_off _ _ (by omega), hs_off _ _ (by omega)]
        exact e5 i (by omega)
      · refine ⟨rm, ⟨rfl, rfl, rfl, rfl, fun i hi => absurd hi (Nat.not_lt_zero i), fun i hi => absurd hi (Nat.not_lt_zero i)⟩, ⟨rfl, fun i hi => absurd hi (Nat.not_lt_zero i)⟩, ?_, ?_, fun z => (by cases z), fun _ => ?_⟩
        · show h5.1 46 0 + 1 = nI (g 16 1 + 1)
          rw [ef 0 (by decide) (by decide) (by decide) (by decide) (by decide), y0, nI_s]
        · show h5.1 46 21 = nI (g 16 2)
          rw [ef 21 (by decide) (by decide) (by decide) (by decide) (by decide)]
          exact y21
        · show h5.1 46 39 = 0 ∨ ∃ l, l < g 16 1 + 1 ∧ h5.1 46 40 = nI l
          rw [ef 39 (by decide) (by decide) (by decide) (by decide) (by decide), ef 40 (by decide) (by decide) (by decide) (by decide) (by decide)]
          cases ik with
          | true => exact Or.inr ⟨g 16 1, by omega, (yt rfl).2.1⟩
          | false =>
            rcases yf rfl with z | ⟨l, hl, z⟩
            · exact Or.inl z
            · exact Or.inr ⟨l, by omega, z⟩
