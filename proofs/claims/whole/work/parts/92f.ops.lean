/-! washing and wind -/
def gw (g : Gs) : Gs := gset (gset (gshr g) 14 3 (g 14 3 + 1)) 14 2 (g 14 2 + 1)
theorem DP_blw {g : Gs} (hD : DP g) (j : Nat) : DP (gblw g j) := by
  intro a b e z
  rw [gblw_8, gblw_8] at e
  rw [gblw_8] at z
  refine hD a b ?_ ?_
  · unfold blw at e z
    split at z
    · exact absurd rfl z
    · split at z
      · rw [if_neg (by assumption), if_pos (by assumption)] at e
        split at e
        · omega
        · split at e <;> omega
      · exact absurd rfl z
  · intro y
    rw [y] at z
    exact z rfl
section OPF
variable {k : Nat} {h : Hp}
theorem op_wash (hI : Inv k h) : op2 m_X_wash m_M_wash [] h (Inv (k + 1)) := by
  obtain ⟨K, m, g, ik, gk, hB, hX, hM⟩ := hI
  obtain ⟨hG, hNB, hPB, hDP, hK0, h20, hlk, hKB⟩ := id hB
  have hm6 := hG.2.1
  obtain ⟨n1, n2, n3, n4, n5, n6, n7⟩ := hX.2.2.1
  obtain ⟨o1, o2, o3, o4, o5, o6⟩ := hM.2.1
  have h99 := hNB.2.2.1
  have hR := hX.2.1
  have hGw : GB K m (gw g) := GB_shr hG
  have hb2 : bits m (hg (gw g)) < 1024 := Nat.lt_of_lt_of_le (bits_lt _ _) (show 2 ^ m ≤ 2 ^ 10 from Nat.pow_le_pow_right (by decide) (by omega))
  have mside : ∀ h1, MS h1 K m g ik gk → ∀ v, (m = 0 → v = -103 ∧ Inv (k + 1) h1) → (m ≠ 0 → g 14 3 = 99 → v = -104 ∧ Inv (k + 1) h1) → (m ≠ 0 → g 14 3 < 99 → v = nI (cnt m (hg (gw g))) ∧ ∀ h2, (∀ i, i < 46 → h2.1 i = h1.1 i) → MS h2 K m (gw g) ik gk → Inv (k + 1) h2) → Ev mtb shp 16 m_M_wash [.ref 46] h1 (qI fun w h2 => v = w ∧ Inv (k + 1) h2) := by
    intro h1 hM1 v q0 q1 q2
    obtain ⟨o1, o2, o3, o4, o5, o6⟩ := hM1.2.1
    refine e_M_wash 15 h1 _ ?_
    rw [hM1.1.2.1, o2]
    refine pk_ne m 0 (fun hm => pk_ne (g 14 3) 99 (fun c => ?_) (fun c => q1 hm c)) (fun hm => q0 hm)
    obtain ⟨qa, qb⟩ := q2 hm (by omega)
    refine s_M_shrink 13 hM1.1 hG (fun F f1 f2 => ?_)
    have hM2 : MS (hs (hs (hs h1 51 F) 46 (upd ((hs h1 51 F).1 46) 13 (((hs h1 51 F).1 46 13) + 1))) 46 (upd (upd ((hs h1 51 F).1 46) 13 (((hs h1 51 F).1 46 13) + 1)) 12 (((upd ((hs h1 51 F).1 46) 13 (((hs h1 51 F).1 46 13) + 1)) 12) + 1))) K m (gw g) ik gk := by
      refine ⟨⟨hM1.1.1, hM1.1.2.1, hM1.1.2.2.1, fun t ht => ⟨f1 t ht, (hM1.1.2.2.2 t ht).2.1, (hM1.1.2.2.2 t ht).2.2.1, (hM1.1.2.2.2 t ht).2.2.2.1, (hM1.1.2.2.2 t ht).2.2.2.2⟩⟩, ⟨?_, ?_, o3, o4, o5, o6⟩, hM1.2.2.1, hM1.2.2.2.1, hM1.2.2.2.2.1, hM1.2.2.2.2.2.1, hM1.2.2.2.2.2.2⟩
      · show h1.1 46 12 + 1 = nI (g 14 2 + 1)
        rw [o1, nI_s]
      · show h1.1 46 13 + 1 = nI (g 14 3 + 1)
        rw [o2, nI_s]
    exact s_M_hanging 13 hM2.1 hGw ⟨qa, qb _ (fun i hi => by rw [hs_off _ _ (by omega), hs_off _ _ (by omega), hs_off _ _ (by omega)]) hM2⟩
  refine e_X_wash 15 h _ (s_X_noLine 14 hR (by omega) ?_)
  by_cases hm0 : m = 0
  · rw [decide_eq_true hm0]
    exact z_t (mside h hM _ (fun _ => ⟨rfl, inv_same hB hX hM⟩) (fun z => absurd hm0 z) (fun z => absurd hm0 z))
  rw [decide_eq_false hm0, n2]
  refine z_f (pk_lt (g 14 3) 99 (fun c => ?_) (fun c => mside h hM _ (fun z => absurd z hm0) (fun _ _ => ⟨rfl, inv_same hB hX hM⟩) (fun _ z => by omega)))
  refine s_R_shrink 13 hR hG (fun F f1 => ?_)
  have hX2 : XS (hs (hs (hs h 9 F) 26 (upd ((hs h 9 F).1 26) 6 (((hs h 9 F).1 26 6) + 1))) 26 (upd (upd ((hs h 9 F).1 26) 6 (((hs h 9 F).1 26 6) + 1)) 5 (((upd ((hs h 9 F).1 26) 6 (((hs h 9 F).1 26 6) + 1)) 5) + 1))) K m (gw g) ik gk := by
    refine ⟨hX.1, ⟨hR.1, fun t ht => ⟨f1 t ht, (hR.2.1 t ht).2.1, (hR.2.1 t ht).2.2.1, (hR.2.1 t ht).2.2.2⟩, hR.2.2⟩, ⟨?_, ?_, n3, n4, n5, n6, n7⟩, hX.2.2.2.1, hX.2.2.2.2.1, hX.2.2.2.2.2.1, hX.2.2.2.2.2.2.1, hX.2.2.2.2.2.2.2⟩
    · show h.1 26 5 + 1 = nI (g 14 2 + 1)
      rw [n1, nI_s]
    · show h.1 26 6 + 1 = nI (g 14 3 + 1)
      rw [n2, nI_s]
  refine s_R_hanging 13 hX2.2.1 hGw (s_bitCount 14 hb2 ?_)
  rw [popc_bits (by omega)]
  refine mside _ (MS_hi (fun i hi => by rw [hs_off _ _ (by omega), hs_off _ _ (by omega), hs_off _ _ (by omega)]) hM) _ (fun z => absurd z hm0) (fun _ z => by omega) (fun _ _ => ⟨rfl, fun h2 e2 hM2 => ?_⟩)
  exact ⟨K, m, gw g, ik, gk, ⟨hGw, ⟨hNB.1, hNB.2.1, (show g 14 3 + 1 ≤ 99 by omega), hNB.2.2.2⟩, hPB, hDP, hK0, h20, (show g 16 1 ≤ k + 1 by omega), hKB⟩, XS_lo e2 hX2, hM2⟩
theorem op_wind (hI : Inv k h) (a1 : Int32) : op2 m_X_wind m_M_wind [.int a1] h (Inv (k + 1)) := by
  obtain ⟨K, m, g, ik, gk, hB, hX, hM⟩ := hI
  obtain ⟨hG, hNB, hPB, hDP, hK0, h20, hlk, hKB⟩ := id hB
  have hm6 := hG.2.1
  obtain ⟨n1, n2, n3, n4, n5, n6, n7⟩ := hX.2.2.1
  have hR := hX.2.1
  rcases by_cases9 a1 with c | ⟨j, hj, rfl⟩
  · have mref : Ev mtb shp 16 m_M_wind [.ref 46, .int a1] h (qI fun w h2 => -102 = w ∧ Inv (k + 1) h2) := by
      refine e_M_wind 15 _ h _ (s_M_withinB 14 _ _ _ ?_)
      rw [show (-9 : Int32).toInt = -9 from rfl, show (9 : Int32).toInt = 9 from rfl, decide_eq_false c]
      exact n_f ⟨rfl, inv_same hB hX hM⟩
    refine e_X_wind 15 _ h _ ⟨fun _ => mref, fun z => ⟨fun z2 => ?_, fun _ => mref⟩⟩
    rw [lt_toInt, show (-9 : Int32).toInt = -9 from rfl] at z
    rw [le_toInt, show (9 : Int32).toInt = 9 from rfl] at z2
    omega
  obtain ⟨r1, r2⟩ := byI_in j hj
  have hGw : GB K m (cg (gblw g j)) := GB_blw hG j
  have hb1 : bits m (hg g) < 1024 := Nat.lt_of_lt_of_le (bits_lt _ _) (show 2 ^ m ≤ 2 ^ 10 from Nat.pow_le_pow_right (by decide) (by omega))
  have hb2 : bits m (hg (cg (gblw g j))) < 1024 := Nat.lt_of_lt_of_le (bits_lt _ _) (show 2 ^ m ≤ 2 ^ 10 from Nat.pow_le_pow_right (by decide) (by omega))
  have mside : ∀ h1, MS h1 K m g ik gk → ∀ v, (m = 0 → v = -103 ∧ Inv (k + 1) h1) → (m ≠ 0 → v = nI (cnt m (hg g)) - nI (cnt m (hg (cg (gblw g j)))) ∧ ∀ h2, (∀ i, i < 46 → h2.1 i = h1.1 i) → MS h2 K m (cg (gblw g j)) ik gk → Inv (k + 1) h2) → Ev mtb shp 16 m_M_wind [.ref 46, .int (byI j)] h1 (qI fun w h2 => v = w ∧ Inv (k + 1) h2) := by
    intro h1 hM1 v q0 q2
    obtain ⟨o1, o2, o3, o4, o5, o6⟩ := hM1.2.1
    refine e_M_wind 15 _ h1 _ (s_M_withinB 14 _ _ _ ?_)
    rw [decide_eq_true (show (-9 : Int32).toInt ≤ (byI j).toInt ∧ (byI j).toInt ≤ (9 : Int32).toInt from ⟨by rw [lt_toInt] at r1; omega, le_toInt.mp r2⟩), hM1.1.2.1]
    refine n_t (pk_ne m 0 (fun hm => s_M_hanging 13 hM1.1 hG (s_M_blow 11 hM1.1 hG hj (fun F f1 f2 => ?_))) (fun hm => q0 hm))
    obtain ⟨qa, qb⟩ := q2 hm
    have hM2 : MS (hs (hs h1 55 F) 46 (upd ((hs h1 55 F).1 46) 12 (((hs h1 55 F).1 46 12) + 1))) K m (cg (gblw g j)) ik gk := by
      refine ⟨⟨hM1.1.1, hM1.1.2.1, hM1.1.2.2.1, fun t ht => ⟨(hM1.1.2.2.2 t ht).1, (hM1.1.2.2.2 t ht).2.1, (hM1.1.2.2.2 t ht).2.2.1, (hM1.1.2.2.2 t ht).2.2.2.1, f1 t ht⟩⟩, ⟨?_, o2, o3, o4, o5, o6⟩, hM1.2.2.1, hM1.2.2.2.1, hM1.2.2.2.2.1, hM1.2.2.2.2.2.1, hM1.2.2.2.2.2.2⟩
      show h1.1 46 12 + 1 = nI (g 14 2 + 1)
      rw [o1, nI_s]
    exact s_M_hanging 13 hM2.1 hGw ⟨qa, qb _ (fun i hi => by rw [hs_off _ _ (by omega), hs_off _ _ (by omega)]) hM2⟩
  refine e_X_wind 15 _ h _ ⟨fun z => absurd z r1, fun _ => ⟨fun _ => s_X_noLine 14 hR (by omega) ?_, fun z => absurd r2 z⟩⟩
  by_cases hm0 : m = 0
  · rw [decide_eq_true hm0]
    exact z_t (mside h hM _ (fun _ => ⟨rfl, inv_same hB hX hM⟩) (fun z => absurd hm0 z))
  rw [decide_eq_false hm0]
  refine z_f (s_R_hanging 13 hR hG (s_bitCount 14 hb1 (s_R_blow 12 hR hG hj (fun F f1 => ?_))))
  have hX2 : XS (hs (hs h 13 F) 26 (upd ((hs h 13 F).1 26) 5 (((hs h 13 F).1 26 5) + 1))) K m (cg (gblw g j)) ik gk := by
    refine ⟨hX.1, ⟨hR.1, hR.2.1, fun t ht => f1 t ht⟩, ⟨?_, n2, n3, n4, n5, n6, n7⟩, hX.2.2.2.1, hX.2.2.2.2.1, hX.2.2.2.2.2.1, hX.2.2.2.2.2.2.1, hX.2.2.2.2.2.2.2⟩
    show h.1 26 5 + 1 = nI (g 14 2 + 1)
    rw [n1, nI_s]
  refine s_R_hanging 13 hX2.2.1 hGw (s_bitCount 14 hb2 ?_)
  rw [popc_bits (by omega), popc_bits (by omega)]
  refine mside _ (MS_hi (fun i hi => by rw [hs_off _ _ (by omega), hs_off _ _ (by omega)]) hM) _ (fun z => absurd z hm0) (fun _ => ⟨rfl, fun h2 e2 hM2 => ?_⟩)
  exact ⟨K, m, cg (gblw g j), ik, gk, ⟨hGw, hNB, hPB, DP_blw hDP j, hK0, h20, (show g 16 1 ≤ k + 1 by omega), hKB⟩, XS_lo e2 hX2, hM2⟩
end OPF
