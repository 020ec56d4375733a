/-! lies, tried, washing and wind -/
theorem peg_cases (a : Int32) : (¬ (-1 ≤ a.toInt ∧ a.toInt ≤ 9)) ∨ ∃ p, p ≤ 10 ∧ a = pI p := by
  by_cases c : -1 ≤ a.toInt ∧ a.toInt ≤ 9
  · refine Or.inr ⟨(a.toInt + 1).toNat, by omega, Int32.toInt_inj.mp ?_⟩
    rw [pI_toInt (by omega)]
    omega
  · exact Or.inl c
theorem by_cases9 (a : Int32) : (¬ (-9 ≤ a.toInt ∧ a.toInt ≤ 9)) ∨ ∃ j, j < 19 ∧ a = byI j := by
  by_cases c : -9 ≤ a.toInt ∧ a.toInt ≤ 9
  · refine Or.inr ⟨(a.toInt + 9).toNat, by omega, Int32.toInt_inj.mp ?_⟩
    have : ∀ j, j < 19 → (byI j).toInt = (j : Int) - 9 := by decide +kernel
    rw [this _ (by omega)]
    omega
  · exact Or.inl c
theorem byI_in : ∀ j, j < 19 → ¬ byI j < -9 ∧ byI j ≤ 9 := by decide +kernel
theorem pI_in : ∀ p, p ≤ 10 → p ≠ 0 → inR (pI p) 10 = true := by decide +kernel
section OPE
variable {k : Nat} {h : Hp}
theorem op_lies (hI : Inv k h) (a1 a2 : Int32) : op2 m_X_lies m_M_lies [.int a1, .int a2] h (Inv (k + 1)) := by
  obtain ⟨K, m, g, ik, gk, hB, hX, hM⟩ := hI
  obtain ⟨hG, hNB, hPB, hDP, hK0, h20, hlk, hKB⟩ := id hB
  have hm6 := hG.2.1
  rcases in_cases a1 m with c | ⟨s, hs0, rfl⟩
  · refine e_X_lies 15 _ _ h _ (s_X_noStocking 14 hX.2.1 (by omega) _ ?_)
    rw [c]
    refine z_t (e_M_lies 15 _ _ h _ (s_M_isStocking 13 hM.1 (by omega) _ ?_))
    rw [c]
    exact n_f ⟨rfl, inv_same hB hX hM⟩
  rcases peg_cases a2 with c | ⟨p, hp, rfl⟩
  · refine e_X_lies 15 _ _ h _ (s_X_noStocking 14 hX.2.1 (by omega) _ ?_)
    rw [inR_nI (by omega), decide_eq_true hs0]
    refine z_f (sw_out (fun e => c (by rw [e]; decide)) (s_X_noPeg 14 _ ?_))
    rw [show inR a2 10 = false from decide_eq_false (fun z => c (by omega))]
    refine z_t (e_M_lies 15 _ _ h _ (s_M_isStocking 13 hM.1 (by omega) _ ?_))
    rw [inR_nI (by omega), decide_eq_true hs0]
    refine n_t (s_M_withinB 14 _ _ _ ?_)
    rw [show (-1 : Int32).toInt = -1 from rfl, show (9 : Int32).toInt = 9 from rfl, decide_eq_false c]
    exact n_f ⟨rfl, inv_same hB hX hM⟩
  obtain ⟨n1, n2, n3, n4, n5, n6, n7⟩ := hX.2.2.1
  obtain ⟨o1, o2, o3, o4, o5, o6⟩ := hM.2.1
  have hn6 := hNB.1
  have mside : ∀ h1, MS h1 K m g ik gk → ∀ v, (g 14 0 = 6 → v = -104 ∧ Inv (k + 1) h1) → (g 14 0 < 6 → v = nI (g 14 0 + 1) ∧ Inv (k + 1) (hs (hs (hs h1 56 (upd (h1.1 56) (g 14 0) (nI s))) 57 (upd (h1.1 57) (g 14 0) (pI p))) 46 (upd (h1.1 46) 14 (nI (g 14 0 + 1))))) → Ev mtb shp 16 m_M_lies [.ref 46, .int (nI s), .int (pI p)] h1 (qI fun w h2 => v = w ∧ Inv (k + 1) h2) := by
    intro h1 hM1 v q0 q1
    refine e_M_lies 15 _ _ h1 _ (s_M_isStocking 13 hM1.1 (by omega) _ ?_)
    rw [inR_nI (by omega), decide_eq_true hs0]
    refine n_t (s_M_withinB 14 _ _ _ ?_)
    rw [show (-1 : Int32).toInt = -1 from rfl, show (9 : Int32).toInt = 9 from rfl, pI_toInt (by omega), decide_eq_true (by omega), hM1.2.1.2.2.1, nI_clamp (by omega), nI_s]
    exact n_t (pk_ne (g 14 0) 6 (fun c => ⟨vp_in_nI (by omega) (by decide), vp_in_nI (by omega) (by decide), (q1 (by omega)).1, (q1 (by omega)).2⟩) (fun c => q0 c))
  have core : ((h.1 26 7) < 6 → Ev mtb shp 15 m_N_addLie [.ref 26, .int (nI s), .int (pI p)] h (qV fun h3 => Ev mtb shp 16 m_M_lies [.ref 46, .int (nI s), .int (pI p)] h3 (qI fun w h2 => (h3.1 26 7) = w ∧ Inv (k + 1) h2))) ∧ (¬ (h.1 26 7) < 6 → Ev mtb shp 16 m_M_lies [.ref 46, .int (nI s), .int (pI p)] h (qI fun w h2 => -104 = w ∧ Inv (k + 1) h2)) := by
    rw [n3]
    refine pk_lt (g 14 0) 6 (fun c => e_N_addLie 14 _ _ h _ ?_) (fun c => mside h hM _ (fun _ => ⟨rfl, inv_same hB hX hM⟩) (fun z => by omega))
    rw [n3, nI_clamp (by omega), nI_s]
    refine ⟨vp_in_nI c (by decide), vp_in_nI c (by decide), ?_⟩
    have hX1 : XS (hs (hs (hs h 27 (upd (h.1 27) (g 14 0) (nI s))) 28 (upd (h.1 28) (g 14 0) (pI p))) 26 (upd (h.1 26) 7 (nI (g 14 0 + 1)))) K m (gset (gset (gset g 9 (g 14 0) s) 10 (g 14 0) p) 14 0 (g 14 0 + 1)) ik gk := by
      refine ⟨hX.1, hX.2.1, ⟨n1, n2, rfl, n4, fun i hi => ?_, n6, n7⟩, hX.2.2.2.1, hX.2.2.2.2.1, hX.2.2.2.2.2.1, hX.2.2.2.2.2.2.1, hX.2.2.2.2.2.2.2⟩
      have hi : i < g 14 0 + 1 := hi
      show upd (h.1 27) (g 14 0) (nI s) i = nI (gset g 9 (g 14 0) s 9 i) ∧ upd (h.1 28) (g 14 0) (pI p) i = pI (gset g 10 (g 14 0) p 10 i)
      by_cases e : i = g 14 0
      · rw [e, pk_us, pk_us, gset_s, gset_s]; exact ⟨rfl, rfl⟩
      · exact ⟨ug (n5 i (by omega)).1, ugp (n5 i (by omega)).2⟩
    have hM1 : MS (hs (hs (hs h 27 (upd (h.1 27) (g 14 0) (nI s))) 28 (upd (h.1 28) (g 14 0) (pI p))) 26 (upd (h.1 26) 7 (nI (g 14 0 + 1)))) K m g ik gk := MS_hi (fun i hi => by rw [hs_off _ _ (by omega), hs_off _ _ (by omega), hs_off _ _ (by omega)]) hM
    refine mside _ hM1 _ (fun z => by omega) (fun _ => ⟨rfl, K, m, gset (gset (gset g 9 (g 14 0) s) 10 (g 14 0) p) 14 0 (g 14 0 + 1), ik, gk, ⟨hG, ⟨(show g 14 0 + 1 ≤ 6 by omega), hNB.2.1, hNB.2.2.1, fun i hi => ?_, hNB.2.2.2.2⟩, hPB, hDP, hK0, h20, (show g 16 1 ≤ k + 1 by omega), hKB⟩, XS_lo (fun i hi => by rw [hs_off _ _ (by omega), hs_off _ _ (by omega), hs_off _ _ (by omega)]) hX1, ?_⟩)
    · have hi : i < g 14 0 + 1 := hi
      show gset g 9 (g 14 0) s 9 i < m ∧ gset g 10 (g 14 0) p 10 i ≤ 10
      by_cases e : i = g 14 0
      · rw [e, gset_s, gset_s]; exact ⟨hs0, hp⟩
      · rw [gset_n _ _ e, gset_n _ _ e]; exact hNB.2.2.2.1 i (by omega)
    · refine ⟨hM1.1, ⟨o1, o2, rfl, o4, fun i hi => ?_, o6⟩, hM1.2.2.1, hM1.2.2.2.1, hM1.2.2.2.2.1, hM1.2.2.2.2.2.1, hM1.2.2.2.2.2.2⟩
      have hi : i < g 14 0 + 1 := hi
      show upd (h.1 56) (g 14 0) (nI s) i = nI (gset g 9 (g 14 0) s 9 i) ∧ upd (h.1 57) (g 14 0) (pI p) i = pI (gset g 10 (g 14 0) p 10 i)
      by_cases e : i = g 14 0
      · rw [e, pk_us, pk_us, gset_s, gset_s]; exact ⟨rfl, rfl⟩
      · exact ⟨ug (o5 i (by omega)).1, ugp (o5 i (by omega)).2⟩
  refine e_X_lies 15 _ _ h _ (s_X_noStocking 14 hX.2.1 (by omega) _ ?_)
  rw [inR_nI (by omega), decide_eq_true hs0]
  refine z_f (pI_br (by omega) (fun _ => core) (fun e => s_X_noPeg 14 _ ?_))
  rw [pI_in p hp e]
  exact z_f core
theorem op_tryOn (hI : Inv k h) (a1 a2 a3 : Int32) : op2 m_X_tryOn m_M_tryOn [.int a1, .int a2, .int (if a3 = 0 then 0 else 1)] h (Inv (k + 1)) := by
  obtain ⟨b, hb, hv⟩ : ∃ b, b < 2 ∧ (if a3 = 0 then (0 : Int32) else 1) = nI b := by
    by_cases c : a3 = 0
    · exact ⟨0, by decide, by rw [if_pos c]; rfl⟩
    · exact ⟨1, by decide, by rw [if_neg c]; rfl⟩
  rw [hv]
  clear hv
  obtain ⟨K, m, g, ik, gk, hB, hX, hM⟩ := hI
  obtain ⟨hG, hNB, hPB, hDP, hK0, h20, hlk, hKB⟩ := id hB
  have hm6 := hG.2.1
  have hK4 := hG.1
  rcases in_cases a1 K with c | ⟨j, hj, rfl⟩
  · refine e_X_tryOn 15 _ _ _ h _ (s_X_noKing 14 hX.1 (by omega) _ ?_)
    rw [c]
    refine n_t (e_M_tryOn 15 _ _ _ h _ (s_M_isKing 13 hM.1 (by omega) _ ?_))
    rw [c]
    exact z_f ⟨rfl, inv_same hB hX hM⟩
  rcases in_cases a2 m with c | ⟨s, hs0, rfl⟩
  · refine e_X_tryOn 15 _ _ _ h _ (s_X_noKing 14 hX.1 (by omega) _ ?_)
    rw [inR_nI (by omega), decide_eq_true hj]
    refine n_f (s_X_noStocking 14 hX.2.1 (by omega) _ ?_)
    rw [c]
    refine z_t (e_M_tryOn 15 _ _ _ h _ (s_M_isKing 13 hM.1 (by omega) _ ?_))
    rw [inR_nI (by omega), decide_eq_true hj]
    refine z_t (s_M_isStocking 13 hM.1 (by omega) _ ?_)
    rw [c]
    exact n_f ⟨rfl, inv_same hB hX hM⟩
  obtain ⟨n1, n2, n3, n4, n5, n6, n7⟩ := hX.2.2.1
  obtain ⟨o1, o2, o3, o4, o5, o6⟩ := hM.2.1
  have hn8 := hNB.2.1
  have hbn : vp_nar .boolean (nI b) = nI b := by
    rcases (show b = 0 ∨ b = 1 by omega) with rfl | rfl <;> rfl
  have mside : ∀ h1, MS h1 K m g ik gk → ∀ v, (g 14 1 = 8 → v = -104 ∧ Inv (k + 1) h1) → (g 14 1 < 8 → v = nI (g 14 1 + 1) ∧ Inv (k + 1) (hs (hs (hs (hs h1 58 (upd (h1.1 58) (g 14 1) (nI j))) 59 (upd (h1.1 59) (g 14 1) (nI s))) 60 (upd (h1.1 60) (g 14 1) (nI b))) 46 (upd (h1.1 46) 17 (nI (g 14 1 + 1))))) → Ev mtb shp 16 m_M_tryOn [.ref 46, .int (nI j), .int (nI s), .int (nI b)] h1 (qI fun w h2 => v = w ∧ Inv (k + 1) h2) := by
    intro h1 hM1 v q0 q1
    refine e_M_tryOn 15 _ _ _ h1 _ (s_M_isKing 13 hM1.1 (by omega) _ ?_)
    rw [inR_nI (by omega), decide_eq_true hj]
    refine z_t (s_M_isStocking 13 hM1.1 (by omega) _ ?_)
    rw [inR_nI (by omega), decide_eq_true hs0, hM1.2.1.2.2.2.1, nI_clamp (by omega), nI_s]
    refine n_t (pk_ne (g 14 1) 8 (fun c => ?_) (fun c => q0 c))
    have v8 := vp_in_nI (show g 14 1 < 8 by omega) (by decide)
    obtain ⟨qa, qb⟩ := q1 (by omega)
    refine ⟨v8, v8, pk_eq b 0 (fun e => ⟨v8, qa, ?_⟩) (fun e => ⟨v8, qa, ?_⟩)⟩
    · rw [e] at qb; exact qb
    · rw [show b = 1 by omega] at qb; exact qb
  refine e_X_tryOn 15 _ _ _ h _ (s_X_noKing 14 hX.1 (by omega) _ ?_)
  rw [inR_nI (by omega), decide_eq_true hj]
  refine n_f (s_X_noStocking 14 hX.2.1 (by omega) _ ?_)
  rw [inR_nI (by omega), decide_eq_true hs0, n4]
  refine z_f (pk_lt (g 14 1) 8 (fun c => e_N_addTried 14 _ _ _ h _ ?_) (fun c => mside h hM _ (fun _ => ⟨rfl, inv_same hB hX hM⟩) (fun z => by omega)))
  rw [n4, nI_clamp (by omega), nI_s, hbn]
  refine ⟨vp_in_nI c (by decide), vp_in_nI c (by decide), vp_in_nI c (by decide), ?_⟩
  have hX1 : XS (hs (hs (hs (hs h 29 (upd (h.1 29) (g 14 1) (nI j))) 30 (upd (h.1 30) (g 14 1) (nI s))) 31 (upd (h.1 31) (g 14 1) (nI b))) 26 (upd (h.1 26) 8 (nI (g 14 1 + 1)))) K m (gset (gset (gset (gset g 11 (g 14 1) j) 12 (g 14 1) s) 13 (g 14 1) b) 14 1 (g 14 1 + 1)) ik gk := by
    refine ⟨hX.1, hX.2.1, ⟨n1, n2, n3, rfl, n5, fun i hi => ?_, fun i hi => ?_⟩, hX.2.2.2.1, hX.2.2.2.2.1, hX.2.2.2.2.2.1, hX.2.2.2.2.2.2.1, hX.2.2.2.2.2.2.2⟩
    · have hi : i < g 14 1 + 1 := hi
      show upd (h.1 29) (g 14 1) (nI j) i = nI (gset g 11 (g 14 1) j 11 i) ∧ upd (h.1 30) (g 14 1) (nI s) i = nI (gset g 12 (g 14 1) s 12 i) ∧ upd (h.1 31) (g 14 1) (nI b) i = nI (gset g 13 (g 14 1) b 13 i)
      by_cases e : i = g 14 1
      · rw [e, pk_us, pk_us, pk_us, gset_s, gset_s, gset_s]; exact ⟨rfl, rfl, rfl⟩
      · exact ⟨ug (n6 i (by omega)).1, ug (n6 i (by omega)).2.1, ug (n6 i (by omega)).2.2⟩
    · show upd (h.1 31) (g 14 1) (nI b) i = 0 ∨ upd (h.1 31) (g 14 1) (nI b) i = 1
      by_cases e : i = g 14 1
      · rw [e, pk_us]
        rcases (show b = 0 ∨ b = 1 by omega) with rfl | rfl
        · exact Or.inl rfl
        · exact Or.inr rfl
      · rw [pk_un e]; exact n7 i hi
  have hM1 : MS (hs (hs (hs (hs h 29 (upd (h.1 29) (g 14 1) (nI j))) 30 (upd (h.1 30) (g 14 1) (nI s))) 31 (upd (h.1 31) (g 14 1) (nI b))) 26 (upd (h.1 26) 8 (nI (g 14 1 + 1)))) K m g ik gk := MS_hi (fun i hi => by rw [hs_off _ _ (by omega), hs_off _ _ (by omega), hs_off _ _ (by omega), hs_off _ _ (by omega)]) hM
  refine mside _ hM1 _ (fun z => by omega) (fun _ => ⟨rfl, K, m, gset (gset (gset (gset g 11 (g 14 1) j) 12 (g 14 1) s) 13 (g 14 1) b) 14 1 (g 14 1 + 1), ik, gk, ⟨hG, ⟨hNB.1, (show g 14 1 + 1 ≤ 8 by omega), hNB.2.2.1, hNB.2.2.2.1, fun i hi => ?_⟩, hPB, hDP, hK0, h20, (show g 16 1 ≤ k + 1 by omega), hKB⟩, XS_lo (fun i hi => by rw [hs_off _ _ (by omega), hs_off _ _ (by omega), hs_off _ _ (by omega), hs_off _ _ (by omega)]) hX1, ?_⟩)
  · have hi : i < g 14 1 + 1 := hi
    show gset g 11 (g 14 1) j 11 i < K ∧ gset g 12 (g 14 1) s 12 i < m ∧ gset g 13 (g 14 1) b 13 i < 2
    by_cases e : i = g 14 1
    · rw [e, gset_s, gset_s, gset_s]; exact ⟨hj, hs0, hb⟩
    · rw [gset_n _ _ e, gset_n _ _ e, gset_n _ _ e]; exact hNB.2.2.2.2 i (by omega)
  · refine ⟨hM1.1, ⟨o1, o2, o3, rfl, o5, fun i hi => ?_⟩, hM1.2.2.1, hM1.2.2.2.1, hM1.2.2.2.2.1, hM1.2.2.2.2.2.1, hM1.2.2.2.2.2.2⟩
    have hi : i < g 14 1 + 1 := hi
    show upd (h.1 58) (g 14 1) (nI j) i = nI (gset g 11 (g 14 1) j 11 i) ∧ upd (h.1 59) (g 14 1) (nI s) i = nI (gset g 12 (g 14 1) s 12 i) ∧ upd (h.1 60) (g 14 1) (nI b) i = nI (gset g 13 (g 14 1) b 13 i)
    by_cases e : i = g 14 1
    · rw [e, pk_us, pk_us, pk_us, gset_s, gset_s, gset_s]; exact ⟨rfl, rfl, rfl⟩
    · exact ⟨ug (o6 i (by omega)).1, ug (o6 i (by omega)).2.1, ug (o6 i (by omega)).2.2⟩
end OPE
