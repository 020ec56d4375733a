/-! the calls that change little: letters, what lies, what is tried -/
theorem ug {f : Nat → Int32} {g : Gs} {r s x t : Nat} (e : f t = nI (g r t)) : upd f s (nI x) t = nI (gset g r s x r t) := by
  by_cases c : t = s
  · rw [c, pk_us, gset_s]
  · rw [pk_un c, gset_n _ _ c]; exact e
theorem ugp {f : Nat → Int32} {g : Gs} {r s x t : Nat} (e : f t = pI (g r t)) : upd f s (pI x) t = pI (gset g r s x r t) := by
  by_cases c : t = s
  · rw [c, pk_us, gset_s]
  · rw [pk_un c, gset_n _ _ c]; exact e
theorem gs_lt {g : Gs} {r s x t B : Nat} (hx : x < B) (e : g r t < B) : gset g r s x r t < B := by
  by_cases c : t = s
  · rw [c, gset_s]; exact hx
  · rw [gset_n _ _ c]; exact e
section OPC2
variable {k : Nat} {h : Hp}
theorem op_blank (hI : Inv k h) : op2 m_X_blank m_M_blank [] h (Inv (k + 1)) := by
  obtain ⟨K, m, g, ik, gk, hB, hX, hM⟩ := hI
  obtain ⟨hG, hNB, hPB, hDP, hK0, h20, hlk, hKB⟩ := id hB
  refine e_X_blank 15 h _ (e_M_blank 15 _ _ ⟨?_, ?_⟩)
  · show h.1 1 1 = h.1 46 22
    rw [hX.2.2.2.1.1, hM.2.2.1.1]
  · have hX1 : XS (hs h 1 (upd (h.1 1) 1 0)) K m (gset g 16 0 0) ik gk := ⟨hX.1, hX.2.1, hX.2.2.1, ⟨rfl, fun i hi => absurd hi (Nat.not_lt_zero i)⟩, hX.2.2.2.2.1, hX.2.2.2.2.2.1, hX.2.2.2.2.2.2.1, hX.2.2.2.2.2.2.2⟩
    have hM1 : MS (hs h 1 (upd (h.1 1) 1 0)) K m g ik gk := MS_hi (fun i hi => hs_off _ _ (by omega)) hM
    refine ⟨K, m, gset g 16 0 0, ik, gk, ⟨hG, hNB, ⟨Nat.zero_le _, fun i hi => absurd hi (Nat.not_lt_zero i)⟩, hDP, hK0, h20, (show g 16 1 ≤ k + 1 by omega), hKB⟩, XS_lo (fun i hi => hs_off _ _ (by omega)) hX1, ?_⟩
    exact ⟨hM1.1, hM1.2.1, ⟨rfl, fun i hi => absurd hi (Nat.not_lt_zero i)⟩, hM1.2.2.2.1, hM1.2.2.2.2.1, hM1.2.2.2.2.2.1, hM1.2.2.2.2.2.2⟩
theorem op_sweep (hI : Inv k h) : op2 m_X_sweep m_M_sweep [] h (Inv (k + 1)) := by
  obtain ⟨K, m, g, ik, gk, hB, hX, hM⟩ := hI
  obtain ⟨hG, hNB, hPB, hDP, hK0, h20, hlk, hKB⟩ := id hB
  obtain ⟨n1, n2, n3, n4, n5, n6, n7⟩ := hX.2.2.1
  obtain ⟨o1, o2, o3, o4, o5, o6⟩ := hM.2.1
  refine e_X_sweep 15 h _ (e_M_sweep 15 _ _ ⟨?_, ?_⟩)
  · show h.1 26 7 = h.1 46 14
    rw [n3, o3]
  · have hX1 : XS (hs h 26 (upd (h.1 26) 7 0)) K m (gset g 14 0 0) ik gk := ⟨hX.1, hX.2.1, ⟨n1, n2, rfl, n4, fun i hi => absurd hi (Nat.not_lt_zero i), n6, n7⟩, hX.2.2.2.1, hX.2.2.2.2.1, hX.2.2.2.2.2.1, hX.2.2.2.2.2.2.1, hX.2.2.2.2.2.2.2⟩
    have hM1 : MS (hs h 26 (upd (h.1 26) 7 0)) K m g ik gk := MS_hi (fun i hi => hs_off _ _ (by omega)) hM
    refine ⟨K, m, gset g 14 0 0, ik, gk, ⟨hG, ⟨Nat.zero_le _, hNB.2.1, hNB.2.2.1, fun i hi => absurd hi (Nat.not_lt_zero i), hNB.2.2.2.2⟩, hPB, hDP, hK0, h20, (show g 16 1 ≤ k + 1 by omega), hKB⟩, XS_lo (fun i hi => hs_off _ _ (by omega)) hX1, ?_⟩
    exact ⟨hM1.1, ⟨o1, o2, rfl, o4, fun i hi => absurd hi (Nat.not_lt_zero i), o6⟩, hM1.2.2.1, hM1.2.2.2.1, hM1.2.2.2.2.1, hM1.2.2.2.2.2.1, hM1.2.2.2.2.2.2⟩
theorem op_forget (hI : Inv k h) : op2 m_X_forget m_M_forget [] h (Inv (k + 1)) := by
  obtain ⟨K, m, g, ik, gk, hB, hX, hM⟩ := hI
  obtain ⟨hG, hNB, hPB, hDP, hK0, h20, hlk, hKB⟩ := id hB
  obtain ⟨n1, n2, n3, n4, n5, n6, n7⟩ := hX.2.2.1
  obtain ⟨o1, o2, o3, o4, o5, o6⟩ := hM.2.1
  refine e_X_forget 15 h _ (e_M_forget 15 _ _ ⟨?_, ?_⟩)
  · show h.1 26 8 = h.1 46 17
    rw [n4, o4]
  · have hX1 : XS (hs h 26 (upd (h.1 26) 8 0)) K m (gset g 14 1 0) ik gk := ⟨hX.1, hX.2.1, ⟨n1, n2, n3, rfl, n5, fun i hi => absurd hi (Nat.not_lt_zero i), n7⟩, hX.2.2.2.1, hX.2.2.2.2.1, hX.2.2.2.2.2.1, hX.2.2.2.2.2.2.1, hX.2.2.2.2.2.2.2⟩
    have hM1 : MS (hs h 26 (upd (h.1 26) 8 0)) K m g ik gk := MS_hi (fun i hi => hs_off _ _ (by omega)) hM
    refine ⟨K, m, gset g 14 1 0, ik, gk, ⟨hG, ⟨hNB.1, Nat.zero_le _, hNB.2.2.1, hNB.2.2.2.1, fun i hi => absurd hi (Nat.not_lt_zero i)⟩, hPB, hDP, hK0, h20, (show g 16 1 ≤ k + 1 by omega), hKB⟩, XS_lo (fun i hi => hs_off _ _ (by omega)) hX1, ?_⟩
    exact ⟨hM1.1, ⟨o1, o2, o3, rfl, o5, fun i hi => absurd hi (Nat.not_lt_zero i)⟩, hM1.2.2.1, hM1.2.2.2.1, hM1.2.2.2.2.1, hM1.2.2.2.2.2.1, hM1.2.2.2.2.2.2⟩
theorem op_letter (hI : Inv k h) (a1 : Int32) : op2 m_X_letter m_M_letter [.int a1] h (Inv (k + 1)) := by
  obtain ⟨K, m, g, ik, gk, hB, hX, hM⟩ := hI
  obtain ⟨hG, hNB, hPB, hDP, hK0, h20, hlk, hKB⟩ := id hB
  have mref : ¬ (32 ≤ a1.toInt ∧ a1.toInt ≤ 126) → Ev mtb shp 16 m_M_letter [.ref 46, .int a1] h (qI fun w h2 => -102 = w ∧ Inv (k + 1) h2) := by
    intro hn
    refine e_M_letter 15 _ h _ (s_M_withinB 14 _ _ _ ?_)
    rw [show (32 : Int32).toInt = 32 from rfl, show (126 : Int32).toInt = 126 from rfl, decide_eq_false hn]
    exact n_f ⟨rfl, inv_same hB hX hM⟩
  refine e_X_letter 15 _ h _ ⟨fun z => mref ?_, fun z => ⟨fun z2 => ?_, fun z2 => mref ?_⟩⟩
  · rw [lt_toInt, show (32 : Int32).toInt = 32 from rfl] at z; omega
  · rw [lt_toInt, show (32 : Int32).toInt = 32 from rfl] at z
    rw [le_toInt, show (126 : Int32).toInt = 126 from rfl] at z2
    obtain ⟨c, hc, ec, rfl⟩ := nI_of0 (a := a1) (by omega)
    have hP1 := hPB.1
    rw [hX.2.2.2.1.1]
    refine pk_lt (g 16 0) 52 (fun hn => ⟨vp_in_nI hn (by decide), ?_⟩) (fun hn => ?_)
    · rw [nI_clamp (by omega), nI_s]
      have hX1 : XS (hs (hs h 2 (upd (h.1 2) (g 16 0) (nI c))) 1 (upd (h.1 1) 1 (nI (g 16 0 + 1)))) K m (gset (gset g 15 (g 16 0) c) 16 0 (g 16 0 + 1)) ik gk := by
        refine ⟨hX.1, hX.2.1, hX.2.2.1, ⟨rfl, fun i hi => ?_⟩, hX.2.2.2.2.1, hX.2.2.2.2.2.1, hX.2.2.2.2.2.2.1, hX.2.2.2.2.2.2.2⟩
        have hi : i < g 16 0 + 1 := hi
        show upd (h.1 2) (g 16 0) (nI c) i = nI (gset g 15 (g 16 0) c 15 i)
        by_cases e : i = g 16 0
        · rw [e, pk_us, gset_s]
        · rw [pk_un e, gset_n _ _ e]
          exact hX.2.2.2.1.2 i (by omega)
      have hM1 : MS (hs (hs h 2 (upd (h.1 2) (g 16 0) (nI c))) 1 (upd (h.1 1) 1 (nI (g 16 0 + 1)))) K m g ik gk := MS_hi (fun i hi => by rw [hs_off _ _ (by omega), hs_off _ _ (by omega)]) hM
      refine e_M_letter 15 _ _ _ (s_M_withinB 14 _ _ _ ?_)
      rw [show (32 : Int32).toInt = 32 from rfl, show (126 : Int32).toInt = 126 from rfl, decide_eq_true (by omega), hM1.2.2.1.1]
      refine n_t (pk_ne (g 16 0) 52 (fun _ => ⟨vp_in_nI hn (by decide), ?_⟩) (fun z => by omega))
      rw [nI_clamp (by omega), nI_s, i2b_s (by omega), show vp_nar .byte (nI c) = nI c from i2b_s (by omega)]
      refine ⟨rfl, K, m, gset (gset g 15 (g 16 0) c) 16 0 (g 16 0 + 1), ik, gk, ⟨hG, hNB, ⟨(show g 16 0 + 1 ≤ 52 by omega), fun i hi => ?_⟩, hDP, hK0, h20, (show g 16 1 ≤ k + 1 by omega), hKB⟩, XS_lo (fun i hi => by rw [hs_off _ _ (by omega), hs_off _ _ (by omega)]) hX1, ?_⟩
      · have hi : i < g 16 0 + 1 := hi
        show 32 ≤ gset g 15 (g 16 0) c 15 i ∧ gset g 15 (g 16 0) c 15 i ≤ 126
        by_cases e : i = g 16 0
        · rw [e, gset_s]; omega
        · rw [gset_n _ _ e]
          exact hPB.2 i (by omega)
      · refine ⟨hM1.1, hM1.2.1, ⟨rfl, fun i hi => ?_⟩, hM1.2.2.2.1, hM1.2.2.2.2.1, hM1.2.2.2.2.2.1, hM1.2.2.2.2.2.2⟩
        have hi : i < g 16 0 + 1 := hi
        show upd (h.1 61) (g 16 0) (nI c) i = nI (gset g 15 (g 16 0) c 15 i)
        by_cases e : i = g 16 0
        · rw [e, pk_us, gset_s]
        · rw [pk_un e, gset_n _ _ e]
          exact hM.2.2.1.2 i (by omega)
    · refine e_M_letter 15 _ h _ (s_M_withinB 14 _ _ _ ?_)
      rw [show (32 : Int32).toInt = 32 from rfl, show (126 : Int32).toInt = 126 from rfl, decide_eq_true (by omega), hM.2.2.1.1]
      exact n_t (pk_ne (g 16 0) 52 (fun z => by omega) (fun _ => ⟨rfl, inv_same hB hX hM⟩))
  · rw [le_toInt, show (126 : Int32).toInt = 126 from rfl] at z2; omega
end OPC2
