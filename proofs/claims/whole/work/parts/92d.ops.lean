/-! the calls that change: starch, darn, drop, pin, lies, tried -/
section OPD
variable {k : Nat} {h : Hp}
theorem op_starch (hI : Inv k h) (a1 a2 : Int32) : op2 m_X_starch m_M_starch [.int a1, .int a2] h (Inv (k + 1)) := by
  obtain ⟨K, m, g, ik, gk, hB, hX, hM⟩ := hI
  obtain ⟨hG, hNB, hPB, hDP, hK0, h20, hlk, hKB⟩ := id hB
  have hm6 := hG.2.1
  rcases in_cases a1 m with c | ⟨s, hs0, rfl⟩
  · refine e_X_starch 15 _ _ h _ (s_X_noStocking 14 hX.2.1 (by omega) _ ?_)
    rw [c]
    refine z_t (e_M_starch 15 _ _ h _ (s_M_isStocking 13 hM.1 (by omega) _ ?_))
    rw [c]
    exact n_f ⟨rfl, inv_same hB hX hM⟩
  rcases in_cases a2 5 with c | ⟨x, hx, rfl⟩
  · refine e_X_starch 15 _ _ h _ (s_X_noStocking 14 hX.2.1 (by omega) _ ?_)
    rw [inR_nI (by omega), decide_eq_true hs0]
    refine z_f (out_lt (n := 5) c (by decide) ?_)
    refine e_M_starch 15 _ _ h _ (s_M_isStocking 13 hM.1 (by omega) _ ?_)
    rw [inR_nI (by omega), decide_eq_true hs0]
    refine n_t (s_M_within (n := 5) 14 _ (by decide) ?_)
    rw [c]
    exact n_f ⟨rfl, inv_same hB hX hM⟩
  have v6 := vp_in_nI (show s < 6 by omega) (by decide)
  have hR := hX.2.1
  obtain ⟨n1, n2, n3, n4, n5, n6, n7⟩ := hX.2.2.1
  obtain ⟨o1, o2, o3, o4, o5, o6⟩ := hM.2.1
  refine e_X_starch 15 _ _ h _ (s_X_noStocking 14 hR (by omega) _ ?_)
  rw [inR_nI (by omega), decide_eq_true hs0, nI_clamp (show s < 2 ^ 31 by omega), (hR.2.1 s hs0).2.1, n1, nI_s]
  refine z_f ⟨fun z => absurd z (nI_pos (by omega)), fun _ => pk_lt x 5 (fun _ => ⟨v6, v6, ?_⟩) (fun z => by omega)⟩
  have hX1 : XS (hs (hs h 10 (upd (h.1 10) s (nI x))) 26 (upd (h.1 26) 5 (nI (g 14 2 + 1)))) K m (cg (gset g 5 s x)) ik gk := by
    refine ⟨hX.1, ⟨hR.1, fun t ht => ⟨(hR.2.1 t ht).1, ?_, (hR.2.1 t ht).2.2.1, (hR.2.1 t ht).2.2.2⟩, hR.2.2⟩, ⟨rfl, n2, n3, n4, n5, n6, n7⟩, hX.2.2.2.1, hX.2.2.2.2.1, hX.2.2.2.2.2.1, hX.2.2.2.2.2.2.1, hX.2.2.2.2.2.2.2⟩
    exact ug (hR.2.1 t ht).2.1
  have hM1 : MS (hs (hs h 10 (upd (h.1 10) s (nI x))) 26 (upd (h.1 26) 5 (nI (g 14 2 + 1)))) K m g ik gk := MS_hi (fun i hi => by rw [hs_off _ _ (by omega), hs_off _ _ (by omega)]) hM
  refine e_M_starch 15 _ _ _ _ (s_M_isStocking 13 hM1.1 (by omega) _ ?_)
  rw [inR_nI (by omega), decide_eq_true hs0]
  refine n_t (s_M_within (n := 5) 14 _ (by decide) ?_)
  rw [inR_nI (by omega), decide_eq_true hx, nI_clamp (show s < 2 ^ 31 by omega), (hM1.1.2.2.2 s hs0).2.1, hM1.2.1.1, nI_s]
  refine n_t ⟨v6, v6, rfl, K, m, cg (gset g 5 s x), ik, gk, ⟨⟨hG.1, hG.2.1, hG.2.2.1, fun t ht => ⟨(hG.2.2.2.1 t ht).1, gs_lt hx (hG.2.2.2.1 t ht).2.1, (hG.2.2.2.1 t ht).2.2⟩, hG.2.2.2.2⟩, hNB, hPB, hDP, hK0, h20, (show g 16 1 ≤ k + 1 by omega), hKB⟩, XS_lo (fun i hi => by rw [hs_off _ _ (by omega), hs_off _ _ (by omega)]) hX1, ?_⟩
  refine ⟨⟨hM1.1.1, hM1.1.2.1, hM1.1.2.2.1, fun t ht => ⟨(hM1.1.2.2.2 t ht).1, ?_, (hM1.1.2.2.2 t ht).2.2.1, (hM1.1.2.2.2 t ht).2.2.2⟩⟩, ⟨rfl, o2, o3, o4, o5, o6⟩, hM1.2.2.1, hM1.2.2.2.1, hM1.2.2.2.2.1, hM1.2.2.2.2.2.1, hM1.2.2.2.2.2.2⟩
  exact ug (hM.1.2.2.2 t ht).2.1
theorem op_darn (hI : Inv k h) (a1 : Int32) : op2 m_X_darn m_M_darn [.int a1] h (Inv (k + 1)) := by
  obtain ⟨K, m, g, ik, gk, hB, hX, hM⟩ := hI
  obtain ⟨hG, hNB, hPB, hDP, hK0, h20, hlk, hKB⟩ := id hB
  have hm6 := hG.2.1
  rcases in_cases a1 m with c | ⟨s, hs0, rfl⟩
  · refine e_X_darn 15 _ h _ (s_X_noStocking 14 hX.2.1 (by omega) _ ?_)
    rw [c]
    refine z_t (e_M_darn 15 _ h _ (s_M_isStocking 13 hM.1 (by omega) _ ?_))
    rw [c]
    exact n_f ⟨rfl, inv_same hB hX hM⟩
  have v6 := vp_in_nI (show s < 6 by omega) (by decide)
  have hR := hX.2.1
  obtain ⟨n1, n2, n3, n4, n5, n6, n7⟩ := hX.2.2.1
  obtain ⟨o1, o2, o3, o4, o5, o6⟩ := hM.2.1
  refine e_X_darn 15 _ h _ (s_X_noStocking 14 hR (by omega) _ ?_)
  rw [inR_nI (by omega), decide_eq_true hs0, nI_clamp (show s < 2 ^ 31 by omega), (hR.2.1 s hs0).2.2.2, n1, nI_s]
  refine z_f ⟨v6, v6, ?_⟩
  have hX1 : XS (hs (hs h 12 (upd (h.1 12) s (nI 0))) 26 (upd (h.1 26) 5 (nI (g 14 2 + 1)))) K m (cg (gset g 7 s 0)) ik gk := by
    refine ⟨hX.1, ⟨hR.1, fun t ht => ⟨(hR.2.1 t ht).1, (hR.2.1 t ht).2.1, (hR.2.1 t ht).2.2.1, ?_⟩, hR.2.2⟩, ⟨rfl, n2, n3, n4, n5, n6, n7⟩, hX.2.2.2.1, hX.2.2.2.2.1, hX.2.2.2.2.2.1, hX.2.2.2.2.2.2.1, hX.2.2.2.2.2.2.2⟩
    exact ug (hR.2.1 t ht).2.2.2
  have hM1 : MS (hs (hs h 12 (upd (h.1 12) s (nI 0))) 26 (upd (h.1 26) 5 (nI (g 14 2 + 1)))) K m g ik gk := MS_hi (fun i hi => by rw [hs_off _ _ (by omega), hs_off _ _ (by omega)]) hM
  refine e_M_darn 15 _ (hs (hs h 12 (upd (h.1 12) s (nI 0))) 26 (upd (h.1 26) 5 (nI (g 14 2 + 1)))) _ (s_M_isStocking 13 hM1.1 (by omega) _ ?_)
  rw [inR_nI (by omega), decide_eq_true hs0, nI_clamp (show s < 2 ^ 31 by omega), (hM1.1.2.2.2 s hs0).2.2.2.1, hM1.2.1.1, nI_s]
  refine n_t ⟨v6, v6, rfl, K, m, cg (gset g 7 s 0), ik, gk, ⟨⟨hG.1, hG.2.1, hG.2.2.1, fun t ht => ⟨(hG.2.2.2.1 t ht).1, (hG.2.2.2.1 t ht).2.1, (hG.2.2.2.1 t ht).2.2.1, gs_lt (by decide) (hG.2.2.2.1 t ht).2.2.2⟩, hG.2.2.2.2⟩, hNB, hPB, hDP, hK0, h20, (show g 16 1 ≤ k + 1 by omega), hKB⟩, XS_lo (fun i hi => by rw [hs_off _ _ (by omega), hs_off _ _ (by omega)]) hX1, ?_⟩
  refine ⟨⟨hM1.1.1, hM1.1.2.1, hM1.1.2.2.1, fun t ht => ⟨(hM1.1.2.2.2 t ht).1, (hM1.1.2.2.2 t ht).2.1, (hM1.1.2.2.2 t ht).2.2.1, ?_, (hM1.1.2.2.2 t ht).2.2.2.2⟩⟩, ⟨rfl, o2, o3, o4, o5, o6⟩, hM1.2.2.1, hM1.2.2.2.1, hM1.2.2.2.2.1, hM1.2.2.2.2.2.1, hM1.2.2.2.2.2.2⟩
  exact ug (x := 0) (hM.1.2.2.2 t ht).2.2.2.1
/-- a stocking's peg is another: what holds of it -/
theorem GB_peg {K m : Nat} {g : Gs} (hG : GB K m g) {s p : Nat} (hs0 : s < m) (hp : p ≤ 10) : GB K m (cg (gset g 8 s p)) := by
  refine ⟨hG.1, hG.2.1, hG.2.2.1, hG.2.2.2.1, fun t => ?_, fun t ht => ?_⟩
  · show gset g 8 s p 8 t ≤ 10
    by_cases c : t = s
    · rw [c, gset_s]; exact hp
    · rw [gset_n _ _ c]; exact hG.2.2.2.2.1 t
  · show gset g 8 s p 8 t = 0
    rw [gset_n _ _ (by omega)]; exact hG.2.2.2.2.2 t ht
theorem DP_peg {g : Gs} (hD : DP g) {s p : Nat} (hn : p ≠ 0 → ∀ t, g 8 t ≠ p) : DP (cg (gset g 8 s p)) := by
  intro a b
  show gset g 8 s p 8 a = gset g 8 s p 8 b → gset g 8 s p 8 a ≠ 0 → a = b
  intro e z
  by_cases ca : a = s
  · by_cases cb : b = s
    · rw [ca, cb]
    · rw [ca, gset_s] at z
      rw [ca, gset_s, gset_n _ _ cb] at e
      exact absurd e.symm (hn z b)
  · rw [gset_n _ _ ca] at z
    rw [gset_n _ _ ca] at e
    by_cases cb : b = s
    · rw [cb, gset_s] at e
      exact absurd e (hn (by rw [← e]; exact z) a)
    · rw [gset_n _ _ cb] at e
      exact hD a b e z
theorem XS_peg {K m : Nat} {g : Gs} {ik : Bool} {gk : Gs} (hX : XS h K m g ik gk) (s p : Nat) : XS (hs (hs h 13 (upd (h.1 13) s (pI p))) 26 (upd (h.1 26) 5 (nI (g 14 2 + 1)))) K m (cg (gset g 8 s p)) ik gk := by
  have hR := hX.2.1
  obtain ⟨n1, n2, n3, n4, n5, n6, n7⟩ := hX.2.2.1
  refine ⟨hX.1, ⟨hR.1, hR.2.1, fun t ht => ?_⟩, ⟨rfl, n2, n3, n4, n5, n6, n7⟩, hX.2.2.2.1, hX.2.2.2.2.1, hX.2.2.2.2.2.1, hX.2.2.2.2.2.2.1, hX.2.2.2.2.2.2.2⟩
  exact ugp (hR.2.2 t ht)
theorem MS_peg {K m : Nat} {g : Gs} {ik : Bool} {gk : Gs} (hM : MS h K m g ik gk) (s p : Nat) : MS (hs (hs h 55 (upd (h.1 55) s (pI p))) 46 (upd (h.1 46) 12 (nI (g 14 2 + 1)))) K m (cg (gset g 8 s p)) ik gk := by
  obtain ⟨o1, o2, o3, o4, o5, o6⟩ := hM.2.1
  refine ⟨⟨hM.1.1, hM.1.2.1, hM.1.2.2.1, fun t ht => ⟨(hM.1.2.2.2 t ht).1, (hM.1.2.2.2 t ht).2.1, (hM.1.2.2.2 t ht).2.2.1, (hM.1.2.2.2 t ht).2.2.2.1, ?_⟩⟩, ⟨rfl, o2, o3, o4, o5, o6⟩, hM.2.2.1, hM.2.2.2.1, hM.2.2.2.2.1, hM.2.2.2.2.2.1, hM.2.2.2.2.2.2⟩
  exact ugp (hM.1.2.2.2 t ht).2.2.2.2
theorem BS_peg {k K m : Nat} {g : Gs} {ik : Bool} {gk : Gs} (hB : BS k K m g ik gk) {s p : Nat} (hs0 : s < m) (hp : p ≤ 10) (hn : p ≠ 0 → ∀ t, g 8 t ≠ p) : BS (k + 1) K m (cg (gset g 8 s p)) ik gk := by
  obtain ⟨hG, hNB, hPB, hDP, hK0, h20, hlk, hKB⟩ := hB
  exact ⟨GB_peg hG hs0 hp, hNB, hPB, DP_peg hDP hn, hK0, h20, (show g 16 1 ≤ k + 1 by omega), hKB⟩
theorem op_drop (hI : Inv k h) (a1 : Int32) : op2 m_X_drop m_M_drop [.int a1] h (Inv (k + 1)) := by
  obtain ⟨K, m, g, ik, gk, hB, hX, hM⟩ := hI
  have hG := hB.1
  have hm6 := hG.2.1
  rcases in_cases a1 m with c | ⟨s, hs0, rfl⟩
  · refine e_X_drop 15 _ h _ (s_X_noStocking 14 hX.2.1 (by omega) _ ?_)
    rw [c]
    refine z_t (e_M_drop 15 _ h _ (s_M_isStocking 13 hM.1 (by omega) _ ?_))
    rw [c]
    exact n_f ⟨rfl, inv_same hB hX hM⟩
  have v6 := vp_in_nI (show s < 6 by omega) (by decide)
  have hR := hX.2.1
  have hp10 := hG.2.2.2.2.1 s
  refine e_X_drop 15 _ h _ (s_X_noStocking 14 hR (by omega) _ ?_)
  rw [inR_nI (by omega), decide_eq_true hs0, nI_clamp (show s < 2 ^ 31 by omega), hR.2.2 s (by omega), hX.2.2.1.1, nI_s]
  refine z_f ⟨v6, pI_bn (by omega) (fun e => ⟨v6, ?_⟩) (fun e => ?_)⟩
  · have hM1 : MS (hs (hs h 13 (upd (h.1 13) s (pI 0))) 26 (upd (h.1 26) 5 (nI (g 14 2 + 1)))) K m g ik gk := MS_hi (fun i hi => by rw [hs_off _ _ (by omega), hs_off _ _ (by omega)]) hM
    refine e_M_drop 15 _ (hs (hs h 13 (upd (h.1 13) s (pI 0))) 26 (upd (h.1 26) 5 (nI (g 14 2 + 1)))) _ (s_M_isStocking 13 hM1.1 (by omega) _ ?_)
    rw [inR_nI (by omega), decide_eq_true hs0]
    refine n_t (s_M_hangs 14 hM1.1 hG hs0 ?_)
    rw [show hg g s = true from decide_eq_true e, nI_clamp (show s < 2 ^ 31 by omega), (hM1.1.2.2.2 s hs0).2.2.2.2, hM1.2.1.1, nI_s]
    exact n_t ⟨v6, v6, rfl, K, m, cg (gset g 8 s 0), ik, gk, BS_peg hB hs0 (by omega) (fun z => absurd rfl z), XS_lo (fun i hi => by rw [hs_off _ _ (by omega), hs_off _ _ (by omega)]) (XS_peg hX s 0), MS_peg hM1 s 0⟩
  · refine e_M_drop 15 _ h _ (s_M_isStocking 13 hM.1 (by omega) _ ?_)
    rw [inR_nI (by omega), decide_eq_true hs0]
    refine n_t (s_M_hangs 14 hM.1 hG hs0 ?_)
    rw [show hg g s = false from decide_eq_false (fun z => z e)]
    exact n_f ⟨rfl, inv_same hB hX hM⟩
theorem hat_0 {K m : Nat} {g : Gs} (hG : GB K m g) {p : Nat} (e : hat g m p = 0) : ∀ t, g 8 t ≠ p + 1 := by
  intro t z
  have ht : t < m := hg_lt hG (decide_eq_true (by omega))
  have := cnt_pos (p := fun s => decide (g 8 s = p + 1)) ⟨t, ht, decide_eq_true z⟩
  rw [(fst_cnt _ m).mp e] at this
  exact absurd this (Nat.lt_irrefl 0)
theorem fst_le (p : Nat → Bool) : ∀ n, fst p n ≤ n := by
  intro n
  by_cases c : fst p n = 0
  · omega
  · obtain ⟨i, hi, hp, hj⟩ : ∃ i, i < n ∧ p i = true ∧ ∀ j, j < i → p j = false := by
      have hc : 0 < cnt n p := by
        rcases Nat.eq_zero_or_pos (cnt n p) with z | z
        · exact absurd ((fst_cnt p n).mpr z) c
        · exact z
      obtain ⟨i, hi, hp⟩ := cnt_ex hc
      induction i using Nat.strongRecOn with
      | _ i ih =>
        by_cases hz : ∃ j, j < i ∧ p j = true
        · obtain ⟨j, hj, hpj⟩ := hz
          exact ih j hj (by omega) hpj
        · refine ⟨i, hi, hp, fun j hj => ?_⟩
          cases hpj : p j
          · rfl
          · exact absurd ⟨j, hj, hpj⟩ hz
    rw [fst_i hp hj hi]
    omega
theorem op_pin (hI : Inv k h) (a1 a2 : Int32) : op2 m_X_pin m_M_pin [.int a1, .int a2] h (Inv (k + 1)) := by
  obtain ⟨K, m, g, ik, gk, hB, hX, hM⟩ := hI
  have hG := hB.1
  have hm6 := hG.2.1
  rcases in_cases a1 m with c | ⟨s, hs0, rfl⟩
  · refine e_X_pin 15 _ _ h _ (s_X_noStocking 14 hX.2.1 (by omega) _ ?_)
    rw [c]
    refine n_t (e_M_pin 15 _ _ h _ (s_M_isStocking 13 hM.1 (by omega) _ ?_))
    rw [c]
    exact z_f ⟨rfl, inv_same hB hX hM⟩
  rcases in_cases a2 10 with c | ⟨p, hp, rfl⟩
  · refine e_X_pin 15 _ _ h _ (s_X_noStocking 14 hX.2.1 (by omega) _ ?_)
    rw [inR_nI (by omega), decide_eq_true hs0]
    refine n_f (s_X_noPeg 14 _ ?_)
    rw [c]
    refine z_t (e_M_pin 15 _ _ h _ (s_M_isStocking 13 hM.1 (by omega) _ ?_))
    rw [inR_nI (by omega), decide_eq_true hs0]
    refine z_t (s_M_isPeg 13 _ ?_)
    rw [c]
    exact n_f ⟨rfl, inv_same hB hX hM⟩
  have v6 := vp_in_nI (show s < 6 by omega) (by decide)
  have hR := hX.2.1
  have hl := fst_le (fun s => decide (g 8 s = p + 1)) m
  have hl : hat g m p ≤ m := hl
  refine e_X_pin 15 _ _ h _ (s_X_noStocking 14 hR (by omega) _ ?_)
  rw [inR_nI (by omega), decide_eq_true hs0]
  refine n_f (s_X_noPeg 14 _ ?_)
  rw [inR_nI (by omega), decide_eq_true hp]
  refine z_f (s_R_hangingAt 14 hR hG hp ?_)
  rw [nI_clamp (show s < 2 ^ 31 by omega), hR.2.2 s (by omega), hX.2.2.1.1, nI_s]
  refine pI_br (by omega) (fun e => ⟨v6, v6, ?_⟩) (fun e => ?_)
  · rw [← sub1 p]
    have hM1 : MS (hs (hs h 13 (upd (h.1 13) s (pI (p + 1)))) 26 (upd (h.1 26) 5 (nI (g 14 2 + 1)))) K m g ik gk := MS_hi (fun i hi => by rw [hs_off _ _ (by omega), hs_off _ _ (by omega)]) hM
    rw [sub1 p] at hM1 ⊢
    refine e_M_pin 15 _ _ (hs (hs h 13 (upd (h.1 13) s (nI p))) 26 (upd (h.1 26) 5 (nI (g 14 2 + 1)))) _ (s_M_isStocking 13 hM1.1 (by omega) _ ?_)
    rw [inR_nI (by omega), decide_eq_true hs0]
    refine z_t (s_M_isPeg 13 _ ?_)
    rw [inR_nI (by omega), decide_eq_true hp]
    refine n_t (s_M_hangsAt 14 hM1.1 hG hB.2.2.2.1 hp ?_)
    rw [nI_clamp (show s < 2 ^ 31 by omega), (hM1.1.2.2.2 s hs0).2.2.2.2, hM1.2.1.1, nI_s]
    refine pI_br (by omega) (fun _ => ⟨v6, v6, rfl, K, m, cg (gset g 8 s (p + 1)), ik, gk, BS_peg hB hs0 (by omega) (fun _ => hat_0 hG e), ?_, ?_⟩) (fun z => absurd e z)
    · have := XS_peg hX s (p + 1)
      rw [sub1] at this
      exact XS_lo (fun i hi => by rw [hs_off _ _ (by omega), hs_off _ _ (by omega)]) this
    · have := MS_peg hM1 s (p + 1)
      rw [sub1] at this
      exact this
  · refine e_M_pin 15 _ _ h _ (s_M_isStocking 13 hM.1 (by omega) _ ?_)
    rw [inR_nI (by omega), decide_eq_true hs0]
    refine z_t (s_M_isPeg 13 _ ?_)
    rw [inR_nI (by omega), decide_eq_true hp]
    refine n_t (s_M_hangsAt 14 hM.1 hG hB.2.2.2.1 hp ?_)
    exact pI_br (by omega) (fun z => absurd z e) (fun _ => ⟨rfl, inv_same hB hX hM⟩)
end OPD
