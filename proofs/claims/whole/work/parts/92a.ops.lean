/-! the calls that ask: class and reference answer alike, and all holds again -/
theorem sw_out {P A B : Prop} (n : ¬ P) (b : B) : (P → A) ∧ (¬ P → B) := ⟨fun z => absurd z n, fun _ => b⟩
theorem z_t {A B : Prop} (b : B) : (bz true = 0 → A) ∧ (¬ bz true = 0 → B) := ⟨fun z => absurd z (by decide), fun _ => b⟩
theorem z_f {A B : Prop} (a : A) : (bz false = 0 → A) ∧ (¬ bz false = 0 → B) := ⟨fun _ => a, fun z => absurd rfl z⟩
theorem n_t {A B : Prop} (a : A) : (¬ bz true = 0 → A) ∧ (bz true = 0 → B) := ⟨fun _ => a, fun z => absurd z (by decide)⟩
theorem n_f {A B : Prop} (b : B) : (¬ bz false = 0 → A) ∧ (bz false = 0 → B) := ⟨fun z => absurd rfl z, fun _ => b⟩
/-- out of a range: below, or above -/
theorem out_lt {a : Int32} {n : Nat} (c : inR a n = false) (hn : n < 2 ^ 31) {A B : Prop} (x : A) : (a < 0 → A) ∧ (¬ a < 0 → (a < nI n → B) ∧ (¬ a < nI n → A)) := inR_no hn (fun _ => x) (fun z => by rw [c] at z; cases z)
theorem out_le {a : Int32} {n : Nat} (c : inR a (n + 1) = false) (hn : n < 2 ^ 31 - 1) {A B : Prop} (x : A) : (a < 0 → A) ∧ (¬ a < 0 → (a ≤ nI n → B) ∧ (¬ a ≤ nI n → A)) := by
  have hc : ¬ (0 ≤ a.toInt ∧ a.toInt < ((n + 1 : Nat) : Int)) := of_decide_eq_false c
  refine ⟨fun _ => x, fun z => ⟨fun z2 => ?_, fun _ => x⟩⟩
  rw [lt0] at z
  rw [le_toInt, nI_toInt (by omega)] at z2
  omega
theorem FE_SM {h h' : Hp} (f : FE h h') : SM h h' := ⟨fun i hi => f.1 i (fun e => by rw [e] at hi; cases hi), fun j hj => f.2 j (fun e => by rw [e] at hj; cases hj) (fun e => by rw [e] at hj; cases hj) (fun e => by rw [e] at hj; cases hj)⟩
section ASK
variable {k : Nat} {h : Hp}
theorem op_king (hI : Inv k h) (a1 a2 : Int32) : op2 m_X_king m_M_king [.int a1, .int a2] h (Inv (k + 1)) := by
  obtain ⟨K, m, g, ik, gk, hB, hX, hM⟩ := hI
  have hG := hB.1
  have hK4 := hG.1
  have hm6 := hG.2.1
  rcases in_cases a1 K with c | ⟨j, hj, rfl⟩
  · refine e_X_king 15 _ _ h _ (s_X_noKing 14 hX.1 (by omega) _ ?_)
    rw [c]
    refine z_t (e_M_king 15 _ _ h _ (s_M_isKing 13 hM.1 (by omega) _ ?_))
    rw [c]
    exact n_f ⟨rfl, inv_same hB hX hM⟩
  rcases in_cases a2 10 with c | ⟨w, hw, rfl⟩
  · refine e_X_king 15 _ _ h _ (s_X_noKing 14 hX.1 (by omega) _ ?_)
    rw [inR_nI (by omega), decide_eq_true hj]
    refine z_f (sw_out (ne_out c (by decide) (c := 0) (by decide)) (sw_out (ne_out c (by decide) (c := 1) (by decide)) (sw_out (ne_out c (by decide) (c := 2) (by decide)) (sw_out (ne_out c (by decide) (c := 3) (by decide)) (sw_out (ne_out c (by decide) (c := 4) (by decide)) (sw_out (ne_out c (by decide) (c := 5) (by decide)) (sw_out (ne_out c (by decide) (c := 6) (by decide)) (sw_out (ne_out c (by decide) (c := 7) (by decide)) (sw_out (ne_out c (by decide) (c := 8) (by decide)) (sw_out (ne_out c (by decide) (c := 9) (by decide)) (?_)))))))))))
    refine e_M_king 15 _ _ h _ (s_M_isKing 13 hM.1 (by omega) _ ?_)
    rw [inR_nI (by omega), decide_eq_true hj]
    refine n_t (s_M_within (n := 10) 14 _ (by decide) ?_)
    rw [c]
    exact z_f ⟨rfl, inv_same hB hX hM⟩
  refine s_X_kingK 10 hX.1 hX.2.1 hX.2.2.1 hG hB.2.1 hj hw ?_
  refine e_M_king 15 _ _ h _ (s_M_isKing 13 hM.1 (by omega) _ ?_)
  rw [inR_nI (by omega), decide_eq_true hj]
  refine n_t (s_M_within (n := 10) 14 _ (by decide) ?_)
  rw [inR_nI (by omega), decide_eq_true hw]
  exact z_t (s_M_kingNow 8 hM.1 hM.2.1 hG hB.2.1 hj hw ⟨rfl, inv_same hB hX hM⟩)
theorem op_stocking (hI : Inv k h) (a1 a2 : Int32) : op2 m_X_stocking m_M_stocking [.int a1, .int a2] h (Inv (k + 1)) := by
  obtain ⟨K, m, g, ik, gk, hB, hX, hM⟩ := hI
  have hG := hB.1
  have hK4 := hG.1
  have hm6 := hG.2.1
  rcases in_cases a1 m with c | ⟨j, hj, rfl⟩
  · refine e_X_stocking 15 _ _ h _ (s_X_noStocking 14 hX.2.1 (by omega) _ ?_)
    rw [c]
    refine z_t (e_M_stocking 15 _ _ h _ (s_M_isStocking 13 hM.1 (by omega) _ ?_))
    rw [c]
    exact n_f ⟨rfl, inv_same hB hX hM⟩
  rcases in_cases a2 8 with c | ⟨w, hw, rfl⟩
  · refine e_X_stocking 15 _ _ h _ (s_X_noStocking 14 hX.2.1 (by omega) _ ?_)
    rw [inR_nI (by omega), decide_eq_true hj]
    refine z_f (sw_out (ne_out c (by decide) (c := 0) (by decide)) (sw_out (ne_out c (by decide) (c := 1) (by decide)) (sw_out (ne_out c (by decide) (c := 2) (by decide)) (sw_out (ne_out c (by decide) (c := 3) (by decide)) (sw_out (ne_out c (by decide) (c := 4) (by decide)) (sw_out (ne_out c (by decide) (c := 5) (by decide)) (sw_out (ne_out c (by decide) (c := 6) (by decide)) (sw_out (ne_out c (by decide) (c := 7) (by decide)) (?_)))))))))
    refine e_M_stocking 15 _ _ h _ (s_M_isStocking 13 hM.1 (by omega) _ ?_)
    rw [inR_nI (by omega), decide_eq_true hj]
    refine n_t (s_M_within (n := 8) 14 _ (by decide) ?_)
    rw [c]
    exact z_f ⟨rfl, inv_same hB hX hM⟩
  have hK0 := hB.2.2.2.2.1 (by omega)
  refine s_X_stockingK 12 hX.1 hX.2.1 hG hK0 hj hw ?_
  refine e_M_stocking 15 _ _ h _ (s_M_isStocking 13 hM.1 (by omega) _ ?_)
  rw [inR_nI (by omega), decide_eq_true hj]
  refine n_t (s_M_within (n := 8) 14 _ (by decide) ?_)
  rw [inR_nI (by omega), decide_eq_true hw]
  exact z_t (s_M_stockingNow 10 hM.1 hG hK0 hj hw ⟨rfl, inv_same hB hX hM⟩)
theorem op_count (hI : Inv k h) (a1 : Int32) : op2 m_X_count m_M_count [.int a1] h (Inv (k + 1)) := by
  obtain ⟨K, m, g, ik, gk, hB, hX, hM⟩ := hI
  have hG := hB.1
  rcases in_cases a1 13 with c | ⟨w, hw, rfl⟩
  · refine e_X_count 15 _ h _ (sw_out (ne_out c (by decide) (c := 0) (by decide)) (sw_out (ne_out c (by decide) (c := 1) (by decide)) (sw_out (ne_out c (by decide) (c := 2) (by decide)) (sw_out (ne_out c (by decide) (c := 3) (by decide)) (sw_out (ne_out c (by decide) (c := 4) (by decide)) (sw_out (ne_out c (by decide) (c := 5) (by decide)) (sw_out (ne_out c (by decide) (c := 6) (by decide)) (sw_out (ne_out c (by decide) (c := 7) (by decide)) (sw_out (ne_out c (by decide) (c := 8) (by decide)) (sw_out (ne_out c (by decide) (c := 9) (by decide)) (sw_out (ne_out c (by decide) (c := 10) (by decide)) (sw_out (ne_out c (by decide) (c := 11) (by decide)) (sw_out (ne_out c (by decide) (c := 12) (by decide)) (?_))))))))))))))
    exact e_M_count 15 _ h _ (e_M_howMany 14 _ h _ (sw_out (ne_out c (by decide) (c := 0) (by decide)) (sw_out (ne_out c (by decide) (c := 1) (by decide)) (sw_out (ne_out c (by decide) (c := 2) (by decide)) (sw_out (ne_out c (by decide) (c := 3) (by decide)) (sw_out (ne_out c (by decide) (c := 4) (by decide)) (sw_out (ne_out c (by decide) (c := 5) (by decide)) (sw_out (ne_out c (by decide) (c := 6) (by decide)) (sw_out (ne_out c (by decide) (c := 7) (by decide)) (sw_out (ne_out c (by decide) (c := 8) (by decide)) (sw_out (ne_out c (by decide) (c := 9) (by decide)) (sw_out (ne_out c (by decide) (c := 10) (by decide)) (sw_out (ne_out c (by decide) (c := 11) (by decide)) (sw_out (ne_out c (by decide) (c := 12) (by decide)) (⟨rfl, inv_same hB hX hM⟩)))))))))))))))
  refine s_X_countK 10 hX hG hw ?_
  exact e_M_count 15 _ h _ (s_M_howMany 8 hM hG hw ⟨rfl, inv_same hB hX hM⟩)
theorem op_chance (hI : Inv k h) (a1 a2 : Int32) : op2 m_X_chance m_M_chance [.int a1, .int a2] h (Inv (k + 1)) := by
  obtain ⟨K, m, g, ik, gk, hB, hX, hM⟩ := hI
  have hG := hB.1
  have hK4 := hG.1
  have hm6 := hG.2.1
  rcases in_cases a1 K with c | ⟨j, hj, rfl⟩
  · refine e_X_chance 15 _ _ h _ (s_X_noKing 14 hX.1 (by omega) _ ?_)
    rw [c]
    refine z_t (e_M_chance 15 _ _ h _ (s_M_isKing 13 hM.1 (by omega) _ ?_))
    rw [c]
    exact n_f ⟨rfl, inv_same hB hX hM⟩
  rcases in_cases a2 2 with c | ⟨w, hw, rfl⟩
  · refine e_X_chance 15 _ _ h _ (s_X_noKing 14 hX.1 (by omega) _ ?_)
    rw [inR_nI (by omega), decide_eq_true hj]
    refine z_f (sw_out (ne_out c (by decide) (c := 0) (by decide)) (sw_out (ne_out c (by decide) (c := 1) (by decide)) (?_)))
    refine e_M_chance 15 _ _ h _ (s_M_isKing 13 hM.1 (by omega) _ ?_)
    rw [inR_nI (by omega), decide_eq_true hj]
    refine n_t (s_M_within (n := 2) 14 _ (by decide) ?_)
    rw [c]
    exact z_f ⟨rfl, inv_same hB hX hM⟩
  refine s_X_chanceK 11 hX.1 hX.2.1 hG hj hw ?_
  refine e_M_chance 15 _ _ h _ (s_M_isKing 13 hM.1 (by omega) _ ?_)
  rw [inR_nI (by omega), decide_eq_true hj]
  refine n_t (s_M_within (n := 2) 14 _ (by decide) ?_)
  rw [inR_nI (by omega), decide_eq_true hw]
  exact z_t (s_M_chanceNow 9 hM.1 hG hj hw ⟨rfl, inv_same hB hX hM⟩)
theorem op_wrong (hI : Inv k h) (a1 a2 : Int32) : op2 m_X_wrong m_M_wrong [.int a1, .int a2] h (Inv (k + 1)) := by
  obtain ⟨K, m, g, ik, gk, hB, hX, hM⟩ := hI
  have hG := hB.1
  have hK4 := hG.1
  have hm6 := hG.2.1
  rcases in_cases a1 K with c | ⟨j, hj, rfl⟩
  · refine e_X_wrong 15 _ _ h _ (s_X_noKing 14 hX.1 (by omega) _ ?_)
    rw [c]
    refine n_t (e_M_wrong 15 _ _ h _ (s_M_isKing 13 hM.1 (by omega) _ ?_))
    rw [c]
    exact z_f ⟨rfl, inv_same hB hX hM⟩
  rcases in_cases a2 m with c | ⟨s, hs, rfl⟩
  · refine e_X_wrong 15 _ _ h _ (s_X_noKing 14 hX.1 (by omega) _ ?_)
    rw [inR_nI (by omega), decide_eq_true hj]
    refine n_f (s_X_noStocking 14 hX.2.1 (by omega) _ ?_)
    rw [c]
    refine z_t (e_M_wrong 15 _ _ h _ (s_M_isKing 13 hM.1 (by omega) _ ?_))
    rw [inR_nI (by omega), decide_eq_true hj]
    refine z_t (s_M_isStocking 13 hM.1 (by omega) _ ?_)
    rw [c]
    exact z_f ⟨rfl, inv_same hB hX hM⟩
  refine s_X_wrongK 13 hX.1 hX.2.1 hG hj hs ?_
  refine e_M_wrong 15 _ _ h _ (s_M_isKing 13 hM.1 (by omega) _ ?_)
  rw [inR_nI (by omega), decide_eq_true hj]
  refine z_t (s_M_isStocking 13 hM.1 (by omega) _ ?_)
  rw [inR_nI (by omega), decide_eq_true hs]
  exact z_t (s_M_wrongOf 13 hM.1 hG hj hs ⟨rfl, inv_same hB hX hM⟩)
theorem op_peg (hI : Inv k h) (a1 : Int32) : op2 m_X_peg m_M_peg [.int a1] h (Inv (k + 1)) := by
  obtain ⟨K, m, g, ik, gk, hB, hX, hM⟩ := hI
  have hG := hB.1
  have hm6 := hG.2.1
  by_cases hm0 : m = 0
  · refine e_X_peg 15 _ h _ (s_X_noLine 14 hX.2.1 (by omega) ?_)
    rw [decide_eq_true hm0]
    refine n_t (e_M_peg 15 _ h _ ?_)
    rw [hM.1.2.1]
    exact pk_le m 0 (fun _ => ⟨rfl, inv_same hB hX hM⟩) (fun z => by omega)
  rcases in_cases a1 10 with c | ⟨p, hp, rfl⟩
  · refine e_X_peg 15 _ h _ (s_X_noLine 14 hX.2.1 (by omega) ?_)
    rw [decide_eq_false hm0]
    refine n_f (s_X_noPeg 14 _ ?_)
    rw [c]
    refine z_t (e_M_peg 15 _ h _ ?_)
    rw [hM.1.2.1]
    refine pk_le m 0 (fun z => by omega) (fun _ => s_M_isPeg 13 _ ?_)
    rw [c]
    exact z_f ⟨rfl, inv_same hB hX hM⟩
  refine e_X_peg 15 _ h _ (s_X_noLine 14 hX.2.1 (by omega) ?_)
  rw [decide_eq_false hm0]
  refine n_f (s_X_noPeg 14 _ ?_)
  rw [inR_nI (by omega), decide_eq_true hp]
  refine z_f (s_R_hangingAt 14 hX.2.1 hG hp ?_)
  refine e_M_peg 15 _ h _ ?_
  rw [hM.1.2.1]
  refine pk_le m 0 (fun z => by omega) (fun _ => s_M_isPeg 13 _ ?_)
  rw [inR_nI (by omega), decide_eq_true hp]
  exact z_t (s_M_hangsAt 14 hM.1 hG hB.2.2.2.1 hp ⟨rfl, inv_same hB hX hM⟩)
theorem op_coup (hI : Inv k h) (a1 : Int32) : op2 m_X_coup m_M_coup [.int a1] h (Inv (k + 1)) := by
  obtain ⟨K, m, g, ik, gk, hB, hX, hM⟩ := hI
  have hG := hB.1
  have hK4 := hG.1
  rcases in_cases a1 K with c | ⟨j, hj, rfl⟩
  · refine e_X_coup 15 _ h _ (s_X_noKing 14 hX.1 (by omega) _ ?_)
    rw [c]
    refine z_t (e_M_coup 15 _ h _ (s_M_isKing 13 hM.1 (by omega) _ ?_))
    rw [c]
    exact z_f ⟨rfl, inv_same hB hX hM⟩
  refine s_X_coupK 9 hX.1 hX.2.1 hG hj (fun h1 s1 => ?_)
  have hM1 := MS_SC s1 hM
  refine e_M_coup 15 _ h1 _ (s_M_isKing 13 hM1.1 (by omega) _ ?_)
  rw [inR_nI (by omega), decide_eq_true hj]
  exact z_t (s_M_coupNow 6 hM1.1 hG hj ⟨rfl, inv_ask hB hX hM s1 (SM_rfl _)⟩)
theorem op_fold (hI : Inv k h) : op2 m_X_fold m_M_fold [] h (Inv (k + 1)) := by
  obtain ⟨K, m, g, ik, gk, hB, hX, hM⟩ := hI
  have hG := hB.1
  have hm6 := hG.2.1
  by_cases hm0 : m = 0
  · refine e_X_fold 15 h _ (s_X_noLine 14 hX.2.1 (by omega) ?_)
    rw [decide_eq_true hm0]
    refine z_t (e_M_fold 15 h _ ?_)
    rw [hM.1.2.1]
    exact pk_ne m 0 (fun z => absurd hm0 z) (fun _ => ⟨rfl, inv_same hB hX hM⟩)
  refine s_X_foldK 11 hX.1 hX.2.1 hG (by omega) (fun h1 s1 => ?_)
  have hM1 := MS_SC s1 hM
  refine e_M_fold 15 h1 _ ?_
  rw [hM1.1.2.1]
  exact pk_ne m 0 (fun _ => s_M_foldNow 7 hM1.1 hG (fun h2 s2 => ⟨rfl, inv_ask hB hX hM s1 s2.1⟩)) (fun z => absurd z hm0)
theorem op_fault (hI : Inv k h) : op2 m_X_fault m_M_fault [] h (Inv (k + 1)) := by
  obtain ⟨K, m, g, ik, gk, hB, hX, hM⟩ := hI
  refine e_X_fault 15 h _ (s_P_firstFault 8 hX.2.2.2.1 hB.2.2.1 ?_)
  exact e_M_fault 15 h _ (s_M_read 10 hM.2.2.1 hB.2.2.1 (fun h' f1 _ _ => ⟨rfl, inv_ask hB hX hM (SC_rfl _) (FE_SM f1)⟩))
theorem op_digest (hI : Inv k h) : op2L m_X_digest m_M_digest [] h (Inv (k + 1)) := by
  obtain ⟨K, m, g, ik, gk, hB, hX, hM⟩ := hI
  refine s_X_digest 8 hX hB (fun h1 s1 => ?_)
  exact s_M_digest 5 (MS_SC s1 hM) hB (fun h2 s2 => ⟨rfl, inv_ask hB hX hM s1 s2⟩)
theorem op_throne (hI : Inv k h) (a1 : Int32) : op2 m_X_throne m_M_throne [.int a1] h (Inv (k + 1)) := by
  obtain ⟨K, m, g, ik, gk, hB, hX, hM⟩ := hI
  have hG := hB.1
  have hm6 := hG.2.1
  rcases in_cases a1 3 with c | ⟨w, hw, rfl⟩
  · refine e_X_throne 15 _ h _ (out_le (n := 2) c (by decide) ?_)
    refine e_M_throne 15 _ h _ (s_M_within (n := 3) 14 _ (by decide) ?_)
    rw [c]
    exact n_f ⟨rfl, inv_same hB hX hM⟩
  by_cases hm0 : m = 0
  · refine e_X_throne 15 _ h _ ⟨fun z => absurd z (nI_pos (by omega)), fun _ => pk_le w 2 (fun _ => s_X_noLine 14 hX.2.1 (by omega) ?_) (fun z => by omega)⟩
    rw [decide_eq_true hm0]
    refine z_t (e_M_throne 15 _ h _ (s_M_within (n := 3) 14 _ (by decide) ?_))
    rw [inR_nI (by omega), decide_eq_true hw, hM.1.2.1]
    exact n_t (pk_ne m 0 (fun z => absurd hm0 z) (fun _ => ⟨rfl, inv_same hB hX hM⟩))
  refine s_X_throneK 10 hX.1 hX.2.1 hG hm0 hw ?_
  refine e_M_throne 15 _ h _ (s_M_within (n := 3) 14 _ (by decide) ?_)
  rw [inR_nI (by omega), decide_eq_true hw, hM.1.2.1]
  exact n_t (pk_ne m 0 (fun _ => s_M_throneNow 8 hM.1 hG hw ⟨rfl, inv_same hB hX hM⟩) (fun z => absurd z hm0))
theorem op_winds (hI : Inv k h) (a1 : Int32) : op2 m_X_winds m_M_winds [.int a1] h (Inv (k + 1)) := by
  obtain ⟨K, m, g, ik, gk, hB, hX, hM⟩ := hI
  have hG := hB.1
  have hm6 := hG.2.1
  rcases in_cases a1 4 with c | ⟨w, hw, rfl⟩
  · refine e_X_winds 15 _ h _ (out_le (n := 3) c (by decide) ?_)
    refine e_M_winds 15 _ h _ (s_M_within (n := 4) 14 _ (by decide) ?_)
    rw [c]
    exact n_f ⟨rfl, inv_same hB hX hM⟩
  by_cases hm0 : m = 0
  · refine e_X_winds 15 _ h _ ⟨fun z => absurd z (nI_pos (by omega)), fun _ => pk_le w 3 (fun _ => s_X_noLine 14 hX.2.1 (by omega) ?_) (fun z => by omega)⟩
    rw [decide_eq_true hm0]
    refine z_t (e_M_winds 15 _ h _ (s_M_within (n := 4) 14 _ (by decide) ?_))
    rw [inR_nI (by omega), decide_eq_true hw, hM.1.2.1]
    exact n_t (pk_ne m 0 (fun z => absurd hm0 z) (fun _ => ⟨rfl, inv_same hB hX hM⟩))
  refine s_X_windsK 10 hX.2.1 hG hX.2.2.1 hB.2.1 hm0 hw ?_
  refine e_M_winds 15 _ h _ (s_M_within (n := 4) 14 _ (by decide) ?_)
  rw [inR_nI (by omega), decide_eq_true hw, hM.1.2.1]
  exact n_t (pk_ne m 0 (fun _ => s_M_windsNow 8 hM.1 hG hM.2.1 hB.2.1 hw ⟨rfl, inv_same hB hX hM⟩) (fun z => absurd z hm0))
theorem op_dog (hI : Inv k h) (a1 : Int32) : op2 m_X_dog m_M_dog [.int a1] h (Inv (k + 1)) := by
  obtain ⟨K, m, g, ik, gk, hB, hX, hM⟩ := hI
  have hG := hB.1
  have hm6 := hG.2.1
  rcases in_cases a1 2 with c | ⟨w, hw, rfl⟩
  · refine e_X_dog 15 _ h _ (sw_out (ne_out c (by decide) (c := 0) (by decide)) (sw_out (ne_out c (by decide) (c := 1) (by decide)) (?_)))
    refine e_M_dog 15 _ h _ (s_M_within (n := 2) 14 _ (by decide) ?_)
    rw [c]
    exact n_f ⟨rfl, inv_same hB hX hM⟩
  by_cases hm0 : m = 0
  · have md : Ev mtb shp 16 m_M_dog [.ref 46, .int (nI w)] h (qI fun w h2 => -103 = w ∧ Inv (k + 1) h2) := by
      refine e_M_dog 15 _ h _ (s_M_within (n := 2) 14 _ (by decide) ?_)
      rw [inR_nI (by omega), decide_eq_true hw, hM.1.2.1]
      exact n_t (pk_ne m 0 (fun z => absurd hm0 z) (fun _ => ⟨rfl, inv_same hB hX hM⟩))
    refine e_X_dog 15 _ h _ (pk_eq w 0 (fun _ => s_X_noLine 14 hX.2.1 (by omega) ?_) (fun _ => pk_eq w 1 (fun _ => s_X_noLine 14 hX.2.1 (by omega) ?_) (fun z => by omega)))
    · rw [decide_eq_true hm0]; exact z_t md
    · rw [decide_eq_true hm0]; exact z_t md
  refine s_X_dogK 12 hX.1 hX.2.1 hG hm0 hw (fun h1 s1 => ?_)
  have hM1 := MS_SC s1 hM
  refine e_M_dog 15 _ h1 _ (s_M_within (n := 2) 14 _ (by decide) ?_)
  rw [inR_nI (by omega), decide_eq_true hw, hM1.1.2.1]
  exact n_t (pk_ne m 0 (fun _ => s_M_dogNow 10 hM1.1 hG hw (fun h2 s2 => ⟨rfl, inv_ask hB hX hM s1 s2.1⟩)) (fun z => absurd z hm0))
theorem op_as (hI : Inv k h) (a1 a2 : Int32) : op2 m_X_as m_M_as [.int a1, .int a2] h (Inv (k + 1)) := by
  obtain ⟨K, m, g, ik, gk, hB, hX, hM⟩ := hI
  have hG := hB.1
  have hK4 := hG.1
  rcases in_cases a1 K with c | ⟨j, hj, rfl⟩
  · refine e_X_as 15 _ _ h _ (s_X_noKing 14 hX.1 (by omega) _ ?_)
    rw [c]
    refine z_t (e_M_as 15 _ _ h _ (s_M_isKing 13 hM.1 (by omega) _ ?_))
    rw [c]
    exact n_f ⟨rfl, inv_same hB hX hM⟩
  have v4 := vp_in_nI (show j < 4 by omega) (by decide)
  obtain ⟨b0, b1, b2, b3⟩ := hG.2.2.1 j hj
  rcases in_cases a2 5 with c | ⟨w, hw, rfl⟩
  · refine e_X_as 15 _ _ h _ (s_X_noKing 14 hX.1 (by omega) _ ?_)
    rw [inR_nI (by omega), decide_eq_true hj]
    refine z_f (out_lt (n := 5) c (by decide) ?_)
    refine e_M_as 15 _ _ h _ (s_M_isKing 13 hM.1 (by omega) _ ?_)
    rw [inR_nI (by omega), decide_eq_true hj]
    refine n_t (s_M_within (n := 5) 14 _ (by decide) ?_)
    rw [c]
    exact n_f ⟨rfl, inv_same hB hX hM⟩
  have mm : ∀ v, (v = (if w = 0 ∨ (g 0 j = w ∨ (w = 2 ∧ g 0 j = 4)) then nI j else -1)) → Ev mtb shp 16 m_M_as [.ref 46, .int (nI j), .int (nI w)] h (qI fun w h2 => v = w ∧ Inv (k + 1) h2) := by
    intro v hv
    refine e_M_as 15 _ _ h _ (s_M_isKing 13 hM.1 (by omega) _ ?_)
    rw [inR_nI (by omega), decide_eq_true hj]
    refine n_t (s_M_within (n := 5) 14 _ (by decide) ?_)
    rw [inR_nI (by omega), decide_eq_true hw, nI_clamp (show j < 2 ^ 31 by omega), (hM.1.2.2.1 j hj).1]
    refine n_t ⟨v4, pk_eq w 0 (fun e => ⟨?_, inv_same hB hX hM⟩) (fun e => pk_eq (g 0 j) w (fun e1 => ⟨?_, inv_same hB hX hM⟩) (fun e1 => pk_ne w 2 (fun e2 => ⟨?_, inv_same hB hX hM⟩) (fun e2 => pk_ne (g 0 j) 4 (fun e3 => ⟨?_, inv_same hB hX hM⟩) (fun e3 => ⟨?_, inv_same hB hX hM⟩))))⟩
    · rw [hv, if_pos (Or.inl e)]
    · rw [hv, if_pos (Or.inr (Or.inl e1))]
    · rw [hv, if_neg (by omega)]
    · rw [hv, if_neg (by omega)]
    · rw [hv, if_pos (Or.inr (Or.inr ⟨e2, e3⟩))]
  refine e_X_as 15 _ _ h _ (s_X_noKing 14 hX.1 (by omega) _ ?_)
  rw [inR_nI (by omega), decide_eq_true hj, nI_clamp (show j < 2 ^ 31 by omega), (hX.1.2 j hj).1]
  refine z_f ⟨fun z => absurd z (nI_pos (by omega)), fun _ => pk_lt w 5 (fun _ => ⟨v4, pk_eq w 0 (fun e => ⟨fun z => absurd z (by decide), fun _ => mm _ ?_⟩) (fun e => pk_eq w (g 0 j) (fun e1 => ⟨fun z => absurd z (by decide), fun _ => mm _ ?_⟩) (fun e1 => pk_ne w 2 (fun e2 => ⟨fun _ => mm _ ?_, fun z => absurd rfl z⟩) (fun e2 => pk_ne (g 0 j) 4 (fun e3 => ⟨fun _ => mm _ ?_, fun z => absurd rfl z⟩) (fun e3 => ⟨fun z => absurd z (by decide), fun _ => mm _ ?_⟩))))⟩) (fun z => by omega)⟩
  · rw [if_pos (Or.inl e)]
  · rw [if_pos (Or.inr (Or.inl e1.symm))]
  · rw [if_neg (by omega)]
  · rw [if_neg (by omega)]
  · rw [if_pos (Or.inr (Or.inr ⟨e2, e3⟩))]
end ASK
