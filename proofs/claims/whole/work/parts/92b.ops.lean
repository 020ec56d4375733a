/-! years, and match -/
theorem nI_of0 {a : Int32} (h : 0 ≤ a.toInt) : ∃ n : Nat, n < 2 ^ 31 ∧ (n : Int) = a.toInt ∧ a = nI n := by
  have h31 : a.toInt < 2 ^ 31 := Int32.toInt_lt a
  refine ⟨a.toInt.toNat, by omega, by omega, Int32.toInt_inj.mp ?_⟩
  rw [nI_toInt (by omega)]
  omega
section OPB
variable {k : Nat} {h : Hp}
theorem op_years (hI : Inv k h) (a1 a2 a3 : Int32) : op2 m_X_years m_M_years [.int a1, .int a2, .int a3] h (Inv (k + 1)) := by
  obtain ⟨K, m, g, ik, gk, hB, hX, hM⟩ := hI
  have hG := hB.1
  have hm6 := hG.2.1
  have mref : ¬ (1 ≤ a1.toInt ∧ a1.toInt ≤ 60 ∧ 0 ≤ a2.toInt ∧ 0 ≤ a3.toInt ∧ a3.toInt ≤ 2) → Ev mtb shp 16 m_M_years [.ref 46, .int a1, .int a2, .int a3] h (qI fun w h2 => -102 = w ∧ Inv (k + 1) h2) := by
    intro hn
    refine e_M_years 15 _ _ _ h _ (s_M_withinB 14 _ _ _ ?_)
    rw [show (1 : Int32).toInt = 1 from rfl, show (60 : Int32).toInt = 60 from rfl]
    by_cases c1 : 1 ≤ a1.toInt ∧ a1.toInt ≤ 60
    · rw [decide_eq_true c1]
      refine z_t ⟨fun _ => ⟨rfl, inv_same hB hX hM⟩, fun z => s_M_withinB 14 _ _ _ ?_⟩
      rw [lt0] at z
      rw [show (0 : Int32).toInt = 0 from rfl, show (2 : Int32).toInt = 2 from rfl, decide_eq_false (by omega)]
      exact n_f ⟨rfl, inv_same hB hX hM⟩
    · rw [decide_eq_false c1]
      exact z_f ⟨rfl, inv_same hB hX hM⟩
  refine e_X_years 15 _ _ _ h _ ⟨fun z => ⟨fun y => absurd rfl y, fun _ => mref ?_⟩, fun z1 => ⟨fun z => ⟨fun y => absurd rfl y, fun _ => mref ?_⟩, fun z2 => ⟨fun z => ⟨fun y => absurd rfl y, fun _ => mref ?_⟩, fun z3 => ⟨fun z => ⟨fun y => absurd rfl y, fun _ => mref ?_⟩, fun z4 => ⟨fun z => ⟨fun y => absurd rfl y, fun _ => mref ?_⟩, fun z5 => ⟨fun _ => ?_, fun y => absurd y (by decide)⟩⟩⟩⟩⟩⟩
  · rw [lt_toInt, show (1 : Int32).toInt = 1 from rfl] at z; omega
  · rw [lt_toInt, show (60 : Int32).toInt = 60 from rfl] at z; omega
  · rw [lt0] at z; omega
  · rw [lt0] at z; omega
  · rw [lt_toInt, show (2 : Int32).toInt = 2 from rfl] at z; omega
  · rw [lt_toInt, show (1 : Int32).toInt = 1 from rfl] at z1
    rw [lt_toInt, show (60 : Int32).toInt = 60 from rfl] at z2
    rw [lt0] at z3 z4
    rw [lt_toInt, show (2 : Int32).toInt = 2 from rfl] at z5
    obtain ⟨N, hN, eN, rfl⟩ := nI_of0 (a := a1) (by omega)
    obtain ⟨n, hn, en, rfl⟩ := nI_of0 (a := a2) (by omega)
    obtain ⟨w, hw, ew, rfl⟩ := nI_of0 (a := a3) (by omega)
    have hw3 : w < 3 := by omega
    have mside : ∀ h1, MS h1 K m g ik gk → ∀ v, (m = 0 → v = -103 ∧ Inv (k + 1) h1) → (m ≠ 0 → v = aY K m g N n w ∧ ∀ h2, SM h1 h2 → Inv (k + 1) h2) → Ev mtb shp 16 m_M_years [.ref 46, .int (nI N), .int (nI n), .int (nI w)] h1 (qI fun w h2 => v = w ∧ Inv (k + 1) h2) := by
      intro h1 hM1 v q0 q1
      refine e_M_years 15 _ _ _ h1 _ (s_M_withinB 14 _ _ _ ?_)
      rw [show (1 : Int32).toInt = 1 from rfl, show (60 : Int32).toInt = 60 from rfl, decide_eq_true (by omega)]
      refine z_t ⟨fun z => absurd z (nI_pos hn), fun _ => s_M_within (n := 3) 14 _ (by decide) ?_⟩
      rw [inR_nI (by omega), decide_eq_true hw3, hM1.1.2.1]
      exact n_t (pk_ne m 0 (fun hm => s_M_yearsNow 8 hM1.1 hG hN hn hw3 (fun h2 s2 => ⟨(q1 hm).1, (q1 hm).2 h2 s2⟩)) (fun hm => ⟨(q0 hm).1, (q0 hm).2⟩))
    refine s_X_noLine 14 hX.2.1 (by omega) ?_
    by_cases hm0 : m = 0
    · rw [decide_eq_true hm0]
      exact z_t (mside h hM _ (fun _ => ⟨rfl, inv_same hB hX hM⟩) (fun z => absurd hm0 z))
    · rw [decide_eq_false hm0]
      refine z_f (s_R_copy_sr 14 hX.2.1 hm6 (fun h1 s1 r1 => ?_))
      refine s_X_yearsL 10 hX.1 hG hN hn hw3 s1 r1 (fun h2 s2 => ?_) _
      exact mside h2 (MS_SC s2 hM) _ (fun z => absurd z hm0) (fun _ => ⟨rfl, fun h3 s3 => inv_ask hB hX hM s2 s3⟩)
theorem op_match (hI : Inv k h) (a1 : Int32) : op2 m_X_match m_M_match [.int a1] h (Inv (k + 1)) := by
  obtain ⟨K, m, g, ik, gk, hB, hX, hM⟩ := hI
  obtain ⟨hG, hNB, hPB, hDP, hK0, h20, hlk, hKB⟩ := id hB
  have hm6 := hG.2.1
  have hK4 := hG.1
  have hout : (¬ (0 ≤ a1.toInt ∧ a1.toInt ≤ 1) ∧ ¬ (10 ≤ a1.toInt ∧ a1.toInt ≤ 13)) ∨ ∃ w, (w < 2 ∨ (10 ≤ w ∧ w < 14)) ∧ a1 = nI w := by
    by_cases c : (0 ≤ a1.toInt ∧ a1.toInt ≤ 1) ∨ (10 ≤ a1.toInt ∧ a1.toInt ≤ 13)
    · obtain ⟨w, hw, ew, rfl⟩ := nI_of0 (a := a1) (by omega)
      exact Or.inr ⟨w, by omega, rfl⟩
    · exact Or.inl ⟨fun z => c (Or.inl z), fun z => c (Or.inr z)⟩
  rcases hout with ⟨o1, o2⟩ | ⟨w, hw, rfl⟩
  · have mref : Ev mtb shp 16 m_M_match [.ref 46, .int a1] h (qI fun w h2 => -102 = w ∧ Inv (k + 1) h2) := by
      refine e_M_match 15 _ h _ (s_M_withinB 14 _ _ _ ?_)
      rw [show (0 : Int32).toInt = 0 from rfl, show (1 : Int32).toInt = 1 from rfl, decide_eq_false o1]
      refine n_f (s_M_withinB 14 _ _ _ ?_)
      rw [show (10 : Int32).toInt = 10 from rfl, show (13 : Int32).toInt = 13 from rfl, decide_eq_false o2]
      exact n_f ⟨rfl, inv_same hB hX hM⟩
    have n0 : ¬ a1 = 0 := fun e => o1 (by rw [e]; decide)
    have n1 : ¬ a1 = 1 := fun e => o1 (by rw [e]; decide)
    refine e_X_match 15 _ h _ ⟨fun _ => sw_out n0 (sw_out n1 ⟨fun y => absurd rfl y, fun _ => mref⟩), fun z => ⟨fun _ => sw_out n0 (sw_out n1 ⟨fun y => absurd rfl y, fun _ => mref⟩), fun z2 => ?_⟩⟩
    rw [lt_toInt, show (10 : Int32).toInt = 10 from rfl] at z
    rw [le_toInt, show (14 : Int32).toInt = 14 from rfl] at z2
    omega
  have mside : ∀ h1, MS h1 K m g ik gk → ∀ v, (m = 0 ∨ g 16 2 = 20 → v = -103 ∧ Inv (k + 1) h1) → (m ≠ 0 → g 16 2 < 20 → v = aM K g w ∧ ∀ h2, SM (hs h1 46 (upd (h1.1 46) 21 (nI (g 16 2) + 1))) h2 → Inv (k + 1) h2) → Ev mtb shp 16 m_M_match [.ref 46, .int (nI w)] h1 (qI fun w h2 => v = w ∧ Inv (k + 1) h2) := by
    intro h1 hM1 v q0 q1
    have core : ((h1.1 46 2) = 0 → v = -103 ∧ Inv (k + 1) h1) ∧ (¬ (h1.1 46 2) = 0 → (¬ (h1.1 46 21) = 20 → Ev mtb shp 15 m_M_matchNow [.ref 46, .int (nI w)] (hs h1 46 (upd (h1.1 46) 21 ((h1.1 46 21) + 1))) (qI fun v4 h3 => v = v4 ∧ Inv (k + 1) h3)) ∧ ((h1.1 46 21) = 20 → v = -103 ∧ Inv (k + 1) h1)) := by
      rw [hM1.1.2.1, hM1.2.2.2.2.1]
      refine pk_eq m 0 (fun e => q0 (Or.inl e)) (fun e => pk_ne (g 16 2) 20 (fun c => ?_) (fun c => q0 (Or.inr c)))
      obtain ⟨qa, qb⟩ := q1 e (by omega)
      refine s_M_matchNow 8 (show RM (hs h1 46 (upd (h1.1 46) 21 (nI (g 16 2) + 1))) K m g from hM1.1) hG hw (fun h2 s2 => ⟨qa, qb h2 s2⟩)
    refine e_M_match 15 _ h1 _ (s_M_within (n := 2) 14 _ (by decide) ?_)
    rw [inR_nI (by omega)]
    by_cases c : w < 2
    · rw [decide_eq_true c]
      exact n_t core
    · rw [decide_eq_false c]
      refine n_f (s_M_withinB 14 _ _ _ ?_)
      rw [show (10 : Int32).toInt = 10 from rfl, show (13 : Int32).toInt = 13 from rfl, nI_toInt (by omega), decide_eq_true (by omega)]
      exact n_t core
  have core : ∀ fl : Int32, (fl = 0 → w < 2) → (¬ fl = 0 → ¬ w < 2) → Ev mtb shp 15 m_X_noLine [.ref 0] h (qI fun v2 h1 => (¬ v2 = 0 → Ev mtb shp 16 m_M_match [.ref 46, .int (nI w)] h1 (qI fun w h2 => -103 = w ∧ Inv (k + 1) h2)) ∧ (v2 = 0 → ((h1.1 0 12) < 20 → Ev mtb shp 15 m_W_arrange [.ref 38, .ref 3, .ref 8] (hs h1 0 (upd (h1.1 0) 12 ((h1.1 0 12) + 1))) (qV fun h3 => (fl = 0 → (¬ nI w = 0 → Ev mtb shp 16 m_M_match [.ref 46, .int (nI w)] h3 (qI fun w h2 => (h3.1 38 2) = w ∧ Inv (k + 1) h2)) ∧ (nI w = 0 → Ev mtb shp 16 m_M_match [.ref 46, .int (nI w)] h3 (qI fun w h2 => (h3.1 38 1) = w ∧ Inv (k + 1) h2))) ∧ (¬ fl = 0 → vp_in (nI w - 10) 4 ∧ (Ev mtb shp 16 m_M_match [.ref 46, .int (nI w)] h3 (qI fun w1 h2 => (h3.1 39 (nI w - 10).toNatClampNeg) = w1 ∧ Inv (k + 1) h2))))) ∧ (¬ (h1.1 0 12) < 20 → Ev mtb shp 16 m_M_match [.ref 46, .int (nI w)] h1 (qI fun w h2 => -103 = w ∧ Inv (k + 1) h2)))) := by
    intro fl fl0 fl1
    refine s_X_noLine 14 hX.2.1 (by omega) ?_
    by_cases hm0 : m = 0
    · rw [decide_eq_true hm0]
      exact n_t (mside h hM _ (fun _ => ⟨rfl, inv_same hB hX hM⟩) (fun z => absurd hm0 z))
    rw [decide_eq_false hm0, hX.2.2.2.2.2.1]
    refine n_f (pk_lt (g 16 2) 20 (fun c => ?_) (fun c => mside h hM _ (fun _ => ⟨rfl, inv_same hB hX hM⟩) (fun _ z => by omega)))
    refine s_W_arrange 8 (show RC (hs h 0 (upd (h.1 0) 12 (nI (g 16 2) + 1))) K g from hX.1) (show RR8 (hs h 0 (upd (h.1 0) 12 (nI (g 16 2) + 1))) m g from hX.2.1) hG (fun h3 s3 wb => ?_)
    have hX1 : XS (hs h 0 (upd (h.1 0) 12 (nI (g 16 2) + 1))) K m (gset g 16 2 (g 16 2 + 1)) ik gk := ⟨hX.1, hX.2.1, hX.2.2.1, hX.2.2.2.1, hX.2.2.2.2.1, nI_s _, hX.2.2.2.2.2.2.1, hX.2.2.2.2.2.2.2⟩
    have hB1 : BS (k + 1) K m (gset g 16 2 (g 16 2 + 1)) ik gk := ⟨hG, hNB, hPB, hDP, hK0, (show g 16 2 + 1 ≤ 20 by omega), (show g 16 1 ≤ k + 1 by omega), hKB⟩
    have hM3 : MS h3 K m g ik gk := MS_SC s3 (h := hs h 0 (upd (h.1 0) 12 (nI (g 16 2) + 1))) (MS_hi (fun i hi => hs_off _ _ (by omega)) hM)
    have hX3 := XS_SC s3 hX1
    have fin : ∀ v, v = aM K g w → Ev mtb shp 16 m_M_match [.ref 46, .int (nI w)] h3 (qI fun w h2 => v = w ∧ Inv (k + 1) h2) := by
      intro v hv
      refine mside h3 hM3 v (fun z => by omega) (fun _ _ => ⟨hv, fun h4 s4 => ?_⟩)
      have hX4 : XS (hs h3 46 (upd (h3.1 46) 21 (nI (g 16 2) + 1))) K m (gset g 16 2 (g 16 2 + 1)) ik gk := XS_lo (fun i hi => hs_off _ _ (by omega)) hX3
      have hM4 : MS (hs h3 46 (upd (h3.1 46) 21 (nI (g 16 2) + 1))) K m (gset g 16 2 (g 16 2 + 1)) ik gk := ⟨hM3.1, hM3.2.1, hM3.2.2.1, hM3.2.2.2.1, nI_s _, hM3.2.2.2.2.2.1, hM3.2.2.2.2.2.2⟩
      exact ⟨K, m, _, ik, gk, hB1, XS_SM s4 hX4, MS_SM s4 hM4⟩
    obtain ⟨w1, w2, w3, w4, w5, w6⟩ := wb
    refine ⟨fun z => pk_ne w 0 (fun e => fin _ ?_) (fun e => fin _ ?_), fun z => ?_⟩
    · have := fl0 z
      rw [w4, aM, if_neg e, if_pos (by omega)]
    · rw [w3, aM, if_pos e, pI_nI (by omega)]
    · have hw2 : 10 ≤ w ∧ w < 14 := by have := fl1 z; omega
      rw [show nI w - 10 = nI (w - 10) from pk_sub (b := 10) hw2.1, nI_clamp (by omega)]
      refine ⟨vp_in_nI (by omega) (by decide), fin _ ?_⟩
      rw [aM, if_neg (by omega), if_neg (by omega)]
      by_cases c2 : w - 10 < K
      · rw [if_pos c2, w5 _ c2]
      · rw [if_neg c2, w6 _ (by omega) (by omega)]
  have c0 : w < 2 → _ := fun hc => core 0 (fun _ => hc) (fun z => absurd rfl z)
  refine e_X_match 15 _ h _ (pk_lt w 10 (fun c => pk_eq w 0 (fun e => c0 (by omega)) (fun e => pk_eq w 1 (fun e1 => c0 (by omega)) (fun e1 => by omega))) (fun c => pk_le 14 w (fun c2 => by omega) (fun c2 => pk_eq w 0 (fun e => by omega) (fun e => pk_eq w 1 (fun e1 => by omega) (fun e1 => ⟨fun _ => core 1 (fun z => absurd z (by decide)) (fun _ => by omega), fun z => absurd z (by decide)⟩)))))
end OPB
