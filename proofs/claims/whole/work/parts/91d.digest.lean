/-! the digest, of the class and of the reference -/
section DIG
variable {h : Hp} {k0 K m : Nat} {g : Gs} {ik : Bool} {gk : Gs}
theorem s_X_withThrone (d : Nat) (hX : XS h K m g ik gk) (hB : BS k0 K m g ik gk) (hm0 : m ≠ 0) (x : Int64) {Kk : Int64 → Hp → Prop} (hq : ∀ h', SC h h' → Kk (dT K m g x) h') : Ev mtb shp (d + 7) m_X_withThrone [.ref 0, .long x] h (qL Kk) := by
  obtain ⟨hGB, hNB, hPB, hDP, hK0, -, -, -⟩ := hB
  refine e_X_withThrone (d + 6) _ h _ ?_
  refine dn (T := fun i => PP (Ev mtb shp (d + 6)) shp cd_X_withThrone 3 (qL Kk) 5 [.ref 0, .long x, sec, .long (fmx (aT K g) x i), sec, .int (nI i)] [] h) (m := 3) ?_ (fun i hi ih => ?_) 0 (Nat.zero_le _)
  · obtain ⟨hC, hR, hN, hP, -⟩ := hX
    refine p_X_withThrone_5 (d + 6) _ _ _ h _ (gt_E (c := 2) (by decide) ?_)
    refine s_X_dogK (d + 2) (w := 0) hC hR hGB hm0 (by decide) (fun h1 s1 => ?_)
    refine s_X_dogK (d + 2) (w := 1) (RC_SC s1 hC) (RR_SC s1 hR) hGB hm0 (by decide) (fun h2 s2 => ?_)
    have s2 := SC_tr s1 s2
    refine s_X_foldK (d + 1) (RC_SC s2 hC) (RR_SC s2 hR) hGB (by omega) (fun h3 s3 => ?_)
    have s3 := SC_tr s2 s3
    have hR3 := RR_SC s3 hR
    have hN3 : RN h3 g := by
      unfold RN
      rw [s3 26 rfl, s3 27 rfl, s3 28 rfl, s3 29 rfl, s3 30 rfl, s3 31 rfl]
      exact hN
    refine dn (T := fun i => PP (Ev mtb shp (d + 6)) shp cd_X_withThrone 3 (qL Kk) 72 [.ref 0, .long x, sec, .long (fmx (aW m g) (mxL (mxL (mxL (fmx (aT K g) x 3) (aD K m g 0)) (aD K m g 1)) (aF K m g)) i), sec, .int (nI i)] [] h3) (m := 4) ?_ (fun i hi ih => ?_) 0 (Nat.zero_le _)
    · exact p_X_withThrone_72 (d + 6) _ _ _ h3 _ (gt_E (c := 3) (by decide) (hq h3 s3))
    · refine p_X_withThrone_72 (d + 6) _ _ _ h3 _ (gt_S (c := 3) (by omega) (by decide) ?_)
      rw [nI_s i]
      exact s_X_windsK d hR3 hGB hN3 hNB hm0 hi ih
  · refine p_X_withThrone_5 (d + 6) _ _ _ h _ (gt_S (c := 2) (by omega) (by decide) ?_)
    rw [nI_s i]
    exact s_X_throneK d hX.1 hX.2.1 hGB hm0 hi ih
theorem s_X_digest (d : Nat) (hX : XS h K m g ik gk) (hB : BS k0 K m g ik gk) {Kk : Int64 → Hp → Prop} (hq : ∀ h', SC h h' → Kk (dE K m g) h') : Ev mtb shp (d + 8) m_X_digest [.ref 0] h (qL Kk) := by
  obtain ⟨hGB, hNB, hPB, hDP, hK0, -, -, -⟩ := id hB
  have hm6 := hGB.2.1
  have hK4 := hGB.1
  have hP52 := hPB.1
  refine e_X_digest (d + 7) h _ ?_
  refine dn (T := fun k => ∀ h', SC h h' → ∀ w, PP (Ev mtb shp (d + 7)) shp cd_X_digest 3 (qL Kk) 6 [.ref 0, .long (dKs K m g k), sec, .int (nI k), w] [] h') (m := K) (fun h' s1 w => ?_) (fun k hk ih h' s1 w => ?_) 0 (Nat.zero_le _) h (SC_rfl h) unv
  · refine p_X_digest_6 (d + 7) _ _ _ h' _ ?_
    rw [(RC_SC s1 hX.1).1]
    refine lpE ?_
    refine dn (T := fun s => ∀ w, PP (Ev mtb shp (d + 7)) shp cd_X_digest 3 (qL Kk) 97 [.ref 0, .long (dSs K m g s), sec, .int (nI s), w] [] h') (m := m) (fun w => ?_) (fun s hs ih w => ?_) 0 (Nat.zero_le _) w
    · have hX1 := XS_SC s1 hX
      refine p_X_digest_97 (d + 7) _ _ _ h' _ ?_
      rw [hX1.2.1.1]
      refine lpE (s_X_noLine (d + 6) hX1.2.1 (by omega) ?_)
      have fin : ∀ h2, SC h h2 → PP (Ev mtb shp (d + 7)) shp cd_X_digest 3 (qL Kk) 196 [.ref 0, .long (dH K m g), sec, .int 0, w] [] h2 := by
        intro h2 s2
        have hX2 := XS_SC s2 hX
        refine dn (T := fun i => PP (Ev mtb shp (d + 7)) shp cd_X_digest 3 (qL Kk) 196 [.ref 0, .long (fmx (fun i => nI (g 15 i)) (dH K m g) i), sec, .int (nI i), w] [] h2) (m := g 16 0) ?_ (fun i hi ih => ?_) 0 (Nat.zero_le _)
        · refine p_X_digest_196 (d + 7) _ _ _ h2 _ ?_
          rw [hX2.2.2.2.1.1]
          refine lpE ?_
          refine dn (T := fun i => PP (Ev mtb shp (d + 7)) shp cd_X_digest 3 (qL Kk) 232 [.ref 0, .long (fmx (aN K m g) (fmx (fun i => nI (g 15 i)) (dH K m g) (g 16 0)) i), sec, .int (nI i), w] [] h2) (m := 13) ?_ (fun i hi ih => ?_) 0 (Nat.zero_le _)
          · exact p_X_digest_232 (d + 7) _ _ _ h2 _ (gt_E (c := 12) (by decide) (hq h2 s2))
          · refine p_X_digest_232 (d + 7) _ _ _ h2 _ (gt_S (c := 12) (by omega) (by decide) ?_)
            rw [nI_s i]
            exact s_X_countK (d + 1) hX2 hGB hi ih
        · refine p_X_digest_196 (d + 7) _ _ _ h2 _ ?_
          rw [hX2.2.2.2.1.1, nI_clamp (show i < 2 ^ 31 by omega), hX2.2.2.2.1.2 i hi, nI_s i]
          exact lpS hi (by omega) ⟨vp_in_nI (by omega) (by decide), ih⟩
      by_cases hm0 : m = 0
      · rw [decide_eq_true hm0]
        refine ⟨fun _ => ?_, fun z => absurd z (by decide)⟩
        have := fin h' s1
        rw [dH, if_pos hm0] at this
        exact this
      · rw [decide_eq_false hm0]
        refine ⟨fun z => absurd rfl z, fun _ => s_X_withThrone d hX1 hB hm0 _ (fun h2 s2 => ?_)⟩
        have := fin h2 (SC_tr s1 s2)
        rw [dH, if_neg hm0] at this
        exact this
    · have hX1 := XS_SC s1 hX
      refine p_X_digest_97 (d + 7) _ _ _ h' _ ?_
      rw [hX1.2.1.1]
      refine lpS hs (by omega) ?_
      refine dn (T := fun i => PP (Ev mtb shp (d + 7)) shp cd_X_digest 3 (qL Kk) 111 [.ref 0, .long (fmx (aSt9 K m g s) (dSs K m g s) i), sec, .int (nI s), .int (nI i)] [] h') (m := 8) ?_ (fun i hi ih => ?_) 0 (Nat.zero_le _)
      · refine p_X_digest_111 (d + 7) _ _ _ h' _ (gt_E (c := 7) (by decide) ?_)
        refine dn (T := fun i => PP (Ev mtb shp (d + 7)) shp cd_X_digest 3 (qL Kk) 142 [.ref 0, .long (fmx (fun k => nI (Wg g k s)) (fmx (aSt9 K m g s) (dSs K m g s) 8) i), sec, .int (nI s), .int (nI i)] [] h') (m := K) ?_ (fun i hi ih => ?_) 0 (Nat.zero_le _)
        · refine p_X_digest_142 (d + 7) _ _ _ h' _ ?_
          rw [hX1.1.1, nI_s s]
          exact lpE (ih _)
        · refine p_X_digest_142 (d + 7) _ _ _ h' _ ?_
          rw [hX1.1.1, nI_s i]
          exact lpS hi (by omega) (s_X_wrongK (d + 4) hX1.1 hX1.2.1 hGB hi hs ih)
      · refine p_X_digest_111 (d + 7) _ _ _ h' _ (gt_S (c := 7) (by omega) (by decide) ?_)
        rw [nI_s i]
        exact s_X_stockingK (d + 3) hX1.1 hX1.2.1 hGB (hK0 (by omega)) hs hi ih
  · have hX1 := XS_SC s1 hX
    refine p_X_digest_6 (d + 7) _ _ _ h' _ ?_
    rw [hX1.1.1]
    refine lpS hk (by omega) ?_
    refine dn (T := fun i => PP (Ev mtb shp (d + 7)) shp cd_X_digest 3 (qL Kk) 20 [.ref 0, .long (fmx (aK m g k) (dKs K m g k) i), sec, .int (nI k), .int (nI i)] [] h') (m := 10) ?_ (fun i hi ih => ?_) 0 (Nat.zero_le _)
    · refine p_X_digest_20 (d + 7) _ _ _ h' _ (gt_E (c := 9) (by decide) ?_)
      rw [nI_s k]
      refine s_X_chanceK (d + 2) (w := 0) hX1.1 hX1.2.1 hGB hk (by decide) ?_
      refine s_X_chanceK (d + 2) (w := 1) hX1.1 hX1.2.1 hGB hk (by decide) ?_
      refine s_X_coupK d hX1.1 hX1.2.1 hGB hk (fun h2 s2 => ?_)
      exact ih h2 (SC_tr s1 s2) _
    · refine p_X_digest_20 (d + 7) _ _ _ h' _ (gt_S (c := 9) (by omega) (by decide) ?_)
      rw [nI_s i]
      exact s_X_kingK (d + 1) hX1.1 hX1.2.1 hX1.2.2.1 hGB hNB hk hi ih
end DIG
