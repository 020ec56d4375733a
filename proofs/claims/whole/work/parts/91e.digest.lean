/-! the digest of the reference -/
def DV (h h' : Hp) (x : Int64) : Prop := SM h h' ∧ h'.2 46 54 = x
theorem s_M_mix (d : Nat) {h h' : Hp} {x : Int64} (hD : DV h h' x) (v : Int32) {Kk : Hp → Prop} (hq : ∀ h2, DV h h2 (mxL x v) → Kk h2) : Ev mtb shp (d + 1) m_M_mix [.ref 46, .long v.toInt64] h' (qV Kk) := by
  refine e_M_mix d _ h' _ ?_
  rw [hD.2]
  exact hq _ ⟨SM_L hD.1 _ _ _, rfl⟩
section DIGM
variable {h : Hp} {k0 K m : Nat} {g : Gs} {ik : Bool} {gk : Gs}
theorem s_M_mixKing (d : Nat) (hX : MS h K m g ik gk) (hB : BS k0 K m g ik gk) {k : Nat} (hk : k < K) {h' : Hp} {x : Int64} (hD : DV h h' x) {Kk : Hp → Prop} (hq : ∀ h2, DV h h2 (dK K m g k x) → Kk h2) : Ev mtb shp (d + 10) m_M_mixKing [.ref 46, .int (nI k)] h' (qV Kk) := by
  obtain ⟨hGB, hNB, hPB, hDP, hK0, -, -, -⟩ := id hB
  refine e_M_mixKing (d + 9) _ h' _ ?_
  refine dn (T := fun i => ∀ h', DV h h' (fmx (aK m g k) x i) → PP (Ev mtb shp (d + 9)) shp cd_M_mixKing 0 (qV Kk) 2 [.ref 46, .int (nI k), .int (nI i)] [] h') (m := 10) (fun h' d1 => ?_) (fun i hi ih h' d1 => ?_) 0 (Nat.zero_le _) h' hD
  · refine p_M_mixKing_2 (d + 9) _ _ h' _ (lpE (m := 10) ?_)
    refine s_M_chanceNow (d + 3) (w := 0) (RM_SM d1.1 hX.1) hGB hk (by decide) (s_M_mix (d + 8) d1 _ (fun h2 d2 => ?_))
    refine s_M_chanceNow (d + 3) (w := 1) (RM_SM d2.1 hX.1) hGB hk (by decide) (s_M_mix (d + 8) d2 _ (fun h3 d3 => ?_))
    exact s_M_coupNow d (RM_SM d3.1 hX.1) hGB hk (s_M_mix (d + 8) d3 _ (fun h4 d4 => hq h4 d4))
  · refine p_M_mixKing_2 (d + 9) _ _ h' _ (lpS (m := 10) hi (by decide) ?_)
    rw [nI_s i]
    exact s_M_kingNow (d + 2) (RM_SM d1.1 hX.1) (RO_SM d1.1 hX.2.1) hGB hNB hk hi (s_M_mix (d + 8) d1 _ (fun h2 d2 => ih h2 d2))
theorem s_M_mixStocking (d : Nat) (hX : MS h K m g ik gk) (hB : BS k0 K m g ik gk) {s : Nat} (hs : s < m) {h' : Hp} {x : Int64} (hD : DV h h' x) {Kk : Hp → Prop} (hq : ∀ h2, DV h h2 (dS K m g s x) → Kk h2) : Ev mtb shp (d + 6) m_M_mixStocking [.ref 46, .int (nI s)] h' (qV Kk) := by
  obtain ⟨hGB, hNB, hPB, hDP, hK0, -, -, -⟩ := id hB
  have hK4 := hGB.1
  refine e_M_mixStocking (d + 5) _ h' _ ?_
  refine dn (T := fun i => ∀ h', DV h h' (fmx (aSt9 K m g s) x i) → PP (Ev mtb shp (d + 5)) shp cd_M_mixStocking 0 (qV Kk) 2 [.ref 46, .int (nI s), .int (nI i)] [] h') (m := 8) (fun h' d1 => ?_) (fun i hi ih h' d1 => ?_) 0 (Nat.zero_le _) h' hD
  · refine p_M_mixStocking_2 (d + 5) _ _ h' _ (lpE (m := 8) ?_)
    refine dn (T := fun i => ∀ h', DV h h' (fmx (fun k => nI (Wg g k s)) (fmx (aSt9 K m g s) x 8) i) → PP (Ev mtb shp (d + 5)) shp cd_M_mixStocking 0 (qV Kk) 27 [.ref 46, .int (nI s), .int (nI i)] [] h') (m := K) (fun h' d1 => ?_) (fun i hi ih h' d1 => ?_) 0 (Nat.zero_le _) h' d1
    · refine p_M_mixStocking_27 (d + 5) _ _ h' _ ?_
      rw [(RM_SM d1.1 hX.1).1]
      exact lpE (hq h' d1)
    · refine p_M_mixStocking_27 (d + 5) _ _ h' _ ?_
      rw [(RM_SM d1.1 hX.1).1, nI_s i]
      exact lpS hi (by omega) (s_M_wrongOf (d + 3) (RM_SM d1.1 hX.1) hGB hi hs (s_M_mix (d + 4) d1 _ (fun h2 d2 => ih h2 d2)))
  · refine p_M_mixStocking_2 (d + 5) _ _ h' _ (lpS (m := 8) hi (by decide) ?_)
    rw [nI_s i]
    exact s_M_stockingNow d (RM_SM d1.1 hX.1) hGB (hK0 (by omega)) hs hi (s_M_mix (d + 4) d1 _ (fun h2 d2 => ih h2 d2))
theorem s_M_digest (d : Nat) (hX : MS h K m g ik gk) (hB : BS k0 K m g ik gk) {Kk : Int64 → Hp → Prop} (hq : ∀ h', SM h h' → Kk (dE K m g) h') : Ev mtb shp (d + 11) m_M_digest [.ref 46] h (qL Kk) := by
  obtain ⟨hGB, hNB, hPB, hDP, hK0, -, -, -⟩ := id hB
  have hm6 := hGB.2.1
  have hK4 := hGB.1
  have hP52 := hPB.1
  refine e_M_digest (d + 10) h _ ?_
  refine dn (T := fun k => ∀ h', DV h h' (dKs K m g k) → PP (Ev mtb shp (d + 10)) shp cd_M_digest 3 (qL Kk) 9 [.ref 46, .int (nI k)] [] h') (m := K) (fun h' d1 => ?_) (fun k hk ih h' d1 => ?_) 0 (Nat.zero_le _) _ ⟨SM_L (SM_rfl h) _ _ _, rfl⟩
  · refine p_M_digest_9 (d + 10) _ h' _ ?_
    rw [(RM_SM d1.1 hX.1).1]
    refine lpE ?_
    refine dn (T := fun s => ∀ h', DV h h' (dSs K m g s) → PP (Ev mtb shp (d + 10)) shp cd_M_digest 3 (qL Kk) 30 [.ref 46, .int (nI s)] [] h') (m := m) (fun h' d1 => ?_) (fun s hs ih h' d1 => ?_) 0 (Nat.zero_le _) h' d1
    · refine p_M_digest_30 (d + 10) _ h' _ ?_
      rw [(RM_SM d1.1 hX.1).2.1]
      refine lpE ?_
      have fin : ∀ h2, DV h h2 (dH K m g) → PP (Ev mtb shp (d + 10)) shp cd_M_digest 3 (qL Kk) 133 [.ref 46, .int 0] [] h2 := by
        intro h2 d2
        refine dn (T := fun i => ∀ h2, DV h h2 (fmx (fun i => nI (g 15 i)) (dH K m g) i) → PP (Ev mtb shp (d + 10)) shp cd_M_digest 3 (qL Kk) 133 [.ref 46, .int (nI i)] [] h2) (m := g 16 0) (fun h2 d2 => ?_) (fun i hi ih h2 d2 => ?_) 0 (Nat.zero_le _) h2 d2
        · refine p_M_digest_133 (d + 10) _ h2 _ ?_
          rw [(MS_SM d2.1 hX).2.2.1.1]
          refine lpE ?_
          refine dn (T := fun i => ∀ h2, DV h h2 (fmx (aN K m g) (fmx (fun i => nI (g 15 i)) (dH K m g) (g 16 0)) i) → PP (Ev mtb shp (d + 10)) shp cd_M_digest 3 (qL Kk) 160 [.ref 46, .int (nI i)] [] h2) (m := 13) (fun h2 d2 => ?_) (fun i hi ih h2 d2 => ?_) 0 (Nat.zero_le _) h2 d2
          · refine p_M_digest_160 (d + 10) _ h2 _ (lpE (m := 13) ?_)
            rw [d2.2]
            exact hq h2 d2.1
          · refine p_M_digest_160 (d + 10) _ h2 _ (lpS (m := 13) hi (by decide) ?_)
            rw [nI_s i]
            exact s_M_howMany (d + 3) (MS_SM d2.1 hX) hGB hi (s_M_mix (d + 9) d2 _ (fun h3 d3 => ih h3 d3))
        · refine p_M_digest_133 (d + 10) _ h2 _ ?_
          have hQ := (MS_SM d2.1 hX).2.2.1
          rw [hQ.1, nI_clamp (show i < 2 ^ 31 by omega), hQ.2 i hi, nI_s i]
          exact lpS hi (by omega) ⟨vp_in_nI (by omega) (by decide), s_M_mix (d + 9) d2 _ (fun h3 d3 => ih h3 d3)⟩
      refine pk_le m 0 (fun hm0 => ?_) (fun hm0 => ?_)
      · have hm0 : m = 0 := by omega
        have := fin h'
        rw [dH, if_pos hm0] at this
        exact this d1
      · have hm0 : m ≠ 0 := by omega
        rw [dH, if_neg hm0] at fin
        refine dn (T := fun i => ∀ h', DV h h' (fmx (aT K g) (dSs K m g m) i) → PP (Ev mtb shp (d + 10)) shp cd_M_digest 3 (qL Kk) 58 [.ref 46, .int (nI i)] [] h') (m := 3) (fun h' d1 => ?_) (fun i hi ih h' d1 => ?_) 0 (Nat.zero_le _) h' d1
        · refine p_M_digest_58 (d + 10) _ h' _ (lpE (m := 3) ?_)
          refine s_M_dogNow (d + 5) (w := 0) (RM_SM d1.1 hX.1) hGB (by decide) (fun h2 s2 => ?_)
          have d2 : DV h h2 (fmx (aT K g) (dSs K m g m) 3) := ⟨SM_tr d1.1 s2.1, by rw [s2.2]; exact d1.2⟩
          refine s_M_mix (d + 9) d2 _ (fun h3 d3 => ?_)
          refine s_M_dogNow (d + 5) (w := 1) (RM_SM d3.1 hX.1) hGB (by decide) (fun h4 s4 => ?_)
          have d4 : DV h h4 (mxL (fmx (aT K g) (dSs K m g m) 3) (aD K m g 0)) := ⟨SM_tr d3.1 s4.1, by rw [s4.2]; exact d3.2⟩
          refine s_M_mix (d + 9) d4 _ (fun h5 d5 => ?_)
          refine s_M_foldNow (d + 2) (RM_SM d5.1 hX.1) hGB (fun h6 s6 => ?_)
          have d6 : DV h h6 (mxL (mxL (fmx (aT K g) (dSs K m g m) 3) (aD K m g 0)) (aD K m g 1)) := ⟨SM_tr d5.1 s6.1, by rw [s6.2]; exact d5.2⟩
          refine s_M_mix (d + 9) d6 _ (fun h7 d7 => ?_)
          refine dn (T := fun i => ∀ h', DV h h' (fmx (aW m g) (mxL (mxL (mxL (fmx (aT K g) (dSs K m g m) 3) (aD K m g 0)) (aD K m g 1)) (aF K m g)) i) → PP (Ev mtb shp (d + 10)) shp cd_M_digest 3 (qL Kk) 110 [.ref 46, .int (nI i)] [] h') (m := 4) (fun h' d1 => ?_) (fun i hi ih h' d1 => ?_) 0 (Nat.zero_le _) h7 d7
          · exact p_M_digest_110 (d + 10) _ h' _ (lpE (m := 4) (fin h' d1))
          · refine p_M_digest_110 (d + 10) _ h' _ (lpS (m := 4) hi (by decide) ?_)
            rw [nI_s i]
            exact s_M_windsNow (d + 3) (RM_SM d1.1 hX.1) hGB (RO_SM d1.1 hX.2.1) hNB hi (s_M_mix (d + 9) d1 _ (fun h3 d3 => ih h3 d3))
        · refine p_M_digest_58 (d + 10) _ h' _ (lpS (m := 3) hi (by decide) ?_)
          rw [nI_s i]
          exact s_M_throneNow (d + 3) (RM_SM d1.1 hX.1) hGB hi (s_M_mix (d + 9) d1 _ (fun h3 d3 => ih h3 d3))
    · refine p_M_digest_30 (d + 10) _ h' _ ?_
      rw [(RM_SM d1.1 hX.1).2.1, nI_s s]
      exact lpS hs (by omega) (s_M_mixStocking (d + 4) hX hB hs d1 (fun h2 d2 => ih h2 d2))
  · refine p_M_digest_9 (d + 10) _ h' _ ?_
    rw [(RM_SM d1.1 hX.1).1, nI_s k]
    exact lpS hk (by omega) (s_M_mixKing d hX hB hk d1 (fun h2 d2 => ih h2 d2))
end DIGM
