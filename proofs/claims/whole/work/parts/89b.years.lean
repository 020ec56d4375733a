/-! years -/
theorem s_X_yearsL (d : Nat) {h h1 : Hp} {K m : Nat} {g : Gs} (hC : RC h K g) (hB : GB K m g) {N n w : Nat} (hN : N < 2 ^ 31) (hn : n < 2 ^ 31) (hw : w < 3) (s1 : SC h h1) (r1 : RR20 h1 m g) {Kk : Int32 → Hp → Prop} (hq : ∀ h', SC h h' → Kk (aY K m g N n w) h') (x4 : Int32) : PP (Ev mtb shp (d + 5)) shp cd_X_years 1 (qI Kk) 69 [.ref 0, .int (nI N), .int (nI n), .int (nI w), .int x4, .int 0, .int (nI n), .int 0] [] h1 := by
  have hm6 := hB.2.1
  have hK4 := hB.1
  refine dn (T := fun i => ∀ h', SC h h' → RR20 h' m (ygs g n i) → PP (Ev mtb shp (d + 5)) shp cd_X_years 1 (qI Kk) 69 [.ref 0, .int (nI N), .int (nI n), .int (nI w), .int x4, .int (nI (cnt i (ysq K g n))), .int (nI (ysd n i)), .int (nI i)] [] h') (m := N) (fun h' s1 r1 => ?_) (fun i hi ih h' s1 r1 => ?_) 0 (Nat.zero_le _) h1 s1 r1
  · refine p_X_years_69 (d + 5) _ _ _ _ _ _ _ h' _ (lpE ?_)
    have hq := hq h' s1
    unfold aY at hq
    refine pk_eq w 0 (fun e => ?_) (fun e => pk_eq w 1 (fun e1 => ?_) (fun e1 => ?_))
    · rw [if_pos e] at hq; exact hq
    · rw [if_neg e, if_pos e1] at hq
      have hl : bits m (hg (ygs g n N)) < 64 := Nat.lt_of_lt_of_le (bits_lt _ _) (p64 hm6)
      refine s_R_hangings (d + 3) r1 (GB_ygs hB n N) (s_bitCount (d + 4) (by omega) ?_)
      rw [popc_bits (by omega)]
      exact hq
    · rw [if_neg e, if_neg e1] at hq; exact hq
  · refine p_X_years_69 (d + 5) _ _ _ _ _ _ _ h' _ (lpS hi hN ?_)
    refine s_X_nextSeed (d + 4) (ysd_lt hn i) ⟨by decide, by decide, ?_⟩
    have hyl := yS_lt (ysd n i)
    rw [nI_s i, show nI (yS (ysd n i)) / 65536 = nI (yS (ysd n i) / 65536) from pk_div (d := 65536) (by omega) (by decide) (by decide), show nI (yS (ysd n i) / 65536) - nI (yS (ysd n i) / 65536) / 5 * 5 = nI (yS (ysd n i) / 65536 % 5) from pk_rem (d := 5) (by omega) (by decide) (by decide), yJ_by _ (Nat.mod_lt _ (by decide)), ← yJ]
    refine s_R_blows (d + 2) r1 (GB_ygs hB n i) (yJ_lt _) (fun F hF => ?_)
    have r2 := RR_blws r1 hF
    refine s_R_shrinks (d + 3) r2 (GB_blw (GB_ygs hB n i) _) (fun F2 hF2 => ?_)
    have r3 := RR_shrs r2 hF2
    have sc3 : SC h (hs (hs h' 25 F) 21 F2) := SC_hs (SC_hs s1 rfl _) rfl _
    have hC3 : RC (hs (hs h' 25 F) 21 F2) K (ygs g n (i + 1)) := by
      have := RC_SC sc3 hC
      unfold RC at this ⊢
      have e : ∀ r, r ≠ 4 → r ≠ 8 → ygs g n (i + 1) r = g r := by
        intro r h4 h8
        have : ∀ i, ygs g n i r = g r := by
          intro i
          induction i with
          | zero => rfl
          | succ i ih => rw [ygs, gshr_r _ h4, gblw_r _ _ h8]; exact ih
        exact this (i + 1)
      rw [e 0 (by decide) (by decide), e 1 (by decide) (by decide), e 2 (by decide) (by decide), e 3 (by decide) (by decide)]
      exact this
    refine s_C_heirss d hC3 r3 (GB_ygs hB n (i + 1)) ?_
    have hh := hei_lt (GB_ygs hB n (i + 1))
    refine s_bitCount (d + 4) (by exact Nat.lt_trans hh (by decide)) (pk_ne (popc (bits K (hp (ygs g n (i + 1))))) 1 (fun c => ?_) (fun c => ?_) (ha := by have := popc_le (bits K (hp (ygs g n (i + 1)))); omega))
    · have ih := ih _ sc3 r3
      rw [cnt_f (p := ysq K g n) (decide_eq_false c)] at ih
      exact ih
    · have ih := ih _ sc3 r3
      rw [cnt_t (p := ysq K g n) (decide_eq_true c)] at ih
      rw [nI_s]
      exact ih
/-- within years: pegs and sizes are changed, and kept aside -/
def YF (h h' : Hp) : Prop := (∀ i, scM i = false → i ≠ 51 → i ≠ 55 → h'.1 i = h.1 i) ∧ (∀ f, scF f = false → h'.1 46 f = h.1 46 f) ∧ (∀ s, 6 ≤ s → h'.1 51 s = h.1 51 s) ∧ (∀ s, 6 ≤ s → h'.1 55 s = h.1 55 s) ∧ (∀ s, s < 6 → h'.1 68 s = h.1 55 s) ∧ ∀ s, s < 6 → h'.1 69 s = h.1 51 s
theorem s_M_yearsNow (d : Nat) {h : Hp} {K m : Nat} {g : Gs} (hM : RM h K m g) (hB : GB K m g) {N n w : Nat} (hN : N < 2 ^ 31) (hn : n < 2 ^ 31) (hw : w < 3) {Kk : Int32 → Hp → Prop} (hq : ∀ h', SM h h' → Kk (aY K m g N n w) h') : Ev mtb shp (d + 7) m_M_yearsNow [.ref 46, .int (nI N), .int (nI n), .int (nI w)] h (qI Kk) := by
  have hm6 := hB.2.1
  refine e_M_yearsNow (d + 6) _ _ _ h _ (s_M_savePegs (d + 5) (fun F hF => ?_))
  have key := dn (T := fun i => ∀ G, (∀ s, s < i → G s = h.1 51 s) → PP (Ev mtb shp (d + 6)) shp cd_M_yearsNow 1 (qI Kk) 7 [.ref 46, .int (nI N), .int (nI n), .int (nI w), .int (nI i), unv, unv] [] (hs (hs h 68 F) 69 G)) (m := 6) (fun G hG => ?_) (fun i hi ih G hG => ?_) 0 (Nat.zero_le _) (h.1 69) (fun s hs0 => absurd hs0 (Nat.not_lt_zero s))
  · rw [show hs (hs h 68 F) 69 (h.1 69) = hs h 68 F from hs_id (hs h 68 F) 69] at key
    exact key
  · refine p_M_yearsNow_7 (d + 6) _ _ _ _ _ _ _ _ (lpE (m := 6) ?_)
    rw [nI_l hn]
    refine dn (T := fun i => ∀ h', YF h h' → h'.2 46 37 = lN (ysd n i) → RM h' K m (ygs g n i) → PP (Ev mtb shp (d + 6)) shp cd_M_yearsNow 1 (qI Kk) 46 [.ref 46, .int (nI N), .int (nI n), .int (nI w), .int (nI (cnt i (ysq K g n))), .int (nI i), unv] [] h') (m := N) (fun h' y1 y2 y3 => ?_) (fun i hi ih h' y1 y2 y3 => ?_) 0 (Nat.zero_le _) _ ?_ rfl hM
    · refine p_M_yearsNow_46 (d + 6) _ _ _ _ _ _ h' _ (lpE ?_)
      refine s_M_hanging (d + 4) y3 (GB_ygs hB n N) (s_M_loadPegs (d + 5) (fun P p1 p2 => ?_))
      have eP : P = h.1 55 := by
        funext s
        by_cases hs6 : s < 6
        · rw [p1 s hs6]; exact y1.2.2.2.2.1 s hs6
        · rw [p2 s (by omega)]; exact y1.2.2.2.1 s (by omega)
      have k2 := dn (T := fun i => ∀ G, (∀ s, s < i → G s = h.1 51 s) → (∀ s, 6 ≤ s → G s = h.1 51 s) → PP (Ev mtb shp (d + 6)) shp cd_M_yearsNow 1 (qI Kk) 108 [.ref 46, .int (nI N), .int (nI n), .int (nI w), .int (nI (cnt N (ysq K g n))), .int (nI (cnt m (hg (ygs g n N)))), .int (nI i)] [] (hs (hs h' 55 P) 51 G)) (m := 6) (fun G g1 g2 => ?_) (fun i hi ih G g1 g2 => ?_) 0 (Nat.zero_le _) (h'.1 51) (fun s hs0 => absurd hs0 (Nat.not_lt_zero s)) y1.2.2.1
      · rw [show hs (hs h' 55 P) 51 (h'.1 51) = hs h' 55 P from hs_id (hs h' 55 P) 51] at k2
        exact k2
      · have eG : G = h.1 51 := by
          funext s
          by_cases hs6 : s < 6
          · exact g1 s hs6
          · exact g2 s (by omega)
        have sm2 : SM h (hs (hs h' 55 P) 51 G) := by
          refine ⟨fun i hi => ?_, y1.2.1⟩
          by_cases e1 : i = 51
          · rw [e1]; exact eG
          · rw [hs_off _ _ e1]
            by_cases e5 : i = 55
            · rw [e5]; exact eP
            · rw [hs_off _ _ e5]; exact y1.1 i hi e1 e5
        refine p_M_yearsNow_108 (d + 6) _ _ _ _ _ _ _ _ (lpE (m := 6) ?_)
        have hq := hq _ sm2
        unfold aY at hq
        refine pk_ne w 0 (fun e => pk_ne w 1 (fun e1 => ?_) (fun e1 => ?_)) (fun e => ?_)
        · rw [if_neg e, if_neg e1] at hq
          rw [show (hs (hs h' 55 P) 51 G).2 46 37 = h'.2 46 37 from rfl, y2, lN_i]
          exact hq
        · rw [if_neg e, if_pos e1] at hq; exact hq
        · rw [if_pos e] at hq; exact hq
      · have v6 := vp_in_nI hi (by decide)
        refine p_M_yearsNow_108 (d + 6) _ _ _ _ _ _ _ _ (lpS (m := 6) hi (by decide) ⟨v6, v6, ?_⟩)
        rw [hs_hs, nI_clamp (show i < 2 ^ 31 by omega), nI_s i]
        refine ih _ (fun s hs0 => ?_) (fun s hs0 => ?_)
        · show upd G i (h'.1 69 i) s = _
          by_cases e : s = i
          · rw [e, pk_us]; exact y1.2.2.2.2.2 i hi
          · rw [pk_un e]; exact g1 s (by omega)
        · show upd G i (h'.1 69 i) s = _
          rw [pk_un (by omega)]; exact g2 s hs0
    · refine p_M_yearsNow_46 (d + 6) _ _ _ _ _ _ h' _ (lpS hi hN ?_)
      refine s_M_draw (d + 5) (ysd_lt hn i) y2 ?_
      rw [nI_s i, yJ_by _ (Nat.mod_lt _ (by decide)), ← yJ, add0]
      refine s_M_blow (d + 2) (h := hsL h' 46 37 (lN (yS (ysd n i)))) y3 (GB_ygs hB n i) (yJ_lt _) (fun P p1 p2 => ?_)
      have r2 := RM_blw (h := hsL h' 46 37 (lN (yS (ysd n i)))) y3 p1
      refine s_M_shrink (d + 4) r2 (GB_blw (GB_ygs hB n i) _) (fun G g1 g2 => ?_)
      have r3 := RM_shr r2 g1
      have yf : YF h (hs (hs (hsL h' 46 37 (lN (yS (ysd n i)))) 55 P) 51 G) := by
        refine ⟨fun i hi e1 e5 => ?_, y1.2.1, fun s hs0 => ?_, fun s hs0 => ?_, y1.2.2.2.2.1, y1.2.2.2.2.2⟩
        · rw [hs_off _ _ e1, hs_off _ _ e5]; exact y1.1 i hi e1 e5
        · show G s = _
          rw [g2 s (by omega)]; exact y1.2.2.1 s hs0
        · show P s = _
          rw [p2 s (by omega)]; exact y1.2.2.2.1 s hs0
      refine s_M_having d r3 (GB_ygs hB n (i + 1)) ?_
      have hh := hei_lt (GB_ygs hB n (i + 1))
      refine s_M_throneBy (d + 4) (by exact Nat.lt_trans hh (by decide)) ?_
      have pl := popc_le (bits K (hp (ygs g n (i + 1))))
      refine pk_ne (min (popc (bits K (hp (ygs g n (i + 1))))) 2) 1 (fun c => ?_) (fun c => ?_)
      · have ih := ih _ yf rfl r3
        rw [cnt_f (p := ysq K g n) (decide_eq_false (by omega))] at ih
        exact ih
      · have ih := ih _ yf rfl r3
        rw [cnt_t (p := ysq K g n) (decide_eq_true (by omega))] at ih
        rw [nI_s]
        exact ih
    · refine ⟨fun i hi e1 e5 => ?_, fun _ _ => rfl, fun _ _ => rfl, fun _ _ => rfl, hF, hG⟩
      show (hs (hs h 68 F) 69 G).1 i = _
      rw [hs_off _ _ (fun e => by rw [e] at hi; cases hi), hs_off _ _ (fun e => by rw [e] at hi; cases hi)]
  · have v6 := vp_in_nI hi (by decide)
    refine p_M_yearsNow_7 (d + 6) _ _ _ _ _ _ _ _ (lpS (m := 6) hi (by decide) ⟨v6, v6, ?_⟩)
    rw [hs_hs, nI_clamp (show i < 2 ^ 31 by omega), nI_s i]
    refine ih _ (fun s hs0 => ?_)
    show upd G i (h.1 51 i) s = _
    by_cases e : s = i
    · rw [e, pk_us]
    · rw [pk_un e]; exact hG s (by omega)
