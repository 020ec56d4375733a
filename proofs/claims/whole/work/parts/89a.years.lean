/-! washing, wind, and years -/
/-- after a wash -/
def gshr (g : Gs) : Gs := fun r s => if r = 4 ∧ (hg g s = true ∧ g 6 s ≠ 0) then g 4 s - 1 else g r s
/-- after wind j (9 less) -/
def gblw (g : Gs) (j : Nat) : Gs := fun r s => if r = 8 then blw (g 8 s) j else g r s
theorem gshr_r (g : Gs) {r : Nat} (h : r ≠ 4) : gshr g r = g r := funext fun _ => if_neg (fun z => h z.1)
theorem gblw_r (g : Gs) (j : Nat) {r : Nat} (h : r ≠ 8) : gblw g j r = g r := funext fun _ => if_neg h
theorem gblw_8 (g : Gs) (j s : Nat) : gblw g j 8 s = blw (g 8 s) j := if_pos rfl
theorem gshr_4 (g : Gs) (s : Nat) : gshr g 4 s = if hg g s = true ∧ g 6 s ≠ 0 then g 4 s - 1 else g 4 s := by
  unfold gshr
  by_cases h : hg g s = true ∧ g 6 s ≠ 0
  · rw [if_pos ⟨rfl, h⟩, if_pos h]
  · rw [if_neg (fun z => h z.2), if_neg h]
theorem GB_shr {K m : Nat} {g : Gs} (hB : GB K m g) : GB K m (gshr g) := by
  obtain ⟨h1, h2, h3, h4, h5, h6⟩ := hB
  unfold GB
  rw [gshr_r g (r := 0) (by decide), gshr_r g (r := 1) (by decide), gshr_r g (r := 2) (by decide), gshr_r g (r := 3) (by decide), gshr_r g (r := 5) (by decide), gshr_r g (r := 6) (by decide), gshr_r g (r := 7) (by decide), gshr_r g (r := 8) (by decide)]
  refine ⟨h1, h2, h3, fun s hs => ?_, h5, h6⟩
  obtain ⟨a, b, c, e⟩ := h4 s hs
  refine ⟨?_, b, c, e⟩
  rw [gshr_4]
  split <;> omega
theorem GB_blw {K m : Nat} {g : Gs} (hB : GB K m g) (j : Nat) : GB K m (gblw g j) := by
  obtain ⟨h1, h2, h3, h4, h5, h6⟩ := hB
  unfold GB
  rw [gblw_r g j (r := 0) (by decide), gblw_r g j (r := 1) (by decide), gblw_r g j (r := 2) (by decide), gblw_r g j (r := 3) (by decide), gblw_r g j (r := 4) (by decide), gblw_r g j (r := 5) (by decide), gblw_r g j (r := 6) (by decide), gblw_r g j (r := 7) (by decide)]
  refine ⟨h1, h2, h3, h4, fun s => ?_, fun s hs => ?_⟩
  · rw [gblw_8]; exact blw_le
  · rw [gblw_8, h6 s hs]; rfl
theorem mx1 : ∀ n, n < 10 → mx (nI n - 1) 0 = nI (n - 1) := by decide +kernel
theorem s_R_hangp (d : Nat) {h : Hp} {s n : Nat} (hs : s < 6) (hn : n ≤ 10) (he : h.1 13 s = pI n) {Kk : Int32 → Hp → Prop} (hq : Kk (bz (decide (n ≠ 0))) h) : Ev mtb shp (d + 1) m_R_hangs [.ref 8, .int (nI s)] h (qI Kk) := by
  refine e_R_hangs d _ h _ ⟨vp_in_nI hs (by decide), ?_⟩
  rw [nI_clamp (by omega), he]
  refine pI_br (by omega) (fun e => ⟨rfl, ?_⟩) (fun e => ⟨rfl, ?_⟩)
  · rw [decide_eq_false (fun z => z e)] at hq; exact hq
  · rw [decide_eq_true e] at hq; exact hq
theorem s_R_pegb (d : Nat) {h : Hp} {s j n : Nat} (hs : s < 6) (hj : j < 19) (hn : n ≤ 10) (he : h.1 13 s = pI n) {Kk : Int32 → Hp → Prop} (hq : Kk (pI (blw n j)) h) : Ev mtb shp (d + 2) m_R_pegBehind [.ref 8, .int (nI s), .int (byI j)] h (qI Kk) := by
  refine e_R_pegBehind (d + 1) _ _ h _ ⟨vp_in_nI hs (by decide), ?_⟩
  refine s_R_hangp d hs hn he (bz_br (fun c => ?_) (fun c => s_X_noPeg d _ ?_))
  · have e : n = 0 := Classical.not_not.mp (of_decide_eq_false c)
    rw [e] at hq
    exact hq
  · have e := of_decide_eq_true c
    rw [nI_clamp (by omega), he, blw_in n (by omega) j hj]
    rw [blw, if_neg e] at hq
    cases hc : decide (10 ≤ n + j ∧ n + j ≤ 19)
    · rw [if_neg (of_decide_eq_false hc)] at hq
      exact ⟨fun z => absurd z (by decide), fun _ => hq⟩
    · rw [blw_eq n (by omega) j hj (of_decide_eq_true hc)]
      rw [if_pos (of_decide_eq_true hc)] at hq
      exact ⟨fun _ => hq, fun z => absurd rfl z⟩
theorem s_R_shrink (d : Nat) {h : Hp} {K m : Nat} {g : Gs} (hR : RR8 h m g) (hB : GB K m g) {Kk : Hp → Prop} (hq : ∀ F, (∀ s, s < m → F s = nI (gshr g 4 s)) → Kk (hs h 9 F)) : Ev mtb shp (d + 2) m_R_shrink [.ref 8] h (qV Kk) := by
  have hm6 := hB.2.1
  refine e_R_shrink (d + 1) h _ ?_
  have key := dn (T := fun i => ∀ F, (∀ s, s < i → F s = nI (gshr g 4 s)) → (∀ s, i ≤ s → F s = h.1 9 s) → PP (Ev mtb shp (d + 1)) shp cd_R_shrink 0 (qV Kk) 2 [.ref 8, .int (nI i)] [] (hs h 9 F)) (m := m) (fun F hF hF2 => ?_) (fun i hi ih F hF hF2 => ?_) 0 (Nat.zero_le _) (h.1 9) (fun s hs0 => absurd hs0 (Nat.not_lt_zero s)) (fun _ _ => rfl)
  · rw [hs_id] at key
    exact key
  · refine p_R_shrink_2 (d + 1) _ _ _ ?_
    rw [show (hs h 9 F).1 8 5 = h.1 8 5 from rfl, hR.1]
    exact lpE (hq F hF)
  · refine p_R_shrink_2 (d + 1) _ _ _ ?_
    rw [show (hs h 9 F).1 8 5 = h.1 8 5 from rfl, hR.1, nI_s]
    have v6 := vp_in_nI (show i < 6 by omega) (by decide)
    obtain ⟨r4, r5, r6, r7⟩ := hR.2.1 i hi
    obtain ⟨b4, b5, b6, b7⟩ := hB.2.2.2.1 i hi
    have h4 := gshr_4 g i
    have keep : gshr g 4 i = g 4 i → PP (Ev mtb shp (d + 1)) shp cd_R_shrink 0 (qV Kk) 2 [.ref 8, .int (nI (i + 1))] [] (hs h 9 F) := by
      intro e
      refine ih F (fun s hs0 => ?_) (fun s hs0 => hF2 s (by omega))
      by_cases z : s = i
      · rw [z, e, hF2 i (Nat.le_refl i)]; exact r4
      · exact hF s (by omega)
    refine lpS hi (by omega) (s_R_hangp d (h := hs h 9 F) (n := g 8 i) (by omega) (hB.2.2.2.2.1 i) (hR.2.2 i (by omega)) (bz_br (fun c => ?_) (fun c => ⟨v6, ?_⟩)))
    · exact keep (by rw [h4, if_neg (fun z => by have := z.1; unfold hg at this; rw [c] at this; cases this)])
    · rw [nI_clamp (show i < 2 ^ 31 by omega), show (hs h 9 F).1 11 = h.1 11 from rfl, r6]
      refine pk_eq (g 6 i) 0 (fun e => ?_) (fun e => ⟨v6, v6, ?_⟩)
      · exact keep (by rw [h4, if_neg (fun z => z.2 e)])
      · rw [hs_hs, show (hs h 9 F).1 9 = F from rfl, hF2 i (Nat.le_refl i), r4, mx1 _ b4]
        rw [if_pos ⟨c, e⟩] at h4
        refine ih _ (fun s hs0 => ?_) (fun s hs0 => ?_)
        · show upd F i _ s = _
          by_cases z : s = i
          · rw [z, pk_us, h4]
          · rw [pk_un z]; exact hF s (by omega)
        · show upd F i _ s = _
          rw [pk_un (by omega)]; exact hF2 s (by omega)
theorem s_R_blow (d : Nat) {h : Hp} {K m : Nat} {g : Gs} (hR : RR8 h m g) (hB : GB K m g) {j : Nat} (hj : j < 19) {Kk : Hp → Prop} (hq : ∀ F, (∀ s, s < 6 → F s = pI (gblw g j 8 s)) → Kk (hs h 13 F)) : Ev mtb shp (d + 3) m_R_blow [.ref 8, .int (byI j)] h (qV Kk) := by
  have hm6 := hB.2.1
  refine e_R_blow (d + 2) _ h _ ?_
  have key := dn (T := fun i => ∀ F, (∀ s, s < i → F s = pI (gblw g j 8 s)) → (∀ s, i ≤ s → F s = h.1 13 s) → PP (Ev mtb shp (d + 2)) shp cd_R_blow 0 (qV Kk) 2 [.ref 8, .int (byI j), .int (nI i)] [] (hs h 13 F)) (m := m) (fun F hF hF2 => ?_) (fun i hi ih F hF hF2 => ?_) 0 (Nat.zero_le _) (h.1 13) (fun s hs0 => absurd hs0 (Nat.not_lt_zero s)) (fun _ _ => rfl)
  · rw [hs_id] at key
    exact key
  · refine p_R_blow_2 (d + 2) _ _ _ _ ?_
    rw [show (hs h 13 F).1 8 5 = h.1 8 5 from rfl, hR.1]
    refine lpE (hq F (fun s hs6 => ?_))
    by_cases hs0 : s < m
    · exact hF s hs0
    · rw [hF2 s (by omega), hR.2.2 s hs6, gblw_8, hB.2.2.2.2.2 s (by omega)]; rfl
  · refine p_R_blow_2 (d + 2) _ _ _ _ ?_
    rw [show (hs h 13 F).1 8 5 = h.1 8 5 from rfl, hR.1, nI_s]
    have v6 := vp_in_nI (show i < 6 by omega) (by decide)
    refine lpS hi (by omega) (s_R_pegb d (n := g 8 i) (by omega) hj (hB.2.2.2.2.1 i) ?_ ⟨v6, ?_⟩)
    · show F i = _
      rw [hF2 i (Nat.le_refl i)]
      exact hR.2.2 i (by omega)
    · rw [hs_hs, nI_clamp (show i < 2 ^ 31 by omega)]
      refine ih _ (fun s hs0 => ?_) (fun s hs0 => ?_)
      · show upd F i _ s = _
        by_cases z : s = i
        · rw [z, pk_us, gblw_8]
        · rw [pk_un z]; exact hF s (by omega)
      · show upd F i _ s = _
        rw [pk_un (by omega)]; exact hF2 s (by omega)
theorem RR_shr {h : Hp} {m : Nat} {g : Gs} (hR : RR8 h m g) {F : Nat → Int32} (hF : ∀ s, s < m → F s = nI (gshr g 4 s)) : RR8 (hs h 9 F) m (gshr g) := by
  obtain ⟨h1, h2, h3⟩ := hR
  refine ⟨h1, fun s hs0 => ?_, ?_⟩
  · rw [gshr_r g (r := 5) (by decide), gshr_r g (r := 6) (by decide), gshr_r g (r := 7) (by decide)]
    obtain ⟨a, b, c, e⟩ := h2 s hs0
    exact ⟨hF s hs0, b, c, e⟩
  · rw [gshr_r g (r := 8) (by decide)]
    exact h3
theorem RR_blw {h : Hp} {m j : Nat} {g : Gs} (hR : RR8 h m g) {F : Nat → Int32} (hF : ∀ s, s < 6 → F s = pI (gblw g j 8 s)) : RR8 (hs h 13 F) m (gblw g j) := by
  obtain ⟨h1, h2, h3⟩ := hR
  refine ⟨h1, fun s hs0 => ?_, hF⟩
  rw [gblw_r g j (r := 4) (by decide), gblw_r g j (r := 5) (by decide), gblw_r g j (r := 6) (by decide), gblw_r g j (r := 7) (by decide)]
  exact h2 s hs0
theorem s_R_hangps (d : Nat) {h : Hp} {s n : Nat} (hs : s < 6) (hn : n ≤ 10) (he : h.1 25 s = pI n) {Kk : Int32 → Hp → Prop} (hq : Kk (bz (decide (n ≠ 0))) h) : Ev mtb shp (d + 1) m_R_hangs [.ref 20, .int (nI s)] h (qI Kk) := by
  refine e_R_hangss d _ h _ ⟨vp_in_nI hs (by decide), ?_⟩
  rw [nI_clamp (by omega), he]
  refine pI_br (by omega) (fun e => ⟨rfl, ?_⟩) (fun e => ⟨rfl, ?_⟩)
  · rw [decide_eq_false (fun z => z e)] at hq; exact hq
  · rw [decide_eq_true e] at hq; exact hq
theorem s_R_pegbs (d : Nat) {h : Hp} {s j n : Nat} (hs : s < 6) (hj : j < 19) (hn : n ≤ 10) (he : h.1 25 s = pI n) {Kk : Int32 → Hp → Prop} (hq : Kk (pI (blw n j)) h) : Ev mtb shp (d + 2) m_R_pegBehind [.ref 20, .int (nI s), .int (byI j)] h (qI Kk) := by
  refine e_R_pegBehinds (d + 1) _ _ h _ ⟨vp_in_nI hs (by decide), ?_⟩
  refine s_R_hangps d hs hn he (bz_br (fun c => ?_) (fun c => s_X_noPeg d _ ?_))
  · have e : n = 0 := Classical.not_not.mp (of_decide_eq_false c)
    rw [e] at hq
    exact hq
  · have e := of_decide_eq_true c
    rw [nI_clamp (by omega), he, blw_in n (by omega) j hj]
    rw [blw, if_neg e] at hq
    cases hc : decide (10 ≤ n + j ∧ n + j ≤ 19)
    · rw [if_neg (of_decide_eq_false hc)] at hq
      exact ⟨fun z => absurd z (by decide), fun _ => hq⟩
    · rw [blw_eq n (by omega) j hj (of_decide_eq_true hc)]
      rw [if_pos (of_decide_eq_true hc)] at hq
      exact ⟨fun _ => hq, fun z => absurd rfl z⟩
theorem s_R_shrinks (d : Nat) {h : Hp} {K m : Nat} {g : Gs} (hR : RR20 h m g) (hB : GB K m g) {Kk : Hp → Prop} (hq : ∀ F, (∀ s, s < m → F s = nI (gshr g 4 s)) → Kk (hs h 21 F)) : Ev mtb shp (d + 2) m_R_shrink [.ref 20] h (qV Kk) := by
  have hm6 := hB.2.1
  refine e_R_shrinks (d + 1) h _ ?_
  have key := dn (T := fun i => ∀ F, (∀ s, s < i → F s = nI (gshr g 4 s)) → (∀ s, i ≤ s → F s = h.1 21 s) → PP (Ev mtb shp (d + 1)) shp cd_R_shrink 0 (qV Kk) 2 [.ref 20, .int (nI i)] [] (hs h 21 F)) (m := m) (fun F hF hF2 => ?_) (fun i hi ih F hF hF2 => ?_) 0 (Nat.zero_le _) (h.1 21) (fun s hs0 => absurd hs0 (Nat.not_lt_zero s)) (fun _ _ => rfl)
  · rw [hs_id] at key
    exact key
  · refine p_R_shrinks_2 (d + 1) _ _ _ ?_
    rw [show (hs h 21 F).1 20 5 = h.1 20 5 from rfl, hR.1]
    exact lpE (hq F hF)
  · refine p_R_shrinks_2 (d + 1) _ _ _ ?_
    rw [show (hs h 21 F).1 20 5 = h.1 20 5 from rfl, hR.1, nI_s]
    have v6 := vp_in_nI (show i < 6 by omega) (by decide)
    obtain ⟨r4, r5, r6, r7⟩ := hR.2.1 i hi
    obtain ⟨b4, b5, b6, b7⟩ := hB.2.2.2.1 i hi
    have h4 := gshr_4 g i
    have keep : gshr g 4 i = g 4 i → PP (Ev mtb shp (d + 1)) shp cd_R_shrink 0 (qV Kk) 2 [.ref 20, .int (nI (i + 1))] [] (hs h 21 F) := by
      intro e
      refine ih F (fun s hs0 => ?_) (fun s hs0 => hF2 s (by omega))
      by_cases z : s = i
      · rw [z, e, hF2 i (Nat.le_refl i)]; exact r4
      · exact hF s (by omega)
    refine lpS hi (by omega) (s_R_hangps d (h := hs h 21 F) (n := g 8 i) (by omega) (hB.2.2.2.2.1 i) (hR.2.2 i (by omega)) (bz_br (fun c => ?_) (fun c => ⟨v6, ?_⟩)))
    · exact keep (by rw [h4, if_neg (fun z => by have := z.1; unfold hg at this; rw [c] at this; cases this)])
    · rw [nI_clamp (show i < 2 ^ 31 by omega), show (hs h 21 F).1 23 = h.1 23 from rfl, r6]
      refine pk_eq (g 6 i) 0 (fun e => ?_) (fun e => ⟨v6, v6, ?_⟩)
      · exact keep (by rw [h4, if_neg (fun z => z.2 e)])
      · rw [hs_hs, show (hs h 21 F).1 21 = F from rfl, hF2 i (Nat.le_refl i), r4, mx1 _ b4]
        rw [if_pos ⟨c, e⟩] at h4
        refine ih _ (fun s hs0 => ?_) (fun s hs0 => ?_)
        · show upd F i _ s = _
          by_cases z : s = i
          · rw [z, pk_us, h4]
          · rw [pk_un z]; exact hF s (by omega)
        · show upd F i _ s = _
          rw [pk_un (by omega)]; exact hF2 s (by omega)
theorem s_R_blows (d : Nat) {h : Hp} {K m : Nat} {g : Gs} (hR : RR20 h m g) (hB : GB K m g) {j : Nat} (hj : j < 19) {Kk : Hp → Prop} (hq : ∀ F, (∀ s, s < 6 → F s = pI (gblw g j 8 s)) → Kk (hs h 25 F)) : Ev mtb shp (d + 3) m_R_blow [.ref 20, .int (byI j)] h (qV Kk) := by
  have hm6 := hB.2.1
  refine e_R_blows (d + 2) _ h _ ?_
  have key := dn (T := fun i => ∀ F, (∀ s, s < i → F s = pI (gblw g j 8 s)) → (∀ s, i ≤ s → F s = h.1 25 s) → PP (Ev mtb shp (d + 2)) shp cd_R_blow 0 (qV Kk) 2 [.ref 20, .int (byI j), .int (nI i)] [] (hs h 25 F)) (m := m) (fun F hF hF2 => ?_) (fun i hi ih F hF hF2 => ?_) 0 (Nat.zero_le _) (h.1 25) (fun s hs0 => absurd hs0 (Nat.not_lt_zero s)) (fun _ _ => rfl)
  · rw [hs_id] at key
    exact key
  · refine p_R_blows_2 (d + 2) _ _ _ _ ?_
    rw [show (hs h 25 F).1 20 5 = h.1 20 5 from rfl, hR.1]
    refine lpE (hq F (fun s hs6 => ?_))
    by_cases hs0 : s < m
    · exact hF s hs0
    · rw [hF2 s (by omega), hR.2.2 s hs6, gblw_8, hB.2.2.2.2.2 s (by omega)]; rfl
  · refine p_R_blows_2 (d + 2) _ _ _ _ ?_
    rw [show (hs h 25 F).1 20 5 = h.1 20 5 from rfl, hR.1, nI_s]
    have v6 := vp_in_nI (show i < 6 by omega) (by decide)
    refine lpS hi (by omega) (s_R_pegbs d (n := g 8 i) (by omega) hj (hB.2.2.2.2.1 i) ?_ ⟨v6, ?_⟩)
    · show F i = _
      rw [hF2 i (Nat.le_refl i)]
      exact hR.2.2 i (by omega)
    · rw [hs_hs, nI_clamp (show i < 2 ^ 31 by omega)]
      refine ih _ (fun s hs0 => ?_) (fun s hs0 => ?_)
      · show upd F i _ s = _
        by_cases z : s = i
        · rw [z, pk_us, gblw_8]
        · rw [pk_un z]; exact hF s (by omega)
      · show upd F i _ s = _
        rw [pk_un (by omega)]; exact hF2 s (by omega)
theorem RR_shrs {h : Hp} {m : Nat} {g : Gs} (hR : RR20 h m g) {F : Nat → Int32} (hF : ∀ s, s < m → F s = nI (gshr g 4 s)) : RR20 (hs h 21 F) m (gshr g) := by
  obtain ⟨h1, h2, h3⟩ := hR
  refine ⟨h1, fun s hs0 => ?_, ?_⟩
  · rw [gshr_r g (r := 5) (by decide), gshr_r g (r := 6) (by decide), gshr_r g (r := 7) (by decide)]
    obtain ⟨a, b, c, e⟩ := h2 s hs0
    exact ⟨hF s hs0, b, c, e⟩
  · rw [gshr_r g (r := 8) (by decide)]
    exact h3
theorem RR_blws {h : Hp} {m j : Nat} {g : Gs} (hR : RR20 h m g) {F : Nat → Int32} (hF : ∀ s, s < 6 → F s = pI (gblw g j 8 s)) : RR20 (hs h 25 F) m (gblw g j) := by
  obtain ⟨h1, h2, h3⟩ := hR
  refine ⟨h1, fun s hs0 => ?_, hF⟩
  rw [gblw_r g j (r := 4) (by decide), gblw_r g j (r := 5) (by decide), gblw_r g j (r := 6) (by decide), gblw_r g j (r := 7) (by decide)]
  exact h2 s hs0
theorem s_M_hangp (d : Nat) {h : Hp} {s n : Nat} (hs : s < 6) (hn : n ≤ 10) (he : h.1 55 s = pI n) {Kk : Int32 → Hp → Prop} (hq : Kk (bz (decide (n ≠ 0))) h) : Ev mtb shp (d + 1) m_M_hangs [.ref 46, .int (nI s)] h (qI Kk) := by
  refine e_M_hangs d _ h _ ⟨vp_in_nI hs (by decide), ?_⟩
  rw [nI_clamp (by omega), he]
  refine pI_br (by omega) (fun e => ⟨rfl, ?_⟩) (fun e => ⟨rfl, ?_⟩)
  · rw [decide_eq_false (fun z => z e)] at hq; exact hq
  · rw [decide_eq_true e] at hq; exact hq
theorem sb0 (n : Nat) : nI n - 0 = nI n := pk_sub (b := 0) (Nat.zero_le n)
theorem s_M_shrink (d : Nat) {h : Hp} {K m : Nat} {g : Gs} (hM : RM h K m g) (hB : GB K m g) {Kk : Hp → Prop} (hq : ∀ F, (∀ s, s < m → F s = nI (gshr g 4 s)) → (∀ s, m ≤ s → F s = h.1 51 s) → Kk (hs h 51 F)) : Ev mtb shp (d + 2) m_M_shrink [.ref 46] h (qV Kk) := by
  have hm6 := hB.2.1
  refine e_M_shrink (d + 1) h _ ?_
  have key := dn (T := fun i => ∀ F, (∀ s, s < i → F s = nI (gshr g 4 s)) → (∀ s, i ≤ s → F s = h.1 51 s) → PP (Ev mtb shp (d + 1)) shp cd_M_shrink 0 (qV Kk) 2 [.ref 46, .int (nI i)] [] (hs h 51 F)) (m := m) (fun F hF hF2 => ?_) (fun i hi ih F hF hF2 => ?_) 0 (Nat.zero_le _) (h.1 51) (fun s hs0 => absurd hs0 (Nat.not_lt_zero s)) (fun _ _ => rfl)
  · rw [hs_id] at key
    exact key
  · refine p_M_shrink_2 (d + 1) _ _ _ ?_
    rw [show (hs h 51 F).1 46 2 = h.1 46 2 from rfl, hM.2.1]
    exact lpE (hq F hF hF2)
  · refine p_M_shrink_2 (d + 1) _ _ _ ?_
    rw [show (hs h 51 F).1 46 2 = h.1 46 2 from rfl, hM.2.1, nI_s]
    have v6 := vp_in_nI (show i < 6 by omega) (by decide)
    obtain ⟨r4, r5, r6, r7, r8⟩ := hM.2.2.2 i hi
    obtain ⟨b4, b5, b6, b7⟩ := hB.2.2.2.1 i hi
    have h4 := gshr_4 g i
    have eF : F i = nI (g 4 i) := by rw [hF2 i (Nat.le_refl i)]; exact r4
    have nxt : ∀ x, x = gshr g 4 i → PP (Ev mtb shp (d + 1)) shp cd_M_shrink 0 (qV Kk) 2 [.ref 46, .int (nI (i + 1))] [] (hs (hs h 51 F) 51 (upd F i (nI x))) := by
      intro x e
      rw [hs_hs]
      refine ih _ (fun s hs0 => ?_) (fun s hs0 => ?_)
      · show upd F i _ s = _
        by_cases z : s = i
        · rw [z, pk_us, e]
        · rw [pk_un z]; exact hF s (by omega)
      · show upd F i _ s = _
        rw [pk_un (by omega)]; exact hF2 s (by omega)
    rw [nI_clamp (show i < 2 ^ 31 by omega), show (hs h 51 F).1 51 i = nI (g 4 i) from eF, sb0]
    refine lpS hi (by omega) ⟨v6, s_M_hangp d (h := hs h 51 F) (n := g 8 i) (by omega) (hB.2.2.2.2.1 i) r8 (bz_br (fun c => ⟨v6, ?_⟩) (fun c => ⟨v6, ?_⟩))⟩
    · exact nxt _ (by rw [h4, if_neg (fun z => by have := z.1; unfold hg at this; rw [c] at this; cases this)])
    · rw [show (hs h 51 F).1 53 = h.1 53 from rfl, r6, show (hs h 51 F).1 51 i = nI (g 4 i) from eF]
      refine pk_eq (g 6 i) 0 (fun e => ⟨v6, ?_⟩) (fun e => ⟨v6, pk_le (g 4 i) 0 (fun e2 => ⟨v6, ?_⟩) (fun e2 => ⟨v6, ?_⟩)⟩)
      · exact nxt _ (by rw [h4, if_neg (fun z => z.2 e)])
      · exact nxt _ (by rw [h4, if_pos ⟨c, e⟩]; omega)
      · rw [show (1 : Int32) = nI 1 from rfl, pk_sub (by omega)]
        exact nxt _ (by rw [h4, if_pos ⟨c, e⟩])
theorem s_M_blow (d : Nat) {h : Hp} {K m : Nat} {g : Gs} (hM : RM h K m g) (hB : GB K m g) {j : Nat} (hj : j < 19) {Kk : Hp → Prop} (hq : ∀ F, (∀ s, s < m → F s = pI (gblw g j 8 s)) → (∀ s, m ≤ s → F s = h.1 55 s) → Kk (hs h 55 F)) : Ev mtb shp (d + 4) m_M_blow [.ref 46, .int (byI j)] h (qV Kk) := by
  have hm6 := hB.2.1
  refine e_M_blow (d + 3) _ h _ ?_
  have key := dn (T := fun i => ∀ F, (∀ s, s < i → F s = pI (gblw g j 8 s)) → (∀ s, i ≤ s → F s = h.1 55 s) → PP (Ev mtb shp (d + 3)) shp cd_M_blow 0 (qV Kk) 2 [.ref 46, .int (byI j), .int (nI i)] [] (hs h 55 F)) (m := m) (fun F hF hF2 => ?_) (fun i hi ih F hF hF2 => ?_) 0 (Nat.zero_le _) (h.1 55) (fun s hs0 => absurd hs0 (Nat.not_lt_zero s)) (fun _ _ => rfl)
  · rw [hs_id] at key
    exact key
  · refine p_M_blow_2 (d + 3) _ _ _ _ ?_
    rw [show (hs h 55 F).1 46 2 = h.1 46 2 from rfl, hM.2.1]
    exact lpE (hq F hF hF2)
  · refine p_M_blow_2 (d + 3) _ _ _ _ ?_
    have v6 := vp_in_nI (show i < 6 by omega) (by decide)
    rw [show (hs h 55 F).1 46 2 = h.1 46 2 from rfl, hM.2.1, nI_s, nI_clamp (show i < 2 ^ 31 by omega), show (hs h 55 F).1 55 i = pI (g 8 i) from by
      show F i = _
      rw [hF2 i (Nat.le_refl i)]
      exact (hM.2.2.2 i hi).2.2.2.2]
    refine lpS hi (by omega) ⟨v6, s_M_blown d (hB.2.2.2.2.1 i) hj ⟨v6, ?_⟩⟩
    rw [hs_hs]
    refine ih _ (fun s hs0 => ?_) (fun s hs0 => ?_)
    · show upd F i _ s = _
      by_cases z : s = i
      · rw [z, pk_us, gblw_8]
      · rw [pk_un z]; exact hF s (by omega)
    · show upd F i _ s = _
      rw [pk_un (by omega)]; exact hF2 s (by omega)
theorem RM_shr {h : Hp} {K m : Nat} {g : Gs} (hM : RM h K m g) {F : Nat → Int32} (hF : ∀ s, s < m → F s = nI (gshr g 4 s)) : RM (hs h 51 F) K m (gshr g) := by
  obtain ⟨h1, h2, h3, h4⟩ := hM
  refine ⟨h1, h2, ?_, fun s hs0 => ?_⟩
  · rw [gshr_r g (r := 0) (by decide), gshr_r g (r := 1) (by decide), gshr_r g (r := 2) (by decide), gshr_r g (r := 3) (by decide)]
    exact h3
  · rw [gshr_r g (r := 5) (by decide), gshr_r g (r := 6) (by decide), gshr_r g (r := 7) (by decide), gshr_r g (r := 8) (by decide)]
    obtain ⟨a, b, c, e, f⟩ := h4 s hs0
    exact ⟨hF s hs0, b, c, e, f⟩
theorem RM_blw {h : Hp} {K m j : Nat} {g : Gs} (hM : RM h K m g) {F : Nat → Int32} (hF : ∀ s, s < m → F s = pI (gblw g j 8 s)) : RM (hs h 55 F) K m (gblw g j) := by
  obtain ⟨h1, h2, h3, h4⟩ := hM
  refine ⟨h1, h2, ?_, fun s hs0 => ?_⟩
  · rw [gblw_r g j (r := 0) (by decide), gblw_r g j (r := 1) (by decide), gblw_r g j (r := 2) (by decide), gblw_r g j (r := 3) (by decide)]
    exact h3
  · rw [gblw_r g j (r := 4) (by decide), gblw_r g j (r := 5) (by decide), gblw_r g j (r := 6) (by decide), gblw_r g j (r := 7) (by decide)]
    obtain ⟨a, b, c, e, f⟩ := h4 s hs0
    exact ⟨a, b, c, e, hF s hs0⟩
/-- the next seed -/
def yS (n : Nat) : Nat := (1103515245 * n + 12345) % 2147483648
theorem yS_lt (n : Nat) : yS n < 2 ^ 31 := Nat.mod_lt _ (by decide)
theorem s_X_nextSeed (d : Nat) {h : Hp} {n : Nat} (hn : n < 2 ^ 31) {Kk : Int32 → Hp → Prop} (hq : Kk (nI (yS n)) h) : Ev mtb shp (d + 1) m_X_nextSeed [.int (nI n)] h (qI Kk) := by
  refine e_X_nextSeed d _ h _ ⟨by decide, ?_⟩
  rw [nI_l hn, show (1103515245 : Int64) = lN 1103515245 from rfl, show (12345 : Int64) = lN 12345 from rfl, show (2147483648 : Int64) = lN 2147483648 from rfl, lN_mul, lN_add, pk_lRem (by omega) (by decide) (by decide), lN_i]
  exact hq
theorem lN_mask (n : Nat) : lN n &&& 2147483647 = lN (n % 2147483648) := by
  apply Int64.toBitVec_inj.mp
  apply BitVec.eq_of_toNat_eq
  rw [Int64.toBitVec_and, BitVec.toNat_and]
  show (n % 2 ^ 64) &&& (2 ^ 31 - 1) = (n % 2147483648) % 2 ^ 64
  rw [Nat.and_two_pow_sub_one_eq_mod]
  omega
/-- wind of a seed, and nine -/
def yJ (n : Nat) : Nat := n / 65536 % 5 + 7
theorem yJ_lt (n : Nat) : yJ n < 19 := by
  have : n / 65536 % 5 < 5 := Nat.mod_lt _ (by decide)
  unfold yJ
  omega
theorem yJ_by : ∀ x, x < 5 → nI x - 2 = byI (x + 7) := by decide +kernel
theorem s_M_draw (d : Nat) {h : Hp} {n : Nat} (hn : n < 2 ^ 31) (hl : h.2 46 37 = lN n) {Kk : Int32 → Hp → Prop} (hq : Kk (nI (yS n / 65536 % 5)) (hsL h 46 37 (lN (yS n)))) : Ev mtb shp (d + 1) m_M_draw [.ref 46, .int 5] h (qI Kk) := by
  refine e_M_draw d _ h _ ⟨by decide, by decide, ?_⟩
  have h1 := yS_lt n
  rw [hl, show (1103515245 : Int64) = lN 1103515245 from rfl, show (12345 : Int64) = lN 12345 from rfl, lN_mul, lN_add, lN_mask, ← yS, show (65536 : Int64) = lN 65536 from rfl, pk_lDiv (by omega) (by decide) (by decide), show ((5 : Int32).toInt64) = lN 5 from rfl, pk_lRem (by omega) (by decide) (by decide), lN_i]
  exact hq
def ysd (n : Nat) : Nat → Nat
  | 0 => n
  | i + 1 => yS (ysd n i)
theorem ysd_lt {n : Nat} (hn : n < 2 ^ 31) : ∀ i, ysd n i < 2 ^ 31
  | 0 => hn
  | i + 1 => yS_lt _
def ygs (g : Gs) (n : Nat) : Nat → Gs
  | 0 => g
  | i + 1 => gshr (gblw (ygs g n i) (yJ (ysd n (i + 1))))
theorem GB_ygs {K m : Nat} {g : Gs} (hB : GB K m g) (n : Nat) : ∀ i, GB K m (ygs g n i)
  | 0 => hB
  | i + 1 => GB_shr (GB_blw (GB_ygs hB n i) _)
def ysq (K : Nat) (g : Gs) (n i : Nat) : Bool := decide (popc (bits K (hp (ygs g n (i + 1)))) = 1)
def aY (K m : Nat) (g : Gs) (N n w : Nat) : Int32 := if w = 0 then nI (cnt N (ysq K g n)) else if w = 1 then nI (cnt m (hg (ygs g n N))) else nI (ysd n N)
