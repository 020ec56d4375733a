/-! to fold, by the reference -/
theorem s_M_savePegs (d : Nat) {h : Hp} {Kk : Hp → Prop} (hq : ∀ F, (∀ s, s < 6 → F s = h.1 55 s) → Kk (hs h 68 F)) : Ev mtb shp (d + 1) m_M_savePegs [.ref 46] h (qV Kk) := by
  refine e_M_savePegs d h _ ?_
  have key := dn (T := fun i => ∀ F, (∀ s, s < i → F s = h.1 55 s) → PP (Ev mtb shp d) shp cd_M_savePegs 0 (qV Kk) 2 [.ref 46, .int (nI i)] [] (hs h 68 F)) (m := 6) (fun F hF => ?_) (fun i hi ih F hF => ?_) 0 (Nat.zero_le _) (h.1 68) (fun s hs0 => absurd hs0 (Nat.not_lt_zero s))
  · rw [hs_id] at key
    exact key
  · exact p_M_savePegs_2 d _ _ _ (lpE (m := 6) (hq F hF))
  · refine p_M_savePegs_2 d _ _ _ (lpS (m := 6) hi (by decide) ⟨vp_in_nI hi (by decide), vp_in_nI hi (by decide), ?_⟩)
    rw [nI_clamp (show i < 2 ^ 31 by omega), nI_s, hs_hs]
    refine ih _ (fun s hs0 => ?_)
    show upd F i (h.1 55 i) s = _
    by_cases e : s = i
    · rw [e, pk_us]
    · rw [pk_un e]; exact hF s (by omega)
theorem s_M_loadPegs (d : Nat) {h : Hp} {Kk : Hp → Prop} (hq : ∀ F, (∀ s, s < 6 → F s = h.1 68 s) → (∀ s, 6 ≤ s → F s = h.1 55 s) → Kk (hs h 55 F)) : Ev mtb shp (d + 1) m_M_loadPegs [.ref 46] h (qV Kk) := by
  refine e_M_loadPegs d h _ ?_
  have key := dn (T := fun i => ∀ F, (∀ s, s < i → F s = h.1 68 s) → (∀ s, i ≤ s → F s = h.1 55 s) → PP (Ev mtb shp d) shp cd_M_loadPegs 0 (qV Kk) 2 [.ref 46, .int (nI i)] [] (hs h 55 F)) (m := 6) (fun F hF hF2 => ?_) (fun i hi ih F hF hF2 => ?_) 0 (Nat.zero_le _) (h.1 55) (fun s hs0 => absurd hs0 (Nat.not_lt_zero s)) (fun _ _ => rfl)
  · rw [hs_id] at key
    exact key
  · exact p_M_loadPegs_2 d _ _ _ (lpE (m := 6) (hq F hF hF2))
  · refine p_M_loadPegs_2 d _ _ _ (lpS (m := 6) hi (by decide) ⟨vp_in_nI hi (by decide), vp_in_nI hi (by decide), ?_⟩)
    rw [nI_clamp (show i < 2 ^ 31 by omega), nI_s, hs_hs]
    refine ih _ (fun s hs0 => ?_) (fun s hs0 => ?_)
    · show upd F i (h.1 68 i) s = _
      by_cases e : s = i
      · rw [e, pk_us]
      · rw [pk_un e]; exact hF s (by omega)
    · show upd F i (h.1 68 i) s = _
      rw [pk_un (by omega)]; exact hF2 s (by omega)
/-- of the first i those in S hang -/
def alq (g : Gs) (S : Nat) : Nat → Bool
  | 0 => true
  | i + 1 => alq g S i && (!S.testBit i || hg g i)
theorem alq_iff (g : Gs) (S : Nat) : ∀ n, alq g S n = true ↔ ∀ i, i < n → S.testBit i = true → hg g i = true
  | 0 => ⟨fun _ i hi => absurd hi (Nat.not_lt_zero i), fun _ => rfl⟩
  | n + 1 => by
    rw [alq, Bool.and_eq_true, alq_iff g S n]
    constructor
    · rintro ⟨h1, h2⟩ i hi hs
      by_cases e : i = n
      · rw [e] at hs ⊢
        rw [hs] at h2
        exact h2
      · exact h1 i (by omega) hs
    · intro h
      refine ⟨fun i hi => h i (by omega), ?_⟩
      cases hs : S.testBit n
      · rfl
      · rw [h n (by omega) hs]; rfl
theorem alq_dif {g : Gs} {S m : Nat} (hm : m ≤ 6) (hS : S < 2 ^ m) : alq g S m = decide (dif S (bits m (hg g)) = 0) := by
  have h64 := p64 hm
  have hS10 : S < 1024 := by omega
  cases hb : alq g S m
  · symm
    refine decide_eq_false (fun z => ?_)
    have : alq g S m = true := (alq_iff g S m).mpr (fun i hi hs => by
      have := dif_bit (b := bits m (hg g)) hS10 i
      rw [z, Nat.zero_testBit, hs, Bool.true_and, bits_bit, decide_eq_true hi, Bool.true_and] at this
      cases hc : hg g i
      · rw [hc] at this; cases this
      · rfl)
    rw [hb] at this
    cases this
  · symm
    refine decide_eq_true ?_
    apply Nat.eq_of_testBit_eq
    intro i
    rw [dif_bit hS10, Nat.zero_testBit, bits_bit]
    cases hs : S.testBit i
    · rfl
    · by_cases hi : i < m
      · rw [decide_eq_true hi, (alq_iff g S m).mp hb i hi hs]; rfl
      · have := Nat.testBit_lt_two_pow (Nat.lt_of_lt_of_le hS (Nat.pow_le_pow_right (n := 2) (by decide) (show m ≤ i by omega)))
        rw [hs] at this
        cases this
theorem s_M_isFolded (d : Nat) {h : Hp} {K m : Nat} {g : Gs} (hM : RM h K m g) (hB : GB K m g) (h68 : ∀ s, s < 6 → h.1 68 s = h.1 55 s) {S : Nat} (hS : S < 2 ^ m) {Kk : Int32 → Hp → Prop} (hq : Kk (bz (fq g K m S)) h) : Ev mtb shp (d + 7) m_M_isFolded [.ref 46, .int (nI S)] h (qI Kk) := by
  have hm6 := hB.2.1
  have hK4 := hB.1
  have h64 := p64 hm6
  unfold fq at hq
  rw [← alq_dif hm6 hS] at hq
  refine e_M_isFolded (d + 6) _ h _ ?_
  refine dn0 (T := fun i => PP (Ev mtb shp (d + 6)) shp cd_M_isFolded 2 (qI Kk) 4 [.ref 46, .int (nI S), .int (bz (alq g S i)), .int (nI i)] [] h) m ?_ (fun i hi ih => ?_)
  · refine p_M_isFolded_4 (d + 6) _ _ _ h _ ?_
    rw [hM.2.1]
    refine lpE ?_
    have key := dn (T := fun i => ∀ F, (∀ s, s < i → F s = pI (goff g S 8 s)) → (∀ s, i ≤ s → F s = h.1 55 s) → PP (Ev mtb shp (d + 6)) shp cd_M_isFolded 2 (qI Kk) 46 [.ref 46, .int (nI S), .int (bz (alq g S m)), .int (nI i)] [] (hs h 55 F)) (m := m) (fun F hF hF2 => ?_) (fun i hi ih F hF hF2 => ?_) 0 (Nat.zero_le _) (h.1 55) (fun s hs0 => absurd hs0 (Nat.not_lt_zero s)) (fun _ _ => rfl)
    · rw [hs_id] at key
      exact key
    · have hM' : RM (hs h 55 F) K m (goff g S) := by
        obtain ⟨a1, a2, a3, a4⟩ := hM
        refine ⟨a1, a2, ?_, fun s hs0 => ?_⟩
        · rw [goff_r g S (r := 0) (by decide), goff_r g S (r := 1) (by decide), goff_r g S (r := 2) (by decide), goff_r g S (r := 3) (by decide)]
          exact a3
        · rw [goff_r g S (r := 4) (by decide), goff_r g S (r := 5) (by decide), goff_r g S (r := 6) (by decide), goff_r g S (r := 7) (by decide)]
          obtain ⟨b1, b2, b3, b4, b5⟩ := a4 s hs0
          exact ⟨b1, b2, b3, b4, hF s hs0⟩
      refine p_M_isFolded_46 (d + 6) _ _ _ _ _ ?_
      rw [hM'.2.1]
      have ld : ∀ {R : Hp → Prop}, R h → Ev mtb shp (d + 6) m_M_loadPegs [.ref 46] (hs h 55 F) (qV R) := by
        intro R hR
        refine s_M_loadPegs (d + 5) (fun F' f1 f2 => ?_)
        rw [hs_hs]
        have : F' = h.1 55 := by
          funext s
          by_cases hs6 : s < 6
          · rw [f1 s hs6]; exact h68 s hs6
          · rw [f2 s (by omega)]
            exact hF2 s (by omega)
        rw [this, hs_id]
        exact hR
      refine lpE (bz_br (fun c => ?_) (fun c => ?_))
      · rw [c] at hq
        exact ld ⟨rfl, hq⟩
      · rw [c, Bool.true_and] at hq
        unfold nop at hq
        have hh := hei_lt (GB_off hB S)
        refine s_M_having d hM' (GB_off hB S) (pk_ne (bits K (hp (goff g S))) 0 (fun e => ?_) (fun e => ?_))
        · rw [decide_eq_false e] at hq
          exact ld ⟨rfl, hq⟩
        · rw [decide_eq_true e] at hq
          exact ld ⟨rfl, hq⟩
    · refine p_M_isFolded_46 (d + 6) _ _ _ _ _ ?_
      have v6 := vp_in_nI (show i < 6 by omega) (by decide)
      rw [show (hs h 55 F).1 46 2 = h.1 46 2 from rfl, hM.2.1, nI_clamp (show i < 2 ^ 31 by omega), nI_s]
      have h55 : F i = pI (g 8 i) := by rw [hF2 i (Nat.le_refl i)]; exact (hM.2.2.2 i hi).2.2.2.2
      refine lpS hi (by omega) (s_M_isIn (d + 5) (by omega) (by omega) (bz_br (fun c => ⟨v6, v6, ?_⟩) (fun c => ⟨v6, ?_⟩)))
      · rw [hs_hs]
        refine ih _ (fun s hs0 => ?_) (fun s hs0 => ?_)
        · show upd F i (F i) s = _
          by_cases e : s = i
          · rw [e, pk_us, h55, goff_8, c]; rfl
          · rw [pk_un e]; exact hF s (by omega)
        · show upd F i (F i) s = _
          rw [pk_un (by omega)]; exact hF2 s (by omega)
      · rw [hs_hs]
        refine ih _ (fun s hs0 => ?_) (fun s hs0 => ?_)
        · show upd F i (-1) s = _
          by_cases e : s = i
          · rw [e, pk_us, goff_8, c]; rfl
          · rw [pk_un e]; exact hF s (by omega)
        · show upd F i (-1) s = _
          rw [pk_un (by omega)]; exact hF2 s (by omega)
  · refine p_M_isFolded_4 (d + 6) _ _ _ h _ ?_
    rw [hM.2.1, nI_s]
    rw [alq] at ih
    refine lpS hi (by omega) (bz_br (fun c => ?_) (fun c => s_M_isIn (d + 5) (by omega) (by omega) (bz_br (fun c2 => ?_) (fun c2 => s_M_hangs (d + 5) hM hB hi (bz_br (fun c3 => ?_) (fun c3 => ?_))))))
    · rw [c] at ih; exact ih
    · rw [c, c2] at ih; exact ih
    · rw [c, c2, c3] at ih; exact ih
    · rw [c, c2, c3] at ih; exact ih
theorem s_M_foldNow (d : Nat) {h : Hp} {K m : Nat} {g : Gs} (hM : RM h K m g) (hB : GB K m g) {Kk : Int32 → Hp → Prop} (hq : ∀ h', SD h h' → Kk (aF K m g) h') : Ev mtb shp (d + 8) m_M_foldNow [.ref 46] h (qI Kk) := by
  have hm6 := hB.2.1
  have h64 := p64 hm6
  refine e_M_foldNow (d + 7) h _ (s_M_savePegs (d + 6) (fun F hF => ?_))
  have sm1 : SM h (hs h 68 F) := SM_hs (SM_rfl h) rfl (by decide) _
  have hM1 := RM_SM sm1 hM
  have hq := hq _ ⟨sm1, rfl⟩
  unfold aF at hq
  refine dn0 (T := fun n => ∀ w, PP (Ev mtb shp (d + 7)) shp cd_M_foldNow 1 (qI Kk) 8 [.ref 46, .int (pI (fb (fq g K m) n)), .int (nI n), w] [] (hs h 68 F)) (2 ^ m) (fun w => ?_) (fun n hn ih w => ?_) unv
  · refine p_M_foldNow_8 (d + 7) _ _ _ _ _ ?_
    rw [hM1.2.1, shl1 m (by omega)]
    exact lpE hq
  · refine p_M_foldNow_8 (d + 7) _ _ _ _ _ ?_
    rw [hM1.2.1, shl1 m (by omega), nI_s]
    have hfo := fb_ok (fq g K m) n
    have pl1 := popc_le n
    have pl2 := popc_le (fb (fq g K m) n - 1)
    refine lpS hn (by omega) (pI_br (by omega) (fun e => ⟨fun z => absurd z (by decide), fun _ => s_M_isFolded d hM1 hB hF hn (bz_br (fun c => ?_) (fun c => ?_))⟩) (fun e => ?_))
    · rw [fb_keep (fun z => by rw [c] at z; cases z.1)] at ih
      exact ih _
    · rw [fb_take c (Or.inl e), sub1] at ih
      exact ih _
    · have hx : pI (fb (fq g K m) n) = nI (fb (fq g K m) n - 1) := by
        rw [← sub1, Nat.sub_add_cancel (by omega)]
      refine s_M_size (d + 6) (by omega) ?_
      rw [hx]
      refine s_M_size (d + 6) (by omega) (pk_le (popc (fb (fq g K m) n - 1)) (popc n) (fun c => ⟨fun _ => ?_, fun z => absurd rfl z⟩) (fun c => ⟨fun z => absurd z (by decide), fun _ => s_M_isFolded d hM1 hB hF hn (bz_br (fun c2 => ?_) (fun c2 => ?_))⟩))
      · rw [fb_keep (fun z => by omega), hx] at ih
        exact ih _
      · rw [fb_keep (fun z => by rw [c2] at z; cases z.1), hx] at ih
        exact ih _
      · rw [fb_take c2 (Or.inr c), sub1] at ih
        exact ih _
