/-! the coup -/
/-- king k alone has a pair -/
def hal (g : Gs) (K k : Nat) : Bool := decide (bits K (hp g) = 2 ^ k)
theorem hal_iff {g : Gs} {K k : Nat} (hk : k < K) : hal g K k = true ↔ (hp g k = true ∧ ∀ j, j < K → j ≠ k → hp g j = false) := by
  unfold hal
  rw [decide_eq_true_eq]
  constructor
  · intro e
    have hb : ∀ j, (decide (j < K) && hp g j) = decide (k = j) := by
      intro j
      rw [← bits_bit, e, Nat.testBit_two_pow]
    refine ⟨?_, fun j hj hjk => ?_⟩
    · have := hb k
      simp only [hk, decide_true, Bool.true_and] at this
      exact this
    · have := hb j
      rw [decide_eq_true hj, Bool.true_and, decide_eq_false (fun z => hjk z.symm)] at this
      exact this
  · intro ⟨h1, h2⟩
    have hlt : 2 ^ k < 2 ^ K := Nat.pow_lt_pow_right (by decide) hk
    refine bits_inj (n := K) (bits_lt _ _) hlt (fun j hj => ?_)
    rw [bits_bit, Nat.testBit_two_pow, decide_eq_true hj, Bool.true_and]
    by_cases e : k = j
    · rw [← e, h1, decide_eq_true rfl]
    · rw [h2 j hj (fun z => e z.symm), decide_eq_false e]
/-- the state with stocking s starched (x) and its heel (y) -/
def g2 (g : Gs) (s x y : Nat) : Gs := gset (gset g 5 s x) 7 s y
theorem g2_r (g : Gs) (s x y : Nat) {r : Nat} (h5 : r ≠ 5) (h7 : r ≠ 7) : g2 g s x y r = g r := by
  unfold g2
  rw [gset_r _ s y h7, gset_r _ s x h5]
theorem g2_5 (g : Gs) (s x y t : Nat) : g2 g s x y 5 t = if t = s then x else g 5 t := by
  unfold g2
  rw [gset_r _ s y (show (5 : Nat) ≠ 7 by decide), gset_if]
theorem g2_7 (g : Gs) (s x y t : Nat) : g2 g s x y 7 t = if t = s then y else g 7 t := by
  unfold g2
  rw [gset_if, gset_r _ s x (show (7 : Nat) ≠ 5 by decide)]
theorem GB_g2 {K m : Nat} {g : Gs} (hB : GB K m g) {s x y : Nat} (hx : x < 5) (hy : y < 2) : GB K m (g2 g s x y) := by
  obtain ⟨h1, h2, h3, h4, h5, h6⟩ := hB
  unfold GB
  rw [g2_r g s x y (r := 0) (by decide) (by decide), g2_r g s x y (r := 1) (by decide) (by decide), g2_r g s x y (r := 2) (by decide) (by decide), g2_r g s x y (r := 3) (by decide) (by decide), g2_r g s x y (r := 4) (by decide) (by decide), g2_r g s x y (r := 6) (by decide) (by decide), g2_r g s x y (r := 8) (by decide) (by decide)]
  refine ⟨h1, h2, h3, fun t ht => ?_, h5, h6⟩
  obtain ⟨a, b, c, e⟩ := h4 t ht
  rw [g2_5, g2_7]
  refine ⟨a, ?_, c, ?_⟩
  · split
    · exact hx
    · exact b
  · split
    · exact hy
    · exact e
theorem RC_g2 {h : Hp} {K : Nat} {g : Gs} (hC : RC h K g) (s x y : Nat) : RC h K (g2 g s x y) := by
  unfold RC
  rw [g2_r g s x y (r := 0) (by decide) (by decide), g2_r g s x y (r := 1) (by decide) (by decide), g2_r g s x y (r := 2) (by decide) (by decide), g2_r g s x y (r := 3) (by decide) (by decide)]
  exact hC
/-- act a on stocking s: a starch, or 9 a darn -/
def gact (g : Gs) (s a : Nat) : Gs := g2 g s (if a < 5 then a else g 5 s) (if a = 9 then 0 else g 7 s)
theorem GB_act {K m : Nat} {g : Gs} (hB : GB K m g) {s : Nat} (hs : s < m) (a : Nat) : GB K m (gact g s a) := by
  obtain ⟨q1, q2, q3, q4⟩ := hB.2.2.2.1 s hs
  refine GB_g2 hB ?_ ?_
  · split <;> omega
  · split <;> omega
theorem s_R_copy_sr (d : Nat) {h : Hp} {m : Nat} {g : Gs} (hR : RR8 h m g) (hm : m ≤ 6) {Kk : Hp → Prop} (hq : ∀ h', SC h h' → RR20 h' m g → Kk h') : Ev mtb shp (d + 1) m_R_copyFrom [.ref 20, .ref 8] h (qV Kk) := by
  refine e_R_copyFrom_sr d h _ ?_
  refine ⟨by decide, by decide, by decide, by decide, by decide, fun _ _ => rfl, by decide, by decide, by decide, by decide, by decide, fun _ _ => rfl, by decide, by decide, by decide, by decide, by decide, fun _ _ => rfl, by decide, by decide, by decide, by decide, by decide, fun _ _ => rfl, by decide, by decide, by decide, by decide, by decide, fun _ _ => rfl, ?_⟩
  refine hq _ (SC_hs (SC_hs (SC_hs (SC_hs (SC_hs (SC_hs (SC_rfl h) rfl _) rfl _) rfl _) rfl _) rfl _) rfl _) ⟨?_, fun s hs => ?_, fun s hs => ?_⟩
  · show upd (h.1 20) 5 (h.1 8 5) 5 = _
    rw [pk_us]
    exact hR.1
  · obtain ⟨r4, r5, r6, r7⟩ := hR.2.1 s hs
    refine ⟨?_, ?_, ?_, ?_⟩
    · show va_cpy (h.1 9) (h.1 21) 0 0 6 s = _
      rw [pk_cpy_in (by omega) (by omega), Nat.zero_add, Nat.sub_zero]; exact r4
    · show va_cpy (h.1 10) (h.1 22) 0 0 6 s = _
      rw [pk_cpy_in (by omega) (by omega), Nat.zero_add, Nat.sub_zero]; exact r5
    · show va_cpy (h.1 11) (h.1 23) 0 0 6 s = _
      rw [pk_cpy_in (by omega) (by omega), Nat.zero_add, Nat.sub_zero]; exact r6
    · show va_cpy (h.1 12) (h.1 24) 0 0 6 s = _
      rw [pk_cpy_in (by omega) (by omega), Nat.zero_add, Nat.sub_zero]; exact r7
  · show va_cpy (h.1 13) (h.1 25) 0 0 6 s = _
    rw [pk_cpy_in (by omega) (by omega), Nat.zero_add, Nat.sub_zero]
    exact hR.2.2 s hs
def acn (i : Nat) : Nat := [0, 1, 2, 3, 4, 9].getD i 0
theorem acn_ok : ∀ i, i < 6 → (sta 1).getD i 0 = nI (acn i) ∧ acn i < 10 ∧ (acn i = 9 ↔ i = 5) ∧ (acn i < 5 ↔ i ≠ 5) := by decide +kernel
/-- the supposed rope, but for stocking s's starch and heel -/
def SR (h : Hp) (m s : Nat) (g : Gs) : Prop := h.1 20 5 = nI m ∧ (∀ t, t < m → h.1 21 t = nI (g 4 t) ∧ (t ≠ s → h.1 22 t = nI (g 5 t)) ∧ h.1 23 t = nI (g 6 t) ∧ (t ≠ s → h.1 24 t = nI (g 7 t))) ∧ ∀ t, t < 6 → h.1 25 t = pI (g 8 t)
theorem SR_of {h : Hp} {m : Nat} {g : Gs} (hR : RR20 h m g) (s : Nat) : SR h m s g := ⟨hR.1, fun t ht => ⟨(hR.2.1 t ht).1, fun _ => (hR.2.1 t ht).2.1, (hR.2.1 t ht).2.2.1, fun _ => (hR.2.1 t ht).2.2.2⟩, hR.2.2⟩
theorem SR_set {h : Hp} {m s x y : Nat} {g : Gs} (hS : SR h m s g) : RR20 (hs (hs h 22 (upd (h.1 22) s (nI x))) 24 (upd (h.1 24) s (nI y))) m (g2 g s x y) ∧ SR (hs (hs h 22 (upd (h.1 22) s (nI x))) 24 (upd (h.1 24) s (nI y))) m s g := by
  obtain ⟨h1, h2, h3⟩ := hS
  have e22 : ∀ t, t ≠ s → upd (h.1 22) s (nI x) t = h.1 22 t := fun t ht => pk_un ht
  have e24 : ∀ t, t ≠ s → upd (h.1 24) s (nI y) t = h.1 24 t := fun t ht => pk_un ht
  refine ⟨⟨h1, fun t ht => ?_, ?_⟩, ⟨h1, fun t ht => ?_, h3⟩⟩
  · obtain ⟨a, b, c, e⟩ := h2 t ht
    rw [g2_r g s x y (r := 4) (by decide) (by decide), g2_r g s x y (r := 6) (by decide) (by decide), g2_5, g2_7]
    refine ⟨a, ?_, c, ?_⟩
    · show upd (h.1 22) s (nI x) t = _
      by_cases z : t = s
      · rw [z, pk_us, if_pos rfl]
      · rw [pk_un z, if_neg z]; exact b z
    · show upd (h.1 24) s (nI y) t = _
      by_cases z : t = s
      · rw [z, pk_us, if_pos rfl]
      · rw [pk_un z, if_neg z]; exact e z
  · rw [g2_r g s x y (r := 8) (by decide) (by decide)]
    exact h3
  · obtain ⟨a, b, c, e⟩ := h2 t ht
    exact ⟨a, fun z => (e22 t z).trans (b z), c, fun z => (e24 t z).trans (e z)⟩
theorem s_X_leastActOn (d : Nat) {h : Hp} {K m : Nat} {g : Gs} (hC : RC h K g) (hR : RR8 h m g) (hB : GB K m g) {s k : Nat} (hs0 : s < m) (hk : k < K) (hsr : RR20 h m g) {Kk : Int32 → Hp → Prop} (hq0 : (∀ i, i < 6 → hal (gact g s (acn i)) K k = false) → ∀ h', SC h h' → RR20 h' m g → Kk (-1) h') (hq1 : ∀ i, i < 6 → (∀ j, j < i → hal (gact g s (acn j)) K k = false) → hal (gact g s (acn i)) K k = true → ∀ h', SC h h' → Kk (nI (acn i)) h') : Ev mtb shp (d + 6) m_X_leastActOn [.ref 0, .int (nI s), .int (nI k)] h (qI Kk) := by
  have hm6 := hB.2.1
  have v6 := vp_in_nI (show s < 6 by omega) (by decide)
  refine e_X_leastActOn (d + 5) _ _ h _ ?_
  refine dn (T := fun i => (∀ j, j < i → hal (gact g s (acn j)) K k = false) → ∀ h', SC h h' → SR h' m s g → (i = 6 → h'.1 22 s = nI (g 5 s)) → ∀ w w', PP (Ev mtb shp (d + 5)) shp cd_X_leastActOn 1 (qI Kk) 11 [.ref 0, .int (nI s), .int (nI k), .ref 101, .int (nI 6), .int (nI i), w, w'] [] h') (m := 6) (fun hn h' s1 s2 s3 w w' => ?_) (fun i hi ih hn h' s1 s2 s3 w w' => ?_) 0 (Nat.zero_le _) (fun j hj => absurd hj (Nat.not_lt_zero j)) h (SC_rfl h) (SR_of hsr s) (fun z => absurd z (by decide)) unv unv
  · refine p_X_leastActOn_11 (d + 5) _ _ _ _ _ _ h' _ (lpE ⟨v6, v6, ?_⟩)
    rw [nI_clamp (show s < 2 ^ 31 by omega), ((RR_SC s1 hR).2.1 s hs0).2.2.2]
    refine hq0 hn _ (SC_hs s1 rfl _) ⟨s2.1, fun t ht => ?_, s2.2.2⟩
    obtain ⟨a, b, c, e⟩ := s2.2.1 t ht
    refine ⟨a, ?_, c, ?_⟩
    · show h'.1 22 t = _
      by_cases z : t = s
      · rw [z]; exact s3 rfl
      · exact b z
    · show upd (h'.1 24) s _ t = _
      by_cases z : t = s
      · rw [z, pk_us]
      · rw [pk_un z]; exact e z
  · refine p_X_leastActOn_11 (d + 5) _ _ _ _ _ _ h' _ (lpS hi (by decide) ⟨vp_in_nI hi (by decide), ?_⟩)
    obtain ⟨a1, a2, a3, a4⟩ := acn_ok i hi
    rw [nI_clamp (show i < 2 ^ 31 by omega), nI_clamp (show s < 2 ^ 31 by omega), ((RR_SC s1 hR).2.1 s hs0).2.2.2, ((RR_SC s1 hR).2.1 s hs0).2.1, a1, nI_s]
    have go : ∀ x y, g2 g s x y = gact g s (acn i) → (i = 5 → x = g 5 s) → ∀ w w', Ev mtb shp (d + 5) m_C_isHeirAlone [.ref 3, .int (nI k), .ref 20] (hs (hs h' 22 (upd (h'.1 22) s (nI x))) 24 (upd (h'.1 24) s (nI y))) (qI fun v h1 => (v = 0 → PP (Ev mtb shp (d + 5)) shp cd_X_leastActOn 1 (qI Kk) 11 [.ref 0, .int (nI s), .int (nI k), .ref 101, .int (nI 6), .int (nI (i + 1)), w, w'] [] h1) ∧ (¬ v = 0 → Kk (nI (acn i)) h1)) := by
      intro x y hxy h5 w w'
      obtain ⟨t1, t2⟩ := SR_set (x := x) (y := y) s2
      have sc : SC h (hs (hs h' 22 (upd (h'.1 22) s (nI x))) 24 (upd (h'.1 24) s (nI y))) := SC_hs (SC_hs s1 rfl _) rfl _
      refine s_C_isHeirAlones d (RC_g2 (RC_SC sc hC) s x y) t1 (by rw [hxy]; exact GB_act hB hs0 _) hk (hal (g2 g s x y) K k) (hal_iff hk) (bz_br (fun c => ?_) (fun c => ?_))
      · rw [hxy] at c
        refine ih (fun j hj => ?_) _ sc t2 (fun e6 => ?_) w w'
        · by_cases e : j = i
          · rw [e]; exact c
          · exact hn j (by omega)
        · show upd (h'.1 22) s (nI x) s = _
          rw [pk_us, h5 (by omega)]
      · rw [hxy] at c
        exact hq1 i hi hn c _ sc
    refine pk_ne (acn i) 9 (fun e => ⟨fun _ => ⟨v6, ⟨fun _ => ⟨v6, v6, ?_⟩, fun z => absurd rfl z⟩⟩, fun z => absurd rfl z⟩) (fun e => ⟨fun z => absurd z (by decide), fun _ => ⟨v6, v6, ⟨fun z => absurd z (by decide), fun _ => ⟨v6, ?_⟩⟩⟩⟩)
    · exact go (acn i) (g 7 s) (by unfold gact; rw [if_pos (by omega), if_neg e]) (fun z => by omega) _ _
    · exact go (g 5 s) 0 (by unfold gact; rw [if_neg (by omega), if_pos e]) (fun _ => rfl) _ _
/-- act c, a stocking's ten and what is done, brings him to the throne -/
def cq (g : Gs) (K k c : Nat) : Bool := hg g (c / 10) && ((decide (c % 10 < 5) || decide (c % 10 = 9)) && hal (gact g (c / 10) (c % 10)) K k)
def aO (K m : Nat) (g : Gs) (k : Nat) : Int32 := bif hal g K k then 100 else pI (fst (cq g K k) (10 * m))
/-- below ten: no act works up to the i-th -/
theorem acts_no {g : Gs} {K k s i : Nat} (hi : i ≤ 6) (h : ∀ j, j < i → hal (gact g s (acn j)) K k = false) : ∀ c, 10 * s ≤ c → c < 10 * s + (if i = 6 then 10 else acn i) → cq g K k c = false := by
  intro c h1 h2
  have e1 : c / 10 = s := by
    split at h2
    · omega
    · have : acn i < 10 := by
        rcases (show i = 0 ∨ i = 1 ∨ i = 2 ∨ i = 3 ∨ i = 4 ∨ i = 5 by omega) with rfl | rfl | rfl | rfl | rfl | rfl <;> decide
      omega
  have e2 : c % 10 = c - 10 * s := by omega
  unfold cq
  rw [e1, e2]
  have key : (decide (c - 10 * s < 5) || decide (c - 10 * s = 9)) = false ∨ hal (gact g s (c - 10 * s)) K k = false := by
    rcases (show i = 0 ∨ i = 1 ∨ i = 2 ∨ i = 3 ∨ i = 4 ∨ i = 5 ∨ i = 6 by omega) with rfl | rfl | rfl | rfl | rfl | rfl | rfl
    all_goals (simp only [acn, List.getD_cons_zero, List.getD_cons_succ] at h2)
    · simp at h2; omega
    · simp at h2
      rcases (show c - 10 * s = 0 by omega) with z
      rw [z]; exact Or.inr (h 0 (by decide))
    · simp at h2
      rcases (show c - 10 * s = 0 ∨ c - 10 * s = 1 by omega) with z | z <;> rw [z]
      · exact Or.inr (h 0 (by decide))
      · exact Or.inr (h 1 (by decide))
    · simp at h2
      rcases (show c - 10 * s = 0 ∨ c - 10 * s = 1 ∨ c - 10 * s = 2 by omega) with z | z | z <;> rw [z]
      · exact Or.inr (h 0 (by decide))
      · exact Or.inr (h 1 (by decide))
      · exact Or.inr (h 2 (by decide))
    · simp at h2
      rcases (show c - 10 * s = 0 ∨ c - 10 * s = 1 ∨ c - 10 * s = 2 ∨ c - 10 * s = 3 by omega) with z | z | z | z <;> rw [z]
      · exact Or.inr (h 0 (by decide))
      · exact Or.inr (h 1 (by decide))
      · exact Or.inr (h 2 (by decide))
      · exact Or.inr (h 3 (by decide))
    · simp at h2
      by_cases z5 : c - 10 * s < 5
      · rcases (show c - 10 * s = 0 ∨ c - 10 * s = 1 ∨ c - 10 * s = 2 ∨ c - 10 * s = 3 ∨ c - 10 * s = 4 by omega) with z | z | z | z | z <;> rw [z]
        · exact Or.inr (h 0 (by decide))
        · exact Or.inr (h 1 (by decide))
        · exact Or.inr (h 2 (by decide))
        · exact Or.inr (h 3 (by decide))
        · exact Or.inr (h 4 (by decide))
      · left
        rw [decide_eq_false z5, decide_eq_false (by omega)]; rfl
    · simp at h2
      by_cases z5 : c - 10 * s < 5
      · rcases (show c - 10 * s = 0 ∨ c - 10 * s = 1 ∨ c - 10 * s = 2 ∨ c - 10 * s = 3 ∨ c - 10 * s = 4 by omega) with z | z | z | z | z <;> rw [z]
        · exact Or.inr (h 0 (by decide))
        · exact Or.inr (h 1 (by decide))
        · exact Or.inr (h 2 (by decide))
        · exact Or.inr (h 3 (by decide))
        · exact Or.inr (h 4 (by decide))
      · by_cases z9 : c - 10 * s = 9
        · rw [z9]; exact Or.inr (h 5 (by decide))
        · left
          rw [decide_eq_false z5, decide_eq_false z9]; rfl
  rcases key with z | z
  · rw [z, Bool.false_and, Bool.and_false]
  · rw [z, Bool.and_false, Bool.and_false]
theorem s_X_coupK (d : Nat) {h : Hp} {K m : Nat} {g : Gs} (hC : RC h K g) (hR : RR8 h m g) (hB : GB K m g) {k : Nat} (hk : k < K) {Kk : Int32 → Hp → Prop} (hq : ∀ h', SC h h' → Kk (aO K m g k) h') : Ev mtb shp (d + 7) m_X_coup [.ref 0, .int (nI k)] h (qI Kk) := by
  have hm6 := hB.2.1
  have hK4 := hB.1
  refine e_X_coup (d + 6) _ h _ ?_
  refine s_X_noKing (d + 5) hC (by omega) _ ?_
  rw [inR_nI (by omega), decide_eq_true hk]
  refine ⟨fun _ => ?_, fun z => absurd rfl z⟩
  refine s_C_isHeirAlone (d + 1) hC hR hB hk (hal g K k) (hal_iff hk) (bz_br (fun c => ?_) (fun c => ?_))
  · unfold aO at hq
    rw [c, cond_false] at hq
    refine s_R_copy_sr (d + 5) hR hm6 (fun h1 sc1 sr1 => ?_)
    refine dn (T := fun s => (∀ c, c < 10 * s → cq g K k c = false) → ∀ h', SC h h' → RR20 h' m g → ∀ w, PP (Ev mtb shp (d + 6)) shp cd_X_coup 1 (qI Kk) 42 [.ref 0, .int (nI k), .int (nI s), w] [] h') (m := m) (fun hn h' s1 s2 w => ?_) (fun s hs0 ih hn h' s1 s2 w => ?_) 0 (Nat.zero_le _) (fun j hj => by omega) h1 sc1 sr1 unv
    · refine p_X_coup_42 (d + 6) _ _ _ h' _ ?_
      rw [(RR_SC s1 hR).1]
      have hq := hq h' s1
      rw [fst_0 hn] at hq
      exact lpE hq
    · refine p_X_coup_42 (d + 6) _ _ _ h' _ ?_
      rw [(RR_SC s1 hR).1, nI_s]
      refine lpS hs0 (by omega) (s_R_hangs (d + 5) (RR_SC s1 hR) hB (by omega) (bz_br (fun c2 => ⟨fun _ => ?_, fun z => absurd rfl z⟩) (fun c2 => ?_)))
      · refine ih (fun c hc => ?_) h' s1 s2 _
        by_cases z : c < 10 * s
        · exact hn c z
        · unfold cq
          rw [show c / 10 = s by omega, c2]; rfl
      · refine s_X_leastActOn d (RC_SC s1 hC) (RR_SC s1 hR) hB hs0 hk s2 (fun hno h2 t1 t2 => ⟨fun _ => ?_, fun z => absurd rfl z⟩) (fun i hi hno hyes h2 t1 => ?_)
        · refine ih (fun c hc => ?_) h2 (SC_tr s1 t1) t2 _
          by_cases z : c < 10 * s
          · exact hn c z
          · exact acts_no (i := 6) (by decide) hno c (by omega) (by rw [if_pos rfl]; omega)
        · obtain ⟨a1, a2, a3, a4⟩ := acn_ok i hi
          refine ⟨fun z => ?_, fun _ => ?_⟩
          · have := congrArg Int32.toInt z
            rw [nI_toInt (by omega), show (-1 : Int32).toInt = -1 from rfl] at this
            omega
          · rw [show (10 : Int32) = nI 10 from rfl, pk_mul, nI_add]
            have hq := hq h2 (SC_tr s1 t1)
            have hc : cq g K k (10 * s + acn i) = true := by
              unfold cq
              rw [show (10 * s + acn i) / 10 = s by omega, show (10 * s + acn i) % 10 = acn i by omega, c2, hyes]
              by_cases z : i = 5
              · rw [decide_eq_true (a3.mpr z), Bool.or_true]; rfl
              · rw [decide_eq_true (a4.mpr z)]; rfl
            rw [fst_i hc (fun j hj => ?_) (show 10 * s + acn i < 10 * m by omega), sub1] at hq
            · exact hq
            · by_cases z : j < 10 * s
              · exact hn j z
              · exact acts_no (i := i) (by omega) hno j (by omega) (by rw [if_neg (by omega)]; omega)
  · have hq := hq h (SC_rfl h)
    unfold aO at hq
    rw [c] at hq
    exact hq
