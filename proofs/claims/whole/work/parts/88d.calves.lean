/-! what is noted; how wide a calf is -/
theorem hs_hs (h : Hp) (i : Nat) (f f' : Nat → Int32) : hs (hs h i f) i f' = hs h i f' := by
  unfold hs
  refine Prod.ext (funext fun a => ?_) rfl
  show (bif Nat.beq a i then f' else bif Nat.beq a i then f else h.1 a) = bif Nat.beq a i then f' else h.1 a
  cases Nat.beq a i <;> rfl
theorem hs_id (h : Hp) (i : Nat) : hs h i (h.1 i) = h := by
  unfold hs
  refine Prod.ext (funext fun a => ?_) rfl
  show (bif Nat.beq a i then h.1 i else h.1 a) = h.1 a
  cases hb : Nat.beq a i
  · rfl
  · rw [Nat.eq_of_beq_eq_true hb]; rfl
theorem upd_back (f : Nat → Int32) (k : Nat) (x : Int32) : upd (upd f k x) k (f k) = f := by
  funext j
  unfold upd
  by_cases hj : j = k
  · rw [if_pos hj, hj]
  · rw [if_neg hj, if_neg hj]
theorem upd_upd (f : Nat → Int32) (k : Nat) (x y : Int32) : upd (upd f k x) k y = upd f k y := by
  funext j
  unfold upd
  by_cases hj : j = k
  · rw [if_pos hj, if_pos hj]
  · rw [if_neg hj, if_neg hj, if_neg hj]
/-- the state with one number changed -/
def gset (g : Gs) (r i v : Nat) : Gs := fun a b => if a = r ∧ b = i then v else g a b
theorem gset_r (g : Gs) {r a : Nat} (i v : Nat) (h : a ≠ r) : gset g r i v a = g a := by
  funext b
  exact if_neg (fun z => h z.1)
theorem gset_s (g : Gs) (r i v : Nat) : gset g r i v r i = v := if_pos ⟨rfl, rfl⟩
theorem gset_n (g : Gs) {r i b : Nat} (v : Nat) (h : b ≠ i) : gset g r i v r b = g r b := if_neg (fun z => h z.2)
/-- a row in the heap tied to a row of the state, after one change in both -/
theorem tie_upd {f : Nat → Int32} {p : Nat → Nat} {c : Nat → Int32} {i v n : Nat} (h : ∀ s, s < n → f s = c (p s)) : ∀ s, s < n → upd f i (c v) s = c (if s = i then v else p s) := by
  intro s hs
  unfold upd
  by_cases e : s = i
  · rw [if_pos e, if_pos e]
  · rw [if_neg e, if_neg e]; exact h s hs
theorem gset_if (g : Gs) (r i v b : Nat) : gset g r i v r b = if b = i then v else g r b := by
  unfold gset
  by_cases e : b = i
  · rw [if_pos ⟨rfl, e⟩, if_pos e]
  · rw [if_neg (fun z => e z.2), if_neg e]
theorem Wc_calf (g : Gs) (k v w j s : Nat) : Wc (gset g 1 k v) w j s = Wc g w j s := by
  unfold Wc
  rw [gset_r g k v (show (0 : Nat) ≠ 1 by decide), gset_r g k v (show (2 : Nat) ≠ 1 by decide), gset_r g k v (show (3 : Nat) ≠ 1 by decide), gset_r g k v (show (4 : Nat) ≠ 1 by decide), gset_r g k v (show (5 : Nat) ≠ 1 by decide), gset_r g k v (show (6 : Nat) ≠ 1 by decide), gset_r g k v (show (7 : Nat) ≠ 1 by decide)]
theorem may_calf (g : Gs) (k w s : Nat) : may (gset g 1 k w) k s = fitq g k s w := by
  unfold may fitq Wg
  rw [Wc_calf, gset_s]
theorem RM_calf {h : Hp} {K m : Nat} {g : Gs} (hM : RM h K m g) (k w : Nat) : RM (hs h 48 (upd (h.1 48) k (nI w))) K m (gset g 1 k w) := by
  obtain ⟨h1, h2, h3, h4⟩ := hM
  refine ⟨h1, h2, fun j hj => ?_, fun s hs => ?_⟩
  · obtain ⟨a0, a1, a2, a3⟩ := h3 j hj
    rw [gset_r g k w (show (0 : Nat) ≠ 1 by decide), gset_r g k w (show (2 : Nat) ≠ 1 by decide), gset_r g k w (show (3 : Nat) ≠ 1 by decide), gset_if]
    exact ⟨a0, tie_upd (n := K) (c := nI) (fun s hs => (h3 s hs).2.1) j hj, a2, a3⟩
  · rw [gset_r g k w (show (4 : Nat) ≠ 1 by decide), gset_r g k w (show (5 : Nat) ≠ 1 by decide), gset_r g k w (show (6 : Nat) ≠ 1 by decide), gset_r g k w (show (7 : Nat) ≠ 1 by decide), gset_r g k w (show (8 : Nat) ≠ 1 by decide)]
    exact h4 s hs
theorem GB_calf {K m : Nat} {g : Gs} (hB : GB K m g) (k : Nat) {w : Nat} (hw : w < 10) : GB K m (gset g 1 k w) := by
  obtain ⟨h1, h2, h3, h4, h5, h6⟩ := hB
  refine ⟨h1, h2, fun j hj => ?_, fun s hs => ?_, ?_, ?_⟩
  · obtain ⟨a0, a1, a2, a3⟩ := h3 j hj
    rw [gset_r g k w (show (0 : Nat) ≠ 1 by decide), gset_r g k w (show (2 : Nat) ≠ 1 by decide), gset_r g k w (show (3 : Nat) ≠ 1 by decide), gset_if]
    refine ⟨a0, ?_, a2, a3⟩
    split
    · exact hw
    · exact a1
  · rw [gset_r g k w (show (4 : Nat) ≠ 1 by decide), gset_r g k w (show (5 : Nat) ≠ 1 by decide), gset_r g k w (show (6 : Nat) ≠ 1 by decide), gset_r g k w (show (7 : Nat) ≠ 1 by decide)]
    exact h4 s hs
  · rw [gset_r g k w (show (8 : Nat) ≠ 1 by decide)]
    exact h5
  · rw [gset_r g k w (show (8 : Nat) ≠ 1 by decide)]
    exact h6
theorem s_M_mayBeWith (d : Nat) {h : Hp} {K m : Nat} {g : Gs} (hM : RM h K m g) (hB : GB K m g) {k w s : Nat} (hk : k < K) (hw : w < 10) (hs0 : s < m) {Kk : Int32 → Hp → Prop} (hq : Kk (bz (fitq g k s w)) h) : Ev mtb shp (d + 4) m_M_mayBeWith [.ref 46, .int (nI k), .int (nI w), .int (nI s)] h (qI Kk) := by
  have hk4 : k < 4 := by have := hB.1; omega
  have v4 := vp_in_nI hk4 (by decide)
  refine e_M_mayBeWith (d + 3) _ _ _ h _ ⟨v4, v4, ?_⟩
  rw [nI_clamp (show k < 2 ^ 31 by omega)]
  refine s_M_mayBe d (RM_calf hM k w) (GB_calf hB k hw) hk hs0 ⟨v4, bz_nar _, ?_⟩
  rw [hs_hs, show (hs h 48 (upd (h.1 48) k (nI w))).1 48 = upd (h.1 48) k (nI w) from rfl, upd_back, hs_id, may_calf]
  exact hq
/-- the notes: lies (rows 9, 10), what was tried (11 to 13), and how many (14: lies, tried, changes, washes) -/
def RN (h : Hp) (g : Gs) : Prop := h.1 26 5 = nI (g 14 2) ∧ h.1 26 6 = nI (g 14 3) ∧ h.1 26 7 = nI (g 14 0) ∧ h.1 26 8 = nI (g 14 1) ∧ (∀ i, i < g 14 0 → h.1 27 i = nI (g 9 i) ∧ h.1 28 i = pI (g 10 i)) ∧ (∀ i, i < g 14 1 → h.1 29 i = nI (g 11 i) ∧ h.1 30 i = nI (g 12 i) ∧ h.1 31 i = nI (g 13 i)) ∧ ∀ i, i < 8 → h.1 31 i = 0 ∨ h.1 31 i = 1
def RO (h : Hp) (g : Gs) : Prop := h.1 46 12 = nI (g 14 2) ∧ h.1 46 13 = nI (g 14 3) ∧ h.1 46 14 = nI (g 14 0) ∧ h.1 46 17 = nI (g 14 1) ∧ (∀ i, i < g 14 0 → h.1 56 i = nI (g 9 i) ∧ h.1 57 i = pI (g 10 i)) ∧ ∀ i, i < g 14 1 → h.1 58 i = nI (g 11 i) ∧ h.1 59 i = nI (g 12 i) ∧ h.1 60 i = nI (g 13 i)
def NB (K m : Nat) (g : Gs) : Prop := g 14 0 ≤ 6 ∧ g 14 1 ≤ 8 ∧ g 14 3 ≤ 99 ∧ (∀ i, i < g 14 0 → g 9 i < m ∧ g 10 i ≤ 10) ∧ ∀ i, i < g 14 1 → g 11 i < K ∧ g 12 i < m ∧ g 13 i < 2
theorem bits_inj {n a b : Nat} (ha : a < 2 ^ n) (hb : b < 2 ^ n) (h : ∀ i, i < n → a.testBit i = b.testBit i) : a = b := by
  apply Nat.eq_of_testBit_eq
  intro i
  by_cases hi : i < n
  · exact h i hi
  · have hp : 2 ^ n ≤ 2 ^ i := Nat.pow_le_pow_right (by decide) (by omega)
    rw [Nat.testBit_lt_two_pow (Nat.lt_of_lt_of_le ha hp), Nat.testBit_lt_two_pow (Nat.lt_of_lt_of_le hb hp)]
theorem bits_and (n : Nat) (p q : Nat → Bool) : bits n p &&& bits n q = bits n (fun i => p i && q i) := by
  refine bits_inj (n := n) (Nat.lt_of_le_of_lt Nat.and_le_left (bits_lt _ _)) (bits_lt _ _) (fun i hi => ?_)
  rw [Nat.testBit_and, bits_bit, bits_bit, bits_bit]
  simp [hi]
theorem bits_dif (n : Nat) (hn : n ≤ 10) (p q : Nat → Bool) : dif (bits n p) (bits n q) = bits n (fun i => p i && !q i) := by
  have h1 : bits n p < 1024 := Nat.lt_of_lt_of_le (bits_lt _ _) (Nat.pow_le_pow_right (n := 2) (by decide) hn)
  refine bits_inj (n := n) (Nat.lt_of_le_of_lt (Nat.and_le_left (n := bits n p)) (bits_lt _ _)) (bits_lt _ _) (fun i hi => ?_)
  rw [dif_bit h1, bits_bit, bits_bit, bits_bit]
  simp [hi]
/-- whether calf w is still to be thought of king k, by the first t trials -/
def calq (g : Gs) (k : Nat) : Nat → Nat → Bool
  | 0, _ => true
  | t + 1, w => calq g k t w && (bif decide (g 11 t = k) then (bif decide (g 13 t = 0) then !fitq g k (g 12 t) w else fitq g k (g 12 t) w) else true)
def cal (g : Gs) (k : Nat) : Nat := bits 10 (calq g k (g 14 1))
theorem cal_lt (g : Gs) (k : Nat) : cal g k < 1024 := bits_lt _ 10
theorem s_X_calvesOf (d : Nat) {h : Hp} {K m : Nat} {g : Gs} (hC : RC h K g) (hR : RR8 h m g) (hB : GB K m g) (hN : RN h g) (hNB : NB K m g) {k : Nat} (hk : k < K) {Kk : Int32 → Hp → Prop} (hq : Kk (nI (cal g k)) h) : Ev mtb shp (d + 3) m_X_calvesOf [.ref 0, .int (nI k)] h (qI Kk) := by
  have hK4 := hB.1
  obtain ⟨n1, n2, n3, n4, n5, n6, n7⟩ := hN
  obtain ⟨m1, m2, m3, m4, m5⟩ := hNB
  refine e_X_calvesOf (d + 2) _ h _ ?_
  refine dn0 (T := fun i => ∀ w, PP (Ev mtb shp (d + 2)) shp cd_X_calvesOf 1 (qI Kk) 6 [.ref 0, .int (nI k), .int (nI (bits 10 (calq g k i))), .int (nI i), w] [] h) (g 14 1) (fun w => ?_) (fun i hi ih w => ?_) unv
  · refine p_X_calvesOf_6 (d + 2) _ _ _ _ h _ ?_
    rw [n4]
    exact lpE hq
  · obtain ⟨q1, q2, q3⟩ := n6 i hi
    obtain ⟨u1, u2, u3⟩ := m5 i hi
    have v8 := vp_in_nI (show i < 8 by omega) (by decide)
    refine p_X_calvesOf_6 (d + 2) _ _ _ _ h _ ?_
    rw [n4, nI_clamp (show i < 2 ^ 31 by omega), q1, q2, nI_s]
    refine lpS hi (by omega) ⟨v8, pk_ne (g 11 i) k (fun e => ?_) (fun e => ⟨v8, s_C_calvesFitting d hC hR hB hk u2 ⟨v8, ?_⟩⟩)⟩
    · have e2 : calq g k (i + 1) = calq g k i := by
        funext w
        rw [calq, decide_eq_false e, cond_false, Bool.and_true]
      rw [e2] at ih
      exact ih w
    · rw [q3]
      have f1 := bits_lt (calq g k i) 10
      have f2 := bits_lt (fitq g k (g 12 i)) 10
      refine pk_eq (g 13 i) 0 (fun e0 => ?_) (fun e0 => ?_)
      · have e2 : calq g k (i + 1) = fun w => calq g k i w && !fitq g k (g 12 i) w := by
          funext w
          rw [calq, decide_eq_true e, decide_eq_true e0]; rfl
        rw [e2, ← bits_dif 10 (by decide)] at ih
        rw [nI_dif (by omega) (by omega)]
        exact ih _
      · have e2 : calq g k (i + 1) = fun w => calq g k i w && fitq g k (g 12 i) w := by
          funext w
          rw [calq, decide_eq_true e, decide_eq_false e0]; rfl
        rw [e2, ← bits_and] at ih
        rw [nI_and]
        exact ih _
theorem s_M_calvesOf (d : Nat) {h : Hp} {K m : Nat} {g : Gs} (hM : RM h K m g) (hB : GB K m g) (hN : RO h g) (hNB : NB K m g) {k : Nat} (hk : k < K) {Kk : Int32 → Hp → Prop} (hq : Kk (nI (cal g k)) h) : Ev mtb shp (d + 5) m_M_calvesOf [.ref 46, .int (nI k)] h (qI Kk) := by
  have hK4 := hB.1
  obtain ⟨n1, n2, n3, n4, n5, n6⟩ := hN
  obtain ⟨m1, m2, m3, m4, m5⟩ := hNB
  refine e_M_calvesOf (d + 4) _ h _ ?_
  refine dn0 (T := fun i => ∀ w w', PP (Ev mtb shp (d + 4)) shp cd_M_calvesOf 1 (qI Kk) 4 [.ref 46, .int (nI k), .int (nI (bits i (calq g k (g 14 1)))), .int (nI i), w, w'] [] h) 10 (fun w w' => ?_) (fun c hc ih w w' => ?_) unv unv
  · exact p_M_calvesOf_4 (d + 4) _ _ _ _ _ h _ (pk_lt 9 10 (fun _ => hq) (fun z => by omega))
  · refine p_M_calvesOf_4 (d + 4) _ _ _ _ _ h _ (pk_lt 9 c (fun z => by omega) (fun _ => ?_))
    refine dn0 (T := fun i => PP (Ev mtb shp (d + 4)) shp cd_M_calvesOf 1 (qI Kk) 16 [.ref 46, .int (nI k), .int (nI (bits c (calq g k (g 14 1)))), .int (nI c), .int (bz (calq g k i c)), .int (nI i)] [] h) (g 14 1) ?_ (fun i hi ih2 => ?_)
    · refine p_M_calvesOf_16 (d + 4) _ _ _ _ _ h _ ?_
      rw [n4, nI_s c]
      refine lpE (bz_br (fun e => ?_) (fun e => ?_))
      · rw [or0]
        rw [bits_f (p := calq g k (g 14 1)) e] at ih
        exact ih _ _
      · rw [or_bit (bits_lt _ _) (by omega)]
        rw [bits_t (p := calq g k (g 14 1)) e] at ih
        exact ih _ _
    · obtain ⟨q1, q2, q3⟩ := n6 i hi
      obtain ⟨u1, u2, u3⟩ := m5 i hi
      have v8 := vp_in_nI (show i < 8 by omega) (by decide)
      refine p_M_calvesOf_16 (d + 4) _ _ _ _ _ h _ ?_
      rw [n4, nI_clamp (show i < 2 ^ 31 by omega), q1, q2, nI_s i]
      rw [calq] at ih2
      refine lpS hi (by omega) (bz_br (fun e => ?_) (fun e => ⟨v8, pk_ne (g 11 i) k (fun e1 => ?_) (fun e1 => ⟨v8, s_M_mayBeWith d hM hB hk hc u2 ⟨v8, ?_⟩⟩)⟩))
      · rw [e] at ih2
        exact ih2
      · rw [e, decide_eq_false e1] at ih2
        exact ih2
      · rw [q3]
        rw [e, decide_eq_true e1, cond_true, Bool.true_and] at ih2
        refine pk_ne (g 13 i) 1 (fun e2 => bz_bn (fun e3 => ?_) (fun e3 => ?_)) (fun e2 => ?_)
        · rw [decide_eq_true (show g 13 i = 0 by omega), e3] at ih2
          exact ih2
        · rw [decide_eq_true (show g 13 i = 0 by omega), e3] at ih2
          exact ih2
        · rw [decide_eq_false (show ¬ g 13 i = 0 by omega), cond_false] at ih2
          rw [bz_1]
          cases e3 : fitq g k (g 12 i) c
          · rw [e3] at ih2
            exact ⟨fun _ => ih2, fun z => absurd z (by decide)⟩
          · rw [e3] at ih2
            exact ⟨fun z => absurd rfl z, fun _ => ih2⟩

theorem mx_nI {a b : Nat} (ha : a < 2 ^ 31) (hb : b < 2 ^ 31) : mx (nI a) (nI b) = nI (max a b) := by
  unfold mx
  by_cases h : a < b
  · rw [if_pos (nI_lt h hb), Nat.max_eq_right (by omega)]
  · rw [if_neg (nI_nlt (by omega) ha), Nat.max_eq_left (by omega)]
theorem mn_nI {a b : Nat} (ha : a < 2 ^ 31) (hb : b < 2 ^ 31) : mn (nI a) (nI b) = nI (min a b) := by
  unfold mn
  by_cases h : b < a
  · rw [if_pos (nI_lt h ha), Nat.min_eq_right (by omega)]
  · rw [if_neg (nI_nlt (by omega) hb), Nat.min_eq_left (by omega)]
theorem cnt_split (p q : Nat → Bool) : ∀ n, cnt n p = cnt n (fun i => p i && q i) + cnt n (fun i => p i && !q i)
  | 0 => rfl
  | n + 1 => by
    rw [cnt.eq_2, cnt.eq_2, cnt.eq_2, cnt_split p q n]
    cases p n <;> cases q n <;> simp only [Bool.and_true, Bool.and_false, Bool.not_true, Bool.not_false, cond_true, cond_false] <;> omega
/-- how many calves a trial with s leaves at worst -/
def lfa (g : Gs) (k s : Nat) : Nat := cnt 10 (fun w => calq g k (g 14 1) w && fitq g k s w)
def lfb (g : Gs) (k s : Nat) : Nat := cnt 10 (fun w => calq g k (g 14 1) w && !fitq g k s w)
def lf (g : Gs) (k s : Nat) : Nat := max (lfa g k s) (lfb g k s)
theorem lf_le (g : Gs) (k s : Nat) : lf g k s ≤ 10 ∧ lfa g k s ≤ 10 ∧ lfb g k s ≤ 10 := by
  have h1 : lfa g k s ≤ 10 := cnt_le _ _
  have h2 : lfb g k s ≤ 10 := cnt_le _ _
  unfold lf
  omega
def tfs (g : Gs) (k y s : Nat) : Nat := if y = 0 then s + 1 else if lf g k s < lf g k (y - 1) then s + 1 else y
def tf (g : Gs) (k : Nat) : Nat → Nat
  | 0 => 0
  | s + 1 => tfs g k (tf g k s) s
def tfl (g : Gs) (k far y : Nat) : Nat := if y = 0 then far else lf g k (y - 1)
theorem tfs_hi {g : Gs} {k far y s : Nat} (hf : 10 < far) (h : tfl g k far y ≤ lf g k s) : tfs g k y s = y := by
  have := (lf_le g k s).1
  unfold tfl at h
  unfold tfs
  split at h
  · omega
  · rename_i e
    rw [if_neg e, if_neg (by omega)]
theorem tfs_lo {g : Gs} {k far y s : Nat} (h : lf g k s < tfl g k far y) : tfs g k y s = s + 1 := by
  unfold tfl at h
  unfold tfs
  split at h
  · rename_i e
    rw [if_pos e]
  · rename_i e
    rw [if_neg e, if_pos h]
theorem tfl_s (g : Gs) (k far s : Nat) : tfl g k far (s + 1) = lf g k s := by
  unfold tfl
  rw [if_neg (by omega), Nat.add_sub_cancel]
theorem tfl_lt (g : Gs) (k : Nat) {far : Nat} (y : Nat) (hf : 10 < far) (hf2 : far < 2 ^ 31) : tfl g k far y < 2 ^ 31 := by
  have := (lf_le g k (y - 1)).1
  unfold tfl
  split <;> omega
/-- the stocking best tried, and one -/
def tof (m : Nat) (g : Gs) (k : Nat) : Nat := if cal g k = 0 then 0 else tf g k m
theorem s_X_bestToTry (d : Nat) {h : Hp} {K m : Nat} {g : Gs} (hC : RC h K g) (hR : RR8 h m g) (hB : GB K m g) (hN : RN h g) (hNB : NB K m g) {k : Nat} (hk : k < K) {Kk : Int32 → Hp → Prop} (hq : Kk (pI (tof m g k)) h) : Ev mtb shp (d + 4) m_X_bestToTry [.ref 0, .int (nI k)] h (qI Kk) := by
  have hm6 := hB.2.1
  have hcl := cal_lt g k
  refine e_X_bestToTry (d + 3) _ h _ ?_
  refine s_X_calvesOf d hC hR hB hN hNB hk ?_
  unfold tof at hq
  refine pk_ne (cal g k) 0 (fun e => ?_) (fun e => ?_)
  · rw [if_neg e] at hq
    refine dn0 (T := fun i => ∀ w w', PP (Ev mtb shp (d + 3)) shp cd_X_bestToTry 1 (qI Kk) 21 [.ref 0, .int (nI k), .int (nI (cal g k)), .int (pI (tf g k i)), .int (nI (tfl g k 11 (tf g k i))), .int (nI i), w, w'] [] h) m (fun w w' => ?_) (fun i hi ih w w' => ?_) unv unv
    · refine p_X_bestToTry_21 (d + 3) _ _ _ _ _ _ _ h _ ?_
      rw [hR.1]
      exact lpE hq
    · refine p_X_bestToTry_21 (d + 3) _ _ _ _ _ _ _ h _ ?_
      rw [hR.1, nI_s i]
      refine lpS hi (by omega) (s_C_calvesFitting (d + 1) hC hR hB hk hi ?_)
      have f2 := bits_lt (fitq g k i) 10
      rw [nI_and, nI_dif hcl (by omega), cal, bits_and, bits_dif 10 (by decide), ← cal]
      refine s_bitCount (d + 2) (bits_lt _ 10) ?_
      refine s_bitCount (d + 2) (bits_lt _ 10) ?_
      rw [popc_bits (by decide), popc_bits (by decide), ← lfa, ← lfb]
      obtain ⟨l0, l1, l2⟩ := lf_le g k i
      rw [mx_nI (by omega) (by omega), ← lf]
      rw [tf] at ih
      refine pk_le (tfl g k 11 (tf g k i)) (lf g k i) (fun c => ?_) (fun c => ?_) (ha := tfl_lt g k _ (by decide) (by decide))
      · rw [tfs_hi (by decide) c] at ih
        exact ih _ _
      · rw [tfs_lo c, tfl_s, sub1] at ih
        exact ih _ _
  · rw [if_pos e] at hq
    exact hq
theorem s_M_tryOf (d : Nat) {h : Hp} {K m : Nat} {g : Gs} (hM : RM h K m g) (hB : GB K m g) (hN : RO h g) (hNB : NB K m g) {k : Nat} (hk : k < K) {Kk : Int32 → Hp → Prop} (hq : Kk (pI (tof m g k)) h) : Ev mtb shp (d + 6) m_M_tryOf [.ref 46, .int (nI k)] h (qI Kk) := by
  have hm6 := hB.2.1
  have hcl := cal_lt g k
  refine e_M_tryOf (d + 5) _ h _ ?_
  refine s_M_calvesOf d hM hB hN hNB hk ?_
  unfold tof at hq
  by_cases e : cal g k = 0
  · rw [if_pos e] at hq
    refine p_M_tryOf_15 (d + 5) _ _ _ _ _ _ _ _ h _ ?_
    rw [e]
    exact ⟨fun _ => hq, fun _ => ⟨fun _ => hq, fun z => absurd rfl z⟩⟩
  · rw [if_neg e] at hq
    refine dn0 (T := fun i => ∀ w w' w'', PP (Ev mtb shp (d + 5)) shp cd_M_tryOf 1 (qI Kk) 15 [.ref 46, .int (nI k), .int (nI (cal g k)), .int (pI (tf g k i)), .int (nI (tfl g k 268435456 (tf g k i))), .int (nI i), w, w', w''] [] h) m (fun w w' w'' => ?_) (fun i hi ih w w' w'' => ?_) unv unv unv
    · refine p_M_tryOf_15 (d + 5) _ _ _ _ _ _ _ _ h _ ?_
      rw [hM.2.1]
      exact lpE hq
    · refine p_M_tryOf_15 (d + 5) _ _ _ _ _ _ _ _ h _ ?_
      rw [hM.2.1]
      refine lpS hi (by omega) (pk_eq (cal g k) 0 (fun z => absurd z e) (fun _ => ?_))
      refine dn0 (T := fun c => PP (Ev mtb shp (d + 5)) shp cd_M_tryOf 1 (qI Kk) 34 [.ref 46, .int (nI k), .int (nI (cal g k)), .int (pI (tf g k i)), .int (nI (tfl g k 268435456 (tf g k i))), .int (nI i), .int (nI (cnt c (fun w => calq g k (g 14 1) w && fitq g k i w))), .int (nI c), w''] [] h) 10 ?_ (fun c hc ih2 => ?_)
      · refine p_M_tryOf_34 (d + 5) _ _ _ _ _ _ _ _ h _ (pk_lt 9 10 (fun _ => ?_) (fun z => by omega))
        refine s_M_size (d + 4) (by omega) ?_
        rw [show popc (cal g k) = lfa g k i + lfb g k i by rw [cal, popc_bits (by decide), cnt_split _ (fitq g k i)]; rfl, ← lfa, pk_sub (show lfa g k i ≤ lfa g k i + lfb g k i by omega), Nat.add_sub_cancel_left, nI_s i]
        obtain ⟨l0, l1, l2⟩ := lf_le g k i
        rw [tf] at ih
        have tl := tfl_lt g k (far := 268435456) (tf g k i) (by decide) (by decide)
        refine pk_le (lfa g k i) (lfb g k i) (fun c1 => ?_) (fun c1 => ?_)
        · have el : lf g k i = lfb g k i := by unfold lf; omega
          rw [← el]
          refine pk_le (tfl g k 268435456 (tf g k i)) (lf g k i) (fun c2 => pk_le (tfl g k 268435456 (tf g k i)) (lf g k i) (fun _ => ?_) (fun z => by omega)) (fun c2 => pk_le (tfl g k 268435456 (tf g k i)) (lf g k i) (fun z => by omega) (fun _ => ?_))
          · rw [tfs_hi (by decide) c2] at ih
            exact ih _ _ _
          · rw [tfs_lo c2, tfl_s, sub1] at ih
            exact ih _ _ _
        · have el : lf g k i = lfa g k i := by unfold lf; omega
          rw [← el]
          refine pk_le (tfl g k 268435456 (tf g k i)) (lf g k i) (fun c2 => pk_le (tfl g k 268435456 (tf g k i)) (lf g k i) (fun _ => ?_) (fun z => by omega)) (fun c2 => pk_le (tfl g k 268435456 (tf g k i)) (lf g k i) (fun z => by omega) (fun _ => ?_))
          · rw [tfs_hi (by decide) c2] at ih
            exact ih _ _ _
          · rw [tfs_lo c2, tfl_s, sub1] at ih
            exact ih _ _ _
      · refine p_M_tryOf_34 (d + 5) _ _ _ _ _ _ _ _ h _ (pk_lt 9 c (fun z => by omega) (fun _ => ?_))
        rw [nI_s c]
        refine s_M_isIn (d + 4) (by omega) (by omega) ?_
        rw [show (cal g k).testBit c = calq g k (g 14 1) c by rw [cal, bits_bit, decide_eq_true hc]; rfl]
        refine bz_br (fun e1 => ?_) (fun e1 => s_M_mayBeWith (d + 1) hM hB hk hc hi (bz_br (fun e2 => ?_) (fun e2 => ?_)))
        · rw [cnt_f (p := fun w => calq g k (g 14 1) w && fitq g k i w) (by show (calq g k (g 14 1) c && fitq g k i c) = false; rw [e1]; rfl)] at ih2
          rw [add0]
          exact ih2
        · rw [cnt_f (p := fun w => calq g k (g 14 1) w && fitq g k i w) (by show (calq g k (g 14 1) c && fitq g k i c) = false; rw [e1, e2]; rfl)] at ih2
          rw [add0]
          exact ih2
        · rw [cnt_t (p := fun w => calq g k (g 14 1) w && fitq g k i w) (by show (calq g k (g 14 1) c && fitq g k i c) = true; rw [e1, e2]; rfl)] at ih2
          rw [nI_s]
          exact ih2
