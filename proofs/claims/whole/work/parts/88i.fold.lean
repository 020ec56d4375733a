/-! to fold -/
theorem sub_le : ∀ a, a < 64 → ∀ b, b < 64 → dif a b = 0 → a ≤ b ∧ (a < b → popc a < popc b) := by decide +kernel
/-- the set S taken off -/
def goff (g : Gs) (S : Nat) : Gs := fun r s => if r = 8 ∧ S.testBit s = true then 0 else g r s
theorem goff_r (g : Gs) (S : Nat) {r : Nat} (h : r ≠ 8) : goff g S r = g r := funext fun _ => if_neg (fun z => h z.1)
theorem goff_8 (g : Gs) (S s : Nat) : goff g S 8 s = bif S.testBit s then 0 else g 8 s := by
  unfold goff
  cases hc : S.testBit s
  · rw [if_neg (fun z => by cases z.2)]; rfl
  · rw [if_pos ⟨rfl, rfl⟩]; rfl
theorem GB_off {K m : Nat} {g : Gs} (hB : GB K m g) (S : Nat) : GB K m (goff g S) := by
  obtain ⟨h1, h2, h3, h4, h5, h6⟩ := hB
  unfold GB
  rw [goff_r g S (r := 0) (by decide), goff_r g S (r := 1) (by decide), goff_r g S (r := 2) (by decide), goff_r g S (r := 3) (by decide), goff_r g S (r := 4) (by decide), goff_r g S (r := 5) (by decide), goff_r g S (r := 6) (by decide), goff_r g S (r := 7) (by decide)]
  refine ⟨h1, h2, h3, h4, fun s => ?_, fun s hs => ?_⟩
  · rw [goff_8]
    cases S.testBit s
    · exact h5 s
    · exact Nat.zero_le _
  · rw [goff_8]
    cases S.testBit s
    · exact h6 s hs
    · rfl
theorem may_off (g : Gs) (S k s : Nat) : may (goff g S) k s = may g k s := by
  unfold may Wg Wc
  rw [goff_r g S (r := 0) (by decide), goff_r g S (r := 1) (by decide), goff_r g S (r := 2) (by decide), goff_r g S (r := 3) (by decide), goff_r g S (r := 4) (by decide), goff_r g S (r := 5) (by decide), goff_r g S (r := 6) (by decide), goff_r g S (r := 7) (by decide)]
theorem hg_off (g : Gs) (S s : Nat) : hg (goff g S) s = (hg g s && !S.testBit s) := by
  unfold hg
  rw [goff_8]
  cases S.testBit s
  · simp
  · simp
theorem like_off (g : Gs) (S a b : Nat) : like (goff g S) a b = (like g a b && (!S.testBit a && !S.testBit b)) := by
  unfold like
  rw [hg_off, hg_off, goff_r g S (r := 4) (by decide), goff_r g S (r := 5) (by decide), goff_r g S (r := 6) (by decide)]
  cases hg g a <;> cases hg g b <;> cases S.testBit a <;> cases S.testBit b <;> simp
theorem pr_off (g : Gs) (S k a b : Nat) : pr (goff g S) k a b = (pr g k a b && (!S.testBit a && !S.testBit b)) := by
  unfold pr
  rw [like_off, may_off, may_off]
  cases like g a b <;> cases may g k a <;> cases may g k b <;> cases S.testBit a <;> cases S.testBit b <;> rfl
def nop (g : Gs) (K S : Nat) : Bool := decide (bits K (hp (goff g S)) = 0)
theorem bits_0 {K : Nat} {p : Nat → Bool} : bits K p = 0 ↔ ∀ k, k < K → p k = false := by
  constructor
  · intro e k hk
    have := bits_bit p k K
    rw [e, Nat.zero_testBit, decide_eq_true hk, Bool.true_and] at this
    exact this.symm
  · intro h
    have : bits K p = bits K (fun _ => false) := bits_congr K h
    rw [this]
    clear this h
    induction K with
    | zero => rfl
    | succ n ih => rw [bits_f rfl]; exact ih
theorem nop_iff {g : Gs} {K S : Nat} : nop g K S = true ↔ ∀ k, k < K → ∀ i, i < 15 → prq g k i = true → S.testBit (pn i / 10) = true ∨ S.testBit (pn i % 10) = true := by
  unfold nop
  rw [decide_eq_true_eq, bits_0]
  constructor
  · intro h k hk i hi hp
    have h1 : ¬ 0 < cnt 15 (prq (goff g S) k) := of_decide_eq_false (h k hk)
    cases hc : prq (goff g S) k i
    · unfold prq at hc hp
      rw [pr_off, hp, Bool.true_and] at hc
      cases ha : S.testBit (pn i / 10)
      · rw [ha] at hc
        cases hb : S.testBit (pn i % 10)
        · rw [hb] at hc; cases hc
        · exact Or.inr rfl
      · exact Or.inl rfl
    · exact absurd (cnt_pos ⟨i, hi, hc⟩) h1
  · intro h k hk
    refine decide_eq_false (fun z => ?_)
    obtain ⟨i, hi, hp⟩ := cnt_ex z
    unfold prq at hp
    rw [pr_off] at hp
    simp only [Bool.and_eq_true, Bool.not_eq_true'] at hp
    rcases h k hk i hi hp.1 with e | e
    · rw [e] at hp; cases hp.2.1
    · rw [e] at hp; cases hp.2.2
/-- S can be taken off, and no pair is left -/
def fq (g : Gs) (K m S : Nat) : Bool := decide (dif S (bits m (hg g)) = 0) && nop g K S
/-- the first of the smallest sets below n, and one -/
def fb (p : Nat → Bool) : Nat → Nat
  | 0 => 0
  | n + 1 => if p n = true ∧ (fb p n = 0 ∨ popc n < popc (fb p n - 1)) then n + 1 else fb p n
theorem fb_keep {p : Nat → Bool} {n : Nat} (h : ¬ (p n = true ∧ (fb p n = 0 ∨ popc n < popc (fb p n - 1)))) : fb p (n + 1) = fb p n := by rw [fb, if_neg h]
theorem fb_take {p : Nat → Bool} {n : Nat} (h : p n = true) (h2 : fb p n = 0 ∨ popc n < popc (fb p n - 1)) : fb p (n + 1) = n + 1 := by rw [fb, if_pos ⟨h, h2⟩]
theorem fb_ok (p : Nat → Bool) : ∀ n, fb p n = 0 ∨ (fb p n ≤ n ∧ p (fb p n - 1) = true)
  | 0 => Or.inl rfl
  | n + 1 => by
    rw [fb]
    split
    · rename_i e
      exact Or.inr ⟨Nat.le_refl _, by rw [Nat.add_sub_cancel]; exact e.1⟩
    · rcases fb_ok p n with h | h
      · exact Or.inl h
      · exact Or.inr ⟨by omega, h.2⟩
theorem fb_ext {p : Nat → Bool} {m : Nat} (h : ∀ i, m ≤ i → p i = false) : ∀ {n}, m ≤ n → fb p n = fb p m
  | 0, hn => by rw [show m = 0 by omega]
  | n + 1, hn => by
    by_cases hm : m = n + 1
    · rw [hm]
    · rw [fb, h n (by omega), if_neg (fun z => by cases z.1)]
      exact fb_ext h (by omega)
theorem all_off {g : Gs} (S : Nat) : ∀ k i, prq g k i = true → (∀ s, hg g s = true → S.testBit s = true) → S.testBit (pn i / 10) = true := by
  intro k i hp h
  unfold prq pr like at hp
  simp only [Bool.and_eq_true] at hp
  exact h _ hp.1.1
theorem fq_H {K m : Nat} {g : Gs} (hB : GB K m g) : fq g K m (bits m (hg g)) = true := by
  have hm6 := hB.2.1
  have hH : bits m (hg g) < 64 := Nat.lt_of_lt_of_le (bits_lt _ _) (p64 hm6)
  unfold fq
  rw [nop_iff.mpr (fun k hk i hi hp => Or.inl (all_off _ k i hp (fun s hs => by rw [bits_bit, decide_eq_true (hg_lt hB hs), hs]; rfl))), Bool.and_true, decide_eq_true_eq]
  apply Nat.eq_of_testBit_eq
  intro i
  rw [dif_bit (by omega), Nat.zero_testBit]
  cases (bits m (hg g)).testBit i <;> rfl
/-- all sets up to the whole rope: as the class does -/
theorem fb_cls {K m : Nat} {g : Gs} (hB : GB K m g) : fb (fq g K m) (2 ^ m) = (if fb (fq g K m) (bits m (hg g)) = 0 then bits m (hg g) + 1 else fb (fq g K m) (bits m (hg g))) := by
  have hm6 := hB.2.1
  have hH : bits m (hg g) < 64 := Nat.lt_of_lt_of_le (bits_lt _ _) (p64 hm6)
  have e1 : fb (fq g K m) 64 = fb (fq g K m) (bits m (hg g) + 1) := by
    have hno : ∀ i, bits m (hg g) + 1 ≤ i → i < 64 → fq g K m i = false := by
      intro i hi h64
      unfold fq
      cases hd : decide (dif i (bits m (hg g)) = 0)
      · rfl
      · have := (sub_le i h64 _ hH (of_decide_eq_true hd)).1
        omega
    have : ∀ n, bits m (hg g) + 1 ≤ n → n ≤ 64 → fb (fq g K m) n = fb (fq g K m) (bits m (hg g) + 1) := by
      intro n
      induction n with
      | zero => intro h; omega
      | succ n ih =>
        intro h1 h2
        by_cases e : bits m (hg g) = n
        · rw [e]
        · rw [fb, hno n (by omega) (by omega), if_neg (fun z => by cases z.1)]
          exact ih (by omega) (by omega)
    exact this 64 (by omega) (by omega)
  have hl : bits m (hg g) < 2 ^ m := bits_lt _ _
  have e2 : fb (fq g K m) (2 ^ m) = fb (fq g K m) (bits m (hg g) + 1) := by
    have hno : ∀ i, bits m (hg g) + 1 ≤ i → i < 64 → fq g K m i = false := by
      intro i hi h64
      unfold fq
      cases hd : decide (dif i (bits m (hg g)) = 0)
      · rfl
      · have := (sub_le i h64 _ hH (of_decide_eq_true hd)).1
        omega
    have : ∀ n, bits m (hg g) + 1 ≤ n → n ≤ 64 → fb (fq g K m) n = fb (fq g K m) (bits m (hg g) + 1) := by
      intro n
      induction n with
      | zero => intro h; omega
      | succ n ih =>
        intro h1 h2
        by_cases e : bits m (hg g) = n
        · rw [e]
        · rw [fb, hno n (by omega) (by omega), if_neg (fun z => by cases z.1)]
          exact ih (by omega) (by omega)
    exact this (2 ^ m) (by omega) (p64 hm6)
  rw [e2, fb, fq_H hB]
  by_cases e : fb (fq g K m) (bits m (hg g)) = 0
  · rw [if_pos ⟨rfl, Or.inl e⟩, if_pos e]
  · rw [if_neg e, if_neg]
    intro z
    rcases fb_ok (fq g K m) (bits m (hg g)) with y | ⟨y1, y2⟩
    · exact e y
    · unfold fq at y2
      simp only [Bool.and_eq_true, decide_eq_true_eq] at y2
      have := (sub_le (fb (fq g K m) (bits m (hg g)) - 1) (by omega) _ hH y2.1).2 (by omega)
      rcases z.2 with z2 | z2
      · exact e z2
      · omega
/-- partners as far as king k and pair i -/
def PTN (h : Hp) (g : Gs) (k i : Nat) : Prop := ∀ a, a < 6 → ∃ x, x < 64 ∧ h.1 45 a = nI x ∧ ∀ b, x.testBit b = true ↔ ∃ k' i', (k' < k ∧ i' < 15 ∨ k' = k ∧ i' < i) ∧ pn i' / 10 = a ∧ pn i' % 10 = b ∧ prq g k' i' = true
theorem s_J_fillp (d : Nat) {h : Hp} {v : Int32} {Kk : Hp → Prop} (hq : ∀ h', SC h h' → (∀ a, a < 6 → h'.1 45 a = v) → Kk h') : Ev mtb shp (d + 1) m_J_fill [.ref 45, .int v] h (qV Kk) := by
  refine e_J_fillp d _ h _ ?_
  refine dn (T := fun i => ∀ h', SC h h' → (∀ a, a < i → h'.1 45 a = v) → PP (Ev mtb shp d) shp cd_J_fill 0 (qV Kk) 5 [.ref 45, .int v, .int (nI i), .int (nI 6)] [] h') (m := 6) (fun h' s1 s2 => ?_) (fun i hi ih h' s1 s2 => ?_) 0 (Nat.zero_le _) h (SC_rfl h) (fun a ha => absurd ha (Nat.not_lt_zero a))
  · exact p_J_fillp_5 d _ _ _ h' _ (lpE (hq h' s1 s2))
  · refine p_J_fillp_5 d _ _ _ h' _ (lpS hi (by decide) ⟨vp_in_nI hi (by decide), ?_⟩)
    rw [nI_clamp (show i < 2 ^ 31 by omega), nI_s]
    refine ih _ (SC_hs s1 rfl _) (fun a ha => ?_)
    show upd (h'.1 45) i v a = v
    by_cases e : a = i
    · rw [e, pk_us]
    · rw [pk_un e]; exact s2 a (by omega)
theorem s_X_findPartners (d : Nat) {h : Hp} {K m : Nat} {g : Gs} (hC : RC h K g) (hR : RR8 h m g) (hB : GB K m g) {Kk : Hp → Prop} (hq : ∀ h', SC h h' → PTN h' g K 0 → Kk h') : Ev mtb shp (d + 4) m_X_findPartners [.ref 0] h (qV Kk) := by
  have hK4 := hB.1
  refine e_X_findPartners (d + 3) h _ (s_J_fillp (d + 2) (fun h1 sc1 z1 => ?_))
  refine dn (T := fun k => ∀ h', SC h h' → PTN h' g k 0 → ∀ w2 w3 w4 w5 w6, PP (Ev mtb shp (d + 3)) shp cd_X_findPartners 0 (qV Kk) 10 [.ref 0, .int (nI k), w2, w3, w4, w5, w6] [] h') (m := K) (fun h' s1 s2 w2 w3 w4 w5 w6 => ?_) (fun k hk ih h' s1 s2 w2 w3 w4 w5 w6 => ?_) 0 (Nat.zero_le _) h1 sc1 (fun a ha => ⟨0, by decide, z1 a ha, fun b => ?_⟩) unv unv unv unv unv
  · refine p_X_findPartners_10 (d + 3) _ _ _ _ _ _ h' _ ?_
    rw [(RC_SC s1 hC).1]
    exact lpE (hq h' s1 s2)
  · refine p_X_findPartners_10 (d + 3) _ _ _ _ _ _ h' _ ?_
    rw [(RC_SC s1 hC).1]
    refine lpS hk (by omega) (s_C_mayBeHis (d + 1) (RC_SC s1 hC) (RR_SC s1 hR) hB hk ?_)
    refine dn (T := fun i => ∀ h', SC h h' → PTN h' g k i → ∀ w6, PP (Ev mtb shp (d + 3)) shp cd_X_findPartners 0 (qV Kk) 45 [.ref 0, .int (nI k), .int (nI (bits m (may g k))), .ref 100, .int (nI 15), .int (nI i), w6] [] h') (m := 15) (fun h' s1 s2 w6 => ?_) (fun i hi ih2 h' s1 s2 w6 => ?_) 0 (Nat.zero_le _) h' s1 s2 w6
    · refine p_X_findPartners_45 (d + 3) _ _ _ _ _ h' _ (lpE ?_)
      rw [nI_s k]
      refine ih h' s1 (fun a ha => ?_) _ _ _ _ _
      obtain ⟨x, x1, x2, x3⟩ := s2 a ha
      refine ⟨x, x1, x2, fun b => (x3 b).trans ?_⟩
      constructor
      · rintro ⟨k', i', q1, q2⟩
        exact ⟨k', i', by omega, q2⟩
      · rintro ⟨k', i', q1, q2⟩
        exact ⟨k', i', by omega, q2⟩
    · obtain ⟨p0, p1, p2, p3, p4⟩ := pn_ok i hi
      have hb6 := may6 hB k
      refine p_X_findPartners_45 (d + 3) _ _ _ _ _ h' _ (lpS hi (by decide) ⟨vp_in_nI hi (by decide), ?_⟩)
      rw [nI_clamp (show i < 2 ^ 31 by omega), p0]
      refine s_C_isPairWithin d (RR_SC s1 hR) hB (by omega) p1 p2 p3 ?_
      rw [pr_his hB, nI_s i, rm10 (by omega), dv10 (by omega), nI_clamp (show pn i / 10 < 2 ^ 31 by omega)]
      have v6 := vp_in_nI p1 (by decide)
      refine bz_br (fun c => ?_) (fun c => ⟨by decide, v6, by decide, v6, ?_⟩)
      · refine ih2 h' s1 (fun a ha => ?_) _
        obtain ⟨x, x1, x2, x3⟩ := s2 a ha
        refine ⟨x, x1, x2, fun b => (x3 b).trans ?_⟩
        constructor
        · rintro ⟨k', i', q1, q2⟩
          exact ⟨k', i', by omega, q2⟩
        · rintro ⟨k', i', q1, q2, q3, q4⟩
          refine ⟨k', i', ?_, q2, q3, q4⟩
          rcases q1 with q1 | ⟨q1, q5⟩
          · exact Or.inl q1
          · refine Or.inr ⟨q1, ?_⟩
            by_cases e : i' = i
            · subst e q1
              unfold prq at q4
              rw [c] at q4
              cases q4
            · omega
      · refine ih2 _ (SC_hs s1 rfl _) (fun a ha => ?_) _
        rw [shl1 _ (by omega)]
        by_cases ea : a = pn i / 10
        · obtain ⟨x, x1, x2, x3⟩ := s2 (pn i / 10) p1
          have hp2 : 2 ^ (pn i % 10) < 64 := Nat.pow_lt_pow_right (a := 2) (n := 6) (by decide) p2
          refine ⟨x ||| 2 ^ (pn i % 10), Nat.or_lt_two_pow (n := 6) x1 hp2, ?_, fun b => ?_⟩
          · show upd (h'.1 45) (pn i / 10) _ a = _
            rw [ea, pk_us, x2, nI_or]
          · rw [Nat.testBit_or, Nat.testBit_two_pow, Bool.or_eq_true, x3 b, decide_eq_true_eq]
            constructor
            · rintro (⟨k', i', q1, q2, q3, q4⟩ | e)
              · exact ⟨k', i', by omega, by omega, q3, q4⟩
              · exact ⟨k, i, by omega, ea.symm, e, c⟩
            · rintro ⟨k', i', q1, q2, q3, q4⟩
              by_cases e : k' = k ∧ i' = i
              · rw [e.2] at q3
                exact Or.inr q3
              · exact Or.inl ⟨k', i', by omega, by omega, q3, q4⟩
        · obtain ⟨x, x1, x2, x3⟩ := s2 a ha
          refine ⟨x, x1, ?_, fun b => (x3 b).trans ?_⟩
          · show upd (h'.1 45) (pn i / 10) _ a = _
            rw [pk_un ea]; exact x2
          · constructor
            · rintro ⟨k', i', q1, q2⟩
              exact ⟨k', i', by omega, q2⟩
            · rintro ⟨k', i', q1, q2, q3, q4⟩
              refine ⟨k', i', ?_, q2, q3, q4⟩
              by_cases e : i' = i
              · rw [e] at q2
                exact absurd q2.symm ea
              · omega
  · rw [Nat.zero_testBit]
    constructor
    · intro z; cases z
    · rintro ⟨k', i', q1, q2⟩
      omega
theorem s_X_leavesNoPair (d : Nat) {h : Hp} {K m : Nat} {g : Gs} (hR : RR8 h m g) (hB : GB K m g) (hP : PTN h g K 0) {S : Nat} (hS : S < 64) {Kk : Int32 → Hp → Prop} (hq : Kk (bz (nop g K S)) h) : Ev mtb shp (d + 2) m_X_leavesNoPair [.ref 0, .int (nI S)] h (qI Kk) := by
  have hm6 := hB.2.1
  refine e_X_leavesNoPair (d + 1) _ h _ ?_
  refine dn (T := fun i => (∀ k, k < K → ∀ j, j < 15 → pn j / 10 < i → prq g k j = true → S.testBit (pn j / 10) = true ∨ S.testBit (pn j % 10) = true) → PP (Ev mtb shp (d + 1)) shp cd_X_leavesNoPair 2 (qI Kk) 2 [.ref 0, .int (nI S), .int (nI i)] [] h) (m := m) (fun hn => ?_) (fun i hi ih hn => ?_) 0 (Nat.zero_le _) (fun k hk j hj h0 => by omega)
  · refine p_X_leavesNoPair_2 (d + 1) _ _ h _ ?_
    rw [hR.1]
    rw [show nop g K S = true from nop_iff.mpr (fun k hk j hj hp => hn k hk j hj (pr_lt hB hp).1 hp)] at hq
    exact lpE ⟨rfl, hq⟩
  · refine p_X_leavesNoPair_2 (d + 1) _ _ h _ ?_
    obtain ⟨x, x1, x2, x3⟩ := hP i (by omega)
    rw [hR.1, nI_s]
    refine lpS hi (by omega) (s_X_has d (by omega) (by omega) (bz_bn (fun c => ?_) (fun c => ⟨vp_in_nI (show i < 6 by omega) (by decide), ?_⟩)))
    · refine ih (fun k hk j hj h0 hp => ?_)
      by_cases e : pn j / 10 = i
      · rw [e]; exact Or.inl c
      · exact hn k hk j hj (by omega) hp
    · rw [nI_clamp (show i < 2 ^ 31 by omega), x2, nI_dif (by omega) (by omega)]
      have hdl : dif x S ≤ x := Nat.and_le_left
      refine pk_eq (dif x S) 0 (fun e => ?_) (fun e => ⟨rfl, ?_⟩)
      · refine ih (fun k hk j hj h0 hp => ?_)
        by_cases e2 : pn j / 10 = i
        · right
          have hx : x.testBit (pn j % 10) = true := (x3 _).mpr ⟨k, j, by omega, e2, rfl, hp⟩
          have := dif_bit (a := x) (b := S) (by omega) (pn j % 10)
          rw [e, Nat.zero_testBit, hx, Bool.true_and] at this
          cases hs : S.testBit (pn j % 10)
          · rw [hs] at this; cases this
          · rfl
        · exact hn k hk j hj (by omega) hp
      · have hnop : nop g K S = false := by
          cases hb : nop g K S
          · rfl
          · exfalso
            apply e
            apply Nat.eq_of_testBit_eq
            intro b
            rw [dif_bit (by omega), Nat.zero_testBit]
            cases hx : x.testBit b
            · rfl
            · obtain ⟨k', i', q1, q2, q3, q4⟩ := (x3 b).mp hx
              rcases nop_iff.mp hb k' (by omega) i' (by omega) q4 with z | z
              · rw [q2, c] at z; cases z
              · rw [q3] at z; rw [z]; rfl
        rw [hnop] at hq
        exact hq
def aF (K m : Nat) (g : Gs) : Int32 := pI (fb (fq g K m) (2 ^ m))
theorem s_X_foldK (d : Nat) {h : Hp} {K m : Nat} {g : Gs} (hC : RC h K g) (hR : RR8 h m g) (hB : GB K m g) (hm0 : 0 < m) {Kk : Int32 → Hp → Prop} (hq : ∀ h', SC h h' → Kk (aF K m g) h') : Ev mtb shp (d + 5) m_X_fold [.ref 0] h (qI Kk) := by
  have hm6 := hB.2.1
  have hH : bits m (hg g) < 64 := Nat.lt_of_lt_of_le (bits_lt _ _) (p64 hm6)
  refine e_X_fold (d + 4) h _ (s_X_noLine (d + 3) hR (by omega) ?_)
  rw [decide_eq_false (by omega)]
  refine ⟨fun _ => ?_, fun z => absurd rfl z⟩
  refine s_X_findPartners d hC hR hB (fun h1 sc1 pt1 => ?_)
  refine s_R_hanging (d + 2) (RR_SC sc1 hR) hB ?_
  refine dn0 (T := fun n => ∀ w, PP (Ev mtb shp (d + 4)) shp cd_X_fold 1 (qI Kk) 26 [.ref 0, .int (nI (bits m (hg g))), .int (nI (if fb (fq g K m) n = 0 then bits m (hg g) else fb (fq g K m) n - 1)), .int (nI n), w] [] h1) (bits m (hg g)) (fun w => ?_) (fun n hn ih w => ?_) unv
  · refine p_X_fold_26 (d + 4) _ _ _ _ h1 _ (lpE ?_)
    have hq := hq h1 sc1
    unfold aF at hq
    rw [fb_cls hB] at hq
    by_cases e : fb (fq g K m) (bits m (hg g)) = 0
    · rw [if_pos e, sub1] at hq
      rw [if_pos e]
      exact hq
    · rw [if_neg e] at hq ⊢
      obtain ⟨y, hy⟩ : ∃ y, fb (fq g K m) (bits m (hg g)) = y + 1 := ⟨fb (fq g K m) (bits m (hg g)) - 1, by omega⟩
      rw [hy, sub1] at hq
      rw [hy]
      exact hq
  · refine p_X_fold_26 (d + 4) _ _ _ _ h1 _ (lpS hn (by omega) ?_)
    rw [nI_s, nI_dif (by omega) (by omega)]
    have hfo := fb_ok (fq g K m) n
    have hbl : (if fb (fq g K m) n = 0 then bits m (hg g) else fb (fq g K m) n - 1) < 64 := by
      split <;> omega
    have pl1 := popc_le n
    have pl2 := popc_le (if fb (fq g K m) n = 0 then bits m (hg g) else fb (fq g K m) n - 1)
    refine s_bitCount (d + 3) (by omega) (s_bitCount (d + 3) (by omega) (pk_le (popc (if fb (fq g K m) n = 0 then bits m (hg g) else fb (fq g K m) n - 1)) (popc n) (fun c => ⟨fun _ => ?_, fun z => absurd rfl z⟩) (fun c => ⟨fun z => absurd z (by decide), fun _ => ?_⟩)))
    · have hno : ¬ (fq g K m n = true ∧ (fb (fq g K m) n = 0 ∨ popc n < popc (fb (fq g K m) n - 1))) := by
        rintro ⟨z1, z2⟩
        by_cases e : fb (fq g K m) n = 0
        · rw [if_pos e] at c
          unfold fq at z1
          simp only [Bool.and_eq_true, decide_eq_true_eq] at z1
          have := (sub_le n (by omega) _ hH z1.1).2 hn
          omega
        · rw [if_neg e] at c
          omega
      rw [fb_keep hno] at ih
      exact ih _
    · have hd : dif n (bits m (hg g)) ≤ n := Nat.and_le_left
      refine pk_ne (dif n (bits m (hg g))) 0 (fun e => ?_) (fun e => s_X_leavesNoPair (d + 2) (RR_SC sc1 hR) hB pt1 (by omega) (bz_br (fun c2 => ?_) (fun c2 => ?_)))
      · rw [fb_keep (fun z => by have z := z.1; unfold fq at z; rw [decide_eq_false e] at z; cases z)] at ih
        exact ih _
      · rw [fb_keep (fun z => by have z := z.1; unfold fq at z; rw [c2, Bool.and_false] at z; cases z)] at ih
        exact ih _
      · rw [fb_take (by unfold fq; rw [decide_eq_true e, c2]; rfl) (by
          by_cases e0 : fb (fq g K m) n = 0
          · exact Or.inl e0
          · rw [if_neg e0] at c
            exact Or.inr c), if_neg (by omega), Nat.add_sub_cancel] at ih
        exact ih _
