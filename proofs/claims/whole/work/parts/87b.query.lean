/-! what else is asked of court and rope -/
theorem sub1 (n : Nat) : pI (n + 1) = nI n := by
  unfold pI
  rw [← nI_s n]
  exact Int32.add_sub_cancel _ _
theorem pI_m1 {n : Nat} (h : n < 2 ^ 31) : pI n = -1 ↔ n = 0 := by
  cases n with
  | zero => exact ⟨fun _ => rfl, fun _ => rfl⟩
  | succ n =>
    rw [sub1]
    refine ⟨fun z => ?_, fun z => absurd z (Nat.succ_ne_zero n)⟩
    have := congrArg Int32.toInt z
    rw [nI_toInt (by omega), show (-1 : Int32).toInt = -1 from rfl] at this
    omega
theorem pI_br {n : Nat} (hn : n < 2 ^ 31) {A B : Prop} (f : n = 0 → A) (t : n ≠ 0 → B) : (pI n = -1 → A) ∧ (¬ pI n = -1 → B) := by
  rw [pI_m1 hn]
  exact ⟨f, t⟩
theorem pI_bn {n : Nat} (hn : n < 2 ^ 31) {A B : Prop} (t : n ≠ 0 → A) (f : n = 0 → B) : (¬ pI n = -1 → A) ∧ (pI n = -1 → B) := ⟨(pI_br hn f t).2, (pI_br hn f t).1⟩
theorem pI_inj {a b : Nat} (ha : a < 2 ^ 31) (hb : b < 2 ^ 31) : pI a = pI b ↔ a = b := by
  unfold pI
  refine ⟨fun z => ?_, fun z => by rw [z]⟩
  have := congrArg (· + 1) z
  simp only [Int32.sub_add_cancel] at this
  exact (nI_eq ha hb).mp this
theorem Wg_le {K m : Nat} {g : Gs} (hB : GB K m g) {k s : Nat} (hk : k < K) (hs : s < m) : Wg g k s ≤ 16 := by
  obtain ⟨b0, b1, b2, b3⟩ := hB.2.2.1 k hk
  obtain ⟨b4, b5, b6, b7⟩ := hB.2.2.2.1 s hs
  exact wn_le b1 b4 b7
/-- a pair's wrongness -/
def Wp (g : Gs) (k p : Nat) : Nat := Wg g k (p / 10) + Wg g k (p % 10)
theorem s_C_wrongness (d : Nat) {h : Hp} {K m : Nat} {g : Gs} (hC : RC h K g) (hR : RR8 h m g) (hB : GB K m g) {k s : Nat} (hk : k < K) (hs : s < m) {Kk : Int32 → Hp → Prop} (hq : Kk (nI (Wg g k s)) h) : Ev mtb shp (d + 2) m_C_wrongness [.ref 3, .int (nI k), .ref 8, .int (nI s)] h (qI Kk) := by
  have hk4 : k < 4 := by have := hB.1; omega
  refine e_C_wrongness (d + 1) _ _ h _ ⟨vp_in_nI hk4 (by decide), ?_⟩
  rw [nI_clamp (show k < 2 ^ 31 by omega), (hC.2 k hk).2.1]
  exact s_C_wrongnessAt d hC hR hB (hB.2.2.1 k hk).2.1 hk hs hq
theorem s_C_wrongnessOfPair (d : Nat) {h : Hp} {K m : Nat} {g : Gs} (hC : RC h K g) (hR : RR8 h m g) (hB : GB K m g) {k p : Nat} (hk : k < K) (hp : p < 100) (h1 : p / 10 < m) (h2 : p % 10 < m) {Kk : Int32 → Hp → Prop} (hq : Kk (nI (Wp g k p)) h) : Ev mtb shp (d + 2) m_C_wrongnessOfPair [.ref 3, .int (nI k), .ref 8, .int (nI p)] h (qI Kk) := by
  have hk4 : k < 4 := by have := hB.1; omega
  refine e_C_wrongnessOfPair (d + 1) _ _ h _ ⟨vp_in_nI hk4 (by decide), by decide, ?_⟩
  rw [nI_clamp (show k < 2 ^ 31 by omega), (hC.2 k hk).2.1, rm10 hp, dv10 hp]
  refine s_C_wrongnessAt d hC hR hB (hB.2.2.1 k hk).2.1 hk h1 ⟨by decide, ?_⟩
  refine s_C_wrongnessAt d hC hR hB (hB.2.2.1 k hk).2.1 hk h2 ?_
  rw [nI_add]
  exact hq
theorem s_C_whoseMayBe (d : Nat) {h : Hp} {K m : Nat} {g : Gs} (hC : RC h K g) (hR : RR8 h m g) (hB : GB K m g) {s : Nat} (hs : s < m) {Kk : Int32 → Hp → Prop} (hq : Kk (nI (bits K (fun k => may g k s))) h) : Ev mtb shp (d + 3) m_C_whoseMayBe [.ref 3, .ref 8, .int (nI s)] h (qI Kk) := by
  have hK4 := hB.1
  refine e_C_whoseMayBe (d + 2) _ h _ ?_
  refine dn0 (T := fun i => PP (Ev mtb shp (d + 2)) shp cd_C_whoseMayBe 1 (qI Kk) 5 [.ref 3, .ref 8, .int (nI s), .int (nI (bits i (fun k => may g k s))), .int (nI i)] [] h) K ?_ (fun i hi ih => ?_)
  · refine p_C_whoseMayBe_5 (d + 2) _ _ _ h _ ?_
    rw [hC.1]
    exact lpE hq
  · refine p_C_whoseMayBe_5 (d + 2) _ _ _ h _ ?_
    rw [hC.1]
    refine lpS hi (by omega) ?_
    refine s_C_wrongness d hC hR hB hi hs ?_
    refine le3 (by have := Wg_le hB hi hs; omega) (fun c => ?_) (fun c => ?_)
    · rw [nI_s]
      rw [bits_f (p := fun k => may g k s) c] at ih
      exact ih
    · rw [nI_s, or_bit (bits_lt _ _) (by omega)]
      rw [bits_t (p := fun k => may g k s) c] at ih
      exact ih
/-- the first king by whom it is the least wrong, of the first n -/
def nr (g : Gs) (s : Nat) : Nat → Nat
  | 0 => 0
  | n + 1 => if Wg g n s < Wg g (nr g s n) s then n else nr g s n
theorem nr_le (g : Gs) (s : Nat) : ∀ n, nr g s (n + 1) ≤ n
  | 0 => by unfold nr; split <;> exact Nat.le_refl 0
  | n + 1 => by
    have := nr_le g s n
    rw [nr.eq_2]
    split <;> omega
theorem nr_1 (g : Gs) (s : Nat) : nr g s 1 = 0 := Nat.le_zero.mp (nr_le g s 0)
theorem s_C_leastWrongFor (d : Nat) {h : Hp} {K m : Nat} {g : Gs} (hC : RC h K g) (hR : RR8 h m g) (hB : GB K m g) (hK : 0 < K) {s : Nat} (hs : s < m) {Kk : Int32 → Hp → Prop} (hq : Kk (nI (nr g s K)) h) : Ev mtb shp (d + 3) m_C_leastWrongFor [.ref 3, .ref 8, .int (nI s)] h (qI Kk) := by
  have hK4 := hB.1
  refine e_C_leastWrongFor (d + 2) _ h _ ?_
  have key := dn (T := fun i => 0 < i → PP (Ev mtb shp (d + 2)) shp cd_C_leastWrongFor 1 (qI Kk) 5 [.ref 3, .ref 8, .int (nI s), .int (nI (nr g s i)), .int (nI i)] [] h) (m := K) (fun _ => ?_) (fun i hi ih h0 => ?_) 1 hK (by decide)
  · rw [nr_1] at key
    exact key
  · refine p_C_leastWrongFor_5 (d + 2) _ _ _ h _ ?_
    rw [hC.1]
    exact lpE hq
  · refine p_C_leastWrongFor_5 (d + 2) _ _ _ h _ ?_
    rw [hC.1]
    obtain ⟨j, rfl⟩ : ∃ j, i = j + 1 := ⟨i - 1, by omega⟩
    have hj := nr_le g s j
    refine lpS hi (by omega) ?_
    refine s_C_wrongness d hC hR hB hi hs ?_
    refine s_C_wrongness d hC hR hB (k := nr g s (j + 1)) (by omega) hs ?_
    have w1 := Wg_le hB hi hs
    have w2 := Wg_le hB (show nr g s (j + 1) < K by omega) hs
    have ih := ih (by omega)
    refine pk_le (Wg g (nr g s (j + 1)) s) (Wg g (j + 1) s) (fun c => ?_) (fun c => ?_)
    · rw [nI_s]
      rw [nr.eq_2, if_neg (by omega)] at ih
      exact ih
    · rw [nI_s]
      rw [nr.eq_2, if_pos (by omega)] at ih
      exact ih
/-- for which calves it may be his -/
def fitq (g : Gs) (k s w : Nat) : Bool := decide (Wc g w k s ≤ 3)
theorem s_C_calvesFitting (d : Nat) {h : Hp} {K m : Nat} {g : Gs} (hC : RC h K g) (hR : RR8 h m g) (hB : GB K m g) {k s : Nat} (hk : k < K) (hs : s < m) {Kk : Int32 → Hp → Prop} (hq : Kk (nI (bits 10 (fitq g k s))) h) : Ev mtb shp (d + 2) m_C_calvesFitting [.ref 3, .int (nI k), .ref 8, .int (nI s)] h (qI Kk) := by
  refine e_C_calvesFitting (d + 1) _ _ h _ ?_
  refine dn0 (T := fun i => PP (Ev mtb shp (d + 1)) shp cd_C_calvesFitting 1 (qI Kk) 6 [.ref 3, .int (nI k), .ref 8, .int (nI s), .int (nI (bits i (fitq g k s))), .int (nI i)] [] h) 10 ?_ (fun i hi ih => ?_)
  · refine p_C_calvesFitting_6 (d + 1) _ _ _ _ h _ (lpE (m := 10) hq)
  · refine p_C_calvesFitting_6 (d + 1) _ _ _ _ h _ (lpS (m := 10) hi (by decide) ?_)
    obtain ⟨b4, b5, b6, b7⟩ := hB.2.2.2.1 s hs
    refine s_C_wrongnessAt d hC hR hB hi hk hs ?_
    refine le3 (by have := wn_le (kd := g 0 k) (ks := g 2 k) (kk := g 3 k) (st := g 5 s) (kn := g 6 s) hi b4 b7; unfold Wc; omega) (fun c => ?_) (fun c => ?_)
    · rw [nI_s]
      rw [bits_f (p := fitq g k s) c] at ih
      exact ih
    · rw [nI_s, or_bit (bits_lt _ _) (by omega)]
      rw [bits_t (p := fitq g k s) c] at ih
      exact ih
theorem may6 {K m : Nat} {g : Gs} (hB : GB K m g) (k : Nat) : bits m (may g k) < 2 ^ 6 := Nat.lt_of_lt_of_le (bits_lt _ _) (Nat.pow_le_pow_right (by decide) hB.2.1)
theorem s_C_pairsOf (d : Nat) {h : Hp} {K m : Nat} {g : Gs} (hC : RC h K g) (hR : RR8 h m g) (hB : GB K m g) {k : Nat} (hk : k < K) {Kk : Int32 → Hp → Prop} (hq : Kk (nI (cnt 15 (prq g k))) h) : Ev mtb shp (d + 4) m_C_pairsOf [.ref 3, .int (nI k), .ref 8] h (qI Kk) := by
  have hb6 := may6 hB k
  refine e_C_pairsOf (d + 3) _ h _ ?_
  refine s_C_mayBeHis (d + 1) hC hR hB hk ?_
  refine dn0 (T := fun i => ∀ w, PP (Ev mtb shp (d + 3)) shp cd_C_pairsOf 1 (qI Kk) 23 [.ref 3, .int (nI k), .ref 8, .int (nI (bits m (may g k))), .int (nI (cnt i (prq g k))), .ref 100, .int (nI 15), .int (nI i), w] [] h) 15 (fun w => ?_) (fun i hi ih w => ?_) unv
  · exact p_C_pairsOf_23 (d + 3) _ _ _ _ _ _ h _ (lpE hq)
  · obtain ⟨p0, p1, p2, p3, -⟩ := pn_ok i hi
    refine p_C_pairsOf_23 (d + 3) _ _ _ _ _ _ h _ (lpS hi (by decide) ⟨vp_in_nI hi (by decide), ?_⟩)
    rw [nI_clamp (show i < 2 ^ 31 by omega), p0]
    refine s_C_isPairWithin d hR hB (by omega) p1 p2 p3 ?_
    rw [pr_his hB]
    refine bz_br (fun c => ?_) (fun c => ?_)
    · rw [nI_s]
      rw [cnt_f (p := prq g k) c] at ih
      exact ih _
    · rw [nI_s, nI_s]
      rw [cnt_t (p := prq g k) c] at ih
      exact ih _
/-- the best pair up to now (0: none, else the pair and one), and pair p -/
def bps (g : Gs) (k b p : Nat) : Nat := bif pr g k (p / 10) (p % 10) then (if b = 0 then p + 1 else if Wp g k p < Wp g k (b - 1) then p + 1 else b) else b
def bpf (g : Gs) (k : Nat) : Nat → Nat
  | 0 => 0
  | n + 1 => bps g k (bpf g k n) (pn n)
/-- a best pair is none or a pair of his -/
def bpo (g : Gs) (k b : Nat) : Prop := b = 0 ∨ (b ≤ 50 ∧ pr g k ((b - 1) / 10) ((b - 1) % 10) = true)
theorem bps_ok {g : Gs} {k b p : Nat} (hb : bpo g k b) (hp : p < 50) : bpo g k (bps g k b p) := by
  unfold bps
  cases hc : pr g k (p / 10) (p % 10)
  · exact hb
  · simp only [cond_true]
    have h1 : bpo g k (p + 1) := Or.inr ⟨hp, by rw [Nat.add_sub_cancel]; exact hc⟩
    split
    · exact h1
    · split
      · exact h1
      · exact hb
theorem bpf_ok (g : Gs) (k : Nat) : ∀ n, n ≤ 15 → bpo g k (bpf g k n)
  | 0, _ => Or.inl rfl
  | n + 1, h => bps_ok (bpf_ok g k n (by omega)) (pn_ok n (by omega)).2.2.2.1
theorem pr_lt {K m : Nat} {g : Gs} (hB : GB K m g) {k a b : Nat} (h : pr g k a b = true) : a < m ∧ b < m := by
  unfold pr at h
  simp only [Bool.and_eq_true] at h
  exact like_lt hB h.1
theorem Wp_le {K m : Nat} {g : Gs} (hB : GB K m g) {k p : Nat} (hk : k < K) (h1 : p / 10 < m) (h2 : p % 10 < m) : Wp g k p ≤ 32 := by
  have w1 := Wg_le hB hk h1
  have w2 := Wg_le hB hk h2
  unfold Wp
  omega
theorem s_C_bestPair (d : Nat) {h : Hp} {K m : Nat} {g : Gs} (hC : RC h K g) (hR : RR8 h m g) (hB : GB K m g) {k : Nat} (hk : k < K) {Kk : Int32 → Hp → Prop} (hq : Kk (pI (bpf g k 15)) h) : Ev mtb shp (d + 4) m_C_bestPair [.ref 3, .int (nI k), .ref 8] h (qI Kk) := by
  have hb6 := may6 hB k
  refine e_C_bestPair (d + 3) _ h _ ?_
  refine s_C_mayBeHis (d + 1) hC hR hB hk ?_
  refine dn0 (T := fun i => ∀ w w', PP (Ev mtb shp (d + 3)) shp cd_C_bestPair 1 (qI Kk) 23 [.ref 3, .int (nI k), .ref 8, .int (nI (bits m (may g k))), .int (pI (bpf g k i)), .ref 100, .int (nI 15), .int (nI i), w, w'] [] h) 15 (fun w w' => ?_) (fun i hi ih w w' => ?_) unv unv
  · exact p_C_bestPair_23 (d + 3) _ _ _ _ _ _ _ h _ (lpE hq)
  · obtain ⟨p0, p1, p2, p3, -⟩ := pn_ok i hi
    have hbo := bpf_ok g k i (by omega)
    have hb31 : bpf g k i < 2 ^ 31 := by rcases hbo with z | z <;> omega
    refine p_C_bestPair_23 (d + 3) _ _ _ _ _ _ _ h _ (lpS hi (by decide) ⟨vp_in_nI hi (by decide), ?_⟩)
    rw [nI_clamp (show i < 2 ^ 31 by omega), p0]
    refine s_C_isPairWithin d hR hB (by omega) p1 p2 p3 ?_
    rw [pr_his hB]
    rw [bpf.eq_2, bps] at ih
    refine bz_br (fun c => ⟨fun _ => ?_, fun z => absurd rfl z⟩) (fun c => pI_br hb31 (fun e => ⟨fun z => absurd z (by decide), fun _ => ?_⟩) (fun e => ?_))
    · rw [nI_s]
      rw [c, cond_false] at ih
      exact ih _ _
    · rw [nI_s]
      rw [c, cond_true, if_pos e, sub1] at ih
      exact ih _ _
    · obtain ⟨q1, q2⟩ := hbo.resolve_left e
      obtain ⟨u1, u2⟩ := pr_lt hB c
      obtain ⟨u3, u4⟩ := pr_lt hB q2
      refine s_C_wrongnessOfPair (d + 1) hC hR hB hk (by omega) u1 u2 ?_
      have hx : pI (bpf g k i) = nI (bpf g k i - 1) := by
        rw [← sub1, Nat.sub_add_cancel (by omega)]
      rw [hx]
      refine s_C_wrongnessOfPair (d + 1) hC hR hB hk (by omega) u3 u4 ?_
      have l1 := Wp_le hB hk u1 u2
      have l2 := Wp_le hB hk u3 u4
      rw [c, cond_true, if_neg e] at ih
      refine pk_le (Wp g k (bpf g k i - 1)) (Wp g k (pn i)) (fun c2 => ⟨fun _ => ?_, fun z => absurd rfl z⟩) (fun c2 => ⟨fun z => absurd z (by decide), fun _ => ?_⟩)
      · rw [nI_s]
        rw [if_neg (by omega), hx] at ih
        exact ih _ _
      · rw [nI_s]
        rw [if_pos (by omega), sub1] at ih
        exact ih _ _
/-- the least i < n with p, and one; 0: none -/
def fst (p : Nat → Bool) : Nat → Nat
  | 0 => 0
  | n + 1 => if fst p n ≠ 0 then fst p n else bif p n then n + 1 else 0
theorem fst_0 {p : Nat → Bool} : ∀ {n}, (∀ i, i < n → p i = false) → fst p n = 0
  | 0, _ => rfl
  | n + 1, h => by rw [fst.eq_2, fst_0 (fun i hi => h i (by omega)), h n (by omega)]; rfl
theorem fst_i {p : Nat → Bool} {i : Nat} (hp : p i = true) (h : ∀ j, j < i → p j = false) : ∀ {n}, i < n → fst p n = i + 1
  | 0, hi => absurd hi (Nat.not_lt_zero i)
  | n + 1, hi => by
    rw [fst.eq_2]
    by_cases hn : i < n
    · rw [fst_i hp h hn]; rfl
    · obtain rfl : i = n := by omega
      rw [fst_0 h, hp]; rfl
theorem s_C_firstOf (d : Nat) {h : Hp} {K : Nat} {g : Gs} (hC : RC h K g) (hK : K ≤ 4) {b : Nat} (hb : b < 2 ^ 31) {Kk : Int32 → Hp → Prop} (hq : Kk (pI (fst (fun i => b.testBit i) K)) h) : Ev mtb shp (d + 2) m_C_firstOf [.ref 3, .int (nI b)] h (qI Kk) := by
  refine e_C_firstOf (d + 1) _ h _ ?_
  refine dn (T := fun i => (∀ j, j < i → b.testBit j = false) → PP (Ev mtb shp (d + 1)) shp cd_C_firstOf 1 (qI Kk) 2 [.ref 3, .int (nI b), .int (nI i)] [] h) (m := K) (fun hn => ?_) (fun i hi ih hn => ?_) 0 (Nat.zero_le _) (fun j hj => absurd hj (Nat.not_lt_zero j))
  · refine p_C_firstOf_2 (d + 1) _ _ h _ ?_
    rw [hC.1]
    rw [fst_0 hn] at hq
    exact lpE hq
  · refine p_C_firstOf_2 (d + 1) _ _ h _ ?_
    rw [hC.1]
    refine lpS hi (by omega) ?_
    refine s_X_has d hb (by omega) (bz_br (fun c => ?_) (fun c => ?_))
    · rw [nI_s]
      refine ih (fun j hj => ?_)
      by_cases hji : j = i
      · subst hji; exact c
      · exact hn j (by omega)
    · rw [fst_i (p := fun i => b.testBit i) c hn hi, sub1] at hq
      exact hq
/-- who hangs at peg p (0: nobody, else its number and one) -/
def hat (g : Gs) (m p : Nat) : Nat := fst (fun s => decide (g 8 s = p + 1)) m
theorem s_R_hangingAt (d : Nat) {h : Hp} {K m : Nat} {g : Gs} (hR : RR8 h m g) (hB : GB K m g) {p : Nat} (hp : p < 10) {Kk : Int32 → Hp → Prop} (hq : Kk (pI (hat g m p)) h) : Ev mtb shp (d + 1) m_R_hangingAt [.ref 8, .int (nI p)] h (qI Kk) := by
  have hm6 := hB.2.1
  refine e_R_hangingAt d _ h _ ?_
  refine dn (T := fun i => (∀ j, j < i → decide (g 8 j = p + 1) = false) → PP (Ev mtb shp d) shp cd_R_hangingAt 1 (qI Kk) 2 [.ref 8, .int (nI p), .int (nI i)] [] h) (m := m) (fun hn => ?_) (fun i hi ih hn => ?_) 0 (Nat.zero_le _) (fun j hj => absurd hj (Nat.not_lt_zero j))
  · refine p_R_hangingAt_2 d _ _ h _ ?_
    rw [hR.1]
    rw [hat, fst_0 hn] at hq
    exact lpE hq
  · refine p_R_hangingAt_2 d _ _ h _ ?_
    have h8 := hB.2.2.2.2.1 i
    rw [hR.1, nI_clamp (show i < 2 ^ 31 by omega), hR.2.2 i (by omega), ← sub1 p, pI_inj (by omega) (by omega)]
    refine lpS hi (by omega) ⟨vp_in_nI (show i < 6 by omega) (by decide), fun c => ?_, fun c => ?_⟩
    · rw [nI_s, sub1]
      refine ih (fun j hj => ?_)
      by_cases hji : j = i
      · subst hji; exact decide_eq_false c
      · exact hn j (by omega)
    · rw [hat, fst_i (p := fun s => decide (g 8 s = p + 1)) (decide_eq_true c) hn hi, sub1] at hq
      exact hq
def sm (f : Nat → Nat) : Nat → Nat
  | 0 => 0
  | n + 1 => sm f n + f n
theorem s_R_allSizes (d : Nat) {h : Hp} {K m : Nat} {g : Gs} (hR : RR8 h m g) (hB : GB K m g) {Kk : Int32 → Hp → Prop} (hq : Kk (nI (sm (g 4) m)) h) : Ev mtb shp (d + 1) m_R_allSizes [.ref 8] h (qI Kk) := by
  have hm6 := hB.2.1
  refine e_R_allSizes d h _ ?_
  refine dn0 (T := fun i => PP (Ev mtb shp d) shp cd_R_allSizes 1 (qI Kk) 4 [.ref 8, .int (nI (sm (g 4) i)), .int (nI i)] [] h) m ?_ (fun i hi ih => ?_)
  · refine p_R_allSizes_4 d _ _ h _ ?_
    rw [hR.1]
    exact lpE hq
  · refine p_R_allSizes_4 d _ _ h _ ?_
    rw [hR.1, nI_clamp (show i < 2 ^ 31 by omega), (hR.2.1 i hi).1, nI_add, nI_s]
    exact lpS hi (by omega) ⟨vp_in_nI (show i < 6 by omega) (by decide), ih⟩
def mtq (g : Gs) (s o : Nat) : Bool := bif decide (o = s) then false else like g s o
theorem s_R_matesOf (d : Nat) {h : Hp} {K m : Nat} {g : Gs} (hR : RR8 h m g) (hB : GB K m g) {s : Nat} (hs : s < m) {Kk : Int32 → Hp → Prop} (hq : Kk (nI (bits m (mtq g s))) h) : Ev mtb shp (d + 3) m_R_matesOf [.ref 8, .int (nI s)] h (qI Kk) := by
  have hm6 := hB.2.1
  refine e_R_matesOf (d + 2) _ h _ ?_
  refine dn0 (T := fun i => PP (Ev mtb shp (d + 2)) shp cd_R_matesOf 1 (qI Kk) 4 [.ref 8, .int (nI s), .int (nI (bits i (mtq g s))), .int (nI i)] [] h) m ?_ (fun i hi ih => ?_)
  · refine p_R_matesOf_4 (d + 2) _ _ _ h _ ?_
    rw [hR.1]
    exact lpE hq
  · refine p_R_matesOf_4 (d + 2) _ _ _ h _ ?_
    rw [hR.1, nI_s]
    refine lpS hi (by omega) (pk_eq i s (fun e => ?_) (fun e => ?_))
    · rw [bits_f (p := mtq g s) (by unfold mtq; rw [decide_eq_true e]; rfl)] at ih
      exact ih
    · refine s_R_twoMatch d hR hB (by omega) (by omega) (bz_br (fun c => ?_) (fun c => ?_))
      · rw [bits_f (p := mtq g s) (by unfold mtq; rw [decide_eq_false e, c]; rfl)] at ih
        exact ih
      · rw [or_bit (bits_lt _ _) (by omega)]
        rw [bits_t (p := mtq g s) (by unfold mtq; rw [decide_eq_false e, c]; rfl)] at ih
        exact ih
def lkq (g : Gs) (i : Nat) : Bool := like g (pn i / 10) (pn i % 10)
theorem s_R_matchingTwos (d : Nat) {h : Hp} {K m : Nat} {g : Gs} (hR : RR8 h m g) (hB : GB K m g) {Kk : Int32 → Hp → Prop} (hq : Kk (nI (cnt 15 (lkq g))) h) : Ev mtb shp (d + 3) m_R_matchingTwos [.ref 8] h (qI Kk) := by
  refine e_R_matchingTwos (d + 2) h _ ?_
  refine dn0 (T := fun i => ∀ w, PP (Ev mtb shp (d + 2)) shp cd_R_matchingTwos 1 (qI Kk) 12 [.ref 8, .int (nI (cnt i (lkq g))), .ref 100, .int (nI 15), .int (nI i), w] [] h) 15 (fun w => ?_) (fun i hi ih w => ?_) unv
  · exact p_R_matchingTwos_12 (d + 2) _ _ _ _ h _ (lpE hq)
  · obtain ⟨p0, p1, p2, p3, -⟩ := pn_ok i hi
    refine p_R_matchingTwos_12 (d + 2) _ _ _ _ h _ (lpS hi (by decide) ⟨vp_in_nI hi (by decide), by decide, by decide, ?_⟩)
    rw [nI_clamp (show i < 2 ^ 31 by omega), p0, rm10 (by omega), dv10 (by omega), nI_s]
    refine s_R_twoMatch d hR hB p1 p2 (bz_br (fun c => ?_) (fun c => ?_))
    · rw [cnt_f (p := lkq g) c] at ih
      exact ih _
    · rw [nI_s]
      rw [cnt_t (p := lkq g) c] at ih
      exact ih _
