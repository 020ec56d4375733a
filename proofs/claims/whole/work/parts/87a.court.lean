/-! the class's kings and its rope: what each method answers -/
theorem lpE {m : Nat} {A B : Prop} (a : A) : (nI m ≤ nI m → A) ∧ (¬ nI m ≤ nI m → B) := ⟨fun _ => a, fun z => absurd (by rw [Int32.le_iff_toInt_le]; exact Int.le_refl _) z⟩
theorem lpS {i m : Nat} {A B : Prop} (hi : i < m) (hm : m < 2 ^ 31) (b : B) : (nI m ≤ nI i → A) ∧ (¬ nI m ≤ nI i → B) := ⟨fun z => absurd z (nI_ge hi hm), fun _ => b⟩
theorem bits_f {n : Nat} {p : Nat → Bool} (h : p n = false) : bits (n + 1) p = bits n p := by rw [bits.eq_2, h]; rfl
theorem bits_t {n : Nat} {p : Nat → Bool} (h : p n = true) : bits (n + 1) p = bits n p + 2 ^ n := by rw [bits.eq_2, h]; rfl
theorem cnt_f {n : Nat} {p : Nat → Bool} (h : p n = false) : cnt (n + 1) p = cnt n p := by rw [cnt.eq_2, h]; rfl
theorem cnt_t {n : Nat} {p : Nat → Bool} (h : p n = true) : cnt (n + 1) p = cnt n p + 1 := by rw [cnt.eq_2, h]; rfl
theorem le3 {n : Nat} (hn : n < 2 ^ 31) {A B : Prop} (f : decide (n ≤ 3) = false → A) (t : decide (n ≤ 3) = true → B) : (3 < nI n → A) ∧ (¬ 3 < nI n → B) := pk_lt 3 n (fun c => f (decide_eq_false (by omega))) (fun c => t (decide_eq_true (by omega)))
/-- by the kind's rows, where starch (se) and knitter (ke) are alike or not -/
def wnb (kd w sz hl : Nat) (se ke : Bool) : Nat := dist (if kd = 2 ∨ kd = 4 then w - 2 else w) sz + (if kd ≠ 3 ∧ se = false then 2 else 0) + (if kd ≠ 4 ∧ ke = false then 3 else 0) + (if kd = 1 then 2 - 2 * hl else hl)
theorem wn_wnb (kd w ks kk sz st kn hl : Nat) : wn kd w ks kk sz st kn hl = wnb kd w sz hl (decide (ks = st)) (decide (kk = kn)) := by
  unfold wn wnb
  by_cases h1 : ks = st <;> by_cases h2 : kk = kn <;> simp [h1, h2]
theorem wn_le {kd w ks kk sz st kn hl : Nat} (hw : w < 10) (hz : sz < 10) (hh : hl < 2) : wn kd w ks kk sz st kn hl ≤ 16 := by
  unfold wn dist
  split <;> split <;> split <;> split <;> omega
theorem wx11 : ∀ kd, kd < 5 → ∀ w, w < 10 → ∀ sz, sz < 10 → (ab ((mx (nI w - ((sta 2).getD kd 0)) 0) - nI sz)) + ((sta 5).getD kd 0) = nI (wnb kd w sz 0 true true) ∧ (ab ((mx (nI w - ((sta 2).getD kd 0)) 0) - nI sz)) + ((sta 6).getD kd 0) = nI (wnb kd w sz 1 true true) := by decide +kernel
theorem wx10 : ∀ kd, kd < 5 → ∀ w, w < 10 → ∀ sz, sz < 10 → ((ab ((mx (nI w - ((sta 2).getD kd 0)) 0) - nI sz)) + ((sta 4).getD kd 0)) + ((sta 5).getD kd 0) = nI (wnb kd w sz 0 true false) ∧ ((ab ((mx (nI w - ((sta 2).getD kd 0)) 0) - nI sz)) + ((sta 4).getD kd 0)) + ((sta 6).getD kd 0) = nI (wnb kd w sz 1 true false) := by decide +kernel
theorem wx01 : ∀ kd, kd < 5 → ∀ w, w < 10 → ∀ sz, sz < 10 → ((ab ((mx (nI w - ((sta 2).getD kd 0)) 0) - nI sz)) + ((sta 3).getD kd 0)) + ((sta 5).getD kd 0) = nI (wnb kd w sz 0 false true) ∧ ((ab ((mx (nI w - ((sta 2).getD kd 0)) 0) - nI sz)) + ((sta 3).getD kd 0)) + ((sta 6).getD kd 0) = nI (wnb kd w sz 1 false true) := by decide +kernel
theorem wx00 : ∀ kd, kd < 5 → ∀ w, w < 10 → ∀ sz, sz < 10 → (((ab ((mx (nI w - ((sta 2).getD kd 0)) 0) - nI sz)) + ((sta 3).getD kd 0)) + ((sta 4).getD kd 0)) + ((sta 5).getD kd 0) = nI (wnb kd w sz 0 false false) ∧ (((ab ((mx (nI w - ((sta 2).getD kd 0)) 0) - nI sz)) + ((sta 3).getD kd 0)) + ((sta 4).getD kd 0)) + ((sta 6).getD kd 0) = nI (wnb kd w sz 1 false false) := by decide +kernel
theorem s_C_wrongnessAt (d : Nat) {h : Hp} {K m : Nat} {g : Gs} (hC : RC h K g) (hR : RR8 h m g) (hB : GB K m g) {w k s : Nat} (hw : w < 10) (hk : k < K) (hs : s < m) {Kk : Int32 → Hp → Prop} (hq : Kk (nI (Wc g w k s)) h) : Ev mtb shp (d + 1) m_C_wrongnessAt [.ref 3, .int (nI w), .int (nI k), .ref 8, .int (nI s)] h (qI Kk) := by
  refine e_C_wrongnessAt d _ _ _ h _ ?_
  obtain ⟨c0, -, c2, c3⟩ := hC.2 k hk
  obtain ⟨r4, r5, r6, r7⟩ := hR.2.1 s hs
  obtain ⟨b0, b1, b2, b3⟩ := hB.2.2.1 k hk
  obtain ⟨b4, b5, b6, b7⟩ := hB.2.2.2.1 s hs
  have hk4 : k < 4 := by have := hB.1; omega
  have hs6 : s < 6 := by have := hB.2.1; omega
  rw [nI_clamp (show k < 2 ^ 31 by omega), nI_clamp (show s < 2 ^ 31 by omega), c0, c2, c3, r4, r5, r6, r7, nI_clamp (show g 0 k < 2 ^ 31 by omega)]
  have v4 := vp_in_nI hk4 (by decide)
  have v6 := vp_in_nI hs6 (by decide)
  have v5 := vp_in_nI b0 (by decide)
  unfold Wc at hq
  rw [wn_wnb] at hq
  have hl2 : g 7 s = 0 ∨ g 7 s = 1 := by omega
  refine ⟨v4, v5, v6, v4, v6, pk_eq (g 2 k) (g 5 s) (fun e1 => ⟨v4, v6, pk_eq (g 3 k) (g 6 s) (fun e2 => ⟨v6, pk_ne (g 7 s) 1 (fun e3 => ⟨v5, ?_⟩) (fun e3 => ⟨v5, ?_⟩)⟩) (fun e2 => ⟨v5, v6, pk_ne (g 7 s) 1 (fun e3 => ⟨v5, ?_⟩) (fun e3 => ⟨v5, ?_⟩)⟩)⟩) (fun e1 => ⟨v5, v4, v6, pk_eq (g 3 k) (g 6 s) (fun e2 => ⟨v6, pk_ne (g 7 s) 1 (fun e3 => ⟨v5, ?_⟩) (fun e3 => ⟨v5, ?_⟩)⟩) (fun e2 => ⟨v5, v6, pk_ne (g 7 s) 1 (fun e3 => ⟨v5, ?_⟩) (fun e3 => ⟨v5, ?_⟩)⟩)⟩)⟩
  · rw [decide_eq_true e1, decide_eq_true e2, show g 7 s = 0 by omega, ← (wx11 _ b0 _ hw _ b4).1] at hq; exact hq
  · rw [decide_eq_true e1, decide_eq_true e2, e3, ← (wx11 _ b0 _ hw _ b4).2] at hq; exact hq
  · rw [decide_eq_true e1, decide_eq_false e2, show g 7 s = 0 by omega, ← (wx10 _ b0 _ hw _ b4).1] at hq; exact hq
  · rw [decide_eq_true e1, decide_eq_false e2, e3, ← (wx10 _ b0 _ hw _ b4).2] at hq; exact hq
  · rw [decide_eq_false e1, decide_eq_true e2, show g 7 s = 0 by omega, ← (wx01 _ b0 _ hw _ b4).1] at hq; exact hq
  · rw [decide_eq_false e1, decide_eq_true e2, e3, ← (wx01 _ b0 _ hw _ b4).2] at hq; exact hq
  · rw [decide_eq_false e1, decide_eq_false e2, show g 7 s = 0 by omega, ← (wx00 _ b0 _ hw _ b4).1] at hq; exact hq
  · rw [decide_eq_false e1, decide_eq_false e2, e3, ← (wx00 _ b0 _ hw _ b4).2] at hq; exact hq
theorem s_C_mayBeHis (d : Nat) {h : Hp} {K m : Nat} {g : Gs} (hC : RC h K g) (hR : RR8 h m g) (hB : GB K m g) {k : Nat} (hk : k < K) {Kk : Int32 → Hp → Prop} (hq : Kk (nI (bits m (may g k))) h) : Ev mtb shp (d + 2) m_C_mayBeHis [.ref 3, .int (nI k), .ref 8] h (qI Kk) := by
  have hk4 : k < 4 := by have := hB.1; omega
  have hm6 := hB.2.1
  refine e_C_mayBeHis (d + 1) _ h _ ?_
  refine dn0 (T := fun i => PP (Ev mtb shp (d + 1)) shp cd_C_mayBeHis 1 (qI Kk) 5 [.ref 3, .int (nI k), .ref 8, .int (nI (bits i (may g k))), .int (nI i)] [] h) m ?_ (fun i hi ih => ?_)
  · refine p_C_mayBeHis_5 (d + 1) _ _ _ h _ ?_
    rw [hR.1]
    exact lpE hq
  · refine p_C_mayBeHis_5 (d + 1) _ _ _ h _ ?_
    rw [hR.1, nI_clamp (show k < 2 ^ 31 by omega), (hC.2 k hk).2.1]
    refine lpS hi (by omega) ⟨vp_in_nI hk4 (by decide), ?_⟩
    obtain ⟨b0, b1, b2, b3⟩ := hB.2.2.1 k hk
    obtain ⟨b4, b5, b6, b7⟩ := hB.2.2.2.1 i hi
    refine s_C_wrongnessAt d hC hR hB b1 hk hi ?_
    refine le3 (by have := wn_le (kd := g 0 k) (ks := g 2 k) (kk := g 3 k) (st := g 5 i) (kn := g 6 i) b1 b4 b7; unfold Wc; omega) (fun c => ?_) (fun c => ?_)
    · rw [nI_s]
      rw [bits_f (p := may g k) c] at ih
      exact ih
    · rw [nI_s, or_bit (bits_lt _ _) (by omega)]
      rw [bits_t (p := may g k) c] at ih
      exact ih
theorem s_C_wrongnessAts (d : Nat) {h : Hp} {K m : Nat} {g : Gs} (hC : RC h K g) (hR : RR20 h m g) (hB : GB K m g) {w k s : Nat} (hw : w < 10) (hk : k < K) (hs : s < m) {Kk : Int32 → Hp → Prop} (hq : Kk (nI (Wc g w k s)) h) : Ev mtb shp (d + 1) m_C_wrongnessAt [.ref 3, .int (nI w), .int (nI k), .ref 20, .int (nI s)] h (qI Kk) := by
  refine e_C_wrongnessAts d _ _ _ h _ ?_
  obtain ⟨c0, -, c2, c3⟩ := hC.2 k hk
  obtain ⟨r4, r5, r6, r7⟩ := hR.2.1 s hs
  obtain ⟨b0, b1, b2, b3⟩ := hB.2.2.1 k hk
  obtain ⟨b4, b5, b6, b7⟩ := hB.2.2.2.1 s hs
  have hk4 : k < 4 := by have := hB.1; omega
  have hs6 : s < 6 := by have := hB.2.1; omega
  rw [nI_clamp (show k < 2 ^ 31 by omega), nI_clamp (show s < 2 ^ 31 by omega), c0, c2, c3, r4, r5, r6, r7, nI_clamp (show g 0 k < 2 ^ 31 by omega)]
  have v4 := vp_in_nI hk4 (by decide)
  have v6 := vp_in_nI hs6 (by decide)
  have v5 := vp_in_nI b0 (by decide)
  unfold Wc at hq
  rw [wn_wnb] at hq
  have hl2 : g 7 s = 0 ∨ g 7 s = 1 := by omega
  refine ⟨v4, v5, v6, v4, v6, pk_eq (g 2 k) (g 5 s) (fun e1 => ⟨v4, v6, pk_eq (g 3 k) (g 6 s) (fun e2 => ⟨v6, pk_ne (g 7 s) 1 (fun e3 => ⟨v5, ?_⟩) (fun e3 => ⟨v5, ?_⟩)⟩) (fun e2 => ⟨v5, v6, pk_ne (g 7 s) 1 (fun e3 => ⟨v5, ?_⟩) (fun e3 => ⟨v5, ?_⟩)⟩)⟩) (fun e1 => ⟨v5, v4, v6, pk_eq (g 3 k) (g 6 s) (fun e2 => ⟨v6, pk_ne (g 7 s) 1 (fun e3 => ⟨v5, ?_⟩) (fun e3 => ⟨v5, ?_⟩)⟩) (fun e2 => ⟨v5, v6, pk_ne (g 7 s) 1 (fun e3 => ⟨v5, ?_⟩) (fun e3 => ⟨v5, ?_⟩)⟩)⟩)⟩
  · rw [decide_eq_true e1, decide_eq_true e2, show g 7 s = 0 by omega, ← (wx11 _ b0 _ hw _ b4).1] at hq; exact hq
  · rw [decide_eq_true e1, decide_eq_true e2, e3, ← (wx11 _ b0 _ hw _ b4).2] at hq; exact hq
  · rw [decide_eq_true e1, decide_eq_false e2, show g 7 s = 0 by omega, ← (wx10 _ b0 _ hw _ b4).1] at hq; exact hq
  · rw [decide_eq_true e1, decide_eq_false e2, e3, ← (wx10 _ b0 _ hw _ b4).2] at hq; exact hq
  · rw [decide_eq_false e1, decide_eq_true e2, show g 7 s = 0 by omega, ← (wx01 _ b0 _ hw _ b4).1] at hq; exact hq
  · rw [decide_eq_false e1, decide_eq_true e2, e3, ← (wx01 _ b0 _ hw _ b4).2] at hq; exact hq
  · rw [decide_eq_false e1, decide_eq_false e2, show g 7 s = 0 by omega, ← (wx00 _ b0 _ hw _ b4).1] at hq; exact hq
  · rw [decide_eq_false e1, decide_eq_false e2, e3, ← (wx00 _ b0 _ hw _ b4).2] at hq; exact hq
theorem s_C_mayBeHiss (d : Nat) {h : Hp} {K m : Nat} {g : Gs} (hC : RC h K g) (hR : RR20 h m g) (hB : GB K m g) {k : Nat} (hk : k < K) {Kk : Int32 → Hp → Prop} (hq : Kk (nI (bits m (may g k))) h) : Ev mtb shp (d + 2) m_C_mayBeHis [.ref 3, .int (nI k), .ref 20] h (qI Kk) := by
  have hk4 : k < 4 := by have := hB.1; omega
  have hm6 := hB.2.1
  refine e_C_mayBeHiss (d + 1) _ h _ ?_
  refine dn0 (T := fun i => PP (Ev mtb shp (d + 1)) shp cd_C_mayBeHis 1 (qI Kk) 5 [.ref 3, .int (nI k), .ref 20, .int (nI (bits i (may g k))), .int (nI i)] [] h) m ?_ (fun i hi ih => ?_)
  · refine p_C_mayBeHiss_5 (d + 1) _ _ _ h _ ?_
    rw [hR.1]
    exact lpE hq
  · refine p_C_mayBeHiss_5 (d + 1) _ _ _ h _ ?_
    rw [hR.1, nI_clamp (show k < 2 ^ 31 by omega), (hC.2 k hk).2.1]
    refine lpS hi (by omega) ⟨vp_in_nI hk4 (by decide), ?_⟩
    obtain ⟨b0, b1, b2, b3⟩ := hB.2.2.1 k hk
    obtain ⟨b4, b5, b6, b7⟩ := hB.2.2.2.1 i hi
    refine s_C_wrongnessAts d hC hR hB b1 hk hi ?_
    refine le3 (by have := wn_le (kd := g 0 k) (ks := g 2 k) (kk := g 3 k) (st := g 5 i) (kn := g 6 i) b1 b4 b7; unfold Wc; omega) (fun c => ?_) (fun c => ?_)
    · rw [nI_s]
      rw [bits_f (p := may g k) c] at ih
      exact ih
    · rw [nI_s, or_bit (bits_lt _ _) (by omega)]
      rw [bits_t (p := may g k) c] at ih
      exact ih
/-- the pairs' numbers -/
def PL : List Nat := [1, 2, 3, 4, 5, 12, 13, 14, 15, 23, 24, 25, 34, 35, 45]
def pn (i : Nat) : Nat := PL.getD i 0
theorem pn_ok : ∀ i, i < 15 → (sta 0).getD i 0 = nI (pn i) ∧ pn i / 10 < 6 ∧ pn i % 10 < 6 ∧ pn i < 50 ∧ pn i / 10 < pn i % 10 := by decide +kernel
theorem dv10 {n : Nat} (h : n < 100) : nI n / 10 = nI (n / 10) := pk_div (d := 10) (by omega) (by decide) (by decide)
theorem rm10 {n : Nat} (h : n < 100) : nI n - nI n / 10 * 10 = nI (n % 10) := pk_rem (d := 10) (by omega) (by decide) (by decide)
/-- a and b are a pair of king k -/
def pr (g : Gs) (k a b : Nat) : Bool := like g a b && (may g k a && may g k b)
def prq (g : Gs) (k i : Nat) : Bool := pr g k (pn i / 10) (pn i % 10)
theorem like_lt {K m : Nat} {g : Gs} (hB : GB K m g) {a b : Nat} (h : like g a b = true) : a < m ∧ b < m := by
  unfold like at h
  simp only [Bool.and_eq_true] at h
  exact ⟨hg_lt hB h.1, hg_lt hB h.2.1⟩
theorem pr_his {K m : Nat} {g : Gs} (hB : GB K m g) (k a b : Nat) : ((bits m (may g k)).testBit a && ((bits m (may g k)).testBit b && like g a b)) = pr g k a b := by
  rw [bits_bit, bits_bit]
  unfold pr
  cases hl : like g a b
  · simp
  · obtain ⟨h1, h2⟩ := like_lt hB hl
    simp [h1, h2]
theorem s_C_isPairWithin (d : Nat) {h : Hp} {K m : Nat} {g : Gs} (hR : RR8 h m g) (hB : GB K m g) {his p : Nat} (hh : his < 2 ^ 31) (h1 : p / 10 < 6) (h2 : p % 10 < 6) (hp : p < 50) {Kk : Int32 → Hp → Prop} (hq : Kk (bz (his.testBit (p / 10) && (his.testBit (p % 10) && like g (p / 10) (p % 10)))) h) : Ev mtb shp (d + 3) m_C_isPairWithin [.int (nI his), .ref 8, .int (nI p)] h (qI Kk) := by
  refine e_C_isPairWithin (d + 2) _ _ h _ ⟨by decide, by decide, ?_⟩
  rw [rm10 (by omega), dv10 (by omega)]
  refine s_X_has (d + 1) hh (by omega) (bz_br (fun c1 => ⟨rfl, ?_⟩) (fun c1 => ?_))
  · rw [c1] at hq; exact hq
  refine s_X_has (d + 1) hh (by omega) (bz_br (fun c2 => ⟨rfl, ?_⟩) (fun c2 => ?_))
  · rw [c1, c2] at hq; exact hq
  refine s_R_twoMatch d hR hB h1 h2 (bz_br (fun c3 => ⟨rfl, ?_⟩) (fun c3 => ⟨rfl, ?_⟩))
  · rw [c1, c2, c3] at hq; exact hq
  · rw [c1, c2, c3] at hq; exact hq
theorem s_C_isPairWithins (d : Nat) {h : Hp} {K m : Nat} {g : Gs} (hR : RR20 h m g) (hB : GB K m g) {his p : Nat} (hh : his < 2 ^ 31) (h1 : p / 10 < 6) (h2 : p % 10 < 6) (hp : p < 50) {Kk : Int32 → Hp → Prop} (hq : Kk (bz (his.testBit (p / 10) && (his.testBit (p % 10) && like g (p / 10) (p % 10)))) h) : Ev mtb shp (d + 3) m_C_isPairWithin [.int (nI his), .ref 20, .int (nI p)] h (qI Kk) := by
  refine e_C_isPairWithins (d + 2) _ _ h _ ⟨by decide, by decide, ?_⟩
  rw [rm10 (by omega), dv10 (by omega)]
  refine s_X_has (d + 1) hh (by omega) (bz_br (fun c1 => ⟨rfl, ?_⟩) (fun c1 => ?_))
  · rw [c1] at hq; exact hq
  refine s_X_has (d + 1) hh (by omega) (bz_br (fun c2 => ⟨rfl, ?_⟩) (fun c2 => ?_))
  · rw [c1, c2] at hq; exact hq
  refine s_R_twoMatchs d hR hB h1 h2 (bz_br (fun c3 => ⟨rfl, ?_⟩) (fun c3 => ⟨rfl, ?_⟩))
  · rw [c1, c2, c3] at hq; exact hq
  · rw [c1, c2, c3] at hq; exact hq
/-- king k has a pair -/
def hp (g : Gs) (k : Nat) : Bool := decide (0 < cnt 15 (prq g k))
theorem cnt_pos {p : Nat → Bool} : ∀ {n : Nat}, (∃ i, i < n ∧ p i = true) → 0 < cnt n p
  | 0, ⟨i, hi, _⟩ => absurd hi (by omega)
  | n + 1, ⟨i, hi, hp⟩ => by
    by_cases h : i = n
    · subst h
      rw [cnt_t hp]
      omega
    · have := cnt_pos (n := n) ⟨i, by omega, hp⟩
      cases hc : p n
      · rw [cnt_f hc]; exact this
      · rw [cnt_t hc]; omega
theorem cnt_zero {p : Nat → Bool} : ∀ {n : Nat}, (∀ i, i < n → p i = false) → cnt n p = 0
  | 0, _ => rfl
  | n + 1, h => by
    rw [cnt_f (h n (by omega))]
    exact cnt_zero (fun i hi => h i (by omega))
theorem cnt_ex {p : Nat → Bool} : ∀ {n : Nat}, 0 < cnt n p → ∃ i, i < n ∧ p i = true
  | 0, h => absurd h (Nat.lt_irrefl 0)
  | n + 1, h => by
    cases hc : p n
    · rw [cnt_f hc] at h
      obtain ⟨i, h1, h2⟩ := cnt_ex h
      exact ⟨i, by omega, h2⟩
    · exact ⟨n, by omega, hc⟩
theorem s_C_hasPair (d : Nat) {h : Hp} {K m : Nat} {g : Gs} (hC : RC h K g) (hR : RR8 h m g) (hB : GB K m g) {k : Nat} (hk : k < K) {Kk : Int32 → Hp → Prop} (hq : Kk (bz (hp g k)) h) : Ev mtb shp (d + 4) m_C_hasPair [.ref 3, .int (nI k), .ref 8] h (qI Kk) := by
  have hb6 : bits m (may g k) < 2 ^ 6 := Nat.lt_of_lt_of_le (bits_lt _ _) (Nat.pow_le_pow_right (by decide) hB.2.1)
  refine e_C_hasPair (d + 3) _ h _ ?_
  refine s_C_mayBeHis (d + 1) hC hR hB hk ?_
  have key : ∀ i, i ≤ 15 → (∀ j, j < i → prq g k j = false) → ∀ w, PP (Ev mtb shp (d + 3)) shp cd_C_hasPair 2 (qI Kk) 20 [.ref 3, .int (nI k), .ref 8, .int (nI (bits m (may g k))), .ref 100, .int (nI 15), .int (nI i), w] [] h := by
    intro i hi
    refine dn (T := fun i => (∀ j, j < i → prq g k j = false) → ∀ w, PP (Ev mtb shp (d + 3)) shp cd_C_hasPair 2 (qI Kk) 20 [.ref 3, .int (nI k), .ref 8, .int (nI (bits m (may g k))), .ref 100, .int (nI 15), .int (nI i), w] [] h) (m := 15) (fun hn w => ?_) (fun i hi ih hn w => ?_) i hi
    · refine p_C_hasPair_20 (d + 3) _ _ _ _ _ h _ (lpE ⟨rfl, ?_⟩)
      rw [show hp g k = false from decide_eq_false (by rw [cnt_zero hn]; decide)] at hq
      exact hq
    · obtain ⟨p0, p1, p2, p3, -⟩ := pn_ok i hi
      refine p_C_hasPair_20 (d + 3) _ _ _ _ _ h _ (lpS hi (by decide) ⟨vp_in_nI hi (by decide), ?_⟩)
      rw [nI_clamp (show i < 2 ^ 31 by omega), p0]
      refine s_C_isPairWithin d hR hB (by omega) p1 p2 p3 ?_
      rw [pr_his hB]
      refine bz_br (fun c => ?_) (fun c => ⟨rfl, ?_⟩)
      · rw [nI_s]
        refine ih (fun j hj => ?_) _
        by_cases hji : j = i
        · subst hji; exact c
        · exact hn j (by omega)
      · rw [show hp g k = true from decide_eq_true (cnt_pos ⟨i, hi, c⟩)] at hq
        exact hq
  exact key 0 (by decide) (fun j hj => absurd hj (by omega)) _
theorem s_C_heirs (d : Nat) {h : Hp} {K m : Nat} {g : Gs} (hC : RC h K g) (hR : RR8 h m g) (hB : GB K m g) {Kk : Int32 → Hp → Prop} (hq : Kk (nI (bits K (hp g))) h) : Ev mtb shp (d + 5) m_C_heirs [.ref 3, .ref 8] h (qI Kk) := by
  have hK4 := hB.1
  refine e_C_heirs (d + 4) h _ ?_
  refine dn0 (T := fun i => PP (Ev mtb shp (d + 4)) shp cd_C_heirs 1 (qI Kk) 4 [.ref 3, .ref 8, .int (nI (bits i (hp g))), .int (nI i)] [] h) K ?_ (fun i hi ih => ?_)
  · refine p_C_heirs_4 (d + 4) _ _ h _ ?_
    rw [hC.1]
    exact lpE hq
  · refine p_C_heirs_4 (d + 4) _ _ h _ ?_
    rw [hC.1]
    refine lpS hi (by omega) (s_C_hasPair d hC hR hB hi (bz_br (fun c => ?_) (fun c => ?_)))
    · rw [nI_s]
      rw [bits_f c] at ih
      exact ih
    · rw [nI_s, or_bit (bits_lt _ _) (by omega)]
      rw [bits_t c] at ih
      exact ih
/-- king k alone has a pair -/
theorem s_C_isHeirAlone (d : Nat) {h : Hp} {K m : Nat} {g : Gs} (hC : RC h K g) (hR : RR8 h m g) (hB : GB K m g) {k : Nat} (hk : k < K) {Kk : Int32 → Hp → Prop} (b : Bool) (hb : b = true ↔ (hp g k = true ∧ ∀ j, j < K → j ≠ k → hp g j = false)) (hq : Kk (bz b) h) : Ev mtb shp (d + 5) m_C_isHeirAlone [.ref 3, .int (nI k), .ref 8] h (qI Kk) := by
  have hK4 := hB.1
  refine e_C_isHeirAlone (d + 4) _ h _ ?_
  refine s_C_hasPair d hC hR hB hk (bz_bn (fun c1 => ?_) (fun c1 => ⟨rfl, ?_⟩))
  · have key : ∀ i, i ≤ K → (∀ j, j < i → j ≠ k → hp g j = false) → PP (Ev mtb shp (d + 4)) shp cd_C_isHeirAlone 2 (qI Kk) 13 [.ref 3, .int (nI k), .ref 8, .int (nI i)] [] h := by
      intro i hi
      refine dn (T := fun i => (∀ j, j < i → j ≠ k → hp g j = false) → PP (Ev mtb shp (d + 4)) shp cd_C_isHeirAlone 2 (qI Kk) 13 [.ref 3, .int (nI k), .ref 8, .int (nI i)] [] h) (m := K) (fun hn => ?_) (fun i hi ih hn => ?_) i hi
      · refine p_C_isHeirAlone_13 (d + 4) _ _ h _ ?_
        rw [hC.1]
        rw [hb.mpr ⟨c1, hn⟩] at hq
        exact lpE ⟨rfl, hq⟩
      · refine p_C_isHeirAlone_13 (d + 4) _ _ h _ ?_
        rw [hC.1]
        refine lpS hi (by omega) (pk_eq i k (fun e => ?_) (fun e => ?_))
        · rw [nI_s]
          exact ih (fun j hj hjk => hn j (by omega) hjk)
        · refine s_C_hasPair d hC hR hB hi (bz_br (fun c => ?_) (fun c => ⟨rfl, ?_⟩))
          · rw [nI_s]
            refine ih (fun j hj hjk => ?_)
            by_cases hji : j = i
            · subst hji; exact c
            · exact hn j (by omega) hjk
          · have hbf : b = false := by
              cases hbb : b
              · rfl
              · have := (hb.mp hbb).2 i hi e
                rw [c] at this
                cases this
            rw [hbf] at hq
            exact hq
    exact key 0 (Nat.zero_le _) (fun j hj => absurd hj (by omega))
  · have hbf : b = false := by
      cases hbb : b
      · rfl
      · have := (hb.mp hbb).1
        rw [c1] at this
        cases this
    rw [hbf] at hq
    exact hq
theorem s_R_hanging (d : Nat) {h : Hp} {K m : Nat} {g : Gs} (hR : RR8 h m g) (hB : GB K m g) {Kk : Int32 → Hp → Prop} (hq : Kk (nI (bits m (hg g))) h) : Ev mtb shp (d + 2) m_R_hanging [.ref 8] h (qI Kk) := by
  have hm6 := hB.2.1
  refine e_R_hanging (d + 1) h _ ?_
  refine dn0 (T := fun i => PP (Ev mtb shp (d + 1)) shp cd_R_hanging 1 (qI Kk) 4 [.ref 8, .int (nI (bits i (hg g))), .int (nI i)] [] h) m ?_ (fun i hi ih => ?_)
  · refine p_R_hanging_4 (d + 1) _ _ h _ ?_
    rw [hR.1]
    exact lpE hq
  · refine p_R_hanging_4 (d + 1) _ _ h _ ?_
    rw [hR.1]
    refine lpS hi (by omega) (s_R_hangs d hR hB (by omega) (bz_br (fun c => ?_) (fun c => ?_)))
    · rw [nI_s]
      rw [bits_f c] at ih
      exact ih
    · rw [nI_s, or_bit (bits_lt _ _) (by omega)]
      rw [bits_t c] at ih
      exact ih
theorem s_C_hasPairs (d : Nat) {h : Hp} {K m : Nat} {g : Gs} (hC : RC h K g) (hR : RR20 h m g) (hB : GB K m g) {k : Nat} (hk : k < K) {Kk : Int32 → Hp → Prop} (hq : Kk (bz (hp g k)) h) : Ev mtb shp (d + 4) m_C_hasPair [.ref 3, .int (nI k), .ref 20] h (qI Kk) := by
  have hb6 : bits m (may g k) < 2 ^ 6 := Nat.lt_of_lt_of_le (bits_lt _ _) (Nat.pow_le_pow_right (by decide) hB.2.1)
  refine e_C_hasPairs (d + 3) _ h _ ?_
  refine s_C_mayBeHiss (d + 1) hC hR hB hk ?_
  have key : ∀ i, i ≤ 15 → (∀ j, j < i → prq g k j = false) → ∀ w, PP (Ev mtb shp (d + 3)) shp cd_C_hasPair 2 (qI Kk) 20 [.ref 3, .int (nI k), .ref 20, .int (nI (bits m (may g k))), .ref 100, .int (nI 15), .int (nI i), w] [] h := by
    intro i hi
    refine dn (T := fun i => (∀ j, j < i → prq g k j = false) → ∀ w, PP (Ev mtb shp (d + 3)) shp cd_C_hasPair 2 (qI Kk) 20 [.ref 3, .int (nI k), .ref 20, .int (nI (bits m (may g k))), .ref 100, .int (nI 15), .int (nI i), w] [] h) (m := 15) (fun hn w => ?_) (fun i hi ih hn w => ?_) i hi
    · refine p_C_hasPairs_20 (d + 3) _ _ _ _ _ h _ (lpE ⟨rfl, ?_⟩)
      rw [show hp g k = false from decide_eq_false (by rw [cnt_zero hn]; decide)] at hq
      exact hq
    · obtain ⟨p0, p1, p2, p3, -⟩ := pn_ok i hi
      refine p_C_hasPairs_20 (d + 3) _ _ _ _ _ h _ (lpS hi (by decide) ⟨vp_in_nI hi (by decide), ?_⟩)
      rw [nI_clamp (show i < 2 ^ 31 by omega), p0]
      refine s_C_isPairWithins d hR hB (by omega) p1 p2 p3 ?_
      rw [pr_his hB]
      refine bz_br (fun c => ?_) (fun c => ⟨rfl, ?_⟩)
      · rw [nI_s]
        refine ih (fun j hj => ?_) _
        by_cases hji : j = i
        · subst hji; exact c
        · exact hn j (by omega)
      · rw [show hp g k = true from decide_eq_true (cnt_pos ⟨i, hi, c⟩)] at hq
        exact hq
  exact key 0 (by decide) (fun j hj => absurd hj (by omega)) _
theorem s_C_heirss (d : Nat) {h : Hp} {K m : Nat} {g : Gs} (hC : RC h K g) (hR : RR20 h m g) (hB : GB K m g) {Kk : Int32 → Hp → Prop} (hq : Kk (nI (bits K (hp g))) h) : Ev mtb shp (d + 5) m_C_heirs [.ref 3, .ref 20] h (qI Kk) := by
  have hK4 := hB.1
  refine e_C_heirss (d + 4) h _ ?_
  refine dn0 (T := fun i => PP (Ev mtb shp (d + 4)) shp cd_C_heirs 1 (qI Kk) 4 [.ref 3, .ref 20, .int (nI (bits i (hp g))), .int (nI i)] [] h) K ?_ (fun i hi ih => ?_)
  · refine p_C_heirss_4 (d + 4) _ _ h _ ?_
    rw [hC.1]
    exact lpE hq
  · refine p_C_heirss_4 (d + 4) _ _ h _ ?_
    rw [hC.1]
    refine lpS hi (by omega) (s_C_hasPairs d hC hR hB hi (bz_br (fun c => ?_) (fun c => ?_)))
    · rw [nI_s]
      rw [bits_f c] at ih
      exact ih
    · rw [nI_s, or_bit (bits_lt _ _) (by omega)]
      rw [bits_t c] at ih
      exact ih
/-- king k alone has a pair -/
theorem s_C_isHeirAlones (d : Nat) {h : Hp} {K m : Nat} {g : Gs} (hC : RC h K g) (hR : RR20 h m g) (hB : GB K m g) {k : Nat} (hk : k < K) {Kk : Int32 → Hp → Prop} (b : Bool) (hb : b = true ↔ (hp g k = true ∧ ∀ j, j < K → j ≠ k → hp g j = false)) (hq : Kk (bz b) h) : Ev mtb shp (d + 5) m_C_isHeirAlone [.ref 3, .int (nI k), .ref 20] h (qI Kk) := by
  have hK4 := hB.1
  refine e_C_isHeirAlones (d + 4) _ h _ ?_
  refine s_C_hasPairs d hC hR hB hk (bz_bn (fun c1 => ?_) (fun c1 => ⟨rfl, ?_⟩))
  · have key : ∀ i, i ≤ K → (∀ j, j < i → j ≠ k → hp g j = false) → PP (Ev mtb shp (d + 4)) shp cd_C_isHeirAlone 2 (qI Kk) 13 [.ref 3, .int (nI k), .ref 20, .int (nI i)] [] h := by
      intro i hi
      refine dn (T := fun i => (∀ j, j < i → j ≠ k → hp g j = false) → PP (Ev mtb shp (d + 4)) shp cd_C_isHeirAlone 2 (qI Kk) 13 [.ref 3, .int (nI k), .ref 20, .int (nI i)] [] h) (m := K) (fun hn => ?_) (fun i hi ih hn => ?_) i hi
      · refine p_C_isHeirAlones_13 (d + 4) _ _ h _ ?_
        rw [hC.1]
        rw [hb.mpr ⟨c1, hn⟩] at hq
        exact lpE ⟨rfl, hq⟩
      · refine p_C_isHeirAlones_13 (d + 4) _ _ h _ ?_
        rw [hC.1]
        refine lpS hi (by omega) (pk_eq i k (fun e => ?_) (fun e => ?_))
        · rw [nI_s]
          exact ih (fun j hj hjk => hn j (by omega) hjk)
        · refine s_C_hasPairs d hC hR hB hi (bz_br (fun c => ?_) (fun c => ⟨rfl, ?_⟩))
          · rw [nI_s]
            refine ih (fun j hj hjk => ?_)
            by_cases hji : j = i
            · subst hji; exact c
            · exact hn j (by omega) hjk
          · have hbf : b = false := by
              cases hbb : b
              · rfl
              · have := (hb.mp hbb).2 i hi e
                rw [c] at this
                cases this
            rw [hbf] at hq
            exact hq
    exact key 0 (Nat.zero_le _) (fun j hj => absurd hj (by omega))
  · have hbf : b = false := by
      cases hbb : b
      · rfl
      · have := (hb.mp hbb).1
        rw [c1] at this
        cases this
    rw [hbf] at hq
    exact hq
theorem s_R_hangings (d : Nat) {h : Hp} {K m : Nat} {g : Gs} (hR : RR20 h m g) (hB : GB K m g) {Kk : Int32 → Hp → Prop} (hq : Kk (nI (bits m (hg g))) h) : Ev mtb shp (d + 2) m_R_hanging [.ref 20] h (qI Kk) := by
  have hm6 := hB.2.1
  refine e_R_hangings (d + 1) h _ ?_
  refine dn0 (T := fun i => PP (Ev mtb shp (d + 1)) shp cd_R_hanging 1 (qI Kk) 4 [.ref 20, .int (nI (bits i (hg g))), .int (nI i)] [] h) m ?_ (fun i hi ih => ?_)
  · refine p_R_hangings_4 (d + 1) _ _ h _ ?_
    rw [hR.1]
    exact lpE hq
  · refine p_R_hangings_4 (d + 1) _ _ h _ ?_
    rw [hR.1]
    refine lpS hi (by omega) (s_R_hangss d hR hB (by omega) (bz_br (fun c => ?_) (fun c => ?_)))
    · rw [nI_s]
      rw [bits_f c] at ih
      exact ih
    · rw [nI_s, or_bit (bits_lt _ _) (by omega)]
      rw [bits_t c] at ih
      exact ih
