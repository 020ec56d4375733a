/-! the state in numbers, and the methods that ask nobody else -/
abbrev Gs : Type := Nat → Nat → Nat
def dist (a b : Nat) : Nat := (a - b) + (b - a)
/-- by how much it is wrong: kind, calf, the king's starch and knitter; size, starch, knitter, heel -/
def wn (kd w ks kk sz st kn hl : Nat) : Nat := dist (if kd = 2 ∨ kd = 4 then w - 2 else w) sz + (if kd ≠ 3 ∧ ks ≠ st then 2 else 0) + (if kd ≠ 4 ∧ kk ≠ kn then 3 else 0) + (if kd = 1 then 2 - 2 * hl else hl)
/-- rows: 0 kind, 1 calf, 2 starch, 3 knitter of kings; 4 size, 5 starch, 6 knitter, 7 heel, 8 peg and one (0: off) of stockings -/
def Wc (g : Gs) (w k s : Nat) : Nat := wn (g 0 k) w (g 2 k) (g 3 k) (g 4 s) (g 5 s) (g 6 s) (g 7 s)
def Wg (g : Gs) (k s : Nat) : Nat := Wc g (g 1 k) k s
def may (g : Gs) (k s : Nat) : Bool := decide (Wg g k s ≤ 3)
def hg (g : Gs) (s : Nat) : Bool := decide (g 8 s ≠ 0)
def like (g : Gs) (a b : Nat) : Bool := hg g a && (hg g b && (decide (g 5 a = g 5 b) && (decide (g 6 a = g 6 b) && decide (dist (g 4 a) (g 4 b) ≤ 1))))
def pI (n : Nat) : Int32 := nI n - 1
def byI (j : Nat) : Int32 := nI j - 9
def blw (n j : Nat) : Nat := if n = 0 then 0 else if 10 ≤ n + j ∧ n + j ≤ 19 then n + j - 9 else 0
def inR (a : Int32) (n : Nat) : Bool := decide (0 ≤ a.toInt ∧ a.toInt < n)
def RC (h : Hp) (K : Nat) (g : Gs) : Prop := h.1 3 4 = nI K ∧ ∀ k, k < K → h.1 4 k = nI (g 0 k) ∧ h.1 5 k = nI (g 1 k) ∧ h.1 6 k = nI (g 2 k) ∧ h.1 7 k = nI (g 3 k)
def RR8 (h : Hp) (m : Nat) (g : Gs) : Prop := h.1 8 5 = nI m ∧ (∀ s, s < m → h.1 9 s = nI (g 4 s) ∧ h.1 10 s = nI (g 5 s) ∧ h.1 11 s = nI (g 6 s) ∧ h.1 12 s = nI (g 7 s)) ∧ ∀ s, s < 6 → h.1 13 s = pI (g 8 s)
def RR20 (h : Hp) (m : Nat) (g : Gs) : Prop := h.1 20 5 = nI m ∧ (∀ s, s < m → h.1 21 s = nI (g 4 s) ∧ h.1 22 s = nI (g 5 s) ∧ h.1 23 s = nI (g 6 s) ∧ h.1 24 s = nI (g 7 s)) ∧ ∀ s, s < 6 → h.1 25 s = pI (g 8 s)
def RM (h : Hp) (K m : Nat) (g : Gs) : Prop := h.1 46 1 = nI K ∧ h.1 46 2 = nI m ∧ (∀ k, k < K → h.1 47 k = nI (g 0 k) ∧ h.1 48 k = nI (g 1 k) ∧ h.1 49 k = nI (g 2 k) ∧ h.1 50 k = nI (g 3 k)) ∧ ∀ s, s < m → h.1 51 s = nI (g 4 s) ∧ h.1 52 s = nI (g 5 s) ∧ h.1 53 s = nI (g 6 s) ∧ h.1 54 s = nI (g 7 s) ∧ h.1 55 s = pI (g 8 s)
def GB (K m : Nat) (g : Gs) : Prop := K ≤ 4 ∧ m ≤ 6 ∧ (∀ k, k < K → g 0 k < 5 ∧ g 1 k < 10 ∧ g 2 k < 5 ∧ g 3 k < 4) ∧ (∀ s, s < m → g 4 s < 10 ∧ g 5 s < 5 ∧ g 6 s < 4 ∧ g 7 s < 2) ∧ (∀ s, g 8 s ≤ 10) ∧ ∀ s, m ≤ s → g 8 s = 0
theorem hg_lt {K m : Nat} {g : Gs} (hB : GB K m g) {s : Nat} (h : hg g s = true) : s < m := by
  by_cases hs : s < m
  · exact hs
  · have := hB.2.2.2.2.2 s (by omega)
    simp [hg, this] at h
theorem pI_0 : ∀ n, n < 11 → (pI n = -1 ↔ n = 0) := by decide +kernel
theorem inR_nI {j n : Nat} (hj : j < 2 ^ 31) : inR (nI j) n = decide (j < n) := by
  unfold inR
  rw [nI_toInt hj]
  exact decide_eq_decide.mpr (by omega)
theorem inR_of {a : Int32} {n : Nat} (h : inR a n = true) : ∃ j, j < n ∧ a = nI j := by
  have h := of_decide_eq_true h
  have h31 : a.toInt < 2 ^ 31 := Int32.toInt_lt a
  refine ⟨a.toInt.toNat, by omega, Int32.toInt_inj.mp ?_⟩
  rw [nI_toInt (by omega)]
  omega
theorem lt0 {a : Int32} : a < 0 ↔ a.toInt < 0 := by rw [Int32.lt_iff_toInt_lt]; rfl
theorem inR_no {a : Int32} {n : Nat} (hn : n < 2 ^ 31) {A B : Prop} (f : inR a n = false → A) (t : inR a n = true → B) : (a < 0 → A) ∧ (¬ a < 0 → (a < nI n → B) ∧ (¬ a < nI n → A)) := by
  rw [lt0, Int32.lt_iff_toInt_lt, nI_toInt hn]
  refine ⟨fun z => f (decide_eq_false (by omega)), fun z => ⟨fun z2 => t (decide_eq_true (by omega)), fun z2 => f (decide_eq_false (by omega))⟩⟩
theorem s_X_noLine (d : Nat) {h : Hp} {m : Nat} {g : Gs} (hR : RR8 h m g) (hm : m < 2 ^ 31) {K : Int32 → Hp → Prop} (hq : K (bz (decide (m = 0))) h) : Ev mtb shp (d + 1) m_X_noLine [.ref 0] h (qI K) := by
  refine e_X_noLine d h _ ?_
  rw [hR.1]
  refine pk_ne m 0 (fun c => ⟨rfl, ?_⟩) (fun c => ⟨rfl, ?_⟩)
  · rw [decide_eq_false c] at hq; exact hq
  · rw [decide_eq_true c] at hq; exact hq
theorem s_X_noKing (d : Nat) {h : Hp} {n : Nat} {g : Gs} (hC : RC h n g) (hn : n < 2 ^ 31) (a : Int32) {K : Int32 → Hp → Prop} (hq : K (bz (!inR a n)) h) : Ev mtb shp (d + 1) m_X_noKing [.ref 0, .int a] h (qI K) := by
  refine e_X_noKing d a h _ ?_
  rw [hC.1]
  refine inR_no hn (fun c => ⟨rfl, ?_⟩) (fun c => ⟨rfl, ?_⟩) <;> (rw [c] at hq; exact hq)
theorem s_X_noStocking (d : Nat) {h : Hp} {n : Nat} {g : Gs} (hR : RR8 h n g) (hn : n < 2 ^ 31) (a : Int32) {K : Int32 → Hp → Prop} (hq : K (bz (!inR a n)) h) : Ev mtb shp (d + 1) m_X_noStocking [.ref 0, .int a] h (qI K) := by
  refine e_X_noStocking d a h _ ?_
  rw [hR.1]
  refine inR_no hn (fun c => ⟨rfl, ?_⟩) (fun c => ⟨rfl, ?_⟩) <;> (rw [c] at hq; exact hq)
theorem s_X_noPeg (d : Nat) {h : Hp} (a : Int32) {K : Int32 → Hp → Prop} (hq : K (bz (!inR a 10)) h) : Ev mtb shp (d + 1) m_X_noPeg [.int a] h (qI K) := by
  refine e_X_noPeg d a h _ ?_
  refine inR_no (n := 10) (by decide) (fun c => ⟨rfl, ?_⟩) (fun c => ⟨rfl, ?_⟩) <;> (rw [c] at hq; exact hq)
theorem s_X_has (d : Nat) {h : Hp} {b k : Nat} (hb : b < 2 ^ 31) (hk : k < 31) {K : Int32 → Hp → Prop} (hq : K (bz (b.testBit k)) h) : Ev mtb shp (d + 1) m_X_has [.int (nI b), .int (nI k)] h (qI K) := by
  refine e_X_has d _ _ h _ ?_
  rw [has_bz hb hk, bz_1]
  cases hc : b.testBit k
  · rw [hc] at hq; exact ⟨fun _ => ⟨rfl, hq⟩, fun z => absurd z (by decide)⟩
  · rw [hc] at hq; exact ⟨fun z => absurd rfl z, fun _ => ⟨rfl, hq⟩⟩
def bcf (a0 : Int32) : Int32 := ((((((((a0 - (((a0.toUInt32 >>> ((1 : Int32).toUInt32 &&& Int32.toUInt32 31)).toInt32) &&& 1431655765)) &&& 858993459) + ((((a0 - (((a0.toUInt32 >>> ((1 : Int32).toUInt32 &&& Int32.toUInt32 31)).toInt32) &&& 1431655765)).toUInt32 >>> ((2 : Int32).toUInt32 &&& Int32.toUInt32 31)).toInt32) &&& 858993459)) + (((((a0 - (((a0.toUInt32 >>> ((1 : Int32).toUInt32 &&& Int32.toUInt32 31)).toInt32) &&& 1431655765)) &&& 858993459) + ((((a0 - (((a0.toUInt32 >>> ((1 : Int32).toUInt32 &&& Int32.toUInt32 31)).toInt32) &&& 1431655765)).toUInt32 >>> ((2 : Int32).toUInt32 &&& Int32.toUInt32 31)).toInt32) &&& 858993459)).toUInt32 >>> ((4 : Int32).toUInt32 &&& Int32.toUInt32 31)).toInt32)) &&& 252645135) + (((((((a0 - (((a0.toUInt32 >>> ((1 : Int32).toUInt32 &&& Int32.toUInt32 31)).toInt32) &&& 1431655765)) &&& 858993459) + ((((a0 - (((a0.toUInt32 >>> ((1 : Int32).toUInt32 &&& Int32.toUInt32 31)).toInt32) &&& 1431655765)).toUInt32 >>> ((2 : Int32).toUInt32 &&& Int32.toUInt32 31)).toInt32) &&& 858993459)) + (((((a0 - (((a0.toUInt32 >>> ((1 : Int32).toUInt32 &&& Int32.toUInt32 31)).toInt32) &&& 1431655765)) &&& 858993459) + ((((a0 - (((a0.toUInt32 >>> ((1 : Int32).toUInt32 &&& Int32.toUInt32 31)).toInt32) &&& 1431655765)).toUInt32 >>> ((2 : Int32).toUInt32 &&& Int32.toUInt32 31)).toInt32) &&& 858993459)).toUInt32 >>> ((4 : Int32).toUInt32 &&& Int32.toUInt32 31)).toInt32)) &&& 252645135).toUInt32 >>> ((8 : Int32).toUInt32 &&& Int32.toUInt32 31)).toInt32)) + ((((((((a0 - (((a0.toUInt32 >>> ((1 : Int32).toUInt32 &&& Int32.toUInt32 31)).toInt32) &&& 1431655765)) &&& 858993459) + ((((a0 - (((a0.toUInt32 >>> ((1 : Int32).toUInt32 &&& Int32.toUInt32 31)).toInt32) &&& 1431655765)).toUInt32 >>> ((2 : Int32).toUInt32 &&& Int32.toUInt32 31)).toInt32) &&& 858993459)) + (((((a0 - (((a0.toUInt32 >>> ((1 : Int32).toUInt32 &&& Int32.toUInt32 31)).toInt32) &&& 1431655765)) &&& 858993459) + ((((a0 - (((a0.toUInt32 >>> ((1 : Int32).toUInt32 &&& Int32.toUInt32 31)).toInt32) &&& 1431655765)).toUInt32 >>> ((2 : Int32).toUInt32 &&& Int32.toUInt32 31)).toInt32) &&& 858993459)).toUInt32 >>> ((4 : Int32).toUInt32 &&& Int32.toUInt32 31)).toInt32)) &&& 252645135) + (((((((a0 - (((a0.toUInt32 >>> ((1 : Int32).toUInt32 &&& Int32.toUInt32 31)).toInt32) &&& 1431655765)) &&& 858993459) + ((((a0 - (((a0.toUInt32 >>> ((1 : Int32).toUInt32 &&& Int32.toUInt32 31)).toInt32) &&& 1431655765)).toUInt32 >>> ((2 : Int32).toUInt32 &&& Int32.toUInt32 31)).toInt32) &&& 858993459)) + (((((a0 - (((a0.toUInt32 >>> ((1 : Int32).toUInt32 &&& Int32.toUInt32 31)).toInt32) &&& 1431655765)) &&& 858993459) + ((((a0 - (((a0.toUInt32 >>> ((1 : Int32).toUInt32 &&& Int32.toUInt32 31)).toInt32) &&& 1431655765)).toUInt32 >>> ((2 : Int32).toUInt32 &&& Int32.toUInt32 31)).toInt32) &&& 858993459)).toUInt32 >>> ((4 : Int32).toUInt32 &&& Int32.toUInt32 31)).toInt32)) &&& 252645135).toUInt32 >>> ((8 : Int32).toUInt32 &&& Int32.toUInt32 31)).toInt32)).toUInt32 >>> ((16 : Int32).toUInt32 &&& Int32.toUInt32 31)).toInt32)) &&& 63)
theorem bcf_eq : ∀ n, n < 1024 → bcf (nI n) = nI (popc n) := by decide +kernel
theorem s_bitCount (d : Nat) {h : Hp} {n : Nat} (hn : n < 1024) {K : Int32 → Hp → Prop} (hq : K (nI (popc n)) h) : Ev mtb shp (d + 1) m_J_bitCount [.int (nI n)] h (qI K) := by
  refine e_J_bitCount d _ h _ ?_
  rw [← bcf_eq n hn] at hq
  exact hq
theorem s_R_hangs (d : Nat) {h : Hp} {K m : Nat} {g : Gs} (hR : RR8 h m g) (hB : GB K m g) {s : Nat} (hs : s < 6) {Kk : Int32 → Hp → Prop} (hq : Kk (bz (hg g s)) h) : Ev mtb shp (d + 1) m_R_hangs [.ref 8, .int (nI s)] h (qI Kk) := by
  refine e_R_hangs d _ h _ ⟨vp_in_nI hs (by decide), ?_⟩
  rw [nI_clamp (by omega), hR.2.2 s hs, pI_0 _ (Nat.lt_succ_of_le (hB.2.2.2.2.1 s))]
  by_cases hz : g 8 s = 0
  · rw [show hg g s = false by simp [hg, hz]] at hq
    exact ⟨fun _ => ⟨rfl, hq⟩, fun z => absurd hz z⟩
  · rw [show hg g s = true by simp [hg, hz]] at hq
    exact ⟨fun z => absurd z hz, fun _ => ⟨rfl, hq⟩⟩
theorem s_R_hangss (d : Nat) {h : Hp} {K m : Nat} {g : Gs} (hR : RR20 h m g) (hB : GB K m g) {s : Nat} (hs : s < 6) {Kk : Int32 → Hp → Prop} (hq : Kk (bz (hg g s)) h) : Ev mtb shp (d + 1) m_R_hangs [.ref 20, .int (nI s)] h (qI Kk) := by
  refine e_R_hangss d _ h _ ⟨vp_in_nI hs (by decide), ?_⟩
  rw [nI_clamp (by omega), hR.2.2 s hs, pI_0 _ (Nat.lt_succ_of_le (hB.2.2.2.2.1 s))]
  by_cases hz : g 8 s = 0
  · rw [show hg g s = false by simp [hg, hz]] at hq
    exact ⟨fun _ => ⟨rfl, hq⟩, fun z => absurd hz z⟩
  · rw [show hg g s = true by simp [hg, hz]] at hq
    exact ⟨fun z => absurd z hz, fun _ => ⟨rfl, hq⟩⟩
theorem blw_in : ∀ n, n < 11 → ∀ j, j < 19 → inR (pI n + byI j) 10 = decide (10 ≤ n + j ∧ n + j ≤ 19) := by decide +kernel
theorem blw_eq : ∀ n, n < 11 → ∀ j, j < 19 → (10 ≤ n + j ∧ n + j ≤ 19) → pI n + byI j = pI (n + j - 9) := by decide +kernel
theorem s_R_pegBehind (d : Nat) {h : Hp} {K m : Nat} {g : Gs} (hR : RR8 h m g) (hB : GB K m g) {s j : Nat} (hs : s < 6) (hj : j < 19) {Kk : Int32 → Hp → Prop} (hq : Kk (pI (blw (g 8 s) j)) h) : Ev mtb shp (d + 2) m_R_pegBehind [.ref 8, .int (nI s), .int (byI j)] h (qI Kk) := by
  refine e_R_pegBehind (d + 1) _ _ h _ ⟨vp_in_nI hs (by decide), ?_⟩
  have h8 := Nat.lt_succ_of_le (hB.2.2.2.2.1 s)
  refine s_R_hangs d hR hB hs ?_
  refine bz_br (fun c => ?_) (fun c => ?_)
  · have c : g 8 s = 0 := by simpa [hg] using c
    rw [c] at hq
    exact hq
  · have c : g 8 s ≠ 0 := by simpa [hg] using c
    rw [nI_clamp (by omega), hR.2.2 s hs]
    refine s_X_noPeg d _ ?_
    rw [blw_in _ h8 j hj]
    by_cases hc : 10 ≤ g 8 s + j ∧ g 8 s + j ≤ 19
    · rw [decide_eq_true hc]
      unfold blw at hq
      rw [if_neg c, if_pos hc] at hq
      refine ⟨fun _ => ?_, fun z => absurd rfl z⟩
      rw [blw_eq _ h8 j hj hc]
      exact hq
    · rw [decide_eq_false hc]
      unfold blw at hq
      rw [if_neg c, if_neg hc] at hq
      exact ⟨fun z => absurd z (by decide), fun _ => hq⟩
theorem s_R_pegBehinds (d : Nat) {h : Hp} {K m : Nat} {g : Gs} (hR : RR20 h m g) (hB : GB K m g) {s j : Nat} (hs : s < 6) (hj : j < 19) {Kk : Int32 → Hp → Prop} (hq : Kk (pI (blw (g 8 s) j)) h) : Ev mtb shp (d + 2) m_R_pegBehind [.ref 20, .int (nI s), .int (byI j)] h (qI Kk) := by
  refine e_R_pegBehinds (d + 1) _ _ h _ ⟨vp_in_nI hs (by decide), ?_⟩
  have h8 := Nat.lt_succ_of_le (hB.2.2.2.2.1 s)
  refine s_R_hangss d hR hB hs ?_
  refine bz_br (fun c => ?_) (fun c => ?_)
  · have c : g 8 s = 0 := by simpa [hg] using c
    rw [c] at hq
    exact hq
  · have c : g 8 s ≠ 0 := by simpa [hg] using c
    rw [nI_clamp (by omega), hR.2.2 s hs]
    refine s_X_noPeg d _ ?_
    rw [blw_in _ h8 j hj]
    by_cases hc : 10 ≤ g 8 s + j ∧ g 8 s + j ≤ 19
    · rw [decide_eq_true hc]
      unfold blw at hq
      rw [if_neg c, if_pos hc] at hq
      refine ⟨fun _ => ?_, fun z => absurd rfl z⟩
      rw [blw_eq _ h8 j hj hc]
      exact hq
    · rw [decide_eq_false hc]
      unfold blw at hq
      rw [if_neg c, if_neg hc] at hq
      exact ⟨fun z => absurd z (by decide), fun _ => hq⟩
theorem dist1 : ∀ a, a < 10 → ∀ b, b < 10 → (nI a - nI b < -1 → ¬ dist a b ≤ 1) ∧ (1 < nI a - nI b → ¬ dist a b ≤ 1) ∧ (¬ nI a - nI b < -1 → ¬ 1 < nI a - nI b → dist a b ≤ 1) := by decide +kernel
theorem s_R_twoMatch (d : Nat) {h : Hp} {K m : Nat} {g : Gs} (hR : RR8 h m g) (hB : GB K m g) {a b : Nat} (ha : a < 6) (hb : b < 6) {Kk : Int32 → Hp → Prop} (hq : Kk (bz (like g a b)) h) : Ev mtb shp (d + 2) m_R_twoMatch [.ref 8, .int (nI a), .int (nI b)] h (qI Kk) := by
  refine e_R_twoMatch (d + 1) _ _ h _ ⟨vp_in_nI ha (by decide), vp_in_nI hb (by decide), ?_⟩
  unfold like at hq
  refine s_R_hangs d hR hB ha (bz_br (fun c1 => ⟨rfl, ?_⟩) (fun c1 => ?_))
  · rw [c1] at hq; exact hq
  refine s_R_hangs d hR hB hb (bz_br (fun c2 => ⟨rfl, ?_⟩) (fun c2 => ?_))
  · rw [c1, c2] at hq; exact hq
  have ham := hg_lt hB c1
  have hbm := hg_lt hB c2
  obtain ⟨a1, a2, a3, -⟩ := hR.2.1 a ham
  obtain ⟨b1, b2, b3, -⟩ := hR.2.1 b hbm
  obtain ⟨A1, A2, A3, -⟩ := hB.2.2.2.1 a ham
  obtain ⟨B1, B2, B3, -⟩ := hB.2.2.2.1 b hbm
  rw [c1, c2] at hq
  rw [nI_clamp (show a < 2 ^ 31 by omega), nI_clamp (show b < 2 ^ 31 by omega), a1, a2, a3, b1, b2, b3]
  refine ⟨vp_in_nI ha (by decide), vp_in_nI hb (by decide), pk_ne (g 5 a) (g 5 b) (fun c3 => ⟨rfl, ?_⟩) (fun c3 => ⟨vp_in_nI ha (by decide), vp_in_nI hb (by decide), pk_ne (g 6 a) (g 6 b) (fun c4 => ⟨rfl, ?_⟩) (fun c4 => ?_)⟩)⟩
  · rw [decide_eq_false c3] at hq; exact hq
  · rw [decide_eq_false c4, Bool.false_and, Bool.and_false] at hq; exact hq
  · obtain ⟨d1, d2, d3⟩ := dist1 _ A1 _ B1
    rw [decide_eq_true c3, decide_eq_true c4] at hq
    refine ⟨fun z => ⟨rfl, ?_⟩, fun z => ⟨fun z2 => ⟨rfl, ?_⟩, fun z2 => ⟨rfl, ?_⟩⟩⟩
    · rw [decide_eq_false (d1 z)] at hq; exact hq
    · rw [decide_eq_false (d2 z2)] at hq; exact hq
    · rw [decide_eq_true (d3 z z2)] at hq; exact hq
theorem s_R_twoMatchs (d : Nat) {h : Hp} {K m : Nat} {g : Gs} (hR : RR20 h m g) (hB : GB K m g) {a b : Nat} (ha : a < 6) (hb : b < 6) {Kk : Int32 → Hp → Prop} (hq : Kk (bz (like g a b)) h) : Ev mtb shp (d + 2) m_R_twoMatch [.ref 20, .int (nI a), .int (nI b)] h (qI Kk) := by
  refine e_R_twoMatchs (d + 1) _ _ h _ ⟨vp_in_nI ha (by decide), vp_in_nI hb (by decide), ?_⟩
  unfold like at hq
  refine s_R_hangss d hR hB ha (bz_br (fun c1 => ⟨rfl, ?_⟩) (fun c1 => ?_))
  · rw [c1] at hq; exact hq
  refine s_R_hangss d hR hB hb (bz_br (fun c2 => ⟨rfl, ?_⟩) (fun c2 => ?_))
  · rw [c1, c2] at hq; exact hq
  have ham := hg_lt hB c1
  have hbm := hg_lt hB c2
  obtain ⟨a1, a2, a3, -⟩ := hR.2.1 a ham
  obtain ⟨b1, b2, b3, -⟩ := hR.2.1 b hbm
  obtain ⟨A1, A2, A3, -⟩ := hB.2.2.2.1 a ham
  obtain ⟨B1, B2, B3, -⟩ := hB.2.2.2.1 b hbm
  rw [c1, c2] at hq
  rw [nI_clamp (show a < 2 ^ 31 by omega), nI_clamp (show b < 2 ^ 31 by omega), a1, a2, a3, b1, b2, b3]
  refine ⟨vp_in_nI ha (by decide), vp_in_nI hb (by decide), pk_ne (g 5 a) (g 5 b) (fun c3 => ⟨rfl, ?_⟩) (fun c3 => ⟨vp_in_nI ha (by decide), vp_in_nI hb (by decide), pk_ne (g 6 a) (g 6 b) (fun c4 => ⟨rfl, ?_⟩) (fun c4 => ?_)⟩)⟩
  · rw [decide_eq_false c3] at hq; exact hq
  · rw [decide_eq_false c4, Bool.false_and, Bool.and_false] at hq; exact hq
  · obtain ⟨d1, d2, d3⟩ := dist1 _ A1 _ B1
    rw [decide_eq_true c3, decide_eq_true c4] at hq
    refine ⟨fun z => ⟨rfl, ?_⟩, fun z => ⟨fun z2 => ⟨rfl, ?_⟩, fun z2 => ⟨rfl, ?_⟩⟩⟩
    · rw [decide_eq_false (d1 z)] at hq; exact hq
    · rw [decide_eq_false (d2 z2)] at hq; exact hq
    · rw [decide_eq_true (d3 z z2)] at hq; exact hq
