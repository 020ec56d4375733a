/-! the reference's own methods: who may have what -/
theorem le_toInt {a b : Int32} : a ≤ b ↔ a.toInt ≤ b.toInt := Int32.le_iff_toInt_le
theorem lt_toInt {a b : Int32} : a < b ↔ a.toInt < b.toInt := Int32.lt_iff_toInt_lt
theorem pI_toInt {n : Nat} (hn : n < 2 ^ 31) : (pI n).toInt = (n : Int) - 1 := by
  cases n with
  | zero => rfl
  | succ n => rw [sub1, nI_toInt (by omega)]; omega
theorem nI_sub {a b : Nat} (h : a ≤ b) : nI b - nI a = nI (b - a) := by
  have e : nI b = nI (b - a) + nI a := by rw [nI_add, Nat.sub_add_cancel h]
  rw [e]
  exact Int32.add_sub_cancel _ _
theorem s_M_within (d : Nat) {h : Hp} (a : Int32) {n : Nat} (hn : n < 2 ^ 31) {Kk : Int32 → Hp → Prop} (hq : Kk (bz (inR a n)) h) : Ev mtb shp (d + 1) m_M_within [.int a, .int 0, .int (pI n)] h (qI Kk) := by
  refine e_M_within d _ _ _ h _ ?_
  rw [lt_toInt, lt_toInt, pI_toInt hn, show (0 : Int32).toInt = 0 from rfl]
  have hc : inR a n = decide (0 ≤ a.toInt ∧ a.toInt < n) := rfl
  refine ⟨fun z => ⟨rfl, ?_⟩, fun z => ⟨fun z2 => ⟨rfl, ?_⟩, fun z2 => ⟨rfl, ?_⟩⟩⟩
  · rw [hc, decide_eq_false (by omega)] at hq; exact hq
  · rw [hc, decide_eq_false (by omega)] at hq; exact hq
  · rw [hc, decide_eq_true (by omega)] at hq; exact hq
/-- between two given numbers -/
theorem s_M_withinB (d : Nat) {h : Hp} (a lo hi : Int32) {Kk : Int32 → Hp → Prop} (hq : Kk (bz (decide (lo.toInt ≤ a.toInt ∧ a.toInt ≤ hi.toInt))) h) : Ev mtb shp (d + 1) m_M_within [.int a, .int lo, .int hi] h (qI Kk) := by
  refine e_M_within d _ _ _ h _ ?_
  rw [lt_toInt, lt_toInt]
  refine ⟨fun z => ⟨rfl, ?_⟩, fun z => ⟨fun z2 => ⟨rfl, ?_⟩, fun z2 => ⟨rfl, ?_⟩⟩⟩
  · rw [decide_eq_false (by omega)] at hq; exact hq
  · rw [decide_eq_false (by omega)] at hq; exact hq
  · rw [decide_eq_true (by omega)] at hq; exact hq
theorem s_M_isIn (d : Nat) {h : Hp} {b k : Nat} (hb : b < 2 ^ 31) (hk : k < 31) {K : Int32 → Hp → Prop} (hq : K (bz (b.testBit k)) h) : Ev mtb shp (d + 1) m_M_isIn [.int (nI b), .int (nI k)] h (qI K) := by
  refine e_M_isIn d _ _ h _ ?_
  rw [has_bz hb hk, bz_1]
  cases hc : b.testBit k
  · rw [hc] at hq; exact ⟨fun _ => ⟨rfl, hq⟩, fun z => absurd z (by decide)⟩
  · rw [hc] at hq; exact ⟨fun z => absurd rfl z, fun _ => ⟨rfl, hq⟩⟩
theorem tb_n (b k : Nat) : b / 2 ^ k % 2 = (bif b.testBit k then 1 else 0) := by
  rw [Nat.testBit_eq_decide_div_mod_eq]
  rcases (show b / 2 ^ k % 2 = 0 ∨ b / 2 ^ k % 2 = 1 by omega) with h | h <;> rw [h] <;> rfl
theorem s_M_size (d : Nat) {h : Hp} {b : Nat} (hb : b < 2 ^ 31) {Kk : Int32 → Hp → Prop} (hq : Kk (nI (popc b)) h) : Ev mtb shp (d + 1) m_M_size [.int (nI b)] h (qI Kk) := by
  refine e_M_size d _ h _ ?_
  refine dn0 (T := fun i => PP (Ev mtb shp d) shp cd_M_size 1 (qI Kk) 4 [.int (nI b), .int (nI (cnt i (fun i => b.testBit i))), .int (nI i)] [] h) 10 ?_ (fun i hi ih => ?_)
  · exact p_M_size_4 d _ _ _ h _ (lpE (m := 10) hq)
  · refine p_M_size_4 d _ _ _ h _ (lpS (m := 10) hi (by decide) ?_)
    rw [has_bit hb (by omega), nI_add, nI_s, tb_n]
    exact ih
theorem s_M_apart (d : Nat) {h : Hp} {a b : Nat} (ha : a < 2 ^ 31) (hb : b < 2 ^ 31) {Kk : Int32 → Hp → Prop} (hq : Kk (nI (dist a b)) h) : Ev mtb shp (d + 1) m_M_apart [.int (nI a), .int (nI b)] h (qI Kk) := by
  refine e_M_apart d _ _ h _ ?_
  refine pk_le a b (fun c => ?_) (fun c => ?_)
  · rw [nI_sub c]
    rw [show dist a b = b - a by unfold dist; omega] at hq
    exact hq
  · rw [nI_sub (by omega)]
    rw [show dist a b = a - b by unfold dist; omega] at hq
    exact hq
theorem s_M_isKing (d : Nat) {h : Hp} {K m : Nat} {g : Gs} (hM : RM h K m g) (hK : K < 2 ^ 31) (a : Int32) {Kk : Int32 → Hp → Prop} (hq : Kk (bz (inR a K)) h) : Ev mtb shp (d + 2) m_M_isKing [.ref 46, .int a] h (qI Kk) := by
  refine e_M_isKing (d + 1) _ h _ ?_
  rw [hM.1]
  exact s_M_within d a hK ⟨bz_nar _, hq⟩
theorem s_M_isStocking (d : Nat) {h : Hp} {K m : Nat} {g : Gs} (hM : RM h K m g) (hm : m < 2 ^ 31) (a : Int32) {Kk : Int32 → Hp → Prop} (hq : Kk (bz (inR a m)) h) : Ev mtb shp (d + 2) m_M_isStocking [.ref 46, .int a] h (qI Kk) := by
  refine e_M_isStocking (d + 1) _ h _ ?_
  rw [hM.2.1]
  exact s_M_within d a hm ⟨bz_nar _, hq⟩
theorem s_M_isPeg (d : Nat) {h : Hp} (a : Int32) {Kk : Int32 → Hp → Prop} (hq : Kk (bz (inR a 10)) h) : Ev mtb shp (d + 2) m_M_isPeg [.int a] h (qI Kk) := by
  refine e_M_isPeg (d + 1) _ h _ ?_
  exact s_M_within (n := 10) d a (by decide) ⟨bz_nar _, hq⟩
theorem s_M_hangs (d : Nat) {h : Hp} {K m : Nat} {g : Gs} (hM : RM h K m g) (hB : GB K m g) {s : Nat} (hs : s < m) {Kk : Int32 → Hp → Prop} (hq : Kk (bz (hg g s)) h) : Ev mtb shp (d + 1) m_M_hangs [.ref 46, .int (nI s)] h (qI Kk) := by
  have hs6 : s < 6 := by have := hB.2.1; omega
  refine e_M_hangs d _ h _ ⟨vp_in_nI hs6 (by decide), ?_⟩
  rw [nI_clamp (by omega), (hM.2.2.2 s hs).2.2.2.2, pI_0 _ (Nat.lt_succ_of_le (hB.2.2.2.2.1 s))]
  by_cases hz : g 8 s = 0
  · rw [show hg g s = false by simp [hg, hz]] at hq
    exact ⟨fun _ => ⟨rfl, hq⟩, fun z => absurd hz z⟩
  · rw [show hg g s = true by simp [hg, hz]] at hq
    exact ⟨fun z => absurd z hz, fun _ => ⟨rfl, hq⟩⟩
def cf (g : Gs) (k : Nat) : Nat := if g 0 k = 2 ∨ g 0 k = 4 then g 1 k - 2 else g 1 k
theorem s_M_calf (d : Nat) {h : Hp} {K m : Nat} {g : Gs} (hM : RM h K m g) (hB : GB K m g) {k : Nat} (hk : k < K) {Kk : Int32 → Hp → Prop} (hq : Kk (nI (cf g k)) h) : Ev mtb shp (d + 1) m_M_calf [.ref 46, .int (nI k)] h (qI Kk) := by
  have hk4 : k < 4 := by have := hB.1; omega
  have v4 := vp_in_nI hk4 (by decide)
  obtain ⟨b0, b1, b2, b3⟩ := hB.2.2.1 k hk
  refine e_M_calf d _ h _ ⟨v4, ?_⟩
  rw [nI_clamp (show k < 2 ^ 31 by omega), (hM.2.2.1 k hk).1, (hM.2.2.1 k hk).2.1]
  have two : (g 0 k = 2 ∨ g 0 k = 4) → (2 ≤ nI (g 1 k) → vp_in (nI k) 4 ∧ Kk (nI (g 1 k) - 2) h) ∧ (¬ 2 ≤ nI (g 1 k) → Kk 0 h) := by
    intro e
    rw [cf, if_pos e] at hq
    refine pk_le 2 (g 1 k) (fun c => ⟨v4, ?_⟩) (fun c => ?_)
    · rw [show (2 : Int32) = nI 2 from rfl, nI_sub c]
      exact hq
    · rw [show g 1 k - 2 = 0 by omega] at hq
      exact hq
  refine pk_eq (g 0 k) 2 (fun e => ⟨fun _ => ⟨v4, two (Or.inl e)⟩, fun z => absurd z (by decide)⟩) (fun e => ⟨v4, pk_ne (g 0 k) 4 (fun e2 => ⟨fun z => absurd rfl z, fun _ => ⟨v4, ?_⟩⟩) (fun e2 => ⟨fun _ => ⟨v4, two (Or.inr e2)⟩, fun z => absurd z (by decide)⟩)⟩)
  rw [cf, if_neg (by omega)] at hq
  exact hq
theorem wn_v {kd w ks kk sz st kn hl a b c : Nat} (h1 : (kd ≠ 3 ∧ ks ≠ st ∧ a = 2) ∨ ((kd = 3 ∨ ks = st) ∧ a = 0)) (h2 : (kd ≠ 4 ∧ kk ≠ kn ∧ b = 3) ∨ ((kd = 4 ∨ kk = kn) ∧ b = 0)) (h3 : (kd = 1 ∧ c = 2 - 2 * hl) ∨ (kd ≠ 1 ∧ c = hl)) : wn kd w ks kk sz st kn hl = dist (if kd = 2 ∨ kd = 4 then w - 2 else w) sz + a + b + c := by
  unfold wn
  have e1 : (if kd ≠ 3 ∧ ks ≠ st then 2 else 0) = a := by split <;> omega
  have e2 : (if kd ≠ 4 ∧ kk ≠ kn then 3 else 0) = b := by split <;> omega
  have e3 : (if kd = 1 then 2 - 2 * hl else hl) = c := by split <;> omega
  rw [e1, e2, e3]
theorem wnl {g : Gs} {k s a b c : Nat} {h : Hp} {Kk : Int32 → Hp → Prop} (hq : Kk (nI (Wg g k s)) h) (h1 : (g 0 k ≠ 3 ∧ g 2 k ≠ g 5 s ∧ a = 2) ∨ ((g 0 k = 3 ∨ g 2 k = g 5 s) ∧ a = 0)) (h2 : (g 0 k ≠ 4 ∧ g 3 k ≠ g 6 s ∧ b = 3) ∨ ((g 0 k = 4 ∨ g 3 k = g 6 s) ∧ b = 0)) (h3 : (g 0 k = 1 ∧ c = 2 - 2 * g 7 s) ∨ (g 0 k ≠ 1 ∧ c = g 7 s)) : Kk (((nI (dist (cf g k) (g 4 s)) + nI a) + nI b) + nI c) h := by
  rw [nI_add, nI_add, nI_add]
  rw [Wg, Wc, wn_v h1 h2 h3] at hq
  exact hq
theorem lame : ∀ x, x < 2 → (2 : Int32) - (2 * nI x) = nI (2 - 2 * x) := by decide +kernel
theorem s_M_wrongOf (d : Nat) {h : Hp} {K m : Nat} {g : Gs} (hM : RM h K m g) (hB : GB K m g) {k s : Nat} (hk : k < K) (hs : s < m) {Kk : Int32 → Hp → Prop} (hq : Kk (nI (Wg g k s)) h) : Ev mtb shp (d + 2) m_M_wrongOf [.ref 46, .int (nI k), .int (nI s)] h (qI Kk) := by
  have hk4 : k < 4 := by have := hB.1; omega
  have hs6 : s < 6 := by have := hB.2.1; omega
  have v4 := vp_in_nI hk4 (by decide)
  have v6 := vp_in_nI hs6 (by decide)
  obtain ⟨b0, b1, b2, b3⟩ := hB.2.2.1 k hk
  obtain ⟨b4, b5, b6, b7⟩ := hB.2.2.2.1 s hs
  obtain ⟨c0, c1, c2, c3⟩ := hM.2.2.1 k hk
  obtain ⟨r4, r5, r6, r7, r8⟩ := hM.2.2.2 s hs
  refine e_M_wrongOf (d + 1) _ _ h _ ?_
  refine s_M_calf d hM hB hk ⟨v6, ?_⟩
  rw [nI_clamp (show s < 2 ^ 31 by omega), r4, nI_clamp (show k < 2 ^ 31 by omega)]
  have hcf : cf g k < 10 := by unfold cf; split <;> omega
  refine s_M_apart d (by omega) (by omega) ⟨v4, ?_⟩
  rw [c0, c2, c3, r5, r6, r7, lame _ b7]
  rw [show (nI (g 0 k) = 3) = (g 0 k = 3) from propext (nI_eq (by omega) (by decide)), show (nI (g 0 k) = 4) = (g 0 k = 4) from propext (nI_eq (by omega) (by decide)), show (nI (g 0 k) = 1) = (g 0 k = 1) from propext (nI_eq (by omega) (by decide)), show (nI (g 2 k) = nI (g 5 s)) = (g 2 k = g 5 s) from propext (nI_eq (by omega) (by omega)), show (nI (g 3 k) = nI (g 6 s)) = (g 3 k = g 6 s) from propext (nI_eq (by omega) (by omega))]
  have L : ∀ a b c : Nat, (g 0 k ≠ 3 ∧ g 2 k ≠ g 5 s ∧ a = 2) ∨ ((g 0 k = 3 ∨ g 2 k = g 5 s) ∧ a = 0) → (g 0 k ≠ 4 ∧ g 3 k ≠ g 6 s ∧ b = 3) ∨ ((g 0 k = 4 ∨ g 3 k = g 6 s) ∧ b = 0) → (g 0 k = 1 ∧ c = 2 - 2 * g 7 s) ∨ (g 0 k ≠ 1 ∧ c = g 7 s) → Kk (((nI (dist (cf g k) (g 4 s)) + nI a) + nI b) + nI c) h := fun a b c => wnl hq
  refine ⟨fun e3 => ⟨v4, fun e4 => ?_, fun e4 => ⟨v4, v6, fun ek => ⟨v4, fun e1 => ⟨v6, L 0 0 _ ?_ ?_ ?_⟩, fun e1 => ⟨v6, L 0 0 _ ?_ ?_ ?_⟩⟩, fun ek => ⟨v4, fun e1 => ⟨v6, L 0 3 _ ?_ ?_ ?_⟩, fun e1 => ⟨v6, L 0 3 _ ?_ ?_ ?_⟩⟩⟩⟩, fun e3 => ⟨v4, v6, fun es => ⟨v4, fun e4 => ⟨v4, fun e1 => ⟨v6, L 0 0 _ ?_ ?_ ?_⟩, fun e1 => ⟨v6, L 0 0 _ ?_ ?_ ?_⟩⟩, fun e4 => ⟨v4, v6, fun ek => ⟨v4, fun e1 => ⟨v6, L 0 0 _ ?_ ?_ ?_⟩, fun e1 => ⟨v6, L 0 0 _ ?_ ?_ ?_⟩⟩, fun ek => ⟨v4, fun e1 => ⟨v6, L 0 3 _ ?_ ?_ ?_⟩, fun e1 => ⟨v6, L 0 3 _ ?_ ?_ ?_⟩⟩⟩⟩, fun es => ⟨v4, fun e4 => ⟨v4, fun e1 => ⟨v6, L 2 0 _ ?_ ?_ ?_⟩, fun e1 => ⟨v6, L 2 0 _ ?_ ?_ ?_⟩⟩, fun e4 => ⟨v4, v6, fun ek => ⟨v4, fun e1 => ⟨v6, L 2 0 _ ?_ ?_ ?_⟩, fun e1 => ⟨v6, L 2 0 _ ?_ ?_ ?_⟩⟩, fun ek => ⟨v4, fun e1 => ⟨v6, L 2 3 _ ?_ ?_ ?_⟩, fun e1 => ⟨v6, L 2 3 _ ?_ ?_ ?_⟩⟩⟩⟩⟩⟩
  case _ => exact absurd (e3.symm.trans e4) (by decide)
  all_goals omega
theorem s_M_mayBe (d : Nat) {h : Hp} {K m : Nat} {g : Gs} (hM : RM h K m g) (hB : GB K m g) {k s : Nat} (hk : k < K) (hs : s < m) {Kk : Int32 → Hp → Prop} (hq : Kk (bz (may g k s)) h) : Ev mtb shp (d + 3) m_M_mayBe [.ref 46, .int (nI k), .int (nI s)] h (qI Kk) := by
  refine e_M_mayBe (d + 2) _ _ h _ (s_M_wrongOf d hM hB hk hs ?_)
  refine le3 (by have := Wg_le hB hk hs; omega) (fun c => ⟨rfl, ?_⟩) (fun c => ⟨rfl, ?_⟩)
  · rw [show may g k s = false from c] at hq; exact hq
  · rw [show may g k s = true from c] at hq; exact hq
theorem s_M_areLike (d : Nat) {h : Hp} {K m : Nat} {g : Gs} (hM : RM h K m g) (hB : GB K m g) {a b : Nat} (ha : a < m) (hb : b < m) {Kk : Int32 → Hp → Prop} (hq : Kk (bz (like g a b)) h) : Ev mtb shp (d + 2) m_M_areLike [.ref 46, .int (nI a), .int (nI b)] h (qI Kk) := by
  have hm6 := hB.2.1
  have va := vp_in_nI (show a < 6 by omega) (by decide)
  have vb := vp_in_nI (show b < 6 by omega) (by decide)
  obtain ⟨a4, a5, a6, a7⟩ := hB.2.2.2.1 a ha
  obtain ⟨b4, b5, b6, b7⟩ := hB.2.2.2.1 b hb
  obtain ⟨r4, r5, r6, r7, r8⟩ := hM.2.2.2 a ha
  obtain ⟨t4, t5, t6, t7, t8⟩ := hM.2.2.2 b hb
  unfold like at hq
  refine e_M_areLike (d + 1) _ _ h _ ?_
  refine s_M_hangs d hM hB ha (bz_br (fun c => ⟨rfl, ?_⟩) (fun c => ?_))
  · rw [c] at hq; exact hq
  refine s_M_hangs d hM hB hb (bz_br (fun c2 => ⟨rfl, ?_⟩) (fun c2 => ⟨va, vb, ?_⟩))
  · rw [c, c2] at hq; exact hq
  rw [nI_clamp (show a < 2 ^ 31 by omega), nI_clamp (show b < 2 ^ 31 by omega), r4, r5, r6, t4, t5, t6]
  refine pk_ne (g 5 a) (g 5 b) (fun e => ⟨rfl, ?_⟩) (fun e => ⟨va, vb, pk_ne (g 6 a) (g 6 b) (fun e2 => ⟨rfl, ?_⟩) (fun e2 => ⟨va, vb, s_M_apart d (by omega) (by omega) (pk_le 2 (dist (g 4 a) (g 4 b)) (fun e3 => ⟨rfl, ?_⟩) (fun e3 => ⟨rfl, ?_⟩) (hb := by unfold dist; omega))⟩)⟩)
  · rw [c, c2, decide_eq_false e] at hq; exact hq
  · rw [c, c2, decide_eq_true e, decide_eq_false e2] at hq; exact hq
  · rw [c, c2, decide_eq_true e, decide_eq_true e2, decide_eq_false (by omega)] at hq; exact hq
  · rw [c, c2, decide_eq_true e, decide_eq_true e2, decide_eq_true (by omega)] at hq; exact hq
theorem s_M_isPairOf (d : Nat) {h : Hp} {K m : Nat} {g : Gs} (hM : RM h K m g) (hB : GB K m g) {k a b : Nat} (hk : k < K) (ha : a < m) (hb : b < m) {Kk : Int32 → Hp → Prop} (hq : Kk (bz (pr g k a b)) h) : Ev mtb shp (d + 4) m_M_isPairOf [.ref 46, .int (nI k), .int (nI a), .int (nI b)] h (qI Kk) := by
  unfold pr at hq
  refine e_M_isPairOf (d + 3) _ _ _ h _ ?_
  refine s_M_areLike (d + 1) hM hB ha hb (bz_br (fun c => ⟨rfl, ?_⟩) (fun c => ?_))
  · rw [c] at hq; exact hq
  refine s_M_mayBe d hM hB hk ha (bz_br (fun c2 => ⟨rfl, ?_⟩) (fun c2 => ?_))
  · rw [c, c2] at hq; exact hq
  refine s_M_mayBe d hM hB hk hb (bz_br (fun c3 => ⟨rfl, ?_⟩) (fun c3 => ⟨rfl, ?_⟩))
  · rw [c, c2, c3] at hq; exact hq
  · rw [c, c2, c3] at hq; exact hq
