/-! twos that match, chances, the throne -/
theorem cnt_ext {p : Nat → Bool} {m : Nat} (h : ∀ i, m ≤ i → p i = false) : ∀ {n}, m ≤ n → cnt n p = cnt m p
  | 0, hn => by rw [show m = 0 by omega]
  | n + 1, hn => by
    by_cases hm : m = n + 1
    · rw [hm]
    · rw [cnt_f (h n (by omega)), cnt_ext h (by omega)]
theorem sm_ext {f : Nat → Nat} {m : Nat} (h : ∀ i, m ≤ i → f i = 0) : ∀ {n}, m ≤ n → sm f n = sm f m
  | 0, hn => by rw [show m = 0 by omega]
  | n + 1, hn => by
    by_cases hm : m = n + 1
    · rw [hm]
    · rw [sm.eq_2, h n (by omega), sm_ext h (by omega), Nat.add_zero]
theorem fst_ext {p : Nat → Bool} {m : Nat} (h : ∀ i, m ≤ i → p i = false) : ∀ {n}, m ≤ n → fst p n = fst p m
  | 0, hn => by rw [show m = 0 by omega]
  | n + 1, hn => by
    by_cases hm : m = n + 1
    · rw [hm]
    · rw [fst.eq_2, fst_ext h (show m ≤ n by omega), h n (by omega)]
      split
      · rfl
      · rename_i e
        exact (Classical.not_not.mp e).symm
theorem like_sym (g : Gs) (a b : Nat) : like g a b = like g b a := by
  unfold like
  rw [show dist (g 4 a) (g 4 b) = dist (g 4 b) (g 4 a) by unfold dist; omega, show decide (g 5 a = g 5 b) = decide (g 5 b = g 5 a) from decide_eq_decide.mpr eq_comm, show decide (g 6 a = g 6 b) = decide (g 6 b = g 6 a) from decide_eq_decide.mpr eq_comm]
  cases hg g a <;> cases hg g b <;> rfl
theorem like_no {K m : Nat} {g : Gs} (hB : GB K m g) {a b : Nat} (h : m ≤ a ∨ m ≤ b) : like g a b = false := by
  cases hc : like g a b
  · rfl
  · have := like_lt hB hc
    omega
theorem mtq_no {K m : Nat} {g : Gs} (hB : GB K m g) {a b : Nat} (h : m ≤ a ∨ m ≤ b) : mtq g a b = false := by
  unfold mtq
  rw [like_no hB h]
  cases decide (b = a) <;> rfl
def Xl (g : Gs) (a b : Nat) : Nat := bif like g a b then 1 else 0
theorem mt_sum {K m : Nat} {g : Gs} (hB : GB K m g) : sm (fun s => cnt m (mtq g s)) m = 2 * cnt 15 (lkq g) := by
  have h6 := hB.2.1
  have e : ∀ s, cnt m (mtq g s) = cnt 6 (mtq g s) := fun s => (cnt_ext (fun i hi => mtq_no hB (Or.inr hi)) h6).symm
  rw [show (fun s => cnt m (mtq g s)) = (fun s => cnt 6 (mtq g s)) from funext e, ← sm_ext (f := fun s => cnt 6 (mtq g s)) (fun i hi => by rw [← e]; exact cnt_zero (fun j _ => mtq_no hB (Or.inl hi))) h6]
  have s : ∀ a b, Xl g a b = Xl g b a := fun a b => by unfold Xl; rw [like_sym]
  have f0 : cnt 6 (mtq g 0) = 0 + 0 + Xl g 0 1 + Xl g 0 2 + Xl g 0 3 + Xl g 0 4 + Xl g 0 5 := rfl
  have f1 : cnt 6 (mtq g 1) = 0 + Xl g 1 0 + 0 + Xl g 1 2 + Xl g 1 3 + Xl g 1 4 + Xl g 1 5 := rfl
  have f2 : cnt 6 (mtq g 2) = 0 + Xl g 2 0 + Xl g 2 1 + 0 + Xl g 2 3 + Xl g 2 4 + Xl g 2 5 := rfl
  have f3 : cnt 6 (mtq g 3) = 0 + Xl g 3 0 + Xl g 3 1 + Xl g 3 2 + 0 + Xl g 3 4 + Xl g 3 5 := rfl
  have f4 : cnt 6 (mtq g 4) = 0 + Xl g 4 0 + Xl g 4 1 + Xl g 4 2 + Xl g 4 3 + 0 + Xl g 4 5 := rfl
  have f5 : cnt 6 (mtq g 5) = 0 + Xl g 5 0 + Xl g 5 1 + Xl g 5 2 + Xl g 5 3 + Xl g 5 4 + 0 := rfl
  have fs : sm (fun s => cnt 6 (mtq g s)) 6 = 0 + cnt 6 (mtq g 0) + cnt 6 (mtq g 1) + cnt 6 (mtq g 2) + cnt 6 (mtq g 3) + cnt 6 (mtq g 4) + cnt 6 (mtq g 5) := rfl
  have fl : cnt 15 (lkq g) = 0 + Xl g 0 1 + Xl g 0 2 + Xl g 0 3 + Xl g 0 4 + Xl g 0 5 + Xl g 1 2 + Xl g 1 3 + Xl g 1 4 + Xl g 1 5 + Xl g 2 3 + Xl g 2 4 + Xl g 2 5 + Xl g 3 4 + Xl g 3 5 + Xl g 4 5 := rfl
  rw [fs, fl, f0, f1, f2, f3, f4, f5, s 1 0, s 2 0, s 2 1, s 3 0, s 3 1, s 3 2, s 4 0, s 4 1, s 4 2, s 4 3, s 5 0, s 5 1, s 5 2, s 5 3, s 5 4]
  omega
theorem s_M_matching (d : Nat) {h : Hp} {K m : Nat} {g : Gs} (hM : RM h K m g) (hB : GB K m g) {Kk : Int32 → Hp → Prop} (hq : Kk (nI (cnt 15 (lkq g))) h) : Ev mtb shp (d + 4) m_M_matching [.ref 46] h (qI Kk) := by
  have hm6 := hB.2.1
  have hc := cnt_le (lkq g) 15
  refine e_M_matching (d + 3) h _ ?_
  refine dn0 (T := fun i => PP (Ev mtb shp (d + 3)) shp cd_M_matching 1 (qI Kk) 4 [.ref 46, .int (nI (sm (fun s => cnt m (mtq g s)) i)), .int (nI i)] [] h) m ?_ (fun i hi ih => ?_)
  · refine p_M_matching_4 (d + 3) _ _ h _ ?_
    rw [hM.2.1, mt_sum hB, show nI (2 * cnt 15 (lkq g)) / 2 = nI (2 * cnt 15 (lkq g) / 2) from pk_div (a := 2 * cnt 15 (lkq g)) (d := 2) (by omega) (by decide) (by decide), Nat.mul_div_cancel_left _ (by decide)]
    exact lpE ⟨by decide, hq⟩
  · refine p_M_matching_4 (d + 3) _ _ h _ ?_
    rw [hM.2.1, nI_s]
    refine lpS hi (by omega) (s_M_matchBits d hM hB hi ?_)
    have hb : bits m (mtq g i) < 2 ^ 6 := Nat.lt_of_lt_of_le (bits_lt _ _) (Nat.pow_le_pow_right (by decide) hm6)
    refine s_M_size (d + 2) (by omega) ?_
    rw [popc_bits (by omega), nI_add]
    exact ih
theorem s_M_divisor (d : Nat) {h : Hp} {a b : Nat} (ha : a < 2 ^ 31) (hb : b < 2 ^ 31) {Kk : Int32 → Hp → Prop} (hq : Kk (nI (Nat.gcd a b)) h) : Ev mtb shp (d + 1) m_M_divisor [.int (nI a), .int (nI b)] h (qI Kk) := by
  refine e_M_divisor d _ _ h _ ?_
  have key : ∀ (n x y : Nat), y < n → x < 2 ^ 31 → y < 2 ^ 31 → Nat.gcd x y = Nat.gcd a b → ∀ w, PP (Ev mtb shp d) shp cd_M_divisor 1 (qI Kk) 4 [.int (nI a), .int (nI b), .int (nI x), .int (nI y), w] [] h := by
    intro n
    induction n with
    | zero => exact fun x y hy => absurd hy (Nat.not_lt_zero y)
    | succ n ih =>
      intro x y hy hx31 hy31 hg w
      refine p_M_divisor_4 d _ _ _ _ _ h _ (pk_eq y 0 (fun e => ?_) (fun e => ⟨nI_ne0 (by omega) hy31, ?_⟩))
      · rw [e, Nat.gcd_zero_right] at hg
        rw [hg]
        exact hq
      · rw [pk_rem hx31 (by omega) hy31]
        have hl : x % y < y := Nat.mod_lt _ (by omega)
        exact ih y (x % y) (by omega) hy31 (by omega) (by rw [← hg, Nat.gcd_comm y, ← Nat.gcd_rec, Nat.gcd_comm]) _
  exact key (b + 1) a b (by omega) ha hb rfl _
theorem cdv_gcd : ∀ s, s < 16 → ∀ a, a < 16 → 0 < a → ∀ i, i < 16 → (∀ j, j < 16 → i < j → j ≤ a → s % j = 0 → a % j = 0 → False) → ((i ≤ 1 → i ≤ a → Nat.gcd s a = 1) ∧ (1 < i → i ≤ a → s % i = 0 → a % i = 0 → Nat.gcd s a = i)) := by
  intro s hs a ha h0 i hi hn
  have h1 := Nat.gcd_dvd_left s a
  have h2 := Nat.gcd_dvd_right s a
  have hp : 0 < Nat.gcd s a := Nat.gcd_pos_of_pos_right s h0
  have hle : Nat.gcd s a ≤ a := Nat.le_of_dvd h0 h2
  have hgi : Nat.gcd s a ≤ i := by
    by_cases hx : Nat.gcd s a ≤ i
    · exact hx
    · exact (hn (Nat.gcd s a) (by omega) (by omega) hle (Nat.mod_eq_zero_of_dvd h1) (Nat.mod_eq_zero_of_dvd h2)).elim
  refine ⟨fun z _ => by omega, fun z _ z1 z2 => ?_⟩
  have := Nat.le_of_dvd hp (Nat.dvd_gcd (Nat.dvd_of_mod_eq_zero z1) (Nat.dvd_of_mod_eq_zero z2))
  omega
theorem s_X_commonDivisor (d : Nat) {h : Hp} {s a : Nat} (hs : s < 16) (ha : a < 16) (h0 : 0 < a) {Kk : Int32 → Hp → Prop} (hq : Kk (nI (Nat.gcd s a)) h) : Ev mtb shp (d + 1) m_X_commonDivisor [.int (nI s), .int (nI a)] h (qI Kk) := by
  refine e_X_commonDivisor d _ _ h _ ?_
  have key : ∀ i, i ≤ a → (∀ j, j < 16 → i < j → j ≤ a → s % j = 0 → a % j = 0 → False) → PP (Ev mtb shp d) shp cd_X_commonDivisor 1 (qI Kk) 2 [.int (nI s), .int (nI a), .int (nI i)] [] h := by
    intro i
    induction i with
    | zero =>
      intro hi hn
      refine p_X_commonDivisor_2 d _ _ _ h _ ⟨fun _ => ?_, fun z => absurd (by decide) z⟩
      rw [(cdv_gcd s hs a ha h0 0 (by omega) hn).1 (by omega) hi] at hq
      exact hq
    | succ i ih =>
      intro hi hn
      obtain ⟨g1, g2⟩ := cdv_gcd s hs a ha h0 (i + 1) (by omega) hn
      refine p_X_commonDivisor_2 d _ _ _ h _ ?_
      rw [pk_rem (by omega) (by omega) (by omega), pk_rem (by omega) (by omega) (by omega), pk_m1]
      refine pk_le (i + 1) 1 (fun c => ?_) (fun c => ⟨nI_ne0 (by omega) (by omega), ?_⟩)
      · rw [g1 c hi] at hq
        exact hq
      · have l1 : s % (i + 1) < i + 1 := Nat.mod_lt _ (by omega)
        have l2 : a % (i + 1) < i + 1 := Nat.mod_lt _ (by omega)
        refine pk_ne (s % (i + 1)) 0 (fun c1 => ih (by omega) (fun j hj hij hja z1 z2 => ?_)) (fun c1 => ⟨nI_ne0 (by omega) (by omega), pk_ne (a % (i + 1)) 0 (fun c2 => ih (by omega) (fun j hj hij hja z1 z2 => ?_)) (fun c2 => ?_)⟩)
        · by_cases hji : j = i + 1
          · subst hji; exact c1 z1
          · exact hn j hj (by omega) hja z1 z2
        · by_cases hji : j = i + 1
          · subst hji; exact c2 z2
          · exact hn j hj (by omega) hja z1 z2
        · rw [g2 c hi c1 c2] at hq
          exact hq
  exact key a (Nat.le_refl a) (fun j hj hij hja => by omega)
theorem cnt_2 {p : Nat → Bool} {a b m : Nat} (hab : a < b) (hb : b < m) (ha : p a = true) (hpb : p b = true) : 2 ≤ cnt m p := by
  have h1 : 0 < cnt b p := cnt_pos ⟨a, hab, ha⟩
  have h2 : cnt (b + 1) p = cnt b p + 1 := cnt_t hpb
  have h3 : ∀ n, b + 1 ≤ n → cnt (b + 1) p ≤ cnt n p := by
    intro n
    induction n with
    | zero => intro h; omega
    | succ n ih =>
      intro hn
      by_cases e : b + 1 = n + 1
      · rw [e]; exact Nat.le_refl _
      · have := ih (by omega)
        cases hc : p n
        · rw [cnt_f (n := n) hc]; exact this
        · rw [cnt_t (n := n) hc]; omega
  have := h3 m hb
  omega
theorem pairs_0 {K m : Nat} {g : Gs} (hB : GB K m g) {k : Nat} (h : cnt m (hg g) < 2) : cnt 15 (prq g k) = 0 := by
  refine cnt_zero (fun i hi => ?_)
  cases hc : prq g k i
  · rfl
  · obtain ⟨-, -, -, -, hlt⟩ := pn_ok i hi
    have h1 := (pr_lt hB hc).2
    unfold prq pr like at hc
    simp only [Bool.and_eq_true] at hc
    have := cnt_2 hlt h1 hc.1.1 hc.1.2.1
    omega
/-- a king's chance: w = 0 above, 1 below -/
def aC (m : Nat) (g : Gs) (k w : Nat) : Int32 := if cnt m (hg g) < 2 then nI w else if w = 0 then nI (cnt 15 (prq g k) / Nat.gcd (cnt 15 (prq g k)) (cnt m (hg g) * (cnt m (hg g) - 1) / 2)) else nI (cnt m (hg g) * (cnt m (hg g) - 1) / 2 / Nat.gcd (cnt 15 (prq g k)) (cnt m (hg g) * (cnt m (hg g) - 1) / 2))
theorem al_ok : ∀ n, n < 7 → 2 ≤ n → 0 < n * (n - 1) / 2 ∧ n * (n - 1) / 2 < 16 ∧ (nI n * (nI n - 1)) / 2 = nI (n * (n - 1) / 2) := by decide +kernel
theorem s_M_chanceNow (d : Nat) {h : Hp} {K m : Nat} {g : Gs} (hM : RM h K m g) (hB : GB K m g) {k w : Nat} (hk : k < K) (hw : w < 2) {Kk : Int32 → Hp → Prop} (hq : Kk (aC m g k w) h) : Ev mtb shp (d + 6) m_M_chanceNow [.ref 46, .int (nI k), .int (nI w)] h (qI Kk) := by
  have hm6 := hB.2.1
  have hn := cnt_le (hg g) m
  have hc := cnt_le (prq g k) 15
  refine e_M_chanceNow (d + 5) _ _ h _ ?_
  refine s_M_hanging (d + 3) hM hB ?_
  refine s_M_pairsOf d hM hB hk ?_
  unfold aC at hq
  refine pk_le 2 (cnt m (hg g)) (fun c => ⟨by decide, ?_⟩) (fun c => ?_)
  · obtain ⟨a1, a2, a3⟩ := al_ok _ (by omega) c
    rw [a3]
    rw [if_neg (by omega)] at hq
    have hgp : 0 < Nat.gcd (cnt 15 (prq g k)) (cnt m (hg g) * (cnt m (hg g) - 1) / 2) := Nat.gcd_pos_of_pos_right _ a1
    have hgl := Nat.le_of_dvd a1 (Nat.gcd_dvd_right (cnt 15 (prq g k)) (cnt m (hg g) * (cnt m (hg g) - 1) / 2))
    refine s_M_divisor (d + 4) (by omega) (by omega) ?_
    rw [pk_div (by omega) hgp (by omega), pk_div (by omega) hgp (by omega)]
    refine pk_ne w 0 (fun e => ⟨nI_ne0 hgp (by omega), ?_⟩) (fun e => ⟨nI_ne0 hgp (by omega), ?_⟩)
    · rw [if_neg e] at hq; exact hq
    · rw [if_pos e] at hq; exact hq
  · rw [if_pos c] at hq
    rw [pairs_0 hB c]
    refine s_M_divisor (a := 0) (b := 1) (d + 4) (by decide) (by decide) ?_
    refine pk_ne w 0 (fun e => ⟨by decide, ?_⟩) (fun e => ⟨by decide, ?_⟩)
    · rw [show w = 1 by omega] at hq; exact hq
    · rw [e] at hq; exact hq
def aT (K : Nat) (g : Gs) (w : Nat) : Int32 := if w = 0 then nI (min (popc (bits K (hp g))) 2) else if w = 2 then nI (bits K (hp g)) else if popc (bits K (hp g)) = 1 then pI (fst (fun i => (bits K (hp g)).testBit i) 4) else -1
theorem hei_lt {K m : Nat} {g : Gs} (hB : GB K m g) : bits K (hp g) < 16 := Nat.lt_of_lt_of_le (bits_lt _ _) (Nat.pow_le_pow_right (n := 2) (by decide) hB.1)
theorem s_M_throneNow (d : Nat) {h : Hp} {K m : Nat} {g : Gs} (hM : RM h K m g) (hB : GB K m g) {w : Nat} (hw : w < 3) {Kk : Int32 → Hp → Prop} (hq : Kk (aT K g w) h) : Ev mtb shp (d + 7) m_M_throneNow [.ref 46, .int (nI w)] h (qI Kk) := by
  have hh := hei_lt hB
  refine e_M_throneNow (d + 6) _ h _ ?_
  refine s_M_having d hM hB ?_
  refine s_M_throneBy (d + 4) (by omega) ?_
  unfold aT at hq
  have hpc := popc_le (bits K (hp g))
  refine pk_ne w 0 (fun e => pk_ne w 2 (fun e2 => pk_ne (min (popc (bits K (hp g))) 2) 1 (fun e3 => ?_) (fun e3 => s_M_leastIn (d + 4) (by omega) ?_)) (fun e2 => ?_)) (fun e => ?_)
  · rw [if_neg e, if_neg e2, if_neg (by omega)] at hq; exact hq
  · rw [if_neg e, if_neg e2, if_pos (by omega)] at hq; exact hq
  · rw [if_neg e, if_pos e2] at hq; exact hq
  · rw [if_pos e] at hq; exact hq
