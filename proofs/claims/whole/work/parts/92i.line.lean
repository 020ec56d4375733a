/-! a whole line: what it is -/
theorem kp_const {c : Nat → Nat} {n i : Nat} (ha : AF c n) (hi : kp c i ≠ 0) : ∀ j, i ≤ j → j ≤ n → kp c j = kp c i := by
  intro j
  induction j with
  | zero =>
    intro h1 _
    rw [show i = 0 by omega]
  | succ j ih =>
    intro h1 h2
    by_cases e : i = j + 1
    · rw [e]
    · have hj := ih (by omega) (by omega)
      rw [kp]
      split
      · rename_i h59
        have hf := ha j (by omega)
        rw [h59] at hf
        by_cases h5 : j % 5 = 4
        · rw [fs4 (by rw [hj]; exact hi) h5] at hf
          cases hf
        · rw [fit_59 h5] at hf
          cases hf
      · exact hj
theorem kp_last {c : Nat → Nat} : ∀ {n}, kp c n ≠ 0 → ∃ p, p < n ∧ c p = 59 ∧ kp c n = p / 5 + 1
  | 0, h => absurd rfl h
  | n + 1, h => by
    rw [kp] at h ⊢
    by_cases e : c n = 59
    · exact ⟨n, by omega, e, if_pos e⟩
    · rw [if_neg e] at h ⊢
      obtain ⟨p, h1, h2, h3⟩ := kp_last h
      exact ⟨p, by omega, h2, h3⟩
theorem dg_of {hi c : Nat} (h : dgt hi c = true) : 48 ≤ c ∧ c ≤ hi := of_decide_eq_true h
/-- what a line's letters are -/
def LN (c : Nat → Nat) (n K m : Nat) : Prop := 2 ≤ K ∧ K ≤ 4 ∧ 2 ≤ m ∧ m ≤ 6 ∧ n + 1 = 5 * (K + m) ∧ (∀ k, k < K → kx (c (5 * k)) ≠ 0 ∧ (48 ≤ c (5 * k + 1) ∧ c (5 * k + 1) ≤ 57) ∧ (48 ≤ c (5 * k + 2) ∧ c (5 * k + 2) ≤ 52) ∧ (48 ≤ c (5 * k + 3) ∧ c (5 * k + 3) ≤ 51)) ∧ ∀ s, s < m → (48 ≤ c (5 * (K + s)) ∧ c (5 * (K + s)) ≤ 57) ∧ (48 ≤ c (5 * (K + s) + 1) ∧ c (5 * (K + s) + 1) ≤ 52) ∧ (48 ≤ c (5 * (K + s) + 2) ∧ c (5 * (K + s) + 2) ≤ 51) ∧ (48 ≤ c (5 * (K + s) + 3) ∧ c (5 * (K + s) + 3) ≤ 49)
theorem whl_LN {c : Nat → Nat} {n : Nat} (h0 : c n = 0) (h : whl c n = true) : LN c n (kp c n) ((n + 1) / 5 - kp c n) := by
  obtain ⟨h1, h2, h3, h4⟩ := of_decide_eq_true h
  obtain ⟨ha, -, -⟩ := er_le c n h0
  rw [h2] at ha
  obtain ⟨p, p1, p2, p3⟩ := kp_last (c := c) (n := n) (by omega)
  have p5 : p % 5 = 4 := by
    by_cases z : p % 5 = 4
    · exact z
    · have := ha p p1
      rw [p2, fit_59 z] at this
      cases this
  have p0 : kp c p = 0 := by
    by_cases z : kp c p = 0
    · exact z
    · have := ha p p1
      rw [p2, fs4 z p5] at this
      cases this
  have lo : ∀ i, i ≤ p → kp c i = 0 := by
    intro i hi
    by_cases z : kp c i = 0
    · exact z
    · have := kp_const ha z p hi (by omega)
      rw [p0] at this
      exact absurd this.symm z
  have hp1 : kp c (p + 1) = p / 5 + 1 := by rw [kp, if_pos p2]
  have hi : ∀ i, p < i → i ≤ n → kp c i = kp c n := by
    intro i h5 h6
    rw [kp_const ha (i := p + 1) (by omega) i h5 h6, hp1, p3]
  generalize kp c n = K at *
  have hK2 : 2 ≤ K := by
    have := ha p p1
    rw [p0, p2, fk4 p5, if_neg (by decide)] at this
    have := of_decide_eq_true ((Bool.and_eq_true _ _).mp this).2
    omega
  have hK4 : K ≤ 4 := by
    have h7 : 5 * (K - 2) + 4 < p := by omega
    have hf := ha (5 * (K - 2) + 4) (by omega)
    have hn : c (5 * (K - 2) + 4) ≠ 59 := by
      intro z
      have := lo (5 * (K - 2) + 4 + 1) (by omega)
      rw [kp, if_pos z] at this
      omega
    rw [lo _ (by omega), fk4 (by omega)] at hf
    by_cases z : c (5 * (K - 2) + 4) = 44
    · rw [if_pos z] at hf
      have := of_decide_eq_true hf
      omega
    · rw [if_neg z, decide_eq_false hn] at hf
      cases hf
  have hn : n + 1 = 5 * (K + ((n + 1) / 5 - K)) := by omega
  generalize (n + 1) / 5 - K = m at *
  have hm6 : m ≤ 6 := by
    have hf := ha (5 * (K + (m - 2)) + 4) (by omega)
    rw [hi _ (by omega) (by omega), fs4 (by omega) (by omega)] at hf
    have := of_decide_eq_true ((Bool.and_eq_true _ _).mp hf).2
    omega
  refine ⟨hK2, hK4, h4, hm6, hn, fun k hk => ⟨?_, ?_, ?_, ?_⟩, fun s hs => ⟨?_, ?_, ?_, ?_⟩⟩
  · have hf := ha (5 * k) (by omega)
    rw [lo _ (by omega), fk0 (by omega)] at hf
    exact of_decide_eq_true hf
  · have hf := ha (5 * k + 1) (by omega)
    rw [lo _ (by omega), fk1 (by omega)] at hf
    exact dg_of hf
  · have hf := ha (5 * k + 2) (by omega)
    rw [lo _ (by omega), fk2 (by omega)] at hf
    exact dg_of hf
  · have hf := ha (5 * k + 3) (by omega)
    rw [lo _ (by omega), fk3 (by omega)] at hf
    exact dg_of hf
  · have hf := ha (5 * (K + s)) (by omega)
    rw [hi _ (by omega) (by omega), fs0 (by omega) (by omega)] at hf
    exact dg_of hf
  · have hf := ha (5 * (K + s) + 1) (by omega)
    rw [hi _ (by omega) (by omega), fs1 (by omega) (by omega)] at hf
    exact dg_of hf
  · have hf := ha (5 * (K + s) + 2) (by omega)
    rw [hi _ (by omega) (by omega), fs2 (by omega) (by omega)] at hf
    exact dg_of hf
  · have hf := ha (5 * (K + s) + 3) (by omega)
    rw [hi _ (by omega) (by omega), fs3 (by omega) (by omega)] at hf
    exact dg_of hf
/-- the state that is read -/
def gln (g : Gs) (K m : Nat) : Gs := fun r s => match r with
  | 0 => kx (lt g (5 * s)) - 1
  | 1 => lt g (5 * s + 1) - 48
  | 2 => lt g (5 * s + 2) - 48
  | 3 => lt g (5 * s + 3) - 48
  | 4 => lt g (5 * (K + s)) - 48
  | 5 => lt g (5 * (K + s) + 1) - 48
  | 6 => lt g (5 * (K + s) + 2) - 48
  | 7 => lt g (5 * (K + s) + 3) - 48
  | 8 => if s < m then s + 1 else 0
  | 14 => 0
  | 16 => if s = 0 then 0 else if s = 1 then g 16 1 + 1 else g 16 s
  | _ => g r s
theorem GB_ln {g : Gs} {n K m : Nat} (hL : LN (lt g) n K m) : GB K m (gln g K m) := by
  obtain ⟨l1, l2, l3, l4, l5, l6, l7⟩ := hL
  refine ⟨l2, l4, fun k hk => ?_, fun s hs => ?_, fun s => ?_, fun s hs => ?_⟩
  · show kx (lt g (5 * k)) - 1 < 5 ∧ lt g (5 * k + 1) - 48 < 10 ∧ lt g (5 * k + 2) - 48 < 5 ∧ lt g (5 * k + 3) - 48 < 4
    have := l6 k hk
    have := kx_lt (lt g (5 * k))
    omega
  · show lt g (5 * (K + s)) - 48 < 10 ∧ lt g (5 * (K + s) + 1) - 48 < 5 ∧ lt g (5 * (K + s) + 2) - 48 < 4 ∧ lt g (5 * (K + s) + 3) - 48 < 2
    have := l7 s hs
    omega
  · show (if s < m then s + 1 else 0) ≤ 10
    split <;> omega
  · show (if s < m then s + 1 else 0) = 0
    rw [if_neg (by omega)]
theorem DP_ln {g : Gs} {K m : Nat} : DP (gln g K m) := by
  intro a b
  show (if a < m then a + 1 else 0) = (if b < m then b + 1 else 0) → (if a < m then a + 1 else 0) ≠ 0 → a = b
  intro e z
  by_cases ca : a < m
  · rw [if_pos ca] at e
    by_cases cb : b < m
    · rw [if_pos cb] at e; omega
    · rw [if_neg cb] at e; omega
  · rw [if_neg ca] at z
    exact absurd rfl z
/-! the class reads -/
theorem s_P_digitOf (d : Nat) {h : Hp} {g : Gs} (hR : RP h g) (hP : PB g) {q j : Nat} (hq2 : q < 16) (hj : j < 4) (hc : 5 * q + j < g 16 0 → 48 ≤ lt g (5 * q + j)) {Kk : Int32 → Hp → Prop} (hq : Kk (nI (lt g (5 * q + j) - 48)) h) : Ev mtb shp (d + 1) m_P_digitOf [.ref 1, .int (nI q), .int (nI j)] h (qI Kk) := by
  have hP1 := hP.1
  refine e_P_digitOf d _ _ h _ ?_
  have e : nI q * 5 + nI j = nI (5 * q + j) := by rw [show (5 : Int32) = nI 5 from rfl, pk_mul, nI_add, Nat.mul_comm]
  rw [hR.1, e, nI_clamp (by omega)]
  refine pk_le (g 16 0) (5 * q + j) (fun c => ?_) (fun c => ⟨vp_in_nI (by omega) (by decide), ?_⟩)
  · rw [show lt g (5 * q + j) = 0 from if_neg (by omega)] at hq
    exact hq
  · have hl : lt g (5 * q + j) = g 15 (5 * q + j) := if_pos c
    rw [hR.2 _ c, ← hl, show nI (lt g (5 * q + j)) - 48 = nI (lt g (5 * q + j) - 48) from pk_sub (b := 48) (hc c)]
    exact hq
theorem s_P_kindOf (d : Nat) {h : Hp} {g : Gs} (hR : RP h g) (hP : PB g) {q : Nat} (hc : 5 * q < g 16 0) {Kk : Int32 → Hp → Prop} (hq : Kk (pI (kx (lt g (5 * q)))) h) : Ev mtb shp (d + 5) m_P_kindOf [.ref 1, .int (nI q)] h (qI Kk) := by
  have hP1 := hP.1
  refine e_P_kindOf (d + 4) _ h _ ?_
  have e : nI q * 5 = nI (5 * q) := by rw [show (5 : Int32) = nI 5 from rfl, pk_mul, Nat.mul_comm]
  rw [hR.1, e, nI_clamp (by omega)]
  refine pk_le (g 16 0) (5 * q) (fun z => by omega) (fun c => ⟨vp_in_nI (by omega) (by decide), ?_⟩)
  have hl : lt g (5 * q) = g 15 (5 * q) := if_pos c
  have hl2 := lt_lt hP (5 * q)
  rw [hR.2 _ c, ← hl, i2c_s hl2]
  exact s_J_ix1 d hl2 hq
theorem mx_k : ∀ n, n < 6 → n ≠ 0 → mx (pI n) 0 = nI (n - 1) := by decide +kernel
theorem mn_4 : ∀ n, n ≤ 4 → mn (nI n) 4 = nI n := by decide +kernel
theorem mn_6 : ∀ n, n ≤ 6 → mn (nI n) 6 = nI n := by decide +kernel
