/-! what is asked of a king, of a stocking, of all: the class's and the reference's answers -/
theorem pI_nI {n : Nat} (h : n ≠ 0) : pI n = nI (n - 1) := by rw [← sub1, Nat.sub_add_cancel (by omega)]
def aB (g : Gs) (k : Nat) : Int32 := if bpf g k 15 = 0 then -1 else nI (Wp g k (bpf g k 15 - 1))
def aK (m : Nat) (g : Gs) (k : Nat) : Nat → Int32
  | 0 => nI (g 0 k)
  | 1 => nI (g 1 k)
  | 2 => nI (g 2 k)
  | 3 => nI (g 3 k)
  | 4 => nI (bits m (may g k))
  | 5 => nI (cnt 15 (prq g k))
  | 6 => pI (bpf g k 15)
  | 7 => aB g k
  | 8 => nI (cal g k)
  | _ => pI (tof m g k)
theorem s_X_wrongOfBest (d : Nat) {h : Hp} {K m : Nat} {g : Gs} (hC : RC h K g) (hR : RR8 h m g) (hB : GB K m g) {k : Nat} (hk : k < K) {Kk : Int32 → Hp → Prop} (hq : Kk (aB g k) h) : Ev mtb shp (d + 5) m_X_wrongOfBest [.ref 0, .int (nI k)] h (qI Kk) := by
  have hbo := bpf_ok g k 15 (by omega)
  unfold aB at hq
  refine e_X_wrongOfBest (d + 4) _ h _ (s_C_bestPair d hC hR hB hk (pI_bn (by rcases hbo with z | z <;> omega) (fun e => ?_) (fun e => ?_)))
  · obtain ⟨q1, q2⟩ := hbo.resolve_left e
    obtain ⟨u3, u4⟩ := pr_lt hB q2
    rw [pI_nI e]
    rw [if_neg e] at hq
    exact s_C_wrongnessOfPair (d + 2) hC hR hB hk (by omega) u3 u4 hq
  · rw [if_pos e] at hq
    exact hq
theorem s_X_kingK (d : Nat) {h : Hp} {K m : Nat} {g : Gs} (hC : RC h K g) (hR : RR8 h m g) (hN : RN h g) (hB : GB K m g) (hNB : NB K m g) {k w : Nat} (hk : k < K) (hw : w < 10) {Kk : Int32 → Hp → Prop} (hq : Kk (aK m g k w) h) : Ev mtb shp (d + 6) m_X_king [.ref 0, .int (nI k), .int (nI w)] h (qI Kk) := by
  have hK4 := hB.1
  have v4 := vp_in_nI (show k < 4 by omega) (by decide)
  refine e_X_king (d + 5) _ _ h _ (s_X_noKing (d + 4) hC (by omega) _ ?_)
  rw [inR_nI (by omega), decide_eq_true hk, nI_clamp (show k < 2 ^ 31 by omega), (hC.2 k hk).1, (hC.2 k hk).2.1, (hC.2 k hk).2.2.1, (hC.2 k hk).2.2.2]
  refine ⟨fun _ => ?_, fun z => absurd rfl z⟩
  refine pk_eq w 0 (fun e => ⟨v4, by rw [e] at hq; exact hq⟩) (fun e0 => pk_eq w 1 (fun e => ⟨v4, by rw [e] at hq; exact hq⟩) (fun e1 => pk_eq w 2 (fun e => ⟨v4, by rw [e] at hq; exact hq⟩) (fun e2 => pk_eq w 3 (fun e => ⟨v4, by rw [e] at hq; exact hq⟩) (fun e3 => ?_))))
  refine pk_eq w 4 (fun e => s_C_mayBeHis (d + 3) hC hR hB hk (by rw [e] at hq; exact hq)) (fun e4 => pk_eq w 5 (fun e => s_C_pairsOf (d + 1) hC hR hB hk (by rw [e] at hq; exact hq)) (fun e5 => pk_eq w 6 (fun e => s_C_bestPair (d + 1) hC hR hB hk (by rw [e] at hq; exact hq)) (fun e6 => ?_)))
  refine pk_eq w 7 (fun e => s_X_wrongOfBest d hC hR hB hk (by rw [e] at hq; exact hq)) (fun e7 => pk_eq w 8 (fun e => s_X_calvesOf (d + 2) hC hR hB hN hNB hk (by rw [e] at hq; exact hq)) (fun e8 => pk_eq w 9 (fun e => s_X_bestToTry (d + 1) hC hR hB hN hNB hk (by rw [e] at hq; exact hq)) (fun e9 => by omega)))
theorem s_M_kingNow (d : Nat) {h : Hp} {K m : Nat} {g : Gs} (hM : RM h K m g) (hN : RO h g) (hB : GB K m g) (hNB : NB K m g) {k w : Nat} (hk : k < K) (hw : w < 10) {Kk : Int32 → Hp → Prop} (hq : Kk (aK m g k w) h) : Ev mtb shp (d + 7) m_M_kingNow [.ref 46, .int (nI k), .int (nI w)] h (qI Kk) := by
  have hK4 := hB.1
  have v4 := vp_in_nI (show k < 4 by omega) (by decide)
  have hc := hM.2.2.1 k hk
  refine e_M_kingNow (d + 6) _ _ h _ ?_
  rw [nI_clamp (show k < 2 ^ 31 by omega), hc.1, hc.2.1, hc.2.2.1, hc.2.2.2]
  refine pk_eq w 0 (fun e => ⟨v4, by rw [e] at hq; exact hq⟩) (fun e0 => pk_eq w 1 (fun e => ⟨v4, by rw [e] at hq; exact hq⟩) (fun e1 => pk_eq w 2 (fun e => ⟨v4, by rw [e] at hq; exact hq⟩) (fun e2 => pk_eq w 3 (fun e => ⟨v4, by rw [e] at hq; exact hq⟩) (fun e3 => ?_))))
  refine pk_eq w 4 (fun e => s_M_mayBits (d + 2) hM hB hk (by rw [e] at hq; exact hq)) (fun e4 => pk_eq w 5 (fun e => s_M_pairsOf (d + 1) hM hB hk (by rw [e] at hq; exact hq)) (fun e5 => pk_eq w 6 (fun e => s_M_leastPair (d + 1) hM hB hk (by rw [e] at hq; exact hq)) (fun e6 => ?_)))
  refine pk_eq w 7 (fun e => ?_) (fun e7 => pk_eq w 8 (fun e => s_M_calvesOf (d + 1) hM hB hN hNB hk (by rw [e] at hq; exact hq)) (fun e8 => s_M_tryOf d hM hB hN hNB hk (by rw [show w = 9 by omega] at hq; exact hq)))
  rw [e] at hq
  have hq : Kk (aB g k) h := hq
  have hbo := bpf_ok g k 15 (by omega)
  have hb31 : bpf g k 15 < 2 ^ 31 := by rcases hbo with z | z <;> omega
  unfold aB at hq
  refine s_M_leastPair (d + 1) hM hB hk (pI_bn hb31 (fun e => s_M_leastPair (d + 1) hM hB hk ?_) (fun e => ?_))
  · obtain ⟨q1, q2⟩ := hbo.resolve_left e
    obtain ⟨u3, u4⟩ := pr_lt hB q2
    rw [pI_nI e]
    rw [if_neg e] at hq
    exact s_M_wrongOfPair (d + 3) hM hB hk (by omega) u3 u4 hq
  · rw [if_pos e] at hq
    exact hq
def aSt9 (K m : Nat) (g : Gs) (s : Nat) : Nat → Int32
  | 0 => nI (g 4 s)
  | 1 => nI (g 5 s)
  | 2 => nI (g 6 s)
  | 3 => nI (g 7 s)
  | 4 => pI (g 8 s)
  | 5 => nI (bits K (fun k => may g k s))
  | 6 => nI (nr g s K)
  | _ => nI (bits m (mtq g s))
theorem s_X_stockingK (d : Nat) {h : Hp} {K m : Nat} {g : Gs} (hC : RC h K g) (hR : RR8 h m g) (hB : GB K m g) (hK : 0 < K) {s w : Nat} (hs : s < m) (hw : w < 8) {Kk : Int32 → Hp → Prop} (hq : Kk (aSt9 K m g s w) h) : Ev mtb shp (d + 4) m_X_stocking [.ref 0, .int (nI s), .int (nI w)] h (qI Kk) := by
  have hm6 := hB.2.1
  have v6 := vp_in_nI (show s < 6 by omega) (by decide)
  refine e_X_stocking (d + 3) _ _ h _ (s_X_noStocking (d + 2) hR (by omega) _ ?_)
  rw [inR_nI (by omega), decide_eq_true hs, nI_clamp (show s < 2 ^ 31 by omega), (hR.2.1 s hs).1, (hR.2.1 s hs).2.1, (hR.2.1 s hs).2.2.1, (hR.2.1 s hs).2.2.2, hR.2.2 s (by omega)]
  refine ⟨fun _ => ?_, fun z => absurd rfl z⟩
  refine pk_eq w 0 (fun e => ⟨v6, by rw [e] at hq; exact hq⟩) (fun e0 => pk_eq w 1 (fun e => ⟨v6, by rw [e] at hq; exact hq⟩) (fun e1 => pk_eq w 2 (fun e => ⟨v6, by rw [e] at hq; exact hq⟩) (fun e2 => pk_eq w 3 (fun e => ⟨v6, by rw [e] at hq; exact hq⟩) (fun e3 => pk_eq w 4 (fun e => ⟨v6, by rw [e] at hq; exact hq⟩) (fun e4 => ?_)))))
  refine pk_eq w 5 (fun e => s_C_whoseMayBe d hC hR hB hs (by rw [e] at hq; exact hq)) (fun e5 => pk_eq w 6 (fun e => s_C_leastWrongFor d hC hR hB hK hs (by rw [e] at hq; exact hq)) (fun e6 => pk_eq w 7 (fun e => s_R_matesOf d hR hB hs (by rw [e] at hq; exact hq)) (fun e7 => by omega)))
theorem s_M_stockingNow (d : Nat) {h : Hp} {K m : Nat} {g : Gs} (hM : RM h K m g) (hB : GB K m g) (hK : 0 < K) {s w : Nat} (hs : s < m) (hw : w < 8) {Kk : Int32 → Hp → Prop} (hq : Kk (aSt9 K m g s w) h) : Ev mtb shp (d + 5) m_M_stockingNow [.ref 46, .int (nI s), .int (nI w)] h (qI Kk) := by
  have hm6 := hB.2.1
  have v6 := vp_in_nI (show s < 6 by omega) (by decide)
  have hc := hM.2.2.2 s hs
  refine e_M_stockingNow (d + 4) _ _ h _ ?_
  rw [nI_clamp (show s < 2 ^ 31 by omega), hc.1, hc.2.1, hc.2.2.1, hc.2.2.2.1, hc.2.2.2.2]
  refine pk_eq w 0 (fun e => ⟨v6, by rw [e] at hq; exact hq⟩) (fun e0 => pk_eq w 1 (fun e => ⟨v6, by rw [e] at hq; exact hq⟩) (fun e1 => pk_eq w 2 (fun e => ⟨v6, by rw [e] at hq; exact hq⟩) (fun e2 => pk_eq w 3 (fun e => ⟨v6, by rw [e] at hq; exact hq⟩) (fun e3 => pk_eq w 4 (fun e => ⟨v6, by rw [e] at hq; exact hq⟩) (fun e4 => ?_)))))
  refine pk_eq w 5 (fun e => s_M_whoseBits d hM hB hs (by rw [e] at hq; exact hq)) (fun e5 => pk_eq w 6 (fun e => s_M_nearest (d + 1) hM hB hK hs (by rw [e] at hq; exact hq)) (fun e6 => s_M_matchBits (d + 1) hM hB hs (by rw [show w = 7 by omega] at hq; exact hq)))
theorem s_X_wrongK (d : Nat) {h : Hp} {K m : Nat} {g : Gs} (hC : RC h K g) (hR : RR8 h m g) (hB : GB K m g) {k s : Nat} (hk : k < K) (hs : s < m) {Kk : Int32 → Hp → Prop} (hq : Kk (nI (Wg g k s)) h) : Ev mtb shp (d + 3) m_X_wrong [.ref 0, .int (nI k), .int (nI s)] h (qI Kk) := by
  have hK4 := hB.1
  have hm6 := hB.2.1
  refine e_X_wrong (d + 2) _ _ h _ (s_X_noKing (d + 1) hC (by omega) _ ?_)
  rw [inR_nI (by omega), decide_eq_true hk]
  refine ⟨fun z => absurd rfl z, fun _ => s_X_noStocking (d + 1) hR (by omega) _ ?_⟩
  rw [inR_nI (by omega), decide_eq_true hs]
  exact ⟨fun _ => s_C_wrongness d hC hR hB hk hs hq, fun z => absurd rfl z⟩
/-- the throne -/
theorem mn2 : ∀ n, n < 11 → mn (nI n) 2 = nI (min n 2) := by decide +kernel
theorem s_X_throneK (d : Nat) {h : Hp} {K m : Nat} {g : Gs} (hC : RC h K g) (hR : RR8 h m g) (hB : GB K m g) (hm0 : m ≠ 0) {w : Nat} (hw : w < 3) {Kk : Int32 → Hp → Prop} (hq : Kk (aT K g w) h) : Ev mtb shp (d + 6) m_X_throne [.ref 0, .int (nI w)] h (qI Kk) := by
  have hm6 := hB.2.1
  have hK4 := hB.1
  have hb : bits K (hp g) < 1024 := Nat.lt_of_lt_of_le (bits_lt _ _) (show 2 ^ K ≤ 2 ^ 10 from Nat.pow_le_pow_right (by decide) (by omega))
  have hp10 := popc_le (bits K (hp g))
  unfold aT at hq
  refine e_X_throne (d + 5) _ h _ ⟨fun z => absurd z (nI_pos (by omega)), fun _ => pk_le w 2 (fun _ => s_X_noLine (d + 4) hR (by omega) ?_) (fun z => by omega)⟩
  rw [decide_eq_false hm0]
  refine ⟨fun _ => s_C_heirs d hC hR hB ?_, fun z => absurd rfl z⟩
  refine pk_ne w 2 (fun e2 => s_bitCount (d + 4) hb (pk_ne w 0 (fun e0 => ?_) (fun e0 => ?_))) (fun e2 => ?_)
  · rw [if_neg e0, if_neg e2] at hq
    refine pk_ne (popc (bits K (hp g))) 1 (fun c => ?_) (fun c => s_C_firstOf (d + 3) hC hK4 (by omega) ?_)
    · rw [if_neg c] at hq; exact hq
    · rw [if_pos c, fst_ext (m := K) (fun i hi => by rw [bits_bit, decide_eq_false (by omega), Bool.false_and]) hK4] at hq
      exact hq
  · rw [if_pos e0] at hq
    rw [mn2 _ (by omega)]
    exact hq
  · rw [if_neg (by omega), if_pos e2] at hq; exact hq
theorem s_X_chanceK (d : Nat) {h : Hp} {K m : Nat} {g : Gs} (hC : RC h K g) (hR : RR8 h m g) (hB : GB K m g) {k w : Nat} (hk : k < K) (hw : w < 2) {Kk : Int32 → Hp → Prop} (hq : Kk (aC m g k w) h) : Ev mtb shp (d + 5) m_X_chance [.ref 0, .int (nI k), .int (nI w)] h (qI Kk) := by
  have hm6 := hB.2.1
  have hK4 := hB.1
  have hb : bits m (hg g) < 1024 := Nat.lt_of_lt_of_le (bits_lt _ _) (show 2 ^ m ≤ 2 ^ 10 from Nat.pow_le_pow_right (by decide) (by omega))
  have hn := cnt_le (hg g) m
  have hp15 := cnt_le (prq g k) 15
  unfold aC at hq
  refine e_X_chance (d + 4) _ _ h _ (s_X_noKing (d + 3) hC (by omega) _ ?_)
  rw [inR_nI (by omega), decide_eq_true hk]
  have main : w = 0 ∨ w = 1 → Ev mtb shp (d + 4) m_R_hanging [.ref 8] h (qI fun v4 h3 => Ev mtb shp (d + 4) m_J_bitCount [.int v4] h3 (qI fun v6 h5 => (2 ≤ v6 → Ev mtb shp (d + 4) m_C_pairsOf [.ref 3, .int (nI k), .ref 8] h5 (qI fun v8 h7 => ¬ (2 : Int32) = 0 ∧ ((¬ nI w = 0 → Ev mtb shp (d + 4) m_X_commonDivisor [.int v8, .int ((v6 * (v6 - 1)) / 2)] h7 (qI fun v10 h9 => ¬ (v10 : Int32) = 0 ∧ (Kk (((v6 * (v6 - 1)) / 2) / v10) h9))) ∧ (nI w = 0 → Ev mtb shp (d + 4) m_X_commonDivisor [.int v8, .int ((v6 * (v6 - 1)) / 2)] h7 (qI fun v12 h11 => ¬ (v12 : Int32) = 0 ∧ (Kk (v8 / v12) h11)))))) ∧ (¬ 2 ≤ v6 → (¬ nI w = 0 → Kk 1 h5) ∧ (nI w = 0 → Kk 0 h5)))) := by
    intro hw2
    refine s_R_hanging (d + 2) hR hB (s_bitCount (d + 3) hb ?_)
    rw [popc_bits (by omega)]
    refine pk_le 2 (cnt m (hg g)) (fun c => s_C_pairsOf d hC hR hB hk ⟨by decide, ?_⟩) (fun c => ?_)
    · rw [if_neg (by omega)] at hq
      have e1 : nI (cnt m (hg g)) - 1 = nI (cnt m (hg g) - 1) := pk_sub (b := 1) (by omega)
      have hlt : cnt m (hg g) * (cnt m (hg g) - 1) ≤ 6 * 5 := Nat.mul_le_mul (by omega) (by omega)
      have hge : 2 * 1 ≤ cnt m (hg g) * (cnt m (hg g) - 1) := Nat.mul_le_mul c (by omega)
      rw [e1, pk_mul, show nI (cnt m (hg g) * (cnt m (hg g) - 1)) / 2 = nI (cnt m (hg g) * (cnt m (hg g) - 1) / 2) from pk_div (d := 2) (by omega) (by decide) (by decide)]
      have hgp : 0 < Nat.gcd (cnt 15 (prq g k)) (cnt m (hg g) * (cnt m (hg g) - 1) / 2) := Nat.gcd_pos_of_pos_right _ (by omega)
      have hgl : Nat.gcd (cnt 15 (prq g k)) (cnt m (hg g) * (cnt m (hg g) - 1) / 2) ≤ cnt m (hg g) * (cnt m (hg g) - 1) / 2 := Nat.gcd_le_right _ (by omega)
      have hnz : ¬ nI (Nat.gcd (cnt 15 (prq g k)) (cnt m (hg g) * (cnt m (hg g) - 1) / 2)) = 0 := fun z => by
        have := (nI_eq (b := 0) (by omega) (by decide)).mp z
        omega
      refine pk_ne w 0 (fun e => s_X_commonDivisor (d + 3) (by omega) (by omega) (by omega) ⟨hnz, ?_⟩) (fun e => s_X_commonDivisor (d + 3) (by omega) (by omega) (by omega) ⟨hnz, ?_⟩)
      · rw [if_neg e] at hq
        rw [pk_div (by omega) (by omega) (by omega)]
        exact hq
      · rw [if_pos e] at hq
        rw [pk_div (by omega) (by omega) (by omega)]
        exact hq
    · rw [if_pos c] at hq
      refine pk_ne w 0 (fun e => ?_) (fun e => ?_)
      · rw [show w = 1 by omega] at hq; exact hq
      · rw [e] at hq; exact hq
  exact ⟨fun _ => pk_eq w 0 (fun e => main (Or.inl e)) (fun e => pk_eq w 1 (fun e1 => main (Or.inr e1)) (fun e1 => by omega)), fun z => absurd rfl z⟩
theorem s_X_dogK (d : Nat) {h : Hp} {K m : Nat} {g : Gs} (hC : RC h K g) (hR : RR8 h m g) (hB : GB K m g) (hm0 : m ≠ 0) {w : Nat} (hw : w < 2) {Kk : Int32 → Hp → Prop} (hq : ∀ h', SC h h' → Kk (aD K m g w) h') : Ev mtb shp (d + 4) m_X_dog [.ref 0, .int (nI w)] h (qI Kk) := by
  have hm6 := hB.2.1
  have hK4 := hB.1
  have hb := bits_lt (hg g) m
  have h64 : 2 ^ m ≤ 64 := show 2 ^ m ≤ 2 ^ 6 from Nat.pow_le_pow_right (by decide) hm6
  have hBm : ∀ k, Bm m g k < 64 := fun k => Nat.lt_of_lt_of_le (bits_lt _ _) h64
  unfold aD at hq
  have main : Ev mtb shp (d + 3) m_X_noLine [.ref 0] h (qI fun v2 h1 => (v2 = 0 → Ev mtb shp (d + 3) m_R_hanging [.ref 8] h1 (qI fun v4 h3 => Ev mtb shp (d + 3) m_D_learn [.ref 42, .ref 3, .ref 8] h3 (qV fun h5 => (¬ nI w = 0 → Ev mtb shp (d + 3) m_D_firstKing [.ref 42, .int v4] h5 (qI fun v7 h6 => Kk v7 h6)) ∧ (nI w = 0 → vp_in v4 64 ∧ (Kk (h5.1 43 v4.toNatClampNeg) h5))))) ∧ (¬ v2 = 0 → Kk (-103) h1)) := by
    refine s_X_noLine (d + 2) hR (by omega) ?_
    rw [decide_eq_false hm0]
    refine ⟨fun _ => s_R_hanging (d + 1) hR hB (s_D_learn d hC hR hB (fun h' sc kd => ?_)), fun z => absurd rfl z⟩
    have hq := hq h' sc
    refine pk_ne w 0 (fun e => s_D_firstKing (d + 1) hBm hK4 hb hm6 kd ?_) (fun e => ⟨vp_in_nI (by omega) (by decide), ?_⟩)
    · rw [if_neg e] at hq; exact hq
    · rw [if_pos e] at hq
      rw [nI_clamp (by omega), kd.2.2 _ hb]
      exact hq
  exact e_X_dog (d + 3) _ h _ (pk_eq w 0 (fun e => main) (fun e => pk_eq w 1 (fun e1 => main) (fun e1 => by omega)))
theorem s_X_windsK (d : Nat) {h : Hp} {K m : Nat} {g : Gs} (hR : RR8 h m g) (hB : GB K m g) (hN : RN h g) (hNB : NB K m g) (hm0 : m ≠ 0) {w : Nat} (hw : w < 4) {Kk : Int32 → Hp → Prop} (hq : Kk (aW m g w) h) : Ev mtb shp (d + 6) m_X_winds [.ref 0, .int (nI w)] h (qI Kk) := by
  have hm6 := hB.2.1
  unfold aW at hq
  refine e_X_winds (d + 5) _ h _ ⟨fun z => absurd z (nI_pos (by omega)), fun _ => pk_le w 3 (fun _ => s_X_noLine (d + 4) hR (by omega) ?_) (fun z => by omega)⟩
  rw [decide_eq_false hm0]
  refine ⟨fun _ => ?_, fun z => absurd rfl z⟩
  refine pk_eq w 0 (fun e => s_X_countWinds (d + 1) hR hB hN hNB ?_) (fun e0 => pk_eq w 1 (fun e => s_X_leastWind (d + 1) hR hB hN hNB ?_) (fun e1 => pk_eq w 2 (fun e => s_X_greatestWind (d + 1) hR hB hN hNB ?_) (fun e2 => s_X_bestToAsk d hR hB hN hNB ?_)))
  · rw [if_pos e] at hq; exact hq
  · rw [if_neg e0, if_pos e] at hq; exact hq
  · rw [if_neg e0, if_neg e1, if_pos e] at hq; exact hq
  · rw [if_neg e0, if_neg e1, if_neg e2] at hq; exact hq
