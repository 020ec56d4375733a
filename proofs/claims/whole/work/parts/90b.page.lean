/-! the page: a whole line; the reference reads -/
/-- it is a line -/
def whl (c : Nat → Nat) (n : Nat) : Bool := decide (n % 5 = 4 ∧ er c n = n ∧ 0 < kp c n ∧ 2 ≤ (n + 1) / 5 - kp c n)
theorem er_le (c : Nat → Nat) (n : Nat) (h0 : c n = 0) : AF c (er c n) ∧ fit (kp c (er c n)) (er c n) (c (er c n)) = false ∧ er c n ≤ n := by
  have key : ∀ i, i ≤ n → AF c i → ∃ e, AF c e ∧ fit (kp c e) e (c e) = false ∧ e ≤ n := by
    intro i hi
    refine dn (T := fun i => AF c i → ∃ e, AF c e ∧ fit (kp c e) e (c e) = false ∧ e ≤ n) (m := n) (fun ha => ⟨n, ha, by rw [h0]; exact fit_0 _ _, Nat.le_refl n⟩) (fun i hi ih ha => ?_) i hi
    cases hf : fit (kp c i) i (c i)
    · exact ⟨i, ha, hf, by omega⟩
    · exact ih (AF_s ha hf)
  obtain ⟨e, h1, h2, h3⟩ := key 0 (Nat.zero_le n) (fun j hj => absurd hj (Nat.not_lt_zero j))
  rw [er_eq h1 h2 h3]
  exact ⟨h1, h2, h3⟩
theorem s_P_items (d : Nat) {h : Hp} {g : Gs} (hR : RP h g) (hP : PB g) {Kk : Int32 → Hp → Prop} (hq : Kk (nI ((g 16 0 + 1) / 5)) h) : Ev mtb shp (d + 1) m_P_items [.ref 1] h (qI Kk) := by
  have := hP.1
  refine e_P_items d h _ ⟨by decide, ?_⟩
  rw [hR.1, nI_s, show nI (g 16 0 + 1) / 5 = nI ((g 16 0 + 1) / 5) from pk_div (d := 5) (by omega) (by decide) (by decide)]
  exact hq
/-- of the letters that stand behind an item, 59 only there, so: as far as item q -/
theorem kp_col {c : Nat → Nat} {n q : Nat} (ha : AF c n) (h : 5 * q ≤ n) (h2 : n ≤ 5 * q + 4) : kp c n = kp c (5 * q) := by
  have : ∀ t, t ≤ 4 → 5 * q + t ≤ n → kp c (5 * q + t) = kp c (5 * q) := by
    intro t
    induction t with
    | zero => intro _ _; rfl
    | succ t ih =>
      intro h4 hn
      have hf := ha (5 * q + t) (by omega)
      rw [show 5 * q + (t + 1) = (5 * q + t) + 1 by omega, kp_keep hf (by omega)]
      exact ih (by omega) (by omega)
  have := this (n - 5 * q) (by omega) (by omega)
  rw [show 5 * q + (n - 5 * q) = n by omega] at this
  exact this
theorem s_P_kingsOfLine (d : Nat) {h : Hp} {g : Gs} (hR : RP h g) (hP : PB g) {Kk : Int32 → Hp → Prop} (hq : Kk (nI (bif whl (lt g) (g 16 0) then kp (lt g) (g 16 0) else 0)) h) : Ev mtb shp (d + 8) m_P_kingsOfLine [.ref 1] h (qI Kk) := by
  obtain ⟨hP1, hP2⟩ := id hP
  obtain ⟨e1, e2, e3⟩ := er_le (lt g) (g 16 0) (lt_n g)
  refine e_P_kingsOfLine (d + 7) h _ ⟨by decide, ?_⟩
  rw [hR.1, show nI (g 16 0) - nI (g 16 0) / 5 * 5 = nI (g 16 0 % 5) from pk_rem (d := 5) (by omega) (by decide) (by decide)]
  unfold whl at hq
  refine pk_ne (g 16 0 % 5) 4 (fun c => ?_) (fun c => s_P_firstFault d hR hP ?_)
  · rw [decide_eq_false (fun z => c z.1)] at hq
    exact hq
  · rw [hR.1]
    refine pk_eq (er (lt g) (g 16 0)) (g 16 0) (fun c2 => ?_) (fun c2 => ?_)
    · rw [c2] at e1
      have hkl := kp_le e1
      refine dn (T := fun q => PP (Ev mtb shp (d + 7)) shp cd_P_kingsOfLine 1 (qI Kk) 27 [.ref 1, .int (nI (kp (lt g) (5 * q))), .int (nI (5 * q + 4))] [] h) (m := g 16 0 / 5) ?_ (fun q hq2 ih => ?_) 0 (Nat.zero_le _)
      · refine p_P_kingsOfLine_27 (d + 7) _ _ h _ ?_
        rw [hR.1, show 5 * (g 16 0 / 5) + 4 = g 16 0 by omega, ← kp_col e1 (q := g 16 0 / 5) (by omega) (by omega)]
        refine lpE (pk_le (kp (lt g) (g 16 0)) 0 (fun z => ?_) (fun z => s_P_items (d + 6) hR hP ?_))
        · rw [decide_eq_false (by omega)] at hq
          exact hq
        · rw [pk_sub (by omega)]
          refine pk_lt ((g 16 0 + 1) / 5 - kp (lt g) (g 16 0)) 2 (fun y => ?_) (fun y => ?_)
          · rw [decide_eq_false (by omega)] at hq; exact hq
          · rw [decide_eq_true ⟨c, c2, z, y⟩] at hq; exact hq
      · have hlt : 5 * q + 4 < g 16 0 := by omega
        have hl : lt g (5 * q + 4) = g 15 (5 * q + 4) := if_pos hlt
        have hl2 := lt_lt hP (5 * q + 4)
        refine p_P_kingsOfLine_27 (d + 7) _ _ h _ ?_
        rw [hR.1, nI_clamp (show 5 * q + 4 < 2 ^ 31 by omega), hR.2 _ hlt, ← hl, show nI (5 * q + 4) + 5 = nI (5 * (q + 1) + 4) from by rw [show (5 : Int32) = nI 5 from rfl, nI_add, show 5 * q + 4 + 5 = 5 * (q + 1) + 4 by omega], show nI (5 * q + 4) / 5 = nI ((5 * q + 4) / 5) from pk_div (d := 5) (by omega) (by decide) (by decide), nI_s]
        have hk : kp (lt g) (5 * (q + 1)) = if lt g (5 * q + 4) = 59 then (5 * q + 4) / 5 + 1 else kp (lt g) (5 * q) := by
          rw [show 5 * (q + 1) = (5 * q + 4) + 1 by omega, kp, kp_col (AF_le e1 (show 5 * q + 4 ≤ g 16 0 by omega)) (q := q) (by omega) (by omega)]
        rw [hk] at ih
        refine lpS hlt (by omega) ⟨vp_in_nI (show 5 * q + 4 < 52 by omega) (by decide), pk_ne (lt g (5 * q + 4)) 59 (fun z => ?_) (fun z => ⟨by decide, ?_⟩)⟩
        · rw [if_neg z] at ih; exact ih
        · rw [if_pos z] at ih; exact ih
    · rw [decide_eq_false (fun z => c2 z.2.1)] at hq
      exact hq
theorem s_M_kindBy (d : Nat) {h : Hp} {c : Nat} (hc : c < 128) {Kk : Int32 → Hp → Prop} (hq : Kk (pI (kx c)) h) : Ev mtb shp (d + 1) m_M_kindBy [.int (nI c)] h (qI Kk) := by
  unfold kx at hq
  refine e_M_kindBy d _ h _ (pk_eq c 98 (fun e => ?_) (fun e => pk_eq c 107 (fun e1 => ?_) (fun e1 => pk_eq c 108 (fun e2 => ?_) (fun e2 => pk_eq c 114 (fun e3 => ?_) (fun e3 => pk_eq c 121 (fun e4 => ?_) (fun e4 => ?_))))))
  · rw [e] at hq; exact hq
  · rw [e1] at hq; exact hq
  · rw [e2] at hq; exact hq
  · rw [e3] at hq; exact hq
  · rw [e4] at hq; exact hq
  · rw [if_neg e1, if_neg e2, if_neg e4, if_neg e, if_neg e3] at hq; exact hq
theorem s_M_at (d : Nat) {h : Hp} {g : Gs} (hR : RQ h g) (hP : PB g) {k : Nat} (hk : k < 2 ^ 31) {Kk : Int32 → Hp → Prop} (hq : Kk (nI (lt g k)) h) : Ev mtb shp (d + 1) m_M_at [.ref 46, .int (nI k)] h (qI Kk) := by
  have hP1 := hP.1
  refine e_M_at d _ h _ ?_
  rw [hR.1]
  unfold lt at hq
  refine pk_le (g 16 0) k (fun c => ?_) (fun c => ⟨vp_in_nI (show k < 52 by omega) (by decide), ?_⟩)
  · rw [if_neg (by omega)] at hq; exact hq
  · rw [nI_clamp hk, hR.2 k c]
    rw [if_pos c] at hq; exact hq
theorem s_M_isFigure (d : Nat) {h : Hp} {g : Gs} (hR : RQ h g) (hP : PB g) {k most : Nat} (hk : k < 2 ^ 31) (hm : most < 10) {Kk : Int32 → Hp → Prop} (hq : Kk (bz (dgt (48 + most) (lt g k))) h) : Ev mtb shp (d + 2) m_M_isFigure [.ref 46, .int (nI k), .int (nI most)] h (qI Kk) := by
  have hl := lt_lt hP k
  refine e_M_isFigure (d + 1) _ _ h _ (s_M_at d hR hP hk (s_M_withinB d _ _ _ ⟨bz_nar _, ?_⟩))
  rw [show (0 : Int32).toInt = 0 from rfl, nI_toInt (by omega), show (nI (lt g k) - 48).toInt = (lt g k : Int) - 48 from pk_sub_toInt (b := 48) (by omega) (by decide)]
  unfold dgt at hq
  rw [show decide ((0 : Int) ≤ (lt g k : Int) - 48 ∧ (lt g k : Int) - 48 ≤ (most : Int)) = decide (48 ≤ lt g k ∧ lt g k ≤ 48 + most) from decide_eq_decide.mpr (by omega)]
  exact hq
/-- where three figures end -/
def r3 (c : Nat → Nat) (k : Nat) : Nat := bif dgt 57 (c k) then (bif dgt 52 (c (k + 1)) then (bif dgt 51 (c (k + 2)) then k + 3 else k + 2) else k + 1) else k
theorem s_M_readThree (d : Nat) {h : Hp} {g : Gs} (hR : RQ h g) (hP : PB g) {k : Nat} (hk : k < 2 ^ 30) {Kk : Int32 → Hp → Prop} (hq : Kk (nI (r3 (lt g) k)) h) : Ev mtb shp (d + 3) m_M_readThree [.ref 46, .int (nI k)] h (qI Kk) := by
  refine e_M_readThree (d + 2) _ h _ ?_
  rw [nI_s, show nI k + 2 = nI (k + 2) from nI_add k 2, show nI k + 3 = nI (k + 3) from nI_add k 3]
  unfold r3 at hq
  refine s_M_isFigure (most := 9) d hR hP (by omega) (by decide) (bz_bn (fun c => s_M_isFigure (most := 4) d hR hP (by omega) (by decide) (bz_bn (fun c2 => s_M_isFigure (most := 3) d hR hP (by omega) (by decide) (bz_bn (fun c3 => ?_) (fun c3 => ?_))) (fun c2 => ?_))) (fun c => ?_))
  · rw [show dgt 57 (lt g k) = true from c, show dgt 52 (lt g (k + 1)) = true from c2, show dgt 51 (lt g (k + 2)) = true from c3] at hq; exact hq
  · rw [show dgt 57 (lt g k) = true from c, show dgt 52 (lt g (k + 1)) = true from c2, show dgt 51 (lt g (k + 2)) = false from c3] at hq; exact hq
  · rw [show dgt 57 (lt g k) = true from c, show dgt 52 (lt g (k + 1)) = false from c2] at hq; exact hq
  · rw [show dgt 57 (lt g k) = false from c] at hq; exact hq
