/-! the page -/
/-- letters a to b -/
def dgt (hi c : Nat) : Bool := decide (48 ≤ c ∧ c ≤ hi)
/-- the kind of a letter, and one -/
def kx (c : Nat) : Nat := if c = 107 then 1 else if c = 108 then 2 else if c = 121 then 3 else if c = 98 then 4 else if c = 114 then 5 else 0
/-- whether letter c fits at place i, behind κ kings -/
def fit (κ i c : Nat) : Bool :=
  if i % 5 = 4 then (if κ = 0 then (if c = 44 then decide (i / 5 + 1 < 4) else (decide (c = 59) && decide (2 ≤ i / 5 + 1))) else (decide (c = 44) && decide (i / 5 - κ + 1 < 6)))
  else if κ = 0 then (if i % 5 = 0 then decide (kx c ≠ 0) else if i % 5 = 1 then dgt 57 c else if i % 5 = 2 then dgt 52 c else dgt 51 c)
  else (if i % 5 = 0 then dgt 57 c else if i % 5 = 1 then dgt 52 c else if i % 5 = 2 then dgt 51 c else dgt 49 c)
/-- how many kings, behind i letters -/
def kp (c : Nat → Nat) : Nat → Nat
  | 0 => 0
  | i + 1 => if c i = 59 then i / 5 + 1 else kp c i
def AF (c : Nat → Nat) (i : Nat) : Prop := ∀ j, j < i → fit (kp c j) j (c j) = true
theorem fit_0 (κ i : Nat) : fit κ i 0 = false := by
  unfold fit
  split
  · split <;> rfl
  · split
    · split
      · rfl
      · split
        · rfl
        · split <;> rfl
    · split
      · rfl
      · split
        · rfl
        · split <;> rfl
theorem fit_59 {κ i : Nat} (h : i % 5 ≠ 4) : fit κ i 59 = false := by
  unfold fit
  rw [if_neg h]
  split
  · split
    · rfl
    · split
      · rfl
      · split <;> rfl
  · split
    · rfl
    · split
      · rfl
      · split <;> rfl
theorem AF_s {c : Nat → Nat} {i : Nat} (h : AF c i) (hf : fit (kp c i) i (c i) = true) : AF c (i + 1) := by
  intro j hj
  by_cases e : j = i
  · rw [e]; exact hf
  · exact h j (by omega)
theorem AF_le {c : Nat → Nat} {i j : Nat} (h : AF c i) (hj : j ≤ i) : AF c j := fun k hk => h k (by omega)
theorem kp_keep {c : Nat → Nat} {i : Nat} (hf : fit (kp c i) i (c i) = true) (h5 : i % 5 ≠ 4) : kp c (i + 1) = kp c i := by
  rw [kp, if_neg]
  intro e
  rw [e, fit_59 h5] at hf
  cases hf
theorem kp_le {c : Nat → Nat} : ∀ {i}, AF c i → kp c i ≤ i / 5
  | 0, _ => Nat.zero_le _
  | i + 1, h => by
    have h1 := kp_le (AF_le h (Nat.le_succ i))
    rw [kp]
    split
    · rename_i e
      have h5 : i % 5 = 4 := by
        by_cases z : i % 5 = 4
        · exact z
        · have := h i (by omega)
          rw [e, fit_59 z] at this
          cases this
      omega
    · omega
/-- the first place that doesn't fit -/
def er (c : Nat → Nat) (n : Nat) : Nat := fst (fun i => !fit (kp c i) i (c i)) (n + 1) - 1
theorem er_eq {c : Nat → Nat} {n e : Nat} (h1 : AF c e) (h2 : fit (kp c e) e (c e) = false) (h3 : e ≤ n) : er c n = e := by
  unfold er
  rw [fst_i (p := fun i => !fit (kp c i) i (c i)) (i := e) (by show (!fit (kp c e) e (c e)) = true; rw [h2]; rfl) (fun j hj => by show (!fit (kp c j) j (c j)) = false; rw [h1 j hj]; rfl) (by omega), Nat.add_sub_cancel]
/-- the page's letters, none behind them -/
def lt (g : Gs) (i : Nat) : Nat := if i < g 16 0 then g 15 i else 0
theorem lt_n (g : Gs) : lt g (g 16 0) = 0 := if_neg (Nat.lt_irrefl _)
def PB (g : Gs) : Prop := g 16 0 ≤ 52 ∧ ∀ i, i < g 16 0 → 32 ≤ g 15 i ∧ g 15 i ≤ 126
theorem lt_lt {g : Gs} (hP : PB g) (i : Nat) : lt g i < 128 := by
  unfold lt
  split
  · rename_i e
    have := hP.2 i e
    omega
  · omega
def RP (h : Hp) (g : Gs) : Prop := h.1 1 1 = nI (g 16 0) ∧ ∀ i, i < g 16 0 → h.1 2 i = nI (g 15 i)
def RQ (h : Hp) (g : Gs) : Prop := h.1 46 22 = nI (g 16 0) ∧ ∀ i, i < g 16 0 → h.1 61 i = nI (g 15 i)
theorem s_P_isDigitTo (d : Nat) {h : Hp} {hi c : Nat} (hh : hi < 128) (hc : c < 128) {Kk : Int32 → Hp → Prop} (hq : Kk (bz (dgt hi c)) h) : Ev mtb shp (d + 1) m_P_isDigitTo [.int (nI hi), .int (nI c)] h (qI Kk) := by
  unfold dgt at hq
  refine e_P_isDigitTo d _ _ h _ (pk_lt c 48 (fun e => ⟨rfl, ?_⟩) (fun e => pk_lt hi c (fun e2 => ⟨rfl, ?_⟩) (fun e2 => ⟨rfl, ?_⟩)))
  · rw [decide_eq_false (by omega)] at hq; exact hq
  · rw [decide_eq_false (by omega)] at hq; exact hq
  · rw [decide_eq_true (by omega)] at hq; exact hq
theorem kl_ok : ∀ i, i < 5 → (sta 7).getD i 0 = nI ([107, 108, 121, 98, 114].getD i 0) := by decide +kernel
theorem i2b_s {c : Nat} (hc : c < 128) : (nI c).toInt8.toInt32 = nI c := lg_i2b_small (by rw [nI_toInt (by omega)]; omega) (by rw [nI_toInt (by omega)]; omega)
theorem i2c_s {c : Nat} (hc : c < 128) : ((nI c).toUInt32 % 65536).toInt32 = nI c := lg_i2c_word (by rw [nI_toInt (by omega)]; omega) (by rw [nI_toInt (by omega)]; omega)
theorem s_J_ix1 (d : Nat) {h : Hp} {c : Nat} (hc : c < 128) {Kk : Int32 → Hp → Prop} (hq : Kk (pI (kx c)) h) : Ev mtb shp (d + 4) m_J_ix1 [.ref 110, .int (nI c)] h (qI Kk) := by
  refine e_J_ix1 (d + 3) _ h _ (e_J_ix2 (d + 2) _ _ h _ (e_J_isLatin1 (d + 1) h _ ⟨fun z => absurd z (by decide), fun _ => ⟨fun z => absurd rfl z, fun _ => ⟨rfl, ⟨fun z => absurd z (by decide), fun _ => ?_⟩⟩⟩⟩))
  refine e_J_len (d + 1) h _ (e_J_coder d h _ ⟨fun z => absurd z (by decide), fun _ => ⟨rfl, ?_⟩⟩)
  refine e_J_Lix (d + 1) _ _ _ h _ (e_J_canE d _ h _ ⟨fun z => absurd z (nI_pos (by omega)), fun _ => pk_lt 255 c (fun z => by omega) (fun _ => ⟨rfl, ⟨fun _ => ⟨fun _ => ?_, fun z => absurd (by decide) z⟩, fun z => absurd z (by decide)⟩⟩)⟩)
  refine e_J_Lixc d _ _ _ h _ ?_
  rw [i2b_s hc]
  have st : ∀ (i : Nat) (x2 : Int32), i < 5 → (([107, 108, 121, 98, 114].getD i 0 ≠ c → PP (Ev mtb shp d) shp cd_J_Lixc 1 (qI Kk) 7 [.ref 107, .int (nI c), .int x2, .int (nI 5), .int (nI c), .int (nI (i + 1))] [] h) ∧ ([107, 108, 121, 98, 114].getD i 0 = c → Kk (nI i) h)) → PP (Ev mtb shp d) shp cd_J_Lixc 1 (qI Kk) 7 [.ref 107, .int (nI c), .int x2, .int (nI 5), .int (nI c), .int (nI i)] [] h := by
    intro i x2 hi H
    refine p_J_Lixc_7 d _ _ _ _ _ h _ (lpS hi (by decide) ⟨vp_in_nI hi (by decide), ?_⟩)
    rw [nI_clamp (show i < 2 ^ 31 by omega), kl_ok i hi, nI_s]
    refine pk_ne ([107, 108, 121, 98, 114].getD i 0) c H.1 H.2 (ha := ?_)
    rcases (show i = 0 ∨ i = 1 ∨ i = 2 ∨ i = 3 ∨ i = 4 by omega) with rfl | rfl | rfl | rfl | rfl <;> decide
  unfold kx at hq
  refine st 0 _ (by decide) ⟨fun n0 => st 1 _ (by decide) ⟨fun n1 => st 2 _ (by decide) ⟨fun n2 => st 3 _ (by decide) ⟨fun n3 => st 4 _ (by decide) ⟨fun n4 => ?_, fun e => ?_⟩, fun e => ?_⟩, fun e => ?_⟩, fun e => ?_⟩, fun e => ?_⟩
  · refine p_J_Lixc_7 d _ _ _ _ _ h _ (lpE (m := 5) ?_)
    rw [if_neg (fun z => n0 z.symm), if_neg (fun z => n1 z.symm), if_neg (fun z => n2 z.symm), if_neg (fun z => n3 z.symm), if_neg (fun z => n4 z.symm)] at hq
    exact hq
  · rw [← e] at hq; exact hq
  · rw [← e] at hq; exact hq
  · rw [← e] at hq; exact hq
  · rw [← e] at hq; exact hq
  · rw [← e] at hq; exact hq
theorem pI_ng {n : Nat} (hn : n < 2 ^ 31) {A B : Prop} (f : n = 0 → A) (t : n ≠ 0 → B) : (pI n < 0 → A) ∧ (¬ pI n < 0 → B) := by
  rw [lt0, pI_toInt hn]
  exact ⟨fun z => f (by omega), fun z => t (by omega)⟩
theorem kx_lt (c : Nat) : kx c ≤ 5 := by
  unfold kx
  split
  · decide
  · split
    · decide
    · split
      · decide
      · split
        · decide
        · split <;> decide
theorem s_P_fits (d : Nat) {h : Hp} {κ i c : Nat} (hκ : κ ≤ i / 5) (hi : i < 52) (hc : c < 128) {Kk : Int32 → Hp → Prop} (hq : Kk (bz (fit κ i c)) h) : Ev mtb shp (d + 6) m_P_fits [.int (nI i), .int (nI c), .int (nI κ)] h (qI Kk) := by
  refine e_P_fits (d + 5) _ _ _ h _ ⟨by decide, by decide, ?_⟩
  rw [show nI i - nI i / 5 * 5 = nI (i % 5) from pk_rem (d := 5) (by omega) (by decide) (by decide), show nI i / 5 = nI (i / 5) from pk_div (d := 5) (by omega) (by decide) (by decide), pk_sub hκ, nI_s]
  unfold fit at hq
  refine pk_ne (i % 5) 4 (fun e => pk_ne κ 0 (fun e2 => ?_) (fun e2 => ?_)) (fun e => pk_ne κ 0 (fun e2 => ?_) (fun e2 => ?_))
  · rw [if_neg e, if_neg e2] at hq
    refine e_P_fitsInStocking (d + 4) _ _ h _ (pk_eq (i % 5) 0 (fun z0 => s_P_isDigitTo (hi := 57) (d + 3) (by decide) hc ⟨bz_nar _, bz_nar _, ?_⟩) (fun z0 => pk_eq (i % 5) 1 (fun z1 => s_P_isDigitTo (hi := 52) (d + 3) (by decide) hc ⟨bz_nar _, bz_nar _, ?_⟩) (fun z1 => pk_eq (i % 5) 2 (fun z2 => s_P_isDigitTo (hi := 51) (d + 3) (by decide) hc ⟨bz_nar _, bz_nar _, ?_⟩) (fun z2 => s_P_isDigitTo (hi := 49) (d + 3) (by decide) hc ⟨bz_nar _, bz_nar _, ?_⟩))))
    · rw [if_pos z0] at hq; exact hq
    · rw [if_neg z0, if_pos z1] at hq; exact hq
    · rw [if_neg z0, if_neg z1, if_pos z2] at hq; exact hq
    · rw [if_neg z0, if_neg z1, if_neg z2] at hq; exact hq
  · rw [if_neg e, if_pos e2] at hq
    refine e_P_fitsInKing (d + 4) _ _ h _ (pk_eq (i % 5) 0 (fun z0 => ?_) (fun z0 => pk_eq (i % 5) 1 (fun z1 => s_P_isDigitTo (hi := 57) (d + 3) (by decide) hc ⟨bz_nar _, bz_nar _, ?_⟩) (fun z1 => pk_eq (i % 5) 2 (fun z2 => s_P_isDigitTo (hi := 52) (d + 3) (by decide) hc ⟨bz_nar _, bz_nar _, ?_⟩) (fun z2 => s_P_isDigitTo (hi := 51) (d + 3) (by decide) hc ⟨bz_nar _, bz_nar _, ?_⟩))))
    · rw [if_pos z0] at hq
      rw [i2c_s hc]
      have := kx_lt c
      refine s_J_ix1 d hc (pI_ng (by omega) (fun z => ⟨rfl, rfl, ?_⟩) (fun z => ⟨rfl, rfl, ?_⟩))
      · rw [decide_eq_false (fun y => y z)] at hq; exact hq
      · rw [decide_eq_true z] at hq; exact hq
    · rw [if_neg z0, if_pos z1] at hq; exact hq
    · rw [if_neg z0, if_neg z1, if_pos z2] at hq; exact hq
    · rw [if_neg z0, if_neg z1, if_neg z2] at hq; exact hq
  · rw [if_pos e, if_neg e2] at hq
    refine e_P_fitsBehindStocking (d + 4) _ _ h _ (pk_ne c 44 (fun z => ⟨rfl, rfl, ?_⟩) (fun z => pk_le 6 (i / 5 - κ + 1) (fun y => ⟨rfl, rfl, ?_⟩) (fun y => ⟨rfl, rfl, ?_⟩)))
    · rw [decide_eq_false z] at hq; exact hq
    · rw [decide_eq_true z, decide_eq_false (by omega)] at hq; exact hq
    · rw [decide_eq_true z, decide_eq_true y] at hq; exact hq
  · rw [if_pos e, if_pos e2] at hq
    subst e2
    refine e_P_fitsBehindKing (d + 4) _ _ h _ (pk_ne c 44 (fun z => pk_ne c 59 (fun z2 => ⟨rfl, rfl, ?_⟩) (fun z2 => pk_lt (i / 5 - 0 + 1) 2 (fun y => ⟨rfl, rfl, ?_⟩) (fun y => ⟨rfl, rfl, ?_⟩))) (fun z => pk_le 4 (i / 5 - 0 + 1) (fun y => ⟨rfl, rfl, ?_⟩) (fun y => ⟨rfl, rfl, ?_⟩)))
    · rw [if_neg z, decide_eq_false z2] at hq; exact hq
    · rw [if_neg z, decide_eq_true z2, decide_eq_false (by omega)] at hq; exact hq
    · rw [if_neg z, decide_eq_true z2, decide_eq_true (by omega)] at hq; exact hq
    · rw [if_pos z, decide_eq_false (by omega)] at hq; exact hq
    · rw [if_pos z, decide_eq_true (by omega)] at hq; exact hq
theorem s_P_firstFault (d : Nat) {h : Hp} {g : Gs} (hR : RP h g) (hP : PB g) {Kk : Int32 → Hp → Prop} (hq : Kk (nI (er (lt g) (g 16 0))) h) : Ev mtb shp (d + 7) m_P_firstFault [.ref 1] h (qI Kk) := by
  obtain ⟨hP1, hP2⟩ := id hP
  refine e_P_firstFault (d + 6) h _ ?_
  refine dn (T := fun i => AF (lt g) i → ∀ w, PP (Ev mtb shp (d + 6)) shp cd_P_firstFault 1 (qI Kk) 4 [.ref 1, .int (nI (kp (lt g) i)), .int (nI i), w] [] h) (m := g 16 0) (fun ha w => ?_) (fun i hi ih ha w => ?_) 0 (Nat.zero_le _) (fun j hj => absurd hj (Nat.not_lt_zero j)) unv
  · refine p_P_firstFault_4 (d + 6) _ _ _ h _ ?_
    rw [hR.1]
    rw [er_eq ha (by rw [lt_n]; exact fit_0 _ _) (Nat.le_refl _)] at hq
    exact lpE hq
  · have hl : lt g i = g 15 i := if_pos hi
    have hl2 := lt_lt hP i
    refine p_P_firstFault_4 (d + 6) _ _ _ h _ ?_
    rw [hR.1, nI_clamp (show i < 2 ^ 31 by omega), hR.2 i hi, ← hl, nI_s i, show nI i / 5 = nI (i / 5) from pk_div (d := 5) (by omega) (by decide) (by decide), nI_s (i / 5)]
    refine lpS hi (by omega) ⟨vp_in_nI (show i < 52 by omega) (by decide), s_P_fits d (kp_le ha) (by omega) hl2 (bz_bn (fun c => ?_) (fun c => ?_))⟩
    · have ih := ih (AF_s ha c)
      rw [kp] at ih
      refine pk_ne (lt g i) 59 (fun z => ?_) (fun z => ⟨by decide, ?_⟩)
      · rw [if_neg z] at ih; exact ih _
      · rw [if_pos z] at ih; exact ih _
    · rw [er_eq ha c (by omega)] at hq
      exact hq
