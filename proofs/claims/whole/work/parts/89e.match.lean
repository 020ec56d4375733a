/-! the match, by the reference: row after row -/
def cod (y : List Nat) (r : Nat) : Nat := if r = 0 then 0 else qn y (r - 1) + 1
def RT (h' : Hp) (ρ : Nat → Nat) : Prop := ∀ j, j < 4 → h'.1 64 j = nI (ρ j)
def FR (h h' : Hp) : Prop := (∀ i, i ≠ 46 → h'.1 i = h.1 i) ∧ ∀ f, f ≠ 30 → f ≠ 31 → h'.1 46 f = h.1 46 f
theorem FR_SM {a h h' : Hp} (hS : SM a h) (hF : FR h h') : SM a h' := by
  refine ⟨fun i hi => ?_, fun f hf => ?_⟩
  · rw [hF.1 i (fun e => by rw [e] at hi; cases hi)]; exact hS.1 i hi
  · rw [hF.2 f (fun e => by rw [e] at hf; cases hf) (fun e => by rw [e] at hf; cases hf)]; exact hS.2 f hf
theorem FR_MT {a h h' : Hp} {K : Nat} {g : Gs} {y : List Nat} (hS : MT a h K g y) (hF : FR h h') : MT a h' K g y := by
  obtain ⟨s1, s2, s3⟩ := hS
  refine ⟨FR_SM s1 hF, ?_, ?_⟩
  · rw [hF.2 29 (by decide) (by decide)]; exact s2
  · rw [hF.1 62 (by decide), hF.1 63 (by decide)]; exact s3
theorem s_M_isRow (d : Nat) {h0 h : Hp} {K m : Nat} {g : Gs} (hM0 : RM h0 K m g) (hB : GB K m g) {y : List Nat} (hy : LO m y) (hl : y.length ≤ 15) (m1 : MT h0 h K g y) {ρ : Nat → Nat} (r1 : RT h ρ) (hρ : ∀ j, j < K → ρ j ≤ y.length) {Kk : Int32 → Hp → Prop} (hq0 : rowv g y ρ K = none → ∀ h', FR h h' → Kk 0 h') (hq1 : ∀ u mm w, rowv g y ρ K = some (u, mm, w) → ∀ h', FR h h' → h'.1 46 30 = nI mm → h'.1 46 31 = nI w → Kk 1 h') : Ev mtb shp (d + 1) m_M_isRow [.ref 46] h (qI Kk) := by
  have hK4 := hB.1
  have hm6 := hB.2.1
  refine e_M_isRow d h _ ?_
  have fr0 : FR h (hs (hs h 46 (upd (h.1 46) 30 0)) 46 (upd (upd (h.1 46) 30 0) 31 0)) := by
    refine ⟨fun i hi => ?_, fun f h1 h2 => ?_⟩
    · rw [hs_off _ _ hi, hs_off _ _ hi]
    · show upd (upd (h.1 46) 30 0) 31 0 f = _
      rw [pk_un h2, pk_un h1]
  refine dn (T := fun k => ∀ u mm w, rowv g y ρ k = some (u, mm, w) → ∀ h', FR h h' → h'.1 46 30 = nI mm → h'.1 46 31 = nI w → ∀ w3 w4, PP (Ev mtb shp d) shp cd_M_isRow 2 (qI Kk) 14 [.ref 46, .int (nI u), .int (nI k), w3, w4] [] h') (m := K) (fun u mm w hr h' f1 f2 f3 w3 w4 => ?_) (fun k hk ih u mm w hr h' f1 f2 f3 w3 w4 => ?_) 0 (Nat.zero_le _) 0 0 0 rfl _ fr0 (by
    show upd (upd (h.1 46) 30 0) 31 0 30 = _
    rw [pk_un (by decide), pk_us]; rfl) (by
    show upd (upd (h.1 46) 30 0) 31 0 31 = _
    rw [pk_us]; rfl) unv unv
  · refine p_M_isRow_14 d _ _ _ _ h' _ ?_
    rw [(RM_SM (FR_SM m1.1 f1) hM0).1]
    exact lpE ⟨rfl, hq1 u mm w hr h' f1 f2 f3⟩
  · refine p_M_isRow_14 d _ _ _ _ h' _ ?_
    have v4 := vp_in_nI (show k < 4 by omega) (by decide)
    have hρk := hρ k hk
    obtain ⟨b1, b2, b3⟩ := rowv_bd hB (show k ≤ K by omega) hr
    rw [(RM_SM (FR_SM m1.1 f1) hM0).1, nI_clamp (show k < 2 ^ 31 by omega), f1.1 64 (by decide), r1 k (by omega), nI_s k]
    refine lpS hk (by omega) ⟨v4, pk_le (ρ k) 0 (fun e => ?_) (fun e => ?_)⟩
    · exact ih u mm w (rowv_0 hr (by omega)) h' f1 f2 f3 _ _
    · obtain ⟨r, er⟩ : ∃ r, ρ k = r + 1 := ⟨ρ k - 1, by omega⟩
      have hrl : r < y.length := by omega
      obtain ⟨p1, p2, p3⟩ := hy r hrl
      obtain ⟨c1, c2⟩ := (FR_MT m1 f1).2.2 r hrl
      have v16 := vp_in_nI (show ρ k < 16 by omega) (by decide)
      have bl := bo_lt (p := qn y r) (by omega) (by omega)
      rw [nI_clamp (show ρ k < 2 ^ 31 by omega), show (16 : Int32) * nI k + nI (ρ k) = nI (16 * k + ρ k) by rw [show (16 : Int32) = nI 16 from rfl, pk_mul, nI_add], nI_clamp (show 16 * k + ρ k < 2 ^ 31 by omega)]
      refine ⟨v4, vp_in_nI (show 16 * k + ρ k < 64 by omega) (by decide), v4, v16, by decide, v4, v16, by decide, ?_⟩
      rw [er, c1, c2 k hk, rm10 (by omega), dv10 (by omega), shl1 _ (by omega), shl1 _ (by omega), nI_or, ← bo, nI_and, nI_or]
      have e1 : ρ k - 1 = r := by omega
      have hal : u &&& bo (qn y r) ≤ u := Nat.and_le_left
      cases hp : pr g k (qn y r / 10) (qn y r % 10)
      · rw [cond_false]
        refine ⟨fun _ => ⟨rfl, ?_⟩, fun z => absurd rfl z⟩
        exact hq0 (rowv_none (rowv_no hr (by omega) (by rw [e1]; unfold okp; rw [hp]; rfl)) hk) h' f1
      · rw [cond_true]
        have hwp := Wp_le hB hk p1 p2
        refine ⟨fun z => ?_, fun _ => pk_eq (u &&& bo (qn y r)) 0 (fun c => ?_) (fun c => ⟨rfl, ?_⟩)⟩
        · have := congrArg Int32.toInt z
          rw [nI_toInt (by omega), show (-1 : Int32).toInt = -1 from rfl] at this
          omega
        · have ho : okp g k u (qn y (ρ k - 1)) = true := by rw [e1]; unfold okp; rw [hp, decide_eq_true c]; rfl
          have hr2 := rowv_ok hr (by omega) ho
          rw [e1] at hr2
          refine ih _ _ _ hr2 _ ⟨fun i hi => ?_, fun f h1 h2 => ?_⟩ ?_ ?_ _ _
          · rw [hs_off _ _ hi, hs_off _ _ hi]; exact f1.1 i hi
          · show upd (upd (h'.1 46) 30 (h'.1 46 30 + 1)) 31 (upd (h'.1 46) 30 (h'.1 46 30 + 1) 31 + nI (Wp g k (qn y r))) f = _
            rw [pk_un h2, pk_un h1]; exact f1.2 f h1 h2
          · show upd (upd (h'.1 46) 30 (h'.1 46 30 + 1)) 31 (upd (h'.1 46) 30 (h'.1 46 30 + 1) 31 + nI (Wp g k (qn y r))) 30 = _
            rw [pk_un (by decide), pk_us, f2, nI_s]
          · show upd (upd (h'.1 46) 30 (h'.1 46 30 + 1)) 31 (upd (h'.1 46) 30 (h'.1 46 30 + 1) 31 + nI (Wp g k (qn y r))) 31 = _
            rw [pk_us, pk_un (by decide), f3, nI_add]
        · exact hq0 (rowv_none (rowv_no hr (by omega) (by rw [e1]; unfold okp; rw [decide_eq_false c, Bool.and_false])) hk) h' f1
/-- a row: up to k as ρ, then c -/
def sf (K : Nat) (ρ : Nat → Nat) (k c : Nat) : Nat → Nat := fun j => if j < k then ρ j else if j < K then c else 0
theorem sf_lo {K k j : Nat} {ρ : Nat → Nat} {c : Nat} (h : j < k) : sf K ρ k c j = ρ j := if_pos h
theorem sf_mi {K k j : Nat} {ρ : Nat → Nat} {c : Nat} (h : ¬ j < k) (h2 : j < K) : sf K ρ k c j = c := by
  unfold sf
  rw [if_neg h, if_pos h2]
theorem sf_hi {K k j : Nat} {ρ : Nat → Nat} {c : Nat} (h : ¬ j < k) (h2 : ¬ j < K) : sf K ρ k c j = 0 := by
  unfold sf
  rw [if_neg h, if_neg h2]
/-- to the next row: all behind k stand at the last -/
theorem s_M_nextRow (d : Nat) {h0 h : Hp} {K m : Nat} {g : Gs} (hM0 : RM h0 K m g) (hK : K ≤ 4) {y : List Nat} (hl : y.length ≤ 15) (m1 : MT h0 h K g y) {ρ : Nat → Nat} {k : Nat} (hk : k < K) (hρ : ρ k < y.length) (r1 : RT h (sf K ρ (k + 1) y.length)) {Kk : Int32 → Hp → Prop} (hq : ∀ F, RT (hs h 64 F) (sf K (setf ρ k (ρ k + 1)) (k + 1) 0) → Kk 1 (hs h 64 F)) : Ev mtb shp (d + 1) m_M_nextRow [.ref 46] h (qI Kk) := by
  refine e_M_nextRow d h _ ?_
  rw [(RM_SM m1.1 hM0).1]
  have key := dw0 (T := fun n => k + 1 + n ≤ K → ∀ F, (∀ j, j < 4 → F j = nI (if j < k + 1 then ρ j else if j < k + 1 + n then y.length else 0)) → PP (Ev mtb shp d) shp cd_M_nextRow 2 (qI Kk) 7 [.ref 46, .int (pI (k + 1 + n))] [] (hs h 64 F)) (K - (k + 1)) (fun _ F hF => ?_) (fun n hn ih hkn F hF => ?_) (by omega) (h.1 64) (fun j hj => ?_)
  · rw [hs_id, show k + 1 + (K - (k + 1)) = K by omega] at key
    exact key
  · have v4 := vp_in_nI (show k < 4 by omega) (by decide)
    refine p_M_nextRow_7 d _ _ _ ?_
    rw [show pI (k + 1 + 0) = nI k from sub1 k, nI_clamp (show k < 2 ^ 31 by omega), show (hs h 64 F).1 64 k = nI (ρ k) from by rw [show (hs h 64 F).1 64 k = F k from rfl, hF k (by omega), if_pos (by omega)], show (hs h 64 F).1 46 29 = nI y.length from m1.2.1, nI_s, hs_hs]
    refine ⟨fun z => absurd z (nI_pos (by omega)), fun _ => ⟨v4, pk_ne (ρ k) y.length (fun _ => ⟨fun _ => ⟨v4, v4, rfl, ?_⟩, fun z => absurd (nI_pos' (by omega)) z⟩) (fun z => by omega)⟩⟩
    refine hq _ (fun j hj => ?_)
    show upd F k (nI (ρ k + 1)) j = _
    by_cases e : j = k
    · rw [e, pk_us, sf_lo (by omega), setf_s]
    · rw [pk_un e, hF j hj]
      by_cases e2 : j < k + 1
      · rw [if_pos e2, sf_lo e2, setf_n _ _ e]
      · rw [if_neg e2, if_neg (by omega)]
        by_cases e3 : j < K
        · rw [sf_mi e2 e3]
        · rw [sf_hi e2 e3]
  · have v4 := vp_in_nI (show k + 1 + n < 4 by omega) (by decide)
    refine p_M_nextRow_7 d _ _ _ ?_
    rw [show pI (k + 1 + (n + 1)) = nI (k + 1 + n) from sub1 (k + 1 + n), nI_clamp (show k + 1 + n < 2 ^ 31 by omega), show (hs h 64 F).1 64 (k + 1 + n) = nI y.length from by rw [show (hs h 64 F).1 64 (k + 1 + n) = F (k + 1 + n) from rfl, hF _ (by omega), if_neg (by omega), if_pos (by omega)], show (hs h 64 F).1 46 29 = nI y.length from m1.2.1, hs_hs, show nI (k + 1 + n) + (-1) = pI (k + 1 + n) from (Int32.sub_eq_add_neg _ _).symm]
    refine ⟨fun z => absurd z (nI_pos (by omega)), fun _ => ⟨v4, ⟨fun z => absurd rfl z, fun _ => ⟨v4, ?_⟩⟩⟩⟩
    rw [hs_hs]
    refine ih (by omega) _ (fun j hj => ?_)
    show upd F (k + 1 + n) 0 j = _
    by_cases e : j = k + 1 + n
    · rw [e, pk_us, if_neg (by omega), if_neg (by omega)]; rfl
    · rw [pk_un e, hF j hj]
      by_cases e2 : j < k + 1
      · rw [if_pos e2, if_pos e2]
      · rw [if_neg e2, if_neg e2]
        by_cases e3 : j < k + 1 + n
        · rw [if_pos (by omega), if_pos e3]
        · rw [if_neg (by omega), if_neg e3]
  · rw [r1 j hj]
    by_cases e2 : j < k + 1
    · rw [if_pos e2, sf_lo e2]
    · rw [if_neg e2]
      by_cases e3 : j < K
      · rw [sf_mi e2 e3, if_pos (by omega)]
      · rw [sf_hi e2 e3, if_neg (by omega)]
theorem s_M_nextRowE (d : Nat) {h0 h : Hp} {K m : Nat} {g : Gs} (hM0 : RM h0 K m g) (hK : K ≤ 4) {y : List Nat} (hl : y.length ≤ 15) (m1 : MT h0 h K g y) {ρ : Nat → Nat} (r1 : RT h (sf K ρ 0 y.length)) {Kk : Int32 → Hp → Prop} (hq : ∀ F, Kk 0 (hs h 64 F)) : Ev mtb shp (d + 1) m_M_nextRow [.ref 46] h (qI Kk) := by
  refine e_M_nextRow d h _ ?_
  rw [(RM_SM m1.1 hM0).1]
  have key := dw0 (T := fun n => n ≤ K → ∀ F, (∀ j, j < n → F j = nI y.length) → PP (Ev mtb shp d) shp cd_M_nextRow 2 (qI Kk) 7 [.ref 46, .int (pI n)] [] (hs h 64 F)) K (fun _ F hF => ?_) (fun n hn ih hkn F hF => ?_) (Nat.le_refl K) (h.1 64) (fun j hj => ?_)
  · rw [hs_id] at key
    exact key
  · exact p_M_nextRow_7 d _ _ _ ⟨fun _ => ⟨fun z => absurd z (by decide), fun _ => ⟨rfl, hq F⟩⟩, fun z => absurd (by decide) z⟩
  · have v4 := vp_in_nI (show n < 4 by omega) (by decide)
    refine p_M_nextRow_7 d _ _ _ ?_
    rw [sub1, nI_clamp (show n < 2 ^ 31 by omega), show (hs h 64 F).1 64 n = nI y.length from hF n (by omega), show (hs h 64 F).1 46 29 = nI y.length from m1.2.1, hs_hs, show nI n + (-1) = pI n from (Int32.sub_eq_add_neg _ _).symm]
    refine ⟨fun z => absurd z (nI_pos (by omega)), fun _ => ⟨v4, ⟨fun z => absurd rfl z, fun _ => ⟨v4, ?_⟩⟩⟩⟩
    rw [hs_hs]
    refine ih (by omega) _ (fun j hj => ?_)
    show upd F n 0 j = _
    rw [pk_un (by omega)]; exact hF j (by omega)
  · rw [r1 j (by omega), sf_mi (by omega) hj]
