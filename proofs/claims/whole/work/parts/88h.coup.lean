/-! the coup, by the reference -/
theorem RM_g2 {h : Hp} {K m : Nat} {g : Gs} (hM : RM h K m g) (s x y : Nat) : RM (hs (hs h 52 (upd (h.1 52) s (nI x))) 54 (upd (h.1 54) s (nI y))) K m (g2 g s x y) := by
  obtain ⟨h1, h2, h3, h4⟩ := hM
  refine ⟨h1, h2, ?_, fun t ht => ?_⟩
  · rw [g2_r g s x y (r := 0) (by decide) (by decide), g2_r g s x y (r := 1) (by decide) (by decide), g2_r g s x y (r := 2) (by decide) (by decide), g2_r g s x y (r := 3) (by decide) (by decide)]
    exact h3
  · rw [g2_r g s x y (r := 4) (by decide) (by decide), g2_r g s x y (r := 6) (by decide) (by decide), g2_r g s x y (r := 8) (by decide) (by decide), g2_5, g2_7]
    obtain ⟨a, b, c, e, f⟩ := h4 t ht
    exact ⟨a, tie_upd (n := m) (c := nI) (fun s hs => (h4 s hs).2.1) t ht, c, tie_upd (n := m) (c := nI) (fun s hs => (h4 s hs).2.2.2.1) t ht, f⟩
theorem hs_back2 (h : Hp) {i j : Nat} (F G : Nat → Int32) : hs (hs (hs (hs h i F) j G) i (h.1 i)) j (h.1 j) = h := by
  unfold hs
  refine Prod.ext (funext fun a => ?_) rfl
  show (bif Nat.beq a j then h.1 j else bif Nat.beq a i then h.1 i else bif Nat.beq a j then G else bif Nat.beq a i then F else h.1 a) = h.1 a
  cases hb : Nat.beq a j
  · cases hc : Nat.beq a i
    · rfl
    · rw [Nat.eq_of_beq_eq_true hc]; rfl
  · rw [Nat.eq_of_beq_eq_true hb]; rfl
theorem s_M_isHis (d : Nat) {h : Hp} {K m : Nat} {g : Gs} (hM : RM h K m g) (hB : GB K m g) {k : Nat} (hk : k < K) {Kk : Int32 → Hp → Prop} (hq : Kk (bz (hal g K k)) h) : Ev mtb shp (d + 7) m_M_isHis [.ref 46, .int (nI k)] h (qI Kk) := by
  have hK4 := hB.1
  have hh := hei_lt hB
  have h16 : 2 ^ k < 16 := Nat.pow_lt_pow_right (a := 2) (n := 4) (by decide) (by omega)
  refine e_M_isHis (d + 6) _ h _ (s_M_having d hM hB ?_)
  rw [shl1 k (by omega)]
  unfold hal at hq
  refine pk_ne (bits K (hp g)) (2 ^ k) (fun e => ⟨rfl, ?_⟩) (fun e => ⟨rfl, ?_⟩)
  · rw [decide_eq_false e] at hq; exact hq
  · rw [decide_eq_true e] at hq; exact hq
theorem s_M_isHisBy (d : Nat) {h : Hp} {K m : Nat} {g : Gs} (hM : RM h K m g) (hB : GB K m g) {k s a : Nat} (hk : k < K) (hs0 : s < m) (ha : a < 5 ∨ a = 9) {Kk : Int32 → Hp → Prop} (hq : Kk (bz (hal (gact g s a) K k)) h) : Ev mtb shp (d + 8) m_M_isHisBy [.ref 46, .int (nI k), .int (nI s), .int (nI a)] h (qI Kk) := by
  have hm6 := hB.2.1
  have v6 := vp_in_nI (show s < 6 by omega) (by decide)
  refine e_M_isHisBy (d + 7) _ _ _ h _ ⟨v6, v6, ?_⟩
  rw [nI_clamp (show s < 2 ^ 31 by omega)]
  have go : ∀ x y, g2 g s x y = gact g s a → Ev mtb shp (d + 7) m_M_isHis [.ref 46, .int (nI k)] (hs (hs h 52 (upd (h.1 52) s (nI x))) 54 (upd (h.1 54) s (nI y))) (qI fun v2 h1 => vp_in (nI s) 6 ∧ (vp_in (nI s) 6 ∧ (narrow .boolean (.int v2) = .int v2 ∧ Kk v2 (hs (hs h1 52 (upd (h1.1 52) s (h.1 52 s))) 54 (upd (h1.1 54) s (h.1 54 s)))))) := by
    intro x y hxy
    refine s_M_isHis d (RM_g2 hM s x y) (by rw [hxy]; exact GB_act hB hs0 a) hk ⟨v6, v6, bz_nar _, ?_⟩
    rw [show (hs (hs h 52 (upd (h.1 52) s (nI x))) 54 (upd (h.1 54) s (nI y))).1 52 = upd (h.1 52) s (nI x) from rfl, show (hs (hs h 52 (upd (h.1 52) s (nI x))) 54 (upd (h.1 54) s (nI y))).1 54 = upd (h.1 54) s (nI y) from rfl, upd_back, upd_back, hs_back2, hxy]
    exact hq
  obtain ⟨r4, r5, r6, r7, r8⟩ := hM.2.2.2 s hs0
  refine pk_le 5 a (fun c => ⟨v6, pk_ne a 9 (fun e => by omega) (fun e => ⟨v6, ?_⟩)⟩) (fun c => ⟨v6, pk_ne a 9 (fun e => ⟨v6, ?_⟩) (fun e => by omega)⟩)
  · have := go (g 5 s) 0 (by unfold gact; rw [if_neg (by omega), if_pos e])
    rw [← r5] at this
    exact this
  · have := go a (g 7 s) (by unfold gact; rw [if_pos (by omega), if_neg e])
    rw [← r7] at this
    exact this
theorem s_M_coupNow (d : Nat) {h : Hp} {K m : Nat} {g : Gs} (hM : RM h K m g) (hB : GB K m g) {k : Nat} (hk : k < K) {Kk : Int32 → Hp → Prop} (hq : Kk (aO K m g k) h) : Ev mtb shp (d + 9) m_M_coupNow [.ref 46, .int (nI k)] h (qI Kk) := by
  have hm6 := hB.2.1
  unfold aO at hq
  refine e_M_coupNow (d + 8) _ h _ (s_M_isHis (d + 1) hM hB hk (bz_br (fun c => ?_) (fun c => ?_)))
  · rw [c, cond_false] at hq
    refine dn (T := fun c => (∀ j, j < c → cq g K k j = false) → ∀ w, PP (Ev mtb shp (d + 8)) shp cd_M_coupNow 1 (qI Kk) 13 [.ref 46, .int (nI k), .int (nI c), w] [] h) (m := 10 * m) (fun hn w => ?_) (fun c hc ih hn w => ?_) 0 (Nat.zero_le _) (fun j hj => absurd hj (Nat.not_lt_zero j)) unv
    · refine p_M_coupNow_13 (d + 8) _ _ _ h _ ?_
      rw [hM.2.1, show (10 : Int32) = nI 10 from rfl, pk_mul]
      rw [fst_0 hn] at hq
      exact lpE hq
    · refine p_M_coupNow_13 (d + 8) _ _ _ h _ ?_
      rw [hM.2.1, rm10 (by omega), dv10 (by omega), show (10 : Int32) * nI m = nI (10 * m) from pk_mul 10 m, nI_s]
      have nx : cq g K k c = false → ∀ w, PP (Ev mtb shp (d + 8)) shp cd_M_coupNow 1 (qI Kk) 13 [.ref 46, .int (nI k), .int (nI (c + 1)), w] [] h := by
        intro z w
        refine ih (fun j hj => ?_) w
        by_cases e : j = c
        · rw [e]; exact z
        · exact hn j (by omega)
      have ac : hg g (c / 10) = true → (c % 10 < 5 ∨ c % 10 = 9) → ∀ w, Ev mtb shp (d + 8) m_M_isHisBy [.ref 46, .int (nI k), .int (nI (c / 10)), .int (nI (c % 10))] h (qI fun v h1 => (v = 0 → PP (Ev mtb shp (d + 8)) shp cd_M_coupNow 1 (qI Kk) 13 [.ref 46, .int (nI k), .int (nI (c + 1)), w] [] h1) ∧ (¬ v = 0 → Kk (nI c) h1)) := by
        intro hgc hac w
        have hor : (decide (c % 10 < 5) || decide (c % 10 = 9)) = true := by
          rcases hac with z | z
          · rw [decide_eq_true z]; rfl
          · rw [decide_eq_true z, Bool.or_true]
        refine s_M_isHisBy d hM hB hk (show c / 10 < m by omega) hac (bz_br (fun e => ?_) (fun e => ?_))
        · exact nx (by unfold cq; rw [hgc, hor, e]; rfl) w
        · rw [fst_i (p := cq g K k) (i := c) (by unfold cq; rw [hgc, hor, e]; rfl) hn hc, sub1] at hq
          exact hq
      refine lpS hc (by omega) ⟨by decide, s_M_hangs (d + 7) hM hB (by omega) (bz_br (fun e => ⟨fun _ => ?_, fun z => absurd rfl z⟩) (fun e => ⟨by decide, pk_lt (c % 10) 5 (fun e2 => ⟨fun z => absurd z (by decide), fun _ => ⟨by decide, by decide, ?_⟩⟩) (fun e2 => ⟨by decide, pk_ne (c % 10) 9 (fun e3 => ⟨fun _ => ?_, fun z => absurd rfl z⟩) (fun e3 => ⟨fun z => absurd z (by decide), fun _ => ⟨by decide, by decide, ?_⟩⟩)⟩)⟩))⟩
      · exact nx (by unfold cq; rw [e]; rfl) _
      · exact ac e (Or.inl e2) _
      · exact nx (by unfold cq; rw [decide_eq_false (show ¬ c % 10 < 5 by omega), decide_eq_false e3, Bool.false_or, Bool.false_and, Bool.and_false]) _
      · exact ac e (Or.inr e3) _
  · rw [c] at hq
    exact hq
