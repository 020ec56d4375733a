/-! the match: what it is, and by the class -/
/-- the best up to now: how many and one, how wrong, who has what (the pair and one) -/
abbrev Bst : Type := Nat × Nat × (Nat → Nat)
def keep (b : Bst) (many wrong : Nat) (asg : Nat → Nat) : Bst := if b.1 < many + 1 ∨ (many + 1 = b.1 ∧ wrong < b.2.1) then (many + 1, wrong, asg) else b
def setf (f : Nat → Nat) (k v : Nat) : Nat → Nat := fun j => if j = k then v else f j
theorem setf_s (f : Nat → Nat) (k v : Nat) : setf f k v k = v := if_pos rfl
theorem setf_n (f : Nat → Nat) {k j : Nat} (v : Nat) (h : j ≠ k) : setf f k v j = f j := if_neg h
/-- the two stockings of a pair, as bits -/
def bo (p : Nat) : Nat := 2 ^ (p / 10) ||| 2 ^ (p % 10)
theorem bo_lt {p : Nat} (h1 : p / 10 < 6) (h2 : p % 10 < 6) : bo p < 64 := Nat.or_lt_two_pow (n := 6) (Nat.pow_lt_pow_right (a := 2) (n := 6) (by decide) h1) (Nat.pow_lt_pow_right (a := 2) (n := 6) (by decide) h2)
def fdi {σ : Type} (f : σ → Nat → σ) (b : σ) (q : Nat → Nat) : Nat → σ
  | 0 => b
  | i + 1 => f (fdi f b q i) (q i)
def okp (g : Gs) (k taken p : Nat) : Bool := pr g k (p / 10) (p % 10) && decide (taken &&& bo p = 0)
/-- all ways to give pairs (N of them, q names them) to the n kings from k on -/
def gv (g : Gs) (q : Nat → Nat) (N : Nat) : Nat → Nat → Nat → Nat → Nat → (Nat → Nat) → Bst → Bst
  | 0, _, _, many, wrong, asg, b => keep b many wrong asg
  | n + 1, k, taken, many, wrong, asg, b => fdi (fun b p => bif okp g k taken p then gv g q N n (k + 1) (taken ||| bo p) (many + 1) (wrong + Wp g k p) (setf asg k (p + 1)) b else b) (gv g q N n (k + 1) taken many wrong (setf asg k 0) b) q N
def BB (b : Bst) : Prop := b.1 ≤ 5 ∧ b.2.1 ≤ 268435456
/-- what the class holds of the match -/
def WT (h h' : Hp) (K : Nat) (g : Gs) : Prop := SC h h' ∧ h'.1 38 5 = nI K ∧ ∀ k, k < K → ∀ i, i < 15 → h'.1 41 (k * 15 + i) = bif prq g k i then nI (Wp g k (pn i)) else -1
def WB (h' : Hp) (K : Nat) (b : Bst) : Prop := BB b ∧ 1 ≤ b.1 ∧ h'.1 38 1 = nI (b.1 - 1) ∧ h'.1 38 2 = nI b.2.1 ∧ (∀ j, j < K → h'.1 39 j = pI (b.2.2 j)) ∧ ∀ j, K ≤ j → j < 4 → h'.1 39 j = -1
theorem s_W_weigh (d : Nat) {h h' : Hp} {K m : Nat} {g : Gs} (hC : RC h K g) (hR : RR8 h m g) (hB : GB K m g) {k : Nat} (hk : k < K) (s1 : SC h h') (s2 : h'.1 38 5 = nI K) (s3 : ∀ j, j < k → ∀ i, i < 15 → h'.1 41 (j * 15 + i) = bif prq g j i then nI (Wp g j (pn i)) else -1) {Kk : Hp → Prop} (hq : ∀ h'', SC h h'' → h''.1 38 5 = nI K → (∀ j, j < k + 1 → ∀ i, i < 15 → h''.1 41 (j * 15 + i) = bif prq g j i then nI (Wp g j (pn i)) else -1) → Kk h'') : Ev mtb shp (d + 4) m_W_weigh [.ref 38, .int (nI k), .ref 3, .ref 8] h' (qV Kk) := by
  have hK4 := hB.1
  have hb6 := may6 hB k
  refine e_W_weigh (d + 3) _ h' _ (s_C_mayBeHis (d + 1) (RC_SC s1 hC) (RR_SC s1 hR) hB hk ?_)
  refine dn (T := fun i => ∀ h', SC h h' → h'.1 38 5 = nI K → (∀ j, j < k → ∀ i, i < 15 → h'.1 41 (j * 15 + i) = bif prq g j i then nI (Wp g j (pn i)) else -1) → (∀ t, t < i → h'.1 41 (k * 15 + t) = bif prq g k t then nI (Wp g k (pn t)) else -1) → ∀ w, PP (Ev mtb shp (d + 3)) shp cd_W_weigh 0 (qV Kk) 11 [.ref 38, .int (nI k), .ref 3, .ref 8, .int (nI (bits m (may g k))), .int (nI i), w] [] h') (m := 15) (fun h' s1 s2 s3 s4 w => ?_) (fun i hi ih h' s1 s2 s3 s4 w => ?_) 0 (Nat.zero_le _) h' s1 s2 s3 (fun t ht => absurd ht (Nat.not_lt_zero t)) unv
  · refine p_W_weigh_11 (d + 3) _ _ _ _ h' _ (lpE (m := 15) (hq h' s1 s2 (fun j hj i hi => ?_)))
    by_cases e : j = k
    · rw [e]; exact s4 i hi
    · exact s3 j (by omega) i hi
  · obtain ⟨p0, p1, p2, p3, p4⟩ := pn_ok i hi
    have v15 := vp_in_nI hi (by decide)
    refine p_W_weigh_11 (d + 3) _ _ _ _ h' _ (lpS (m := 15) hi (by decide) ⟨v15, ?_⟩)
    rw [nI_clamp (show i < 2 ^ 31 by omega), p0, show nI k * 15 + nI i = nI (k * 15 + i) by rw [show (15 : Int32) = nI 15 from rfl, pk_mul, nI_add], nI_clamp (show k * 15 + i < 2 ^ 31 by omega), nI_s i]
    have v60 := vp_in_nI (show k * 15 + i < 60 by omega) (by decide)
    have nxt : ∀ v : Int32, v = (bif prq g k i then nI (Wp g k (pn i)) else -1) → ∀ w, PP (Ev mtb shp (d + 3)) shp cd_W_weigh 0 (qV Kk) 11 [.ref 38, .int (nI k), .ref 3, .ref 8, .int (nI (bits m (may g k))), .int (nI (i + 1)), w] [] (hs h' 41 (upd (h'.1 41) (k * 15 + i) v)) := by
      intro v hv w
      refine ih (hs h' 41 (upd (h'.1 41) (k * 15 + i) v)) (SC_hs s1 rfl _) s2 (fun j hj t ht => ?_) (fun t ht => ?_) w
      · show upd (h'.1 41) (k * 15 + i) v (j * 15 + t) = _
        rw [pk_un (by omega)]
        exact s3 j hj t ht
      · show upd (h'.1 41) (k * 15 + i) v (k * 15 + t) = _
        by_cases e : t = i
        · rw [e, pk_us, hv]
        · rw [pk_un (by omega)]
          exact s4 t (by omega)
    refine s_C_isPairWithin d (RR_SC s1 hR) hB (by omega) p1 p2 p3 ?_
    rw [pr_his hB]
    refine bz_br (fun c => ⟨v60, ?_⟩) (fun c => ⟨v15, ?_⟩)
    · exact nxt _ (by rw [show prq g k i = false from c]; rfl) _
    · obtain ⟨u1, u2⟩ := pr_lt hB c
      refine s_C_wrongnessOfPair (d + 1) (RC_SC s1 hC) (RR_SC s1 hR) hB hk (by omega) u1 u2 ⟨v60, ?_⟩
      exact nxt _ (by rw [show prq g k i = true from c]; rfl) _
theorem keep_BB {b : Bst} (hb : BB b) {many wrong : Nat} (h1 : many ≤ 4) (h2 : wrong ≤ 128) (asg : Nat → Nat) : BB (keep b many wrong asg) := by
  unfold keep
  split
  · exact ⟨by show many + 1 ≤ 5; omega, by show wrong ≤ 268435456; omega⟩
  · exact hb
theorem s_W_keepIfBetter (d : Nat) {h h' : Hp} {K : Nat} {g : Gs} (hK : K ≤ 4) {b : Bst} {many wrong : Nat} {asg : Nat → Nat} (w1 : WT h h' K g) (w2 : WB h' K b) (hm : many ≤ 4) (hw : wrong ≤ 128) (ha : ∀ j, j < K → h'.1 40 j = pI (asg j)) {Kk : Hp → Prop} (hq : ∀ h'', WT h h'' K g → WB h'' K (keep b many wrong asg) → h''.1 40 = h'.1 40 → Kk h'') : Ev mtb shp (d + 1) m_W_keepIfBetter [.ref 38, .int (nI many), .int (nI wrong)] h' (qV Kk) := by
  obtain ⟨t1, t2, t3⟩ := w1
  obtain ⟨b1, b2, b3, b4, b5, b6⟩ := w2
  obtain ⟨b7, b8⟩ := id b1
  refine e_W_keepIfBetter d _ _ h' _ ?_
  have e5 : (upd (upd (h'.1 38) 1 (nI many)) 2 (nI wrong)) 5 = nI K := by
    rw [pk_un (by decide), pk_un (by decide)]
    exact t2
  rw [e5, nI_clamp (show K < 2 ^ 31 by omega), b3, b4]
  have better : (b.1 < many + 1 ∨ (many + 1 = b.1 ∧ wrong < b.2.1)) → Kk (hs (hs (hs h' 38 (upd (h'.1 38) 1 (nI many))) 38 (upd (upd (h'.1 38) 1 (nI many)) 2 (nI wrong))) 39 (va_cpy (h'.1 40) (h'.1 39) 0 0 K)) := by
    intro hbt
    have ek : keep b many wrong asg = (many + 1, wrong, asg) := if_pos hbt
    refine hq _ ⟨SC_hs (SC_hs (SC_hs t1 rfl _) rfl _) rfl _, e5, t3⟩ ?_ rfl
    rw [ek]
    refine ⟨⟨by show many + 1 ≤ 5; omega, by show wrong ≤ 268435456; omega⟩, by show 1 ≤ many + 1; omega, ?_, ?_, fun j hj => ?_, fun j hj hj4 => ?_⟩
    · show upd (upd (h'.1 38) 1 (nI many)) 2 (nI wrong) 1 = _
      rw [pk_un (by decide), pk_us]; rfl
    · show upd (upd (h'.1 38) 1 (nI many)) 2 (nI wrong) 2 = _
      rw [pk_us]
    · show va_cpy (h'.1 40) (h'.1 39) 0 0 K j = _
      rw [pk_cpy_in (by omega) (by omega), Nat.zero_add, Nat.sub_zero]
      exact ha j hj
    · show va_cpy (h'.1 40) (h'.1 39) 0 0 K j = _
      rw [pk_cpy_out (by omega)]
      exact b6 j hj hj4
  have worse : ¬ (b.1 < many + 1 ∨ (many + 1 = b.1 ∧ wrong < b.2.1)) → Kk h' := by
    intro hbt
    have ek : keep b many wrong asg = b := if_neg hbt
    refine hq h' ⟨t1, t2, t3⟩ ?_ rfl
    rw [ek]
    exact ⟨b1, b2, b3, b4, b5, b6⟩
  have pre : ∀ {A : Prop}, A → ¬ (0 : Int32) < 0 ∧ ¬ (0 : Int32) < 0 ∧ ¬ (nI K < 0) ∧ 0 + K ≤ 4 ∧ 0 + K ≤ 4 ∧ (∀ q, q < K → fits .int (.int ((h'.1 40) (0 + q))) = true) ∧ A := fun a => ⟨by decide, by decide, nI_pos (by omega), by omega, by omega, fun _ _ => rfl, a⟩
  refine pk_lt (b.1 - 1) many (fun c => pre (better (by omega))) (fun c => pk_ne many (b.1 - 1) (fun c2 => worse (by omega)) (fun c2 => pk_le b.2.1 wrong (fun c3 => worse (by omega)) (fun c3 => pre (better (by omega)))))
theorem gv_s (g : Gs) (q : Nat → Nat) (N n k taken many wrong : Nat) (asg : Nat → Nat) (b : Bst) : gv g q N (n + 1) k taken many wrong asg b = fdi (fun b p => bif okp g k taken p then gv g q N n (k + 1) (taken ||| bo p) (many + 1) (wrong + Wp g k p) (setf asg k (p + 1)) b else b) (gv g q N n (k + 1) taken many wrong (setf asg k 0) b) q N := rfl
theorem s_W_giveFrom {h : Hp} {K m : Nat} {g : Gs} (hB : GB K m g) : ∀ (n d k taken many wrong : Nat) (asg : Nat → Nat) (b : Bst) (h' : Hp) (Kk : Hp → Prop), k + n = K → WT h h' K g → WB h' K b → taken < 64 → many ≤ k → wrong ≤ 32 * k → (∀ j, j < k → h'.1 40 j = pI (asg j)) → (∀ h'', WT h h'' K g → WB h'' K (gv g pn 15 n k taken many wrong asg b) → (∀ j, j < k → h''.1 40 j = pI (asg j)) → Kk h'') → Ev mtb shp (d + n + 2) m_W_giveFrom [.ref 38, .int (nI k), .int (nI taken), .int (nI many), .int (nI wrong)] h' (qV Kk)
  | 0, d, k, taken, many, wrong, asg, b, h', Kk, hk, w1, w2, ht, hm, hw, ha, hq => by
    have hK4 := hB.1
    refine e_W_giveFrom (d + 1) _ _ _ _ h' _ ?_
    rw [w1.2.1, show k = K by omega]
    refine lpE (s_W_keepIfBetter d hK4 w1 w2 (by omega) (by omega) (fun j hj => ha j (by omega)) (fun h'' x1 x2 x3 => hq h'' x1 x2 (fun j hj => by rw [x3]; exact ha j hj)))
  | n + 1, d, k, taken, many, wrong, asg, b, h', Kk, hk, w1, w2, ht, hm, hw, ha, hq => by
    have hK4 := hB.1
    have v4 := vp_in_nI (show k < 4 by omega) (by decide)
    refine e_W_giveFrom (d + n + 2) _ _ _ _ h' _ ?_
    rw [w1.2.1, nI_clamp (show k < 2 ^ 31 by omega), nI_s]
    refine lpS (show k < K by omega) (by omega) (pk_lt k 4 (fun _ => ⟨v4, ?_⟩) (fun z => by omega))
    refine s_W_giveFrom hB n d (k + 1) taken many wrong (setf asg k 0) b _ _ (by omega) ⟨SC_hs w1.1 rfl _, w1.2.1, w1.2.2⟩ w2 ht (by omega) (by omega) (fun j hj => ?_) (fun h1 x1 x2 x3 => ?_)
    · show upd (h'.1 40) k (-1) j = _
      by_cases e : j = k
      · rw [e, pk_us, setf_s]; rfl
      · rw [pk_un e, setf_n _ _ e]; exact ha j (by omega)
    · rw [gv_s] at hq
      refine dn (T := fun i => ∀ h1, WT h h1 K g → WB h1 K (fdi (fun b p => bif okp g k taken p then gv g pn 15 n (k + 1) (taken ||| bo p) (many + 1) (wrong + Wp g k p) (setf asg k (p + 1)) b else b) (gv g pn 15 n (k + 1) taken many wrong (setf asg k 0) b) pn i) → (∀ j, j < k → h1.1 40 j = pI (asg j)) → ∀ w w', PP (Ev mtb shp (d + n + 2)) shp cd_W_giveFrom 0 (qV Kk) 42 [.ref 38, .int (nI k), .int (nI taken), .int (nI many), .int (nI wrong), .int (nI i), w, w'] [] h1) (m := 15) (fun h1 x1 x2 x3 w w' => ?_) (fun i hi ih h1 x1 x2 x3 w w' => ?_) 0 (Nat.zero_le _) h1 x1 x2 (fun j hj => by rw [x3 j (by omega), setf_n _ _ (by omega)]) unv unv
      · exact p_W_giveFrom_42 (d + n + 2) _ _ _ _ _ _ _ h1 _ (lpE (m := 15) (hq h1 x1 x2 x3))
      · obtain ⟨p0, p1, p2, p3, p4⟩ := pn_ok i hi
        have v15 := vp_in_nI hi (by decide)
        have v60 := vp_in_nI (show k * 15 + i < 60 by omega) (by decide)
        refine p_W_giveFrom_42 (d + n + 2) _ _ _ _ _ _ _ h1 _ (lpS (m := 15) hi (by decide) ⟨v15, by decide, v15, by decide, ?_⟩)
        have bl := bo_lt p1 p2
        rw [nI_clamp (show i < 2 ^ 31 by omega), p0, rm10 (by omega), dv10 (by omega), shl1 _ (by omega), shl1 _ (by omega), nI_or, ← bo, nI_and, nI_or, show nI k * 15 + nI i = nI (k * 15 + i) by rw [show (15 : Int32) = nI 15 from rfl, pk_mul, nI_add], nI_clamp (show k * 15 + i < 2 ^ 31 by omega), x1.2.2 k (by omega) i hi, nI_s i, nI_clamp (show k < 2 ^ 31 by omega)]
        refine ⟨v60, ?_⟩
        rw [fdi] at ih
        have hal : taken &&& bo (pn i) ≤ taken := Nat.and_le_left
        cases hp : prq g k i
        · rw [cond_false]
          refine ⟨fun _ => ?_, fun z => absurd rfl z⟩
          rw [show okp g k taken (pn i) = false from by unfold okp; rw [← prq, hp]; rfl, cond_false] at ih
          exact ih h1 x1 x2 x3 _ _
        · rw [cond_true]
          obtain ⟨u1, u2⟩ := pr_lt hB hp
          have hwp := Wp_le hB (show k < K by omega) u1 u2
          refine ⟨fun z => ?_, fun _ => pk_ne (taken &&& bo (pn i)) 0 (fun c => ?_) (fun c => ⟨v15, v4, ?_⟩)⟩
          · have := congrArg Int32.toInt z
            rw [nI_toInt (by omega), show (-1 : Int32).toInt = -1 from rfl] at this
            omega
          · rw [show okp g k taken (pn i) = false from by unfold okp; rw [decide_eq_false c, Bool.and_false], cond_false] at ih
            exact ih h1 x1 x2 x3 _ _
          · rw [show okp g k taken (pn i) = true from by unfold okp; rw [← prq, hp, decide_eq_true c]; rfl, cond_true] at ih
            rw [nI_s k, nI_s many, nI_add]
            refine s_W_giveFrom hB n d (k + 1) (taken ||| bo (pn i)) (many + 1) (wrong + Wp g k (pn i)) (setf asg k (pn i + 1)) _ _ _ (by omega) ⟨SC_hs x1.1 rfl _, x1.2.1, x1.2.2⟩ x2 (Nat.or_lt_two_pow (n := 6) ht bl) (by omega) (by omega) (fun j hj => ?_) (fun h2 y1 y2 y3 => ?_)
            · show upd (h1.1 40) k _ j = _
              by_cases e : j = k
              · rw [e, pk_us, setf_s, sub1]
              · rw [pk_un e, setf_n _ _ e]; exact x3 j (by omega)
            · exact ih h2 y1 y2 (fun j hj => by rw [y3 j (by omega), setf_n _ _ (by omega)]) _ _
def z0 : Nat → Nat := fun _ => 0
/-- the match -/
def mtc (g : Gs) (K : Nat) : Bst := gv g pn 15 K 0 0 0 0 z0 (1, 0, z0)
theorem s_J_fillb (d : Nat) {h : Hp} {v : Int32} {Kk : Hp → Prop} (hq : ∀ F, (∀ a, a < 4 → F a = v) → Kk (hs h 39 F)) : Ev mtb shp (d + 1) m_J_fill [.ref 39, .int v] h (qV Kk) := by
  refine e_J_fillb d _ h _ ?_
  have key := dn (T := fun i => ∀ F, (∀ a, a < i → F a = v) → PP (Ev mtb shp d) shp cd_J_fill 0 (qV Kk) 5 [.ref 39, .int v, .int (nI i), .int (nI 4)] [] (hs h 39 F)) (m := 4) (fun F s2 => ?_) (fun i hi ih F s2 => ?_) 0 (Nat.zero_le _) (h.1 39) (fun a ha => absurd ha (Nat.not_lt_zero a))
  · rw [hs_id] at key
    exact key
  · exact p_J_fillb_5 d _ _ _ _ _ (lpE (hq F s2))
  · refine p_J_fillb_5 d _ _ _ _ _ (lpS hi (by decide) ⟨vp_in_nI hi (by decide), ?_⟩)
    rw [hs_hs, nI_clamp (show i < 2 ^ 31 by omega), nI_s]
    refine ih _ (fun a ha => ?_)
    show upd F i v a = v
    by_cases e : a = i
    · rw [e, pk_us]
    · rw [pk_un e]; exact s2 a (by omega)
theorem s_W_arrange (d : Nat) {h : Hp} {K m : Nat} {g : Gs} (hC : RC h K g) (hR : RR8 h m g) (hB : GB K m g) {Kk : Hp → Prop} (hq : ∀ h', SC h h' → WB h' K (mtc g K) → Kk h') : Ev mtb shp (d + 7) m_W_arrange [.ref 38, .ref 3, .ref 8] h (qV Kk) := by
  have hK4 := hB.1
  refine e_W_arrange (d + 6) h _ ?_
  rw [hC.1]
  refine dn (T := fun k => ∀ h', SC h h' → h'.1 38 5 = nI K → (∀ j, j < k → ∀ i, i < 15 → h'.1 41 (j * 15 + i) = bif prq g j i then nI (Wp g j (pn i)) else -1) → PP (Ev mtb shp (d + 6)) shp cd_W_arrange 0 (qV Kk) 10 [.ref 38, .ref 3, .ref 8, .int (nI k)] [] h') (m := K) (fun h' s1 s2 s3 => ?_) (fun k hk ih h' s1 s2 s3 => ?_) 0 (Nat.zero_le _) _ (SC_hs (SC_rfl h) rfl _) rfl (fun j hj => absurd hj (Nat.not_lt_zero j))
  · refine p_W_arrange_10 (d + 6) _ h' _ ?_
    rw [s2]
    refine lpE (s_J_fillb (d + 5) (fun F hF => ?_))
    have hE := s_W_giveFrom (h := h) hB K (d + (4 - K)) 0 0 0 0 z0 (1, 0, z0) (hs (hs (hs h' 39 F) 38 (upd (h'.1 38) 1 0)) 38 (upd (upd (h'.1 38) 1 0) 2 0)) Kk (by omega) ⟨SC_hs (SC_hs (SC_hs s1 rfl _) rfl _) rfl _, by
      show upd (upd (h'.1 38) 1 0) 2 0 5 = _
      rw [pk_un (by decide), pk_un (by decide)]; exact s2, s3⟩ ⟨⟨by show 1 ≤ 5; decide, by show 0 ≤ 268435456; decide⟩, by show 1 ≤ 1; decide, by
      show upd (upd (h'.1 38) 1 0) 2 0 1 = _
      rw [pk_un (by decide), pk_us]; rfl, by
      show upd (upd (h'.1 38) 1 0) 2 0 2 = _
      rw [pk_us]; rfl, fun j hj => by
      show F j = _
      rw [hF j (by omega)]; rfl, fun j _ hj => hF j hj⟩ (by decide) (by decide) (by decide) (fun j hj => absurd hj (Nat.not_lt_zero j)) (fun h'' x1 x2 x3 => hq h'' x1.1 x2)
    rw [show d + (4 - K) + K + 2 = d + 6 by omega] at hE
    exact hE
  · refine p_W_arrange_10 (d + 6) _ h' _ ?_
    rw [s2]
    refine lpS hk (by omega) (s_W_weigh (d + 2) hC hR hB hk s1 s2 s3 (fun h'' x1 x2 x3 => ?_))
    rw [nI_s]
    exact ih h'' x1 x2 x3
