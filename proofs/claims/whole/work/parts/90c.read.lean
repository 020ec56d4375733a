/-! the reference reads a line -/
theorem fk0 {i : Nat} (h : i % 5 = 0) (c : Nat) : fit 0 i c = decide (kx c ≠ 0) := by
  unfold fit
  rw [if_neg (by omega), if_pos rfl, if_pos h]
theorem fk1 {i : Nat} (h : i % 5 = 1) (c : Nat) : fit 0 i c = dgt 57 c := by
  unfold fit
  rw [if_neg (by omega), if_pos rfl, if_neg (by omega), if_pos h]
theorem fk2 {i : Nat} (h : i % 5 = 2) (c : Nat) : fit 0 i c = dgt 52 c := by
  unfold fit
  rw [if_neg (by omega), if_pos rfl, if_neg (by omega), if_neg (by omega), if_pos h]
theorem fk3 {i : Nat} (h : i % 5 = 3) (c : Nat) : fit 0 i c = dgt 51 c := by
  unfold fit
  rw [if_neg (by omega), if_pos rfl, if_neg (by omega), if_neg (by omega), if_neg (by omega)]
theorem fk4 {i : Nat} (h : i % 5 = 4) (c : Nat) : fit 0 i c = if c = 44 then decide (i / 5 + 1 < 4) else (decide (c = 59) && decide (2 ≤ i / 5 + 1)) := by
  unfold fit
  rw [if_pos h, if_pos rfl]
theorem fs0 {κ i : Nat} (hκ : κ ≠ 0) (h : i % 5 = 0) (c : Nat) : fit κ i c = dgt 57 c := by
  unfold fit
  rw [if_neg (by omega), if_neg hκ, if_pos h]
theorem fs1 {κ i : Nat} (hκ : κ ≠ 0) (h : i % 5 = 1) (c : Nat) : fit κ i c = dgt 52 c := by
  unfold fit
  rw [if_neg (by omega), if_neg hκ, if_neg (by omega), if_pos h]
theorem fs2 {κ i : Nat} (hκ : κ ≠ 0) (h : i % 5 = 2) (c : Nat) : fit κ i c = dgt 51 c := by
  unfold fit
  rw [if_neg (by omega), if_neg hκ, if_neg (by omega), if_neg (by omega), if_pos h]
theorem fs3 {κ i : Nat} (hκ : κ ≠ 0) (h : i % 5 = 3) (c : Nat) : fit κ i c = dgt 49 c := by
  unfold fit
  rw [if_neg (by omega), if_neg hκ, if_neg (by omega), if_neg (by omega), if_neg (by omega)]
theorem fs4 {κ i : Nat} (hκ : κ ≠ 0) (h : i % 5 = 4) (c : Nat) : fit κ i c = (decide (c = 44) && decide (i / 5 - κ + 1 < 6)) := by
  unfold fit
  rw [if_pos h, if_neg hκ]
theorem r3_ok {c : Nat → Nat} {k κ : Nat} (ha : AF c k) (hk : kp c k = κ) (h0 : ∀ x, fit κ k x = dgt 57 x) (h1 : ∀ x, fit κ (k + 1) x = dgt 52 x) (h2 : ∀ x, fit κ (k + 2) x = dgt 51 x) (hm : k % 5 ≤ 1) : (r3 c k = k + 3 ∧ AF c (k + 3) ∧ kp c (k + 3) = κ) ∨ (r3 c k ≠ k + 3 ∧ AF c (r3 c k) ∧ kp c (r3 c k) = κ ∧ fit κ (r3 c k) (c (r3 c k)) = false ∧ k ≤ r3 c k ∧ r3 c k ≤ k + 2) := by
  unfold r3
  cases hc : dgt 57 (c k)
  · rw [cond_false]
    exact Or.inr ⟨by omega, ha, hk, by rw [h0]; exact hc, by omega, by omega⟩
  · rw [cond_true]
    have f0 : fit (kp c k) k (c k) = true := by rw [hk, h0]; exact hc
    have a1 := AF_s ha f0
    have k1 : kp c (k + 1) = κ := by rw [kp_keep f0 (by omega)]; exact hk
    cases hc1 : dgt 52 (c (k + 1))
    · rw [cond_false]
      exact Or.inr ⟨by omega, a1, k1, by rw [h1]; exact hc1, by omega, by omega⟩
    · rw [cond_true]
      have f1 : fit (kp c (k + 1)) (k + 1) (c (k + 1)) = true := by rw [k1, h1]; exact hc1
      have a2 := AF_s a1 f1
      have k2 : kp c (k + 1 + 1) = κ := by rw [kp_keep f1 (by omega)]; exact k1
      cases hc2 : dgt 51 (c (k + 2))
      · rw [cond_false]
        exact Or.inr ⟨by omega, a2, k2, by rw [h2]; exact hc2, by omega, by omega⟩
      · rw [cond_true]
        have f2 : fit (kp c (k + 1 + 1)) (k + 1 + 1) (c (k + 1 + 1)) = true := by rw [k2]; exact (h2 _).trans hc2
        exact Or.inl ⟨rfl, AF_s a2 f2, by rw [show k + 3 = (k + 1 + 1) + 1 from rfl, kp_keep f2 (by omega)]; exact k2⟩
theorem AF_n {c : Nat → Nat} {n e : Nat} (h0 : c n = 0) (h : AF c e) : e ≤ n := by
  by_cases z : e ≤ n
  · exact z
  · have := h n (by omega)
    rw [h0, fit_0] at this
    cases this
/-- no whole line: it ends before, or as no line ends -/
theorem whl_no {c : Nat → Nat} {n e : Nat} (h0 : c n = 0) (ha : AF c e) (hf : fit (kp c e) e (c e) = false) (hw : e = n → e % 5 = 4 → kp c e = 0 ∨ (n + 1) / 5 - kp c e < 2) : whl c n = false := by
  refine decide_eq_false (fun z => ?_)
  rw [er_eq ha hf (AF_n h0 ha)] at z
  have e1 := z.2.1
  rcases hw e1 (by rw [e1]; exact z.1) with y | y
  · rw [e1] at y; omega
  · rw [e1] at y; omega
def FE (h h' : Hp) : Prop := (∀ i, i ≠ 46 → h'.1 i = h.1 i) ∧ ∀ f, f ≠ 24 → f ≠ 25 → f ≠ 26 → h'.1 46 f = h.1 46 f
theorem FE_RQ {h h' : Hp} {g : Gs} (hF : FE h h') (hR : RQ h g) : RQ h' g := by
  unfold RQ
  rw [hF.1 61 (by decide), hF.2 22 (by decide) (by decide) (by decide)]
  exact hR
theorem FE_2 {h h' : Hp} (hF : FE h h') {a b : Nat} (ha : a = 24 ∨ a = 25 ∨ a = 26) (hb : b = 24 ∨ b = 25 ∨ b = 26) (x y : Int32) : FE h (hs (hs h' 46 (upd (h'.1 46) a x)) 46 (upd (upd (h'.1 46) a x) b y)) := by
  refine ⟨fun i hi => ?_, fun f h1 h2 h3 => ?_⟩
  · rw [hs_off _ _ hi, hs_off _ _ hi]; exact hF.1 i hi
  · show upd (upd (h'.1 46) a x) b y f = _
    rw [pk_un (by omega), pk_un (by omega)]
    exact hF.2 f h1 h2 h3
theorem FE_1 {h h' : Hp} (hF : FE h h') {a : Nat} (ha : a = 24 ∨ a = 25 ∨ a = 26) (x : Int32) : FE h (hs h' 46 (upd (h'.1 46) a x)) := by
  refine ⟨fun i hi => ?_, fun f h1 h2 h3 => ?_⟩
  · rw [hs_off _ _ hi]; exact hF.1 i hi
  · show upd (h'.1 46) a x f = _
    rw [pk_un (by omega)]
    exact hF.2 f h1 h2 h3
theorem s_M_readStockings (d : Nat) {h0 h : Hp} {g : Gs} (hR : RQ h0 g) (hP : PB g) {κ : Nat} (hκ : κ ≠ 0) (hκ4 : κ ≤ 4) (hF : FE h0 h) (h24 : h.1 46 24 = 0) (h25 : h.1 46 25 = nI κ) (h26 : h.1 46 26 = 0) (ha : AF (lt g) (5 * κ)) (hk : kp (lt g) (5 * κ) = κ) {Kk : Int32 → Hp → Prop} (hq : ∀ h', FE h0 h' → h'.1 46 24 = bz (whl (lt g) (g 16 0)) → (whl (lt g) (g 16 0) = true → h'.1 46 25 = nI (kp (lt g) (g 16 0)) ∧ h'.1 46 26 = nI ((g 16 0 + 1) / 5 - kp (lt g) (g 16 0))) → Kk (nI (er (lt g) (g 16 0))) h') : Ev mtb shp (d + 4) m_M_readStockings [.ref 46, .int (nI (5 * κ))] h (qI Kk) := by
  have hP1 := hP.1
  have l0 := lt_n g
  refine e_M_readStockings (d + 3) _ h _ ?_
  refine dn (T := fun s => s < 6 → ∀ h', FE h0 h' → h'.1 46 24 = 0 → h'.1 46 25 = nI κ → h'.1 46 26 = nI s → AF (lt g) (5 * (κ + s)) → kp (lt g) (5 * (κ + s)) = κ → ∀ w, PP (Ev mtb shp (d + 3)) shp cd_M_readStockings 1 (qI Kk) 2 [.ref 46, .int (nI (5 * κ)), .int (nI (5 * (κ + s))), w] [] h') (m := 6) (fun z => absurd z (Nat.lt_irrefl 6)) (fun s hs6 ih _ h' f1 f24 f25 f26 ha hk w => ?_) 0 (Nat.zero_le _) (by decide) h hF h24 h25 h26 ha hk unv
  have no : ∀ e h', FE h0 h' → AF (lt g) e → fit (kp (lt g) e) e (lt g e) = false → (e = g 16 0 → e % 5 = 4 → kp (lt g) e = 0 ∨ (g 16 0 + 1) / 5 - kp (lt g) e < 2) → h'.1 46 24 = 0 → Kk (nI e) h' := by
    intro e h' y1 y2 y3 y4 y5
    have hw := whl_no l0 y2 y3 y4
    have := hq h' y1 (by rw [hw]; exact y5) (fun z => by rw [hw] at z; cases z)
    rw [er_eq y2 y3 (AF_n l0 y2)] at this
    exact this
  have hkb : 5 * (κ + s) < 100 := by omega
  refine p_M_readStockings_2 (d + 3) _ _ _ h' _ ?_
  have hR' := FE_RQ f1 hR
  have e22 : ∀ v, upd (h'.1 46) 26 v 22 = nI (g 16 0) := fun v => by rw [pk_un (by decide)]; exact hR'.1
  have e26 : ∀ v, upd (h'.1 46) 26 v 26 = v := fun v => pk_us
  have e24 : ∀ v x, upd (upd (h'.1 46) 26 v) 24 x 24 = x := fun v x => pk_us
  have e26b : ∀ v x, upd (upd (h'.1 46) 26 v) 24 x 26 = v := fun v x => by rw [pk_un (by decide), pk_us]
  rw [f26, show nI (5 * (κ + s)) + 3 = nI (5 * (κ + s) + 3) from nI_add _ 3, show nI (5 * (κ + s)) + 4 = nI (5 * (κ + s) + 4) from nI_add _ 4, nI_s (5 * (κ + s) + 4)]
  refine pk_le 6 s (fun z => by omega) (fun _ => s_M_readThree d hR' hP (by omega) ?_)
  rcases r3_ok ha hk (fun x => fs0 hκ (by omega) x) (fun x => fs1 hκ (by omega) x) (fun x => fs2 hκ (by omega) x) (by omega) with ⟨q1, q2, q3⟩ | ⟨q1, q2, q3, q4, q5, q6⟩
  · rw [q1]
    refine ⟨fun z => absurd rfl z, fun _ => s_M_isFigure (most := 1) (d + 1) hR' hP (by omega) (by decide) (bz_bn (fun c => ?_) (fun c => ?_))⟩
    · have f3 : fit (kp (lt g) (5 * (κ + s) + 3)) (5 * (κ + s) + 3) (lt g (5 * (κ + s) + 3)) = true := by rw [q3, fs3 hκ (by omega)]; exact c
      have a4 := AF_s q2 f3
      have k4 : kp (lt g) (5 * (κ + s) + 4) = κ := by rw [show 5 * (κ + s) + 4 = (5 * (κ + s) + 3) + 1 from rfl, kp_keep f3 (by omega)]; exact q3
      rw [f26, nI_s s, e22, e26, e24, e24, e26b, e26b]
      have fin : ∀ x, FE h0 (hs (hs h' 46 (upd (h'.1 46) 26 (nI (s + 1)))) 46 (upd (upd (h'.1 46) 26 (nI (s + 1))) 24 x)) := fun x => FE_2 f1 (Or.inr (Or.inr rfl)) (Or.inl rfl) _ _
      have more : (5 * (κ + s) + 4 = g 16 0 → s + 1 ≤ 1) → (nI (s + 1) = 6 → Kk (nI (5 * (κ + s) + 4)) (hs (hs h' 46 (upd (h'.1 46) 26 (nI (s + 1)))) 46 (upd (upd (h'.1 46) 26 (nI (s + 1))) 24 0))) ∧ (¬ nI (s + 1) = 6 → Ev mtb shp (d + 3) m_M_at [.ref 46, .int (nI (5 * (κ + s) + 4))] (hs (hs h' 46 (upd (h'.1 46) 26 (nI (s + 1)))) 46 (upd (upd (h'.1 46) 26 (nI (s + 1))) 24 0)) (qI fun v6 h5 => (v6 = 44 → PP (Ev mtb shp (d + 3)) shp cd_M_readStockings 1 (qI Kk) 2 [.ref 46, .int (nI (5 * κ)), .int (nI (5 * (κ + s) + 4 + 1)), .int (nI (5 * (κ + s) + 3))] [] h5) ∧ (¬ v6 = 44 → Kk (nI (5 * (κ + s) + 4)) h5))) := by
        intro hnw
        have nw : (5 * (κ + s) + 4) = g 16 0 → (5 * (κ + s) + 4) % 5 = 4 → kp (lt g) (5 * (κ + s) + 4) = 0 ∨ (g 16 0 + 1) / 5 - kp (lt g) (5 * (κ + s) + 4) < 2 := by
          intro z1 _
          have := hnw z1
          rw [k4]
          omega
        refine pk_eq (s + 1) 6 (fun e6 => ?_) (fun e6 => s_M_at (d + 2) (FE_RQ (fin 0) hR) hP (by omega) (pk_eq (lt g (5 * (κ + s) + 4)) 44 (fun e44 => ?_) (fun e44 => ?_) (ha := by have := lt_lt hP (5 * (κ + s) + 4); omega)))
        · exact no _ _ (fin 0) a4 (by rw [k4, fs4 hκ (by omega), decide_eq_false (show ¬ (5 * (κ + s) + 4) / 5 - κ + 1 < 6 by omega), Bool.and_false]) nw (e24 (nI (s + 1)) 0)
        · have f4 : fit (kp (lt g) (5 * (κ + s) + 4)) (5 * (κ + s) + 4) (lt g (5 * (κ + s) + 4)) = true := by
            rw [k4, fs4 hκ (by omega), decide_eq_true e44, decide_eq_true (show (5 * (κ + s) + 4) / 5 - κ + 1 < 6 by omega)]; rfl
          have a5 := AF_s a4 f4
          have k5 : kp (lt g) (5 * (κ + s) + 4 + 1) = κ := by
            rw [kp, if_neg (by omega)]; exact k4
          rw [show 5 * (κ + s) + 4 + 1 = 5 * (κ + (s + 1)) by omega] at a5 k5 ⊢
          refine ih (by omega) _ (fin 0) (e24 (nI (s + 1)) 0) ?_ (e26b (nI (s + 1)) 0) a5 k5 _
          show upd (upd (h'.1 46) 26 (nI (s + 1))) 24 0 25 = _
          rw [pk_un (by decide), pk_un (by decide)]; exact f25
        · exact no _ _ (fin 0) a4 (by rw [k4, fs4 hκ (by omega), decide_eq_false e44, Bool.false_and]) nw (e24 (nI (s + 1)) 0)
      refine pk_ne (5 * (κ + s) + 4) (g 16 0) (fun z => ⟨rfl, ⟨fun y => absurd rfl y, fun _ => more (fun y => absurd y z)⟩⟩) (fun z => pk_le (s + 1) 1 (fun y => ⟨rfl, ⟨fun y => absurd rfl y, fun _ => more (fun _ => y)⟩⟩) (fun y => ⟨rfl, ⟨fun _ => ?_, fun y => absurd y (by decide)⟩⟩))
      have ern : er (lt g) (g 16 0) = g 16 0 := er_eq (by rw [← z]; exact a4) (by rw [l0]; exact fit_0 _ _) (Nat.le_refl _)
      have hw : whl (lt g) (g 16 0) = true := by
        refine decide_eq_true ⟨by omega, ern, ?_, ?_⟩
        · rw [← z, k4]; omega
        · rw [← z, k4]; omega
      have := hq _ (fin 1) (by rw [hw]; exact e24 (nI (s + 1)) 1) (fun _ => ⟨by
        show upd (upd (h'.1 46) 26 (nI (s + 1))) 24 1 25 = _
        rw [pk_un (by decide), pk_un (by decide), f25, ← z, k4], by
        show upd (upd (h'.1 46) 26 (nI (s + 1))) 24 1 26 = _
        rw [e26b, ← z, k4, show (5 * (κ + s) + 4 + 1) / 5 - κ = s + 1 by omega]⟩)
      rw [ern, ← z] at this
      exact this
    · exact no _ _ f1 q2 (by rw [q3, fs3 hκ (by omega)]; exact c) (fun _ z => by omega) f24
  · refine ⟨fun _ => ?_, fun z => absurd ((nI_eq (by omega) (by omega)).mp z) q1⟩
    exact no _ _ f1 q2 (by rw [q3]; exact q4) (fun _ z => by omega) f24
theorem s_M_read (d : Nat) {h : Hp} {g : Gs} (hR : RQ h g) (hP : PB g) {Kk : Int32 → Hp → Prop} (hq : ∀ h', FE h h' → h'.1 46 24 = bz (whl (lt g) (g 16 0)) → (whl (lt g) (g 16 0) = true → h'.1 46 25 = nI (kp (lt g) (g 16 0)) ∧ h'.1 46 26 = nI ((g 16 0 + 1) / 5 - kp (lt g) (g 16 0))) → Kk (nI (er (lt g) (g 16 0))) h') : Ev mtb shp (d + 5) m_M_read [.ref 46] h (qI Kk) := by
  have hP1 := hP.1
  have l0 := lt_n g
  refine e_M_read (d + 4) h _ ⟨rfl, ?_⟩
  have fe0 : FE h (hs (hs (hs h 46 (upd (h.1 46) 24 0)) 46 (upd (upd (h.1 46) 24 0) 25 0)) 46 (upd (upd (upd (h.1 46) 24 0) 25 0) 26 0)) := by
    refine ⟨fun i hi => ?_, fun f h1 h2 h3 => ?_⟩
    · rw [hs_off _ _ hi, hs_off _ _ hi, hs_off _ _ hi]
    · show upd (upd (upd (h.1 46) 24 0) 25 0) 26 0 f = _
      rw [pk_un h3, pk_un h2, pk_un h1]
  refine dn (T := fun q => q < 4 → ∀ h', FE h h' → h'.1 46 24 = 0 → h'.1 46 25 = nI q → h'.1 46 26 = 0 → AF (lt g) (5 * q) → kp (lt g) (5 * q) = 0 → ∀ w, PP (Ev mtb shp (d + 4)) shp cd_M_read 1 (qI Kk) 17 [.ref 46, .int (nI (5 * q)), w] [] h') (m := 4) (fun z => absurd z (Nat.lt_irrefl 4)) (fun q hq4 ih _ h' f1 f24 f25 f26 ha hk w => ?_) 0 (Nat.zero_le _) (by decide) _ fe0 (by
    show upd (upd (upd (h.1 46) 24 0) 25 0) 26 0 24 = _
    rw [pk_un (by decide), pk_un (by decide), pk_us]) (by
    show upd (upd (upd (h.1 46) 24 0) 25 0) 26 0 25 = _
    rw [pk_un (by decide), pk_us]; rfl) (by
    show upd (upd (upd (h.1 46) 24 0) 25 0) 26 0 26 = _
    rw [pk_us]) (fun j hj => absurd hj (Nat.not_lt_zero j)) rfl unv
  have no : ∀ e h', FE h h' → AF (lt g) e → fit (kp (lt g) e) e (lt g e) = false → kp (lt g) e = 0 → h'.1 46 24 = 0 → Kk (nI e) h' := by
    intro e h' y1 y2 y3 y4 y5
    have hw := whl_no l0 y2 y3 (fun _ _ => Or.inl y4)
    have := hq h' y1 (by rw [hw]; exact y5) (fun z => by rw [hw] at z; cases z)
    rw [er_eq y2 y3 (AF_n l0 y2)] at this
    exact this
  refine p_M_read_17 (d + 4) _ _ h' _ ?_
  have hR' := FE_RQ f1 hR
  rw [f25, nI_s (5 * q), show nI (5 * q) + 4 = nI (5 * q + 4) from nI_add _ 4, nI_s (5 * q + 4)]
  refine pk_le 4 q (fun z => by omega) (fun _ => s_M_at (d + 3) hR' hP (by omega) (s_M_kindBy (d + 3) (lt_lt hP _) (pI_bn (by have := kx_lt (lt g (5 * q)); omega) (fun e => ?_) (fun e => ?_))))
  · have f0 : fit (kp (lt g) (5 * q)) (5 * q) (lt g (5 * q)) = true := by rw [hk, fk0 (by omega)]; exact decide_eq_true e
    have a1 := AF_s ha f0
    have k1 : kp (lt g) (5 * q + 1) = 0 := by rw [kp_keep f0 (by omega)]; exact hk
    refine s_M_readThree (d + 1) hR' hP (by omega) ?_
    rcases r3_ok a1 k1 (fun x => fk1 (by omega) x) (fun x => fk2 (by omega) x) (fun x => fk3 (by omega) x) (by omega) with ⟨q1, q2, q3⟩ | ⟨q1, q2, q3, q4, q5, q6⟩
    · rw [q1]
      have a4 : AF (lt g) (5 * q + 4) := q2
      have k4 : kp (lt g) (5 * q + 4) = 0 := q3
      have fe1 : FE h (hs h' 46 (upd (h'.1 46) 25 (nI (q + 1)))) := FE_1 f1 (Or.inr (Or.inl rfl)) _
      have g24 : (hs h' 46 (upd (h'.1 46) 25 (nI (q + 1)))).1 46 24 = 0 := by
        show upd (h'.1 46) 25 (nI (q + 1)) 24 = 0
        rw [pk_un (by decide)]; exact f24
      have g26 : (hs h' 46 (upd (h'.1 46) 25 (nI (q + 1)))).1 46 26 = 0 := by
        show upd (h'.1 46) 25 (nI (q + 1)) 26 = 0
        rw [pk_un (by decide)]; exact f26
      have g25 : (hs h' 46 (upd (h'.1 46) 25 (nI (q + 1)))).1 46 25 = nI (q + 1) := by
        show upd (h'.1 46) 25 (nI (q + 1)) 25 = _
        rw [pk_us]
      have hl := lt_lt hP (5 * q + 4)
      have cont : (lt g (5 * q + 4) = 59 → q + 1 ≤ 1) → (nI (q + 1) = 4 → Kk (nI (5 * q + 4)) (hs h' 46 (upd (h'.1 46) 25 (nI (q + 1))))) ∧ (¬ nI (q + 1) = 4 → Ev mtb shp (d + 4) m_M_at [.ref 46, .int (nI (5 * q + 4))] (hs h' 46 (upd (h'.1 46) 25 (nI (q + 1)))) (qI fun v10 h9 => (v10 = 44 → PP (Ev mtb shp (d + 4)) shp cd_M_read 1 (qI Kk) 17 [.ref 46, .int (nI (5 * q + 4 + 1)), .int (nI (5 * q + 1 + 3))] [] h9) ∧ (¬ v10 = 44 → Kk (nI (5 * q + 4)) h9))) := by
        intro h59
        refine pk_eq (q + 1) 4 (fun e4 => ?_) (fun e4 => s_M_at (d + 3) (FE_RQ fe1 hR) hP (by omega) (pk_eq (lt g (5 * q + 4)) 44 (fun e44 => ?_) (fun e44 => ?_)))
        · refine no _ _ fe1 a4 ?_ k4 g24
          rw [k4, fk4 (by omega)]
          by_cases z : lt g (5 * q + 4) = 44
          · rw [if_pos z]; exact decide_eq_false (by omega)
          · rw [if_neg z, decide_eq_false (fun y => by have := h59 y; omega)]; rfl
        · have f4 : fit (kp (lt g) (5 * q + 4)) (5 * q + 4) (lt g (5 * q + 4)) = true := by
            rw [k4, fk4 (by omega), if_pos e44]; exact decide_eq_true (by omega)
          have a5 := AF_s a4 f4
          have k5 : kp (lt g) (5 * q + 4 + 1) = 0 := by
            rw [kp, if_neg (by omega)]; exact k4
          rw [show 5 * q + 4 + 1 = 5 * (q + 1) by omega] at a5 k5 ⊢
          exact ih (by omega) _ fe1 g24 g25 g26 a5 k5 _
        · refine no _ _ fe1 a4 ?_ k4 g24
          rw [k4, fk4 (by omega), if_neg e44]
          by_cases z : lt g (5 * q + 4) = 59
          · rw [decide_eq_false (show ¬ 2 ≤ (5 * q + 4) / 5 + 1 by have := h59 z; omega), Bool.and_false]
          · rw [decide_eq_false z]; rfl
      refine ⟨fun _ => ?_, fun z => absurd rfl z⟩
      rw [f25, nI_s q]
      refine s_M_at (d + 3) (FE_RQ fe1 hR) hP (by omega) ?_
      rw [g25]
      refine pk_ne (lt g (5 * q + 4)) 59 (fun z => cont (fun y => absurd y z)) (fun z => pk_le (q + 1) 1 (fun y => cont (fun _ => y)) (fun y => ?_))
      have f4 : fit (kp (lt g) (5 * q + 4)) (5 * q + 4) (lt g (5 * q + 4)) = true := by
        rw [k4, fk4 (by omega), if_neg (by omega), decide_eq_true z, decide_eq_true (show 2 ≤ (5 * q + 4) / 5 + 1 by omega)]; rfl
      have a5 := AF_s a4 f4
      have k5 : kp (lt g) (5 * q + 4 + 1) = q + 1 := by
        rw [kp, if_pos z]; omega
      rw [show 5 * q + 4 + 1 = 5 * (q + 1) by omega] at a5 k5 ⊢
      exact s_M_readStockings d hR hP (by omega) (by omega) fe1 g24 g25 g26 a5 k5 hq
    · refine ⟨fun z => absurd ((nI_eq (by omega) (by omega)).mp z) q1, fun _ => ?_⟩
      exact no _ _ f1 q2 (by rw [q3]; exact q4) q3 f24
  · exact no _ _ f1 ha (by rw [hk, fk0 (by omega)]; exact decide_eq_false (fun y => y e)) hk f24
