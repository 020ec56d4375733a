/-! the match, by the reference: all rows -/
def BO (h' : Hp) (K : Nat) (y : List Nat) (b : Bst) : Prop := BB b ∧ (b.1 ≠ 0 → ∀ j, j < K → ∃ r, r ≤ y.length ∧ h'.1 65 j = nI r ∧ b.2.2 j = cod y r)
def LPp (d : Nat) (a0 : Int32) (h0 : Hp) (K : Nat) (g : Gs) (y : List Nat) (Kk : Int32 → Hp → Prop) (ρ : Nat → Nat) (b : Bst) : Prop := ∀ h' w5 x4, x4 ≠ 0 → MT h0 h' K g y → RT h' ρ → BO h' K y b → PP (Ev mtb shp d) shp cd_M_matchNow 1 (qI Kk) 35 [.ref 46, .int a0, .int (pI b.1), .int (nI b.2.1), .int x4, w5] [] h'
def NXp (d : Nat) (a0 : Int32) (h0 : Hp) (K : Nat) (g : Gs) (y : List Nat) (Kk : Int32 → Hp → Prop) (ρ : Nat → Nat) (b : Bst) : Prop := ∀ h' w5, MT h0 h' K g y → RT h' ρ → BO h' K y b → Ev mtb shp d m_M_nextRow [.ref 46] h' (qI fun v h5 => PP (Ev mtb shp d) shp cd_M_matchNow 1 (qI Kk) 35 [.ref 46, .int a0, .int (pI b.1), .int (nI b.2.1), .int v, w5] [] h5)
theorem pI_ltb {a b : Nat} {A C : Prop} (ha : a < 2 ^ 31) (hb : b < 2 ^ 31) (f : a < b → A) (t : b ≤ a → C) : (pI a < pI b → A) ∧ (¬ pI a < pI b → C) := by
  rw [lt_toInt, pI_toInt ha, pI_toInt hb]
  exact ⟨fun z => f (by omega), fun z => t (by omega)⟩
section ROWS
variable {d : Nat} {a0 : Int32} {h0 : Hp} {K m : Nat} {g : Gs} {y : List Nat} {Kk : Int32 → Hp → Prop}
theorem MT_64 {h' : Hp} (m1 : MT h0 h' K g y) (F : Nat → Int32) : MT h0 (hs h' 64 F) K g y := ⟨SM_hs m1.1 rfl (by decide) _, m1.2.1, m1.2.2⟩
theorem MT_65 {h' : Hp} (m1 : MT h0 h' K g y) (F : Nat → Int32) : MT h0 (hs h' 65 F) K g y := ⟨SM_hs m1.1 rfl (by decide) _, m1.2.1, m1.2.2⟩
theorem leafI (hM0 : RM h0 K m g) (hB : GB K m g) (hy : LO m y) (hl : y.length ≤ 15) {ρ : Nat → Nat} {b : Bst} (hρ : ∀ j, j < K → ρ j ≤ y.length) (hr : rowv g y ρ K = none) (hN : NXp (d + 1) a0 h0 K g y Kk ρ b) : LPp (d + 1) a0 h0 K g y Kk ρ b := by
  intro h' w5 x4 hx m1 r1 b1
  refine p_M_matchNow_35 (d + 1) _ _ _ _ _ h' _ ⟨fun z => absurd z hx, fun _ => s_M_isRow d hM0 hB hy hl m1 r1 hρ (fun _ h1 f1 => ?_) (fun u mm w z => by rw [hr] at z; cases z)⟩
  refine ⟨fun _ => hN h1 _ (FR_MT m1 f1) (fun j hj => by rw [f1.1 64 (by decide)]; exact r1 j hj) ⟨b1.1, fun z j hj => by rw [f1.1 65 (by decide)]; exact b1.2 z j hj⟩, fun z => absurd rfl z⟩
theorem leafV (hM0 : RM h0 K m g) (hB : GB K m g) (hy : LO m y) (hl : y.length ≤ 15) {ρ : Nat → Nat} {b : Bst} {u mm w : Nat} {asg : Nat → Nat} (hρ : ∀ j, j < K → ρ j ≤ y.length) (hr : rowv g y ρ K = some (u, mm, w)) (ha : ∀ j, j < K → asg j = cod y (ρ j)) (hN : NXp (d + 1) a0 h0 K g y Kk ρ (keep b mm w asg)) : LPp (d + 1) a0 h0 K g y Kk ρ b := by
  intro h' w5 x4 hx m1 r1 b1
  have hK4 := hB.1
  obtain ⟨bd1, bd2, bd3⟩ := rowv_bd hB (Nat.le_refl K) hr
  obtain ⟨⟨bb1, bb2⟩, bb3⟩ := id b1
  refine p_M_matchNow_35 (d + 1) _ _ _ _ _ h' _ ⟨fun z => absurd z hx, fun _ => s_M_isRow d hM0 hB hy hl m1 r1 hρ (fun z => by rw [hr] at z; cases z) (fun u' mm' w' z h1 f1 f2 f3 => ?_)⟩
  rw [hr] at z
  have z := Option.some.inj z
  rw [Prod.mk.injEq, Prod.mk.injEq] at z
  obtain ⟨rfl, rfl, rfl⟩ := z
  have m2 := FR_MT m1 f1
  have r2 : RT h1 ρ := fun j hj => by rw [f1.1 64 (by decide)]; exact r1 j hj
  have better : (b.1 < mm + 1 ∨ (mm + 1 = b.1 ∧ w < b.2.1)) → PP (Ev mtb shp (d + 1)) shp cd_M_matchNow 1 (qI Kk) 84 [.ref 46, .int a0, .int (nI mm), .int (nI w), .int x4, .int 0] [] h1 := by
    intro hbt
    have ek : keep b mm w asg = (mm + 1, w, asg) := if_pos hbt
    rw [ek] at hN
    have key := dn (T := fun i => ∀ F, (∀ j, j < i → F j = nI (ρ j)) → PP (Ev mtb shp (d + 1)) shp cd_M_matchNow 1 (qI Kk) 84 [.ref 46, .int a0, .int (nI mm), .int (nI w), .int x4, .int (nI i)] [] (hs h1 65 F)) (m := 4) (fun F hF => ?_) (fun i hi ih F hF => ?_) 0 (Nat.zero_le _) (h1.1 65) (fun j hj => absurd hj (Nat.not_lt_zero j))
    · rw [hs_id] at key
      exact key
    · refine p_M_matchNow_84 (d + 1) _ _ _ _ _ _ _ (lpE (m := 4) ?_)
      rw [← sub1 mm]
      refine hN (hs h1 65 F) _ (MT_65 m2 F) r2 ⟨⟨by show mm + 1 ≤ 5; omega, by show w ≤ 268435456; omega⟩, fun _ j hj => ⟨ρ j, hρ j hj, hF j (by omega), ha j hj⟩⟩
    · have v4 := vp_in_nI hi (by decide)
      refine p_M_matchNow_84 (d + 1) _ _ _ _ _ _ _ (lpS (m := 4) hi (by decide) ⟨v4, v4, ?_⟩)
      rw [hs_hs, nI_clamp (show i < 2 ^ 31 by omega), nI_s i]
      refine ih _ (fun j hj => ?_)
      show upd F i (h1.1 64 i) j = _
      by_cases e : j = i
      · rw [e, pk_us]; exact r2 i (by omega)
      · rw [pk_un e]; exact hF j (by omega)
  have worse : ¬ (b.1 < mm + 1 ∨ (mm + 1 = b.1 ∧ w < b.2.1)) → Ev mtb shp (d + 1) m_M_nextRow [.ref 46] h1 (qI fun v h5 => PP (Ev mtb shp (d + 1)) shp cd_M_matchNow 1 (qI Kk) 35 [.ref 46, .int a0, .int (pI b.1), .int (nI b.2.1), .int v, w5] [] h5) := by
    intro hbt
    have ek : keep b mm w asg = b := if_neg hbt
    rw [ek] at hN
    exact hN h1 _ m2 r2 ⟨b1.1, fun z j hj => by rw [f1.1 65 (by decide)]; exact b1.2 z j hj⟩
  rw [f2, f3]
  refine ⟨fun z => absurd z (by decide), fun _ => ?_⟩
  rw [← sub1 mm] at better ⊢
  exact pI_ltb (by omega) (by omega) (fun c => better (Or.inl c)) (fun c => pI_ne (by omega) (by omega) (fun c2 => worse (by omega)) (fun c2 => pk_le b.2.1 w (fun c3 => worse (by omega)) (fun c3 => better (by omega))))
theorem setf_setf (f : Nat → Nat) (k v v' : Nat) : setf (setf f k v) k v' = setf f k v' := by
  funext j
  unfold setf
  by_cases e : j = k
  · rw [if_pos e, if_pos e]
  · rw [if_neg e, if_neg e, if_neg e]
theorem sf_set {K k : Nat} (hk : k < K) (ρ : Nat → Nat) (c : Nat) : sf K (setf ρ k c) (k + 1) c = sf K ρ k c := by
  funext j
  by_cases e : j < k
  · rw [sf_lo (by omega), sf_lo e, setf_n _ _ (by omega)]
  · by_cases e2 : j = k
    · rw [sf_lo (by omega), sf_mi e (by omega), e2, setf_s]
    · by_cases e3 : j < K
      · rw [sf_mi (by omega) e3, sf_mi e e3]
      · rw [sf_hi (by omega) e3, sf_hi e e3]
theorem sf_K {K : Nat} (ρ : Nat → Nat) (c c' : Nat) : sf K ρ K c = sf K ρ K c' := by
  funext j
  by_cases e : j < K
  · rw [sf_lo e, sf_lo e]
  · rw [sf_hi e e, sf_hi e e]
theorem stepN (hM0 : RM h0 K m g) (hB : GB K m g) (hl : y.length ≤ 15) {ρ : Nat → Nat} {b : Bst} {k : Nat} (hk : k < K) (hρ : ρ k < y.length) (hL : LPp (d + 1) a0 h0 K g y Kk (sf K (setf ρ k (ρ k + 1)) (k + 1) 0) b) : NXp (d + 1) a0 h0 K g y Kk (sf K ρ (k + 1) y.length) b := by
  intro h' w5 m1 r1 b1
  exact s_M_nextRow d hM0 hB.1 hl m1 hk hρ r1 (fun F r2 => hL _ _ 1 (by decide) (MT_64 m1 F) r2 b1)
theorem claimI (hM0 : RM h0 K m g) (hB : GB K m g) (hy : LO m y) (hl : y.length ≤ 15) {b : Bst} : ∀ (n k : Nat) (ρ : Nat → Nat), k + n = K → (∀ j, j < k → ρ j ≤ y.length) → rowv g y ρ k = none → NXp (d + 1) a0 h0 K g y Kk (sf K ρ k y.length) b → LPp (d + 1) a0 h0 K g y Kk (sf K ρ k 0) b
  | 0, k, ρ, hk, hρ, hr, hN => by
    obtain rfl : k = K := by omega
    rw [sf_K ρ y.length 0] at hN
    refine leafI hM0 hB hy hl (fun j hj => by rw [sf_lo hj]; exact hρ j hj) ?_ hN
    rw [rowv_congr (σ := ρ) (fun j hj => sf_lo hj)]
    exact hr
  | n + 1, k, ρ, hk, hρ, hr, hN => by
    rw [← sf_set (show k < K by omega)]
    have sub : ∀ r, r ≤ y.length → NXp (d + 1) a0 h0 K g y Kk (sf K (setf ρ k r) (k + 1) y.length) b → LPp (d + 1) a0 h0 K g y Kk (sf K (setf ρ k r) (k + 1) 0) b := by
      intro r hr2 hN2
      refine claimI hM0 hB hy hl n (k + 1) (setf ρ k r) (by omega) (fun j hj => ?_) ?_ hN2
      · by_cases e : j = k
        · rw [e, setf_s]; exact hr2
        · rw [setf_n _ _ e]; exact hρ j (by omega)
      · refine rowv_none (k := k) ?_ (by omega)
        rw [rowv_congr (σ := ρ) (fun j hj => setf_n _ _ (by omega))]
        exact hr
    refine dn (T := fun r => LPp (d + 1) a0 h0 K g y Kk (sf K (setf ρ k r) (k + 1) 0) b) (m := y.length) ?_ (fun r hr2 ih => ?_) 0 (Nat.zero_le _)
    · exact sub _ (Nat.le_refl _) (by rw [sf_set (show k < K by omega)]; exact hN)
    · refine sub r (by omega) (stepN hM0 hB hl (by omega) (by rw [setf_s]; exact hr2) ?_)
      rw [setf_s, setf_setf]
      exact ih
theorem claimV (hM0 : RM h0 K m g) (hB : GB K m g) (hy : LO m y) (hl : y.length ≤ 15) : ∀ (n k : Nat) (ρ : Nat → Nat) (u mm w : Nat) (asg : Nat → Nat) (b : Bst), k + n = K → (∀ j, j < k → ρ j ≤ y.length) → rowv g y ρ k = some (u, mm, w) → (∀ j, j < k → asg j = cod y (ρ j)) → NXp (d + 1) a0 h0 K g y Kk (sf K ρ k y.length) (gv g (qn y) y.length n k u mm w asg b) → LPp (d + 1) a0 h0 K g y Kk (sf K ρ k 0) b
  | 0, k, ρ, u, mm, w, asg, b, hk, hρ, hr, ha, hN => by
    obtain rfl : k = K := by omega
    rw [sf_K ρ y.length 0] at hN
    refine leafV hM0 hB hy hl (u := u) (mm := mm) (w := w) (asg := asg) (fun j hj => by rw [sf_lo hj]; exact hρ j hj) ?_ (fun j hj => by rw [sf_lo hj]; exact ha j hj) hN
    rw [rowv_congr (σ := ρ) (fun j hj => sf_lo hj)]
    exact hr
  | n + 1, k, ρ, u, mm, w, asg, b, hk, hρ, hr, ha, hN => by
    rw [gv_s] at hN
    rw [← sf_set (show k < K by omega)]
    generalize hf : (fun (b : Bst) (p : Nat) => bif okp g k u p then gv g (qn y) y.length n (k + 1) (u ||| bo p) (mm + 1) (w + Wp g k p) (setf asg k (p + 1)) b else b) = f at hN
    generalize hb0 : gv g (qn y) y.length n (k + 1) u mm w (setf asg k 0) b = b0 at hN
    have hrc : ∀ r, rowv g y (setf ρ k r) k = some (u, mm, w) := fun r => by
      rw [rowv_congr (σ := ρ) (fun j hj => setf_n _ _ (by omega))]
      exact hr
    have hρr : ∀ r, r ≤ y.length → ∀ j, j < k + 1 → setf ρ k r j ≤ y.length := by
      intro r hr2 j hj
      by_cases e : j = k
      · rw [e, setf_s]; exact hr2
      · rw [setf_n _ _ e]; exact hρ j (by omega)
    have sub : ∀ r, r ≤ y.length → NXp (d + 1) a0 h0 K g y Kk (sf K (setf ρ k r) (k + 1) y.length) (fdi f b0 (qn y) r) → LPp (d + 1) a0 h0 K g y Kk (sf K (setf ρ k r) (k + 1) 0) (if r = 0 then b else fdi f b0 (qn y) (r - 1)) := by
      intro r hr2 hN2
      cases r with
      | zero =>
        rw [if_pos rfl]
        refine claimV hM0 hB hy hl n (k + 1) (setf ρ k 0) u mm w (setf asg k 0) b (by omega) (hρr 0 hr2) (rowv_0 (hrc 0) (setf_s _ _ _)) (fun j hj => ?_) ?_
        · by_cases e : j = k
          · rw [e, setf_s, setf_s]; rfl
          · rw [setf_n _ _ e, setf_n _ _ e]; exact ha j (by omega)
        · rw [hb0]; exact hN2
      | succ r =>
        rw [if_neg (Nat.succ_ne_zero r), Nat.add_sub_cancel]
        rw [fdi] at hN2
        have e1 : setf ρ k (r + 1) k - 1 = r := by rw [setf_s]; rfl
        cases ho : okp g k u (qn y r)
        · refine claimI hM0 hB hy hl n (k + 1) (setf ρ k (r + 1)) (by omega) (hρr _ hr2) (rowv_no (hrc (r + 1)) (by rw [setf_s]; omega) (by rw [e1]; exact ho)) ?_
          rw [show f (fdi f b0 (qn y) r) (qn y r) = fdi f b0 (qn y) r from by rw [← hf]; show (bif okp g k u (qn y r) then _ else _) = _; rw [ho]; rfl] at hN2
          exact hN2
        · have hro := rowv_ok (hrc (r + 1)) (by rw [setf_s]; omega) (by rw [e1]; exact ho)
          rw [e1] at hro
          refine claimV hM0 hB hy hl n (k + 1) (setf ρ k (r + 1)) _ _ _ (setf asg k (qn y r + 1)) (fdi f b0 (qn y) r) (by omega) (hρr _ hr2) hro (fun j hj => ?_) ?_
          · by_cases e : j = k
            · rw [e, setf_s, setf_s]; rfl
            · rw [setf_n _ _ e, setf_n _ _ e]; exact ha j (by omega)
          · rw [show f (fdi f b0 (qn y) r) (qn y r) = gv g (qn y) y.length n (k + 1) (u ||| bo (qn y r)) (mm + 1) (w + Wp g k (qn y r)) (setf asg k (qn y r + 1)) (fdi f b0 (qn y) r) from by rw [← hf]; show (bif okp g k u (qn y r) then _ else _) = _; rw [ho]; rfl] at hN2
            exact hN2
    have key := dn (T := fun r => LPp (d + 1) a0 h0 K g y Kk (sf K (setf ρ k r) (k + 1) 0) (if r = 0 then b else fdi f b0 (qn y) (r - 1))) (m := y.length) ?_ (fun r hr2 ih => ?_) 0 (Nat.zero_le _)
    · exact key
    · exact sub _ (Nat.le_refl _) (by rw [sf_set (show k < K by omega)]; exact hN)
    · refine sub r (by omega) (stepN hM0 hB hl (by omega) (by rw [setf_s]; exact hr2) ?_)
      rw [setf_s, setf_setf]
      rw [if_neg (Nat.succ_ne_zero r), Nat.add_sub_cancel] at ih
      exact ih
end ROWS
def aM (K : Nat) (g : Gs) (w : Nat) : Int32 := if w = 0 then pI (mtc g K).1 else if w = 1 then nI (mtc g K).2.1 else if w - 10 < K then pI ((mtc g K).2.2 (w - 10)) else -1
theorem s_M_matchNow (d : Nat) {h : Hp} {K m : Nat} {g : Gs} (hM : RM h K m g) (hB : GB K m g) {w : Nat} (hw : w < 2 ∨ (10 ≤ w ∧ w < 14)) {Kk : Int32 → Hp → Prop} (hq : ∀ h', SM h h' → Kk (aM K g w) h') : Ev mtb shp (d + 7) m_M_matchNow [.ref 46, .int (nI w)] h (qI Kk) := by
  have hK4 := hB.1
  refine e_M_matchNow (d + 6) _ h _ (s_M_layPairs d hM hB (fun h1 m1 hy hl => ?_))
  have key := dn (T := fun i => ∀ F, (∀ j, j < i → F j = nI 0) → ∀ w5, PP (Ev mtb shp (d + 6)) shp cd_M_matchNow 1 (qI Kk) 12 [.ref 46, .int (nI w), .int (pI 0), .int (nI 268435456), .int (nI i), w5] [] (hs h1 64 F)) (m := 4) (fun F hF w5 => ?_) (fun i hi ih F hF w5 => ?_) 0 (Nat.zero_le _) (h1.1 64) (fun j hj => absurd hj (Nat.not_lt_zero j)) unv
  · rw [hs_id] at key
    exact key
  · refine p_M_matchNow_12 (d + 6) _ _ _ _ _ _ _ (lpE (m := 4) ?_)
    have hfin : NXp (d + 6) (nI w) h K g (Ln g 15) Kk (sf K z0 0 (Ln g 15).length) (gv g (qn (Ln g 15)) (Ln g 15).length K 0 0 0 0 z0 (0, 268435456, z0)) := by
      intro h' w5 m2 r2 b2
      refine s_M_nextRowE (d + 5) hM hK4 hl m2 r2 (fun F => ?_)
      rw [gv_first, gv_L] at b2 ⊢
      have hpos : 1 ≤ (mtc g K).1 := gv_pos g pn 15 K 0 0 0 0 z0 (1, 0, z0) (Nat.le_refl 1)
      have m3 := MT_64 m2 F
      have hq := hq _ m3.1
      have hM3 := RM_SM m3.1 hM
      unfold aM at hq
      obtain ⟨⟨bb1, bb2⟩, bb3⟩ := b2
      refine p_M_matchNow_35 (d + 6) _ _ _ _ _ _ _ ⟨fun _ => pk_le 2 w (fun c => ?_) (fun c => pk_ne w 0 (fun e => ?_) (fun e => ?_)), fun z => absurd rfl z⟩
      · rw [show nI w - 10 = nI (w - 10) from pk_sub (b := 10) (by omega), nI_clamp (show w - 10 < 2 ^ 31 by omega)]
        rw [if_neg (by omega), if_neg (by omega)] at hq
        refine s_M_isKing (d + 4) hM3 (by omega) _ ?_
        rw [inR_nI (by omega)]
        refine bz_br (fun e => ?_) (fun e => ⟨vp_in_nI (show w - 10 < 4 by omega) (by decide), ?_⟩)
        · rw [if_neg (of_decide_eq_false e)] at hq
          exact hq
        · have e := of_decide_eq_true e
          rw [if_pos e] at hq
          obtain ⟨r, q1, q2, q3⟩ := bb3 (Nat.ne_of_gt hpos) (w - 10) e
          rw [show (mtc g K).2.2 (w - 10) = cod (Ln g 15) r from q3] at hq
          rw [show (hs h' 64 F).1 65 (w - 10) = nI r from q2]
          unfold cod at hq
          refine pk_le r 0 (fun e2 => ?_) (fun e2 => ⟨vp_in_nI (show w - 10 < 4 by omega) (by decide), vp_in_nI (show r < 16 by omega) (by decide), ?_⟩)
          · rw [if_pos (by omega)] at hq
            exact hq
          · rw [if_neg (by omega), sub1] at hq
            rw [nI_clamp (show r < 2 ^ 31 by omega)]
            have := (m3.2.2 (r - 1) (by omega)).1
            rw [Nat.sub_add_cancel (by omega)] at this
            rw [this]
            exact hq
      · rw [if_neg e, if_pos (by omega)] at hq
        exact hq
      · rw [if_pos e] at hq
        exact hq
    have hst := claimV (d := d + 5) (a0 := nI w) (Kk := Kk) hM hB hy hl K 0 z0 0 0 0 z0 (0, 268435456, z0) (by omega) (fun j hj => absurd hj (Nat.not_lt_zero j)) rfl (fun j hj => absurd hj (Nat.not_lt_zero j)) hfin
    refine hst (hs h1 64 F) w5 1 (by decide) (MT_64 m1 F) (fun j hj => ?_) ⟨⟨by show 0 ≤ 5; decide, by show 268435456 ≤ 268435456; decide⟩, fun z => absurd rfl z⟩
    rw [show (hs h1 64 F).1 64 j = F j from rfl, hF j hj]
    by_cases e : j < K
    · rw [sf_mi (by omega) e]
    · rw [sf_hi (by omega) e]
  · have v4 := vp_in_nI hi (by decide)
    refine p_M_matchNow_12 (d + 6) _ _ _ _ _ _ _ (lpS (m := 4) hi (by decide) ⟨v4, ?_⟩)
    rw [hs_hs, nI_clamp (show i < 2 ^ 31 by omega), nI_s i]
    refine ih _ (fun j hj => ?_) _
    show upd F i 0 j = _
    by_cases e : j = i
    · rw [e, pk_us]; rfl
    · rw [pk_un e]; exact hF j (by omega)
