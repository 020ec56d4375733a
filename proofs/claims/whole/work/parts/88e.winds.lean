/-! how the wind went -/
theorem byI_s (j : Nat) : byI j + 1 = byI (j + 1) := by
  unfold byI
  rw [← nI_s, Int32.sub_eq_add_neg, Int32.sub_eq_add_neg, Int32.add_assoc, Int32.add_comm (-9) 1, ← Int32.add_assoc]
theorem by9 : ∀ j, j < 20 → (9 < byI j ↔ j = 19) := by decide +kernel
theorem byE {A B : Prop} {j : Nat} (hj : j < 20) (f : j = 19 → A) (t : j ≠ 19 → B) : (9 < byI j → A) ∧ (¬ 9 < byI j → B) := by
  rw [by9 j hj]
  exact ⟨f, t⟩
theorem pI_s (n : Nat) : pI n + 1 = pI (n + 1) := by
  rw [sub1]
  exact Int32.sub_add_cancel _ _
theorem pI_ne {a b : Nat} {A B : Prop} (ha : a < 2 ^ 31) (hb : b < 2 ^ 31) (f : a ≠ b → A) (t : a = b → B) : (¬ pI a = pI b → A) ∧ (pI a = pI b → B) := by
  rw [pI_inj ha hb]
  exact ⟨f, t⟩
theorem pI_eq {a b : Nat} {A B : Prop} (ha : a < 2 ^ 31) (hb : b < 2 ^ 31) (t : a = b → A) (f : a ≠ b → B) : (pI a = pI b → A) ∧ (¬ pI a = pI b → B) := ⟨(pI_ne ha hb f t).2, (pI_ne ha hb f t).1⟩
theorem blw_le {n j : Nat} : blw n j ≤ 10 := by
  unfold blw
  split
  · omega
  · split <;> omega
/-- whether wind j (9 less) can have blown, by the first t lies -/
def wq (g : Gs) : Nat → Nat → Bool
  | 0, _ => true
  | t + 1, j => wq g t j && decide (blw (g 8 (g 9 t)) j = g 10 t)
def wnd (g : Gs) (j : Nat) : Bool := wq g (g 14 0) j
theorem wq_no {g : Gs} {t j : Nat} (h : wq g (t + 1) j = false) : ∀ n, t + 1 ≤ n → wq g n j = false
  | 0, hn => by omega
  | n + 1, hn => by
    by_cases e : t + 1 = n + 1
    · rw [← e]; exact h
    · rw [wq, wq_no h n (by omega), Bool.false_and]
theorem s_X_canHaveBlown (d : Nat) {h : Hp} {K m : Nat} {g : Gs} (hR : RR8 h m g) (hB : GB K m g) (hN : RN h g) (hNB : NB K m g) {j : Nat} (hj : j < 19) {Kk : Int32 → Hp → Prop} (hq : Kk (bz (wnd g j)) h) : Ev mtb shp (d + 3) m_X_canHaveBlown [.ref 0, .int (byI j)] h (qI Kk) := by
  have hm6 := hB.2.1
  obtain ⟨n1, n2, n3, n4, n5, n6, n7⟩ := hN
  obtain ⟨m1, m2, m3, m4, m5⟩ := hNB
  refine e_X_canHaveBlown (d + 2) _ h _ ?_
  refine dn (T := fun i => wq g i j = true → PP (Ev mtb shp (d + 2)) shp cd_X_canHaveBlown 2 (qI Kk) 2 [.ref 0, .int (byI j), .int (nI i)] [] h) (m := g 14 0) (fun hw => ?_) (fun i hi ih hw => ?_) 0 (Nat.zero_le _) rfl
  · refine p_X_canHaveBlown_2 (d + 2) _ _ h _ ?_
    rw [n3]
    rw [wnd, hw] at hq
    exact lpE ⟨rfl, hq⟩
  · obtain ⟨q1, q2⟩ := n5 i hi
    obtain ⟨u1, u2⟩ := m4 i hi
    have v6 := vp_in_nI (show i < 6 by omega) (by decide)
    refine p_X_canHaveBlown_2 (d + 2) _ _ h _ ?_
    rw [n3, nI_clamp (show i < 2 ^ 31 by omega), q1, nI_s]
    refine lpS hi (by omega) ⟨v6, s_R_pegBehind d hR hB (by omega) hj ⟨v6, ?_⟩⟩
    rw [q2]
    have hbl := blw_le (n := g 8 (g 9 i)) (j := j)
    refine pI_eq (by omega) (by omega) (fun e => ?_) (fun e => ⟨rfl, ?_⟩)
    · exact ih (by rw [wq, hw, decide_eq_true e]; rfl)
    · have : wq g (i + 1) j = false := by rw [wq, decide_eq_false e, Bool.and_false]
      rw [wnd, wq_no this (g 14 0) hi] at hq
      exact hq
theorem s_X_countWinds (d : Nat) {h : Hp} {K m : Nat} {g : Gs} (hR : RR8 h m g) (hB : GB K m g) (hN : RN h g) (hNB : NB K m g) {Kk : Int32 → Hp → Prop} (hq : Kk (nI (cnt 19 (wnd g))) h) : Ev mtb shp (d + 4) m_X_countWinds [.ref 0] h (qI Kk) := by
  refine e_X_countWinds (d + 3) h _ ?_
  refine dn0 (T := fun j => PP (Ev mtb shp (d + 3)) shp cd_X_countWinds 1 (qI Kk) 5 [.ref 0, .int (nI (cnt j (wnd g))), .int (byI j)] [] h) 19 ?_ (fun j hj ih => ?_)
  · exact p_X_countWinds_5 (d + 3) _ _ h _ (byE (by decide) (fun _ => hq) (fun z => absurd rfl z))
  · refine p_X_countWinds_5 (d + 3) _ _ h _ (byE (by omega) (fun z => by omega) (fun _ => ?_))
    rw [byI_s]
    refine s_X_canHaveBlown d hR hB hN hNB hj (bz_br (fun c => ?_) (fun c => ?_))
    · rw [cnt_f c] at ih; exact ih
    · rw [cnt_t c] at ih; rw [nI_s]; exact ih
/-- wind y and one; 0: none -/
def bw (y : Nat) : Int32 := if y = 0 then 0 else byI (y - 1)
theorem bw_s (j : Nat) : bw (j + 1) = byI j := by
  unfold bw
  rw [if_neg (by omega), Nat.add_sub_cancel]
theorem s_X_leastWind (d : Nat) {h : Hp} {K m : Nat} {g : Gs} (hR : RR8 h m g) (hB : GB K m g) (hN : RN h g) (hNB : NB K m g) {Kk : Int32 → Hp → Prop} (hq : Kk (bw (fst (wnd g) 19)) h) : Ev mtb shp (d + 4) m_X_leastWind [.ref 0] h (qI Kk) := by
  refine e_X_leastWind (d + 3) h _ ?_
  refine dn (T := fun j => (∀ i, i < j → wnd g i = false) → PP (Ev mtb shp (d + 3)) shp cd_X_leastWind 1 (qI Kk) 3 [.ref 0, .int (byI j)] [] h) (m := 19) (fun hn => ?_) (fun j hj ih hn => ?_) 0 (Nat.zero_le _) (fun i hi => absurd hi (Nat.not_lt_zero i))
  · refine p_X_leastWind_3 (d + 3) _ h _ (byE (by decide) (fun _ => ?_) (fun z => absurd rfl z))
    rw [fst_0 hn] at hq
    exact hq
  · refine p_X_leastWind_3 (d + 3) _ h _ (byE (by omega) (fun z => by omega) (fun _ => ?_))
    rw [byI_s]
    refine s_X_canHaveBlown d hR hB hN hNB hj (bz_br (fun c => ?_) (fun c => ?_))
    · refine ih (fun i hi => ?_)
      by_cases e : i = j
      · subst e; exact c
      · exact hn i (by omega)
    · rw [fst_i c hn hj, bw_s] at hq
      exact hq
def byM (j : Nat) : Int32 := nI j - 10
theorem byM_s : ∀ j, j < 20 → byM (j + 1) = byI j ∧ byI j + (-1) = byM j ∧ (¬ byI j < (-9)) := by decide +kernel
theorem lst_0 {p : Nat → Bool} : ∀ {n}, (∀ i, i < n → p i = false) → lst p n = 0
  | 0, _ => rfl
  | n + 1, h => by rw [lst, h n (by omega), lst_0 (fun i hi => h i (by omega))]; rfl
theorem lst_i {p : Nat → Bool} {j n : Nat} (hp : p j = true) (hj : j < n) (h : ∀ i, j < i → i < n → p i = false) : lst p n = j + 1 := by
  induction n with
  | zero => omega
  | succ n ih =>
    rw [lst]
    by_cases e : j = n
    · rw [← e, hp]; rfl
    · rw [h n (by omega) (by omega)]
      exact ih (by omega) (fun i h1 h2 => h i h1 (by omega))
theorem s_X_greatestWind (d : Nat) {h : Hp} {K m : Nat} {g : Gs} (hR : RR8 h m g) (hB : GB K m g) (hN : RN h g) (hNB : NB K m g) {Kk : Int32 → Hp → Prop} (hq : Kk (bw (lst (wnd g) 19)) h) : Ev mtb shp (d + 4) m_X_greatestWind [.ref 0] h (qI Kk) := by
  refine e_X_greatestWind (d + 3) h _ ?_
  refine dw0 (T := fun j => (∀ i, j ≤ i → i < 19 → wnd g i = false) → PP (Ev mtb shp (d + 3)) shp cd_X_greatestWind 1 (qI Kk) 3 [.ref 0, .int (byM j)] [] h) 19 (fun hn => ?_) (fun j hj ih hn => ?_) (fun i h1 h2 => by omega)
  · refine p_X_greatestWind_3 (d + 3) _ h _ ⟨fun _ => ?_, fun z => absurd (by decide) z⟩
    rw [lst_0 (fun i hi => hn i (by omega) hi)] at hq
    exact hq
  · obtain ⟨b1, b2, b3⟩ := byM_s j (by omega)
    rw [b1]
    refine p_X_greatestWind_3 (d + 3) _ h _ ⟨fun z => absurd z b3, fun _ => ?_⟩
    rw [b2]
    refine s_X_canHaveBlown d hR hB hN hNB hj (bz_br (fun c => ?_) (fun c => ?_))
    · refine ih (fun i h1 h2 => ?_)
      by_cases e : i = j
      · subst e; exact c
      · exact hn i (by omega) h2
    · rw [lst_i c hj (fun i h1 h2 => hn i h1 h2), bw_s] at hq
      exact hq
/-- the winds left at worst, when stocking s is asked for -/
def lwo (g : Gs) (s : Nat) : Nat := cnt 19 (fun j => decide (blw (g 8 s) j = 0) && wnd g j)
def lw (g : Gs) (s : Nat) : Nat := max (lwo g s) 1
theorem lw_le (g : Gs) (s : Nat) : lw g s ≤ 19 ∧ lwo g s ≤ 19 ∧ 1 ≤ lw g s := by
  have h1 : lwo g s ≤ 19 := cnt_le _ _
  unfold lw
  omega
theorem s_X_windsLeftAtWorst (d : Nat) {h : Hp} {K m : Nat} {g : Gs} (hR : RR8 h m g) (hB : GB K m g) (hN : RN h g) (hNB : NB K m g) {s : Nat} (hs : s < m) {Kk : Int32 → Hp → Prop} (hq : Kk (nI (lw g s)) h) : Ev mtb shp (d + 4) m_X_windsLeftAtWorst [.ref 0, .int (nI s)] h (qI Kk) := by
  have hm6 := hB.2.1
  refine e_X_windsLeftAtWorst (d + 3) _ h _ ?_
  refine dn0 (T := fun j => PP (Ev mtb shp (d + 3)) shp cd_X_windsLeftAtWorst 1 (qI Kk) 5 [.ref 0, .int (nI s), .int (nI (cnt j (fun j => decide (blw (g 8 s) j = 0) && wnd g j))), .int (byI j)] [] h) 19 ?_ (fun j hj ih => ?_)
  · refine p_X_windsLeftAtWorst_5 (d + 3) _ _ _ h _ (byE (by decide) (fun _ => ?_) (fun z => absurd rfl z))
    have := (lw_le g s).2.1
    rw [← lwo, show (1 : Int32) = nI 1 from rfl, mx_nI (by omega) (by decide), ← lw]
    exact hq
  · refine p_X_windsLeftAtWorst_5 (d + 3) _ _ _ h _ (byE (by omega) (fun z => by omega) (fun _ => ?_))
    rw [byI_s]
    have hbl := blw_le (n := g 8 s) (j := j)
    refine s_R_pegBehind (d + 1) hR hB (by omega) hj (pI_bn (by omega) (fun e => ?_) (fun e => s_X_canHaveBlown d hR hB hN hNB hj (bz_br (fun c => ?_) (fun c => ?_))))
    · rw [cnt_f (p := fun j => decide (blw (g 8 s) j = 0) && wnd g j) (by show (decide (blw (g 8 s) j = 0) && wnd g j) = false; rw [decide_eq_false e]; rfl)] at ih
      exact ih
    · rw [cnt_f (p := fun j => decide (blw (g 8 s) j = 0) && wnd g j) (by show (decide (blw (g 8 s) j = 0) && wnd g j) = false; rw [c, Bool.and_false])] at ih
      exact ih
    · rw [cnt_t (p := fun j => decide (blw (g 8 s) j = 0) && wnd g j) (by show (decide (blw (g 8 s) j = 0) && wnd g j) = true; rw [decide_eq_true e, c]; rfl)] at ih
      rw [nI_s]
      exact ih
/-- the first of the least, and one -/
def ars (f : Nat → Nat) (y s : Nat) : Nat := if y = 0 then s + 1 else if f s < f (y - 1) then s + 1 else y
def arm (f : Nat → Nat) : Nat → Nat
  | 0 => 0
  | s + 1 => ars f (arm f s) s
def ask (m : Nat) (g : Gs) : Nat := if cnt 19 (wnd g) = 0 then 0 else arm (lw g) m
theorem arm_le (f : Nat → Nat) : ∀ n, arm f n ≤ n
  | 0 => Nat.le_refl 0
  | n + 1 => by
    have := arm_le f n
    unfold arm ars
    split
    · exact Nat.le_refl _
    · split <;> omega
theorem s_X_bestToAsk (d : Nat) {h : Hp} {K m : Nat} {g : Gs} (hR : RR8 h m g) (hB : GB K m g) (hN : RN h g) (hNB : NB K m g) {Kk : Int32 → Hp → Prop} (hq : Kk (pI (ask m g)) h) : Ev mtb shp (d + 5) m_X_bestToAsk [.ref 0] h (qI Kk) := by
  have hm6 := hB.2.1
  have hc := cnt_le (wnd g) 19
  refine e_X_bestToAsk (d + 4) h _ (s_X_countWinds d hR hB hN hNB ?_)
  unfold ask at hq
  refine pk_ne (cnt 19 (wnd g)) 0 (fun e => ?_) (fun e => ?_)
  · rw [if_neg e] at hq
    refine dn0 (T := fun i => ∀ w, PP (Ev mtb shp (d + 4)) shp cd_X_bestToAsk 1 (qI Kk) 15 [.ref 0, .int (pI (arm (lw g) i)), .int (nI (if arm (lw g) i = 0 then cnt 19 (wnd g) else lw g (arm (lw g) i - 1))), .int (nI i), w] [] h) m (fun w => ?_) (fun i hi ih w => ?_) unv
    · refine p_X_bestToAsk_15 (d + 4) _ _ _ _ h _ ?_
      rw [hR.1]
      exact lpE hq
    · refine p_X_bestToAsk_15 (d + 4) _ _ _ _ h _ ?_
      rw [hR.1, nI_s i]
      refine lpS hi (by omega) (s_X_windsLeftAtWorst d hR hB hN hNB hi ?_)
      have ha := arm_le (lw g) i
      have l1 := lw_le g i
      have l2 := lw_le g (arm (lw g) i - 1)
      rw [arm, ars] at ih
      refine pI_br (by omega) (fun e1 => ?_) (fun e1 => ?_)
      · rw [if_pos e1, if_neg (by omega), Nat.add_sub_cancel, sub1] at ih
        exact ih _
      · rw [if_neg e1] at ih ⊢
        refine pk_le (lw g (arm (lw g) i - 1)) (lw g i) (fun c => ?_) (fun c => ?_)
        · rw [if_neg (by omega), if_neg e1] at ih
          exact ih _
        · rw [if_pos (by omega), if_neg (by omega), Nat.add_sub_cancel, sub1] at ih
          exact ih _
  · rw [if_pos e] at hq
    exact hq
theorem s_M_blown (d : Nat) {h : Hp} {n j : Nat} (hn : n ≤ 10) (hj : j < 19) {Kk : Int32 → Hp → Prop} (hq : Kk (pI (blw n j)) h) : Ev mtb shp (d + 3) m_M_blown [.int (pI n), .int (byI j)] h (qI Kk) := by
  refine e_M_blown (d + 2) _ _ h _ (pI_br (by omega) (fun e => ?_) (fun e => s_M_isPeg d _ ?_))
  · rw [blw, if_pos e] at hq
    exact hq
  · rw [blw_in n (by omega) j hj]
    rw [blw, if_neg e] at hq
    refine bz_bn (fun c => ?_) (fun c => ?_)
    · have c := of_decide_eq_true c
      rw [blw_eq n (by omega) j hj c]
      rw [if_pos c] at hq
      exact hq
    · rw [if_neg (of_decide_eq_false c)] at hq
      exact hq
theorem s_M_isWind (d : Nat) {h : Hp} {K m : Nat} {g : Gs} (hM : RM h K m g) (hB : GB K m g) (hN : RO h g) (hNB : NB K m g) {j : Nat} (hj : j < 19) {Kk : Int32 → Hp → Prop} (hq : Kk (bz (wnd g j)) h) : Ev mtb shp (d + 4) m_M_isWind [.ref 46, .int (byI j)] h (qI Kk) := by
  have hm6 := hB.2.1
  obtain ⟨n1, n2, n3, n4, n5, n6⟩ := hN
  obtain ⟨m1, m2, m3, m4, m5⟩ := hNB
  refine e_M_isWind (d + 3) _ h _ ?_
  refine dn0 (T := fun i => PP (Ev mtb shp (d + 3)) shp cd_M_isWind 2 (qI Kk) 4 [.ref 46, .int (byI j), .int (bz (wq g i j)), .int (nI i)] [] h) (g 14 0) ?_ (fun i hi ih => ?_)
  · refine p_M_isWind_4 (d + 3) _ _ _ h _ ?_
    rw [n3]
    exact lpE ⟨bz_nar _, hq⟩
  · obtain ⟨q1, q2⟩ := n5 i hi
    obtain ⟨u1, u2⟩ := m4 i hi
    have v6 := vp_in_nI (show i < 6 by omega) (by decide)
    refine p_M_isWind_4 (d + 3) _ _ _ h _ ?_
    rw [n3, nI_clamp (show i < 2 ^ 31 by omega), q1, nI_s, nI_clamp (show g 9 i < 2 ^ 31 by omega), (hM.2.2.2 (g 9 i) u1).2.2.2.2]
    rw [wq] at ih
    refine lpS hi (by omega) (bz_br (fun e => ?_) (fun e => ⟨v6, vp_in_nI (show g 9 i < 6 by omega) (by decide), s_M_blown d (hB.2.2.2.2.1 _) hj ⟨v6, ?_⟩⟩))
    · rw [e] at ih
      exact ih
    · rw [q2]
      have hbl := blw_le (n := g 8 (g 9 i)) (j := j)
      rw [e, Bool.true_and] at ih
      refine pI_ne (by omega) (by omega) (fun e2 => ?_) (fun e2 => ?_)
      · rw [decide_eq_false e2] at ih; exact ih
      · rw [decide_eq_true e2] at ih; exact ih
/-- the greatest of the first n -/
def gm (f : Nat → Nat) : Nat → Nat
  | 0 => 0
  | n + 1 => max (gm f n) (f n)
theorem gm_ge (f : Nat → Nat) {i : Nat} : ∀ {n}, i < n → f i ≤ gm f n
  | 0, h => absurd h (Nat.not_lt_zero i)
  | n + 1, h => by
    unfold gm
    by_cases e : i = n
    · subst e; omega
    · have := gm_ge f (n := n) (i := i) (by omega)
      omega
theorem gm_le {f : Nat → Nat} {B : Nat} : ∀ {n}, (∀ i, i < n → f i ≤ B) → gm f n ≤ B
  | 0, _ => Nat.zero_le B
  | n + 1, h => by
    have h1 := gm_le (n := n) (fun i hi => h i (by omega))
    have h2 := h n (by omega)
    unfold gm
    omega
theorem cnt_le1 {p : Nat → Bool} (h : ∀ i j, p i = true → p j = true → i = j) : ∀ n, cnt n p ≤ 1
  | 0 => Nat.zero_le 1
  | n + 1 => by
    have h1 := cnt_le1 h n
    cases hc : p n
    · rw [cnt_f hc]; exact h1
    · rw [cnt_t hc, cnt_zero (fun i hi => ?_)]
      · exact Nat.le_refl _
      · cases hi2 : p i
        · rfl
        · have := h i n hi2 hc
          omega
def smw (g : Gs) (s p : Nat) : Nat := cnt 19 (fun j => wnd g j && decide (blw (g 8 s) j = p))
theorem smw_le (g : Gs) (s p : Nat) : smw g s p ≤ 19 := cnt_le _ _
theorem worst_eq (g : Gs) (s : Nat) : gm (smw g s) 11 = if cnt 19 (wnd g) = 0 then 0 else lw g s := by
  have h0 : smw g s 0 = lwo g s := cnt_congr 19 (fun i _ => Bool.and_comm _ _)
  have h1 : ∀ p, p ≠ 0 → smw g s p ≤ 1 := by
    intro p hp
    refine cnt_le1 (fun i j hi hj => ?_) 19
    simp only [Bool.and_eq_true, decide_eq_true_eq] at hi hj
    have e1 := hi.2
    have e2 := hj.2
    unfold blw at e1 e2
    split at e1
    · omega
    · rename_i z
      rw [if_neg z] at e2
      split at e1
      · split at e2
        · omega
        · omega
      · omega
  split
  · rename_i e
    have hn : ∀ j, j < 19 → wnd g j = false := by
      intro j hj
      cases hc : wnd g j
      · rfl
      · have := cnt_pos (p := wnd g) ⟨j, hj, hc⟩
        omega
    refine Nat.le_zero.mp (gm_le (fun p hp => ?_))
    refine Nat.le_of_eq (cnt_zero (fun j hj => ?_))
    rw [hn j hj]; rfl
  · rename_i e
    obtain ⟨j, hj, hw⟩ := cnt_ex (p := wnd g) (n := 19) (by omega)
    have hbl := blw_le (n := g 8 s) (j := j)
    have g1 : 1 ≤ smw g s (blw (g 8 s) j) := cnt_pos ⟨j, hj, by simp [hw]⟩
    have g2 := gm_ge (smw g s) (n := 11) (i := blw (g 8 s) j) (by omega)
    have g3 := gm_ge (smw g s) (n := 11) (i := 0) (by omega)
    have g4 : gm (smw g s) 11 ≤ max (lwo g s) 1 := by
      refine gm_le (fun p hp => ?_)
      by_cases e0 : p = 0
      · rw [e0, h0]; omega
      · have := h1 p e0
        omega
    unfold lw
    omega
theorem pg10 : ∀ p, p < 12 → (10 ≤ pI p ↔ p = 11) := by decide +kernel
theorem s_M_worstWind (d : Nat) {h : Hp} {K m : Nat} {g : Gs} (hM : RM h K m g) (hB : GB K m g) (hN : RO h g) (hNB : NB K m g) {s : Nat} (hs : s < m) {Kk : Int32 → Hp → Prop} (hq : Kk (nI (if cnt 19 (wnd g) = 0 then 0 else lw g s)) h) : Ev mtb shp (d + 5) m_M_worstWind [.ref 46, .int (nI s)] h (qI Kk) := by
  have hm6 := hB.2.1
  have v6 := vp_in_nI (show s < 6 by omega) (by decide)
  rw [← worst_eq] at hq
  refine e_M_worstWind (d + 4) _ h _ ?_
  refine dn0 (T := fun p => ∀ w w', PP (Ev mtb shp (d + 4)) shp cd_M_worstWind 1 (qI Kk) 4 [.ref 46, .int (nI s), .int (nI (gm (smw g s) p)), .int (pI p), w, w'] [] h) 11 (fun w w' => ?_) (fun p hp ih w w' => ?_) unv unv
  · exact p_M_worstWind_4 (d + 4) _ _ _ _ _ h _ ⟨fun _ => hq, fun z => absurd ((pg10 11 (by decide)).mpr rfl) z⟩
  · refine p_M_worstWind_4 (d + 4) _ _ _ _ _ h _ ⟨fun z => absurd ((pg10 p (by omega)).mp z) (by omega), fun _ => ?_⟩
    refine dn0 (T := fun j => PP (Ev mtb shp (d + 4)) shp cd_M_worstWind 1 (qI Kk) 17 [.ref 46, .int (nI s), .int (nI (gm (smw g s) p)), .int (pI p), .int (nI (cnt j (fun j => wnd g j && decide (blw (g 8 s) j = p)))), .int (byI j)] [] h) 19 ?_ (fun j hj ih2 => ?_)
    · have l1 := smw_le g s p
      have l2 : gm (smw g s) p ≤ 19 := gm_le (fun i _ => smw_le g s i)
      refine p_M_worstWind_17 (d + 4) _ _ _ _ _ h _ (byE (by decide) (fun _ => ?_) (fun z => absurd rfl z))
      rw [← smw, pI_s]
      rw [gm] at ih
      refine pk_le (smw g s p) (gm (smw g s) p) (fun c => ?_) (fun c => ?_)
      · rw [Nat.max_eq_left c] at ih
        exact ih _ _
      · rw [Nat.max_eq_right (by omega)] at ih
        exact ih _ _
    · refine p_M_worstWind_17 (d + 4) _ _ _ _ _ h _ (byE (by omega) (fun z => by omega) (fun _ => ?_))
      rw [byI_s, nI_clamp (show s < 2 ^ 31 by omega), add0]
      refine s_M_isWind d hM hB hN hNB hj (bz_br (fun e => ?_) (fun e => ⟨v6, ?_⟩))
      · rw [cnt_f (p := fun j => wnd g j && decide (blw (g 8 s) j = p)) (by show (wnd g j && decide (blw (g 8 s) j = p)) = false; rw [e]; rfl)] at ih2
        exact ih2
      · rw [(hM.2.2.2 s hs).2.2.2.2]
        have hbl := blw_le (n := g 8 s) (j := j)
        refine s_M_blown (d + 1) (hB.2.2.2.2.1 _) hj (pI_ne (by omega) (by omega) (fun e2 => ?_) (fun e2 => ?_))
        · rw [cnt_f (p := fun j => wnd g j && decide (blw (g 8 s) j = p)) (by show (wnd g j && decide (blw (g 8 s) j = p)) = false; rw [decide_eq_false e2, Bool.and_false])] at ih2
          exact ih2
        · rw [cnt_t (p := fun j => wnd g j && decide (blw (g 8 s) j = p)) (by show (wnd g j && decide (blw (g 8 s) j = p)) = true; rw [decide_eq_true e2, e]; rfl)] at ih2
          rw [nI_s]
          exact ih2
theorem s_M_askNow (d : Nat) {h : Hp} {K m : Nat} {g : Gs} (hM : RM h K m g) (hB : GB K m g) (hN : RO h g) (hNB : NB K m g) {Kk : Int32 → Hp → Prop} (hq : Kk (pI (ask m g)) h) : Ev mtb shp (d + 6) m_M_askNow [.ref 46] h (qI Kk) := by
  have hm6 := hB.2.1
  refine e_M_askNow (d + 5) h _ ?_
  unfold ask at hq
  by_cases e : cnt 19 (wnd g) = 0
  · rw [if_pos e] at hq
    refine dn0 (T := fun i => ∀ w, PP (Ev mtb shp (d + 5)) shp cd_M_askNow 1 (qI Kk) 7 [.ref 46, .int (-1), .int 268435456, .int (nI i), w] [] h) m (fun w => ?_) (fun i hi ih w => ?_) unv
    · refine p_M_askNow_7 (d + 5) _ _ _ _ h _ ?_
      rw [hM.2.1]
      exact lpE hq
    · refine p_M_askNow_7 (d + 5) _ _ _ _ h _ ?_
      rw [hM.2.1, nI_s i]
      refine lpS hi (by omega) (s_M_worstWind d hM hB hN hNB hi ?_)
      rw [if_pos e]
      exact ⟨fun _ => ⟨fun _ => ih _, fun z => absurd (by decide) z⟩, fun z => absurd (by decide) z⟩
  · rw [if_neg e] at hq
    refine dn0 (T := fun i => ∀ w, PP (Ev mtb shp (d + 5)) shp cd_M_askNow 1 (qI Kk) 7 [.ref 46, .int (pI (arm (lw g) i)), .int (nI (if arm (lw g) i = 0 then 268435456 else lw g (arm (lw g) i - 1))), .int (nI i), w] [] h) m (fun w => ?_) (fun i hi ih w => ?_) unv
    · refine p_M_askNow_7 (d + 5) _ _ _ _ h _ ?_
      rw [hM.2.1]
      exact lpE hq
    · refine p_M_askNow_7 (d + 5) _ _ _ _ h _ ?_
      rw [hM.2.1, nI_s i]
      refine lpS hi (by omega) (s_M_worstWind d hM hB hN hNB hi ?_)
      rw [if_neg e]
      have l1 := lw_le g i
      have l2 := lw_le g (arm (lw g) i - 1)
      rw [arm, ars] at ih
      refine pk_le (lw g i) 0 (fun z => by omega) (fun _ => ?_)
      by_cases e1 : arm (lw g) i = 0
      · rw [if_pos e1] at ih ⊢
        rw [if_neg (by omega), Nat.add_sub_cancel, sub1] at ih
        exact pk_le 268435456 (lw g i) (fun z => by omega) (fun _ => pk_le (lw g i) 0 (fun z => by omega) (fun _ => pk_le 268435456 (lw g i) (fun z => by omega) (fun _ => ih _)))
      · rw [if_neg e1] at ih ⊢
        refine pk_le (lw g (arm (lw g) i - 1)) (lw g i) (fun c => pk_le (lw g i) 0 (fun z => by omega) (fun _ => pk_le (lw g (arm (lw g) i - 1)) (lw g i) (fun _ => ?_) (fun z => by omega))) (fun c => pk_le (lw g i) 0 (fun z => by omega) (fun _ => pk_le (lw g (arm (lw g) i - 1)) (lw g i) (fun z => by omega) (fun _ => ?_)))
        · rw [if_neg (by omega), if_neg e1] at ih
          exact ih _
        · rw [if_pos (by omega), if_neg (by omega), Nat.add_sub_cancel, sub1] at ih
          exact ih _
theorem fst_cnt (p : Nat → Bool) : ∀ n, fst p n = 0 ↔ cnt n p = 0
  | 0 => ⟨fun _ => rfl, fun _ => rfl⟩
  | n + 1 => by
    have := fst_cnt p n
    rw [fst, cnt]
    cases hc : p n
    · rw [cond_false, cond_false]
      split <;> omega
    · rw [cond_true, cond_true]
      split <;> omega
def aW (m : Nat) (g : Gs) (w : Nat) : Int32 := if w = 0 then nI (cnt 19 (wnd g)) else if w = 1 then bw (fst (wnd g) 19) else if w = 2 then bw (lst (wnd g) 19) else pI (ask m g)
theorem s_M_windsNow (d : Nat) {h : Hp} {K m : Nat} {g : Gs} (hM : RM h K m g) (hB : GB K m g) (hN : RO h g) (hNB : NB K m g) {w : Nat} (hw : w < 4) {Kk : Int32 → Hp → Prop} (hq : Kk (aW m g w) h) : Ev mtb shp (d + 7) m_M_windsNow [.ref 46, .int (nI w)] h (qI Kk) := by
  refine e_M_windsNow (d + 6) _ h _ ?_
  refine dn0 (T := fun j => PP (Ev mtb shp (d + 6)) shp cd_M_windsNow 1 (qI Kk) 11 [.ref 46, .int (nI w), .int (nI (cnt j (wnd g))), .int (bw (fst (wnd g) j)), .int (bw (lst (wnd g) j)), .int (byI j)] [] h) 19 ?_ (fun j hj ih => ?_)
  · refine p_M_windsNow_11 (d + 6) _ _ _ _ _ h _ (byE (by decide) (fun _ => ?_) (fun z => absurd rfl z))
    unfold aW at hq
    refine pk_ne w 0 (fun e0 => pk_ne w 1 (fun e1 => pk_ne w 2 (fun e2 => ?_) (fun e2 => ?_)) (fun e1 => ?_)) (fun e0 => ?_)
    · rw [if_neg e0, if_neg e1, if_neg e2] at hq
      exact s_M_askNow d hM hB hN hNB hq
    · rw [if_neg e0, if_neg e1, if_pos e2] at hq; exact hq
    · rw [if_neg e0, if_pos e1] at hq; exact hq
    · rw [if_pos e0] at hq; exact hq
  · refine p_M_windsNow_11 (d + 6) _ _ _ _ _ h _ (byE (by omega) (fun z => by omega) (fun _ => ?_))
    rw [byI_s]
    have hcl := cnt_le (wnd g) j
    have hfc := fst_cnt (wnd g) j
    rw [fst, lst, cnt] at ih
    refine s_M_isWind (d + 2) hM hB hN hNB hj (bz_br (fun c => ?_) (fun c => pk_ne (cnt j (wnd g)) 0 (fun e => ?_) (fun e => ?_)))
    · rw [c, cond_false, cond_false, cond_false] at ih
      by_cases e : fst (wnd g) j ≠ 0
      · rw [if_pos e] at ih; exact ih
      · rw [if_neg e] at ih
        rw [show fst (wnd g) j = 0 by omega]
        exact ih
    · rw [c, cond_true, cond_true, cond_true, if_pos (by omega), bw_s] at ih
      rw [nI_s]
      exact ih
    · rw [c, cond_true, cond_true, cond_true, if_neg (by omega), bw_s] at ih
      rw [nI_s]
      exact ih
