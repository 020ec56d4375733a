/-! the match, by the reference -/
def lkf (g : Gs) (y : List Nat) (a b : Nat) : List Nat := bif like g a b then y ++ [10 * a + b] else y
def Ln (g : Gs) (n : Nat) : List Nat := fo (lkf g) [] n
def qn (y : List Nat) (r : Nat) : Nat := y.getD r 0
theorem Ln_s (g : Gs) (n : Nat) : Ln g (n + 1) = bif lkq g n then Ln g n ++ [pn n] else Ln g n := by
  unfold Ln
  rw [fo, lkf, ← lkq, show 10 * (pn n / 10) + pn n % 10 = pn n by omega]
theorem qn_app {y : List Nat} {x r : Nat} (h : r < y.length) : qn (y ++ [x]) r = qn y r := by
  unfold qn
  rw [List.getD_eq_getElem?_getD, List.getD_eq_getElem?_getD, List.getElem?_append_left h]
theorem qn_end (y : List Nat) (x : Nat) : qn (y ++ [x]) y.length = x := by
  unfold qn
  rw [List.getD_eq_getElem?_getD, List.getElem?_append_right (Nat.le_refl _), Nat.sub_self]
  rfl
theorem fdi_congr {σ : Type} {f : σ → Nat → σ} {b : σ} {q q' : Nat → Nat} : ∀ {n}, (∀ i, i < n → q i = q' i) → fdi f b q n = fdi f b q' n
  | 0, _ => rfl
  | n + 1, h => by rw [fdi, fdi, fdi_congr (fun i hi => h i (by omega)), h n (by omega)]
theorem fdi_L {σ : Type} {f : σ → Nat → σ} {b : σ} {g : Gs} (h : ∀ b i, lkq g i = false → f b (pn i) = b) : ∀ n, fdi f b (qn (Ln g n)) (Ln g n).length = fdi f b pn n
  | 0 => rfl
  | n + 1 => by
    rw [Ln_s, fdi]
    cases hc : lkq g n
    · rw [cond_false, fdi_L h n, h _ n hc]
    · rw [cond_true, List.length_append]
      show fdi f b (qn (Ln g n ++ [pn n])) ((Ln g n).length + 1) = _
      rw [fdi, qn_end, fdi_congr (q' := qn (Ln g n)) (fun i hi => qn_app hi), fdi_L h n]
theorem gv_L (g : Gs) : ∀ (n k t mm w : Nat) (asg : Nat → Nat) (b : Bst), gv g (qn (Ln g 15)) (Ln g 15).length n k t mm w asg b = gv g pn 15 n k t mm w asg b
  | 0, _, _, _, _, _, _ => rfl
  | n + 1, k, t, mm, w, asg, b => by
    rw [gv_s, gv_s, gv_L g n]
    rw [show (fun b p => bif okp g k t p then gv g (qn (Ln g 15)) (Ln g 15).length n (k + 1) (t ||| bo p) (mm + 1) (w + Wp g k p) (setf asg k (p + 1)) b else b) = (fun b p => bif okp g k t p then gv g pn 15 n (k + 1) (t ||| bo p) (mm + 1) (w + Wp g k p) (setf asg k (p + 1)) b else b) from funext fun b => funext fun p => by rw [gv_L g n]]
    refine fdi_L (fun b i hi => ?_) 15
    rw [show okp g k t (pn i) = false from by
      unfold okp pr
      rw [← lkq, hi]; rfl]
    rfl
theorem setf_z (k : Nat) : setf z0 k 0 = z0 := by
  funext j
  unfold setf z0
  split <;> rfl
theorem gv_first (g : Gs) (q : Nat → Nat) (N F : Nat) : ∀ (n k t : Nat), gv g q N n k t 0 0 z0 (0, F, z0) = gv g q N n k t 0 0 z0 (1, 0, z0)
  | 0, _, _ => by
    unfold gv keep
    rw [if_pos (Or.inl (by show 0 < 0 + 1; decide)), if_neg (by show ¬ (1 < 0 + 1 ∨ (0 + 1 = 1 ∧ 0 < 0)); decide)]
  | n + 1, k, t => by
    rw [gv_s, gv_s, setf_z, gv_first g q N F n (k + 1) t]
theorem fdi_inv {σ : Type} {f : σ → Nat → σ} {b : σ} {q : Nat → Nat} (I : σ → Prop) (hb : I b) (hf : ∀ b p, I b → I (f b p)) : ∀ n, I (fdi f b q n)
  | 0 => hb
  | n + 1 => hf _ _ (fdi_inv I hb hf n)
theorem gv_pos (g : Gs) (q : Nat → Nat) (N : Nat) : ∀ (n k t mm w : Nat) (asg : Nat → Nat) (b : Bst), 1 ≤ b.1 → 1 ≤ (gv g q N n k t mm w asg b).1
  | 0, _, _, _, _, _, b, h => by
    unfold gv keep
    split
    · exact Nat.le_add_left 1 _
    · exact h
  | n + 1, k, t, mm, w, asg, b, h => by
    rw [gv_s]
    refine fdi_inv (σ := Bst) (fun b => 1 ≤ b.1) (gv_pos g q N n _ _ _ _ _ _ h) (fun b p hb => ?_) N
    cases okp g k t p
    · exact hb
    · exact gv_pos g q N n _ _ _ _ _ _ hb
/-- a list of pairs as it shall be -/
def LO (m : Nat) (y : List Nat) : Prop := ∀ r, r < y.length → qn y r / 10 < m ∧ qn y r % 10 < m ∧ qn y r < 60
/-- what the reference holds of the pairs in y -/
def MT (h h' : Hp) (K : Nat) (g : Gs) (y : List Nat) : Prop := SM h h' ∧ h'.1 46 29 = nI y.length ∧ ∀ r, r < y.length → h'.1 62 (r + 1) = nI (qn y r) ∧ ∀ k, k < K → h'.1 63 (16 * k + (r + 1)) = bif pr g k (qn y r / 10) (qn y r % 10) then nI (Wp g k (qn y r)) else -1
theorem s_M_layWrong (d : Nat) {h : Hp} {K m : Nat} {g : Gs} (hM : RM h K m g) (hB : GB K m g) {a b n : Nat} (ha : a < m) (hb : b < m) (hn : n ≤ 15) (h29 : h.1 46 29 = nI n) {Kk : Hp → Prop} (hq : ∀ F, (∀ k, k < K → F (16 * k + n) = bif pr g k a b then nI (Wp g k (10 * a + b)) else -1) → (∀ i, (∀ k, k < K → i ≠ 16 * k + n) → F i = h.1 63 i) → Kk (hs h 63 F)) : Ev mtb shp (d + 5) m_M_layWrong [.ref 46, .int (nI a), .int (nI b)] h (qV Kk) := by
  have hK4 := hB.1
  have hm6 := hB.2.1
  refine e_M_layWrong (d + 4) _ _ h _ ?_
  have key := dn (T := fun j => ∀ F, (∀ k, k < j → F (16 * k + n) = bif pr g k a b then nI (Wp g k (10 * a + b)) else -1) → (∀ i, (∀ k, k < j → i ≠ 16 * k + n) → F i = h.1 63 i) → PP (Ev mtb shp (d + 4)) shp cd_M_layWrong 0 (qV Kk) 2 [.ref 46, .int (nI a), .int (nI b), .int (nI j)] [] (hs h 63 F)) (m := K) (fun F f1 f2 => ?_) (fun j hj ih F f1 f2 => ?_) 0 (Nat.zero_le _) (h.1 63) (fun k hk => absurd hk (Nat.not_lt_zero k)) (fun _ _ => rfl)
  · rw [hs_id] at key
    exact key
  · refine p_M_layWrong_2 (d + 4) _ _ _ _ _ ?_
    rw [show (hs h 63 F).1 46 1 = h.1 46 1 from rfl, hM.1]
    exact lpE (hq F f1 f2)
  · refine p_M_layWrong_2 (d + 4) _ _ _ _ _ ?_
    rw [show (hs h 63 F).1 46 1 = h.1 46 1 from rfl, hM.1, show (hs h 63 F).1 46 29 = h.1 46 29 from rfl, h29, show (16 : Int32) * nI j + nI n = nI (16 * j + n) by rw [show (16 : Int32) = nI 16 from rfl, pk_mul, nI_add], nI_clamp (show 16 * j + n < 2 ^ 31 by omega), nI_s j, show (10 : Int32) * nI a + nI b = nI (10 * a + b) by rw [show (10 : Int32) = nI 10 from rfl, pk_mul, nI_add]]
    have v64 := vp_in_nI (show 16 * j + n < 64 by omega) (by decide)
    have nxt : ∀ v : Int32, v = (bif pr g j a b then nI (Wp g j (10 * a + b)) else -1) → PP (Ev mtb shp (d + 4)) shp cd_M_layWrong 0 (qV Kk) 2 [.ref 46, .int (nI a), .int (nI b), .int (nI (j + 1))] [] (hs (hs h 63 F) 63 (upd F (16 * j + n) v)) := by
      intro v hv
      rw [hs_hs]
      refine ih _ (fun k hk => ?_) (fun i hi => ?_)
      · show upd F (16 * j + n) v (16 * k + n) = _
        by_cases e : k = j
        · rw [e, pk_us, hv]
        · rw [pk_un (by omega)]; exact f1 k (by omega)
      · show upd F (16 * j + n) v i = _
        rw [pk_un (hi j (by omega))]
        exact f2 i (fun k hk => hi k (by omega))
    refine lpS hj (by omega) (s_M_isPairOf d (h := hs h 63 F) hM hB hj ha hb (bz_br (fun c => ⟨v64, ?_⟩) (fun c => ?_)))
    · exact nxt _ (by rw [c]; rfl)
    · refine s_M_wrongOfPair (d + 1) (h := hs h 63 F) hM hB hj (by omega) (by omega) (by omega) ⟨v64, ?_⟩
      exact nxt _ (by rw [c]; rfl)
def tr6 : Nat → Nat
  | 0 => 0
  | a + 1 => tr6 a + (5 - a)
theorem tr6_ok : ∀ a, a < 6 → tr6 a + (5 - a) ≤ 15 := by decide
theorem s_M_layPairs (d : Nat) {h : Hp} {K m : Nat} {g : Gs} (hM : RM h K m g) (hB : GB K m g) {Kk : Hp → Prop} (hq : ∀ h', MT h h' K g (Ln g 15) → LO m (Ln g 15) → (Ln g 15).length ≤ 15 → Kk h') : Ev mtb shp (d + 6) m_M_layPairs [.ref 46] h (qV Kk) := by
  have hK4 := hB.1
  have hm6 := hB.2.1
  refine e_M_layPairs (d + 5) h _ ?_
  have hL : fou (lkf g) m [] m = Ln g 15 := fou_fo hm6 (fun x a b hb _ => by rw [lkf, like_no hB (Or.inr hb)]; rfl)
  refine two (f := lkf g) (x := ([] : List Nat)) (m := m) (T := fun a y => y.length ≤ tr6 a → LO m y → ∀ h', MT h h' K g y → ∀ w, PP (Ev mtb shp (d + 5)) shp cd_M_layPairs 0 (qV Kk) 7 [.ref 46, .int (nI a), w] [] h') (U := fun a b y => y.length ≤ tr6 a + (b - a - 1) → LO m y → ∀ h', MT h h' K g y → PP (Ev mtb shp (d + 5)) shp cd_M_layPairs 0 (qV Kk) 19 [.ref 46, .int (nI a), .int (nI b)] [] h') (fun l1 l2 h' m1 w => ?_) (fun a y ha ih l1 l2 h' m1 w => ?_) (fun a y ha ih l1 l2 h' m1 => ?_) (fun a b y hab hb ih l1 l2 h' m1 => ?_) (Nat.zero_le _) (fun r hr => absurd hr (Nat.not_lt_zero r)) _ ⟨SM_hf (SM_rfl h) rfl _, rfl, fun r hr => absurd hr (Nat.not_lt_zero r)⟩ unv
  · rw [hL] at l1 l2 m1
    refine p_M_layPairs_7 (d + 5) _ _ h' _ ?_
    rw [(RM_SM m1.1 hM).2.1]
    refine lpE (hq h' m1 l2 ?_)
    rcases (show m = 0 ∨ m = 1 ∨ m = 2 ∨ m = 3 ∨ m = 4 ∨ m = 5 ∨ m = 6 by omega) with rfl | rfl | rfl | rfl | rfl | rfl | rfl <;> exact Nat.le_trans l1 (by decide)
  · refine p_M_layPairs_7 (d + 5) _ _ h' _ ?_
    rw [(RM_SM m1.1 hM).2.1, nI_s]
    exact lpS ha (by omega) (ih (by omega) l2 h' m1)
  · refine p_M_layPairs_19 (d + 5) _ _ h' _ ?_
    rw [(RM_SM m1.1 hM).2.1, nI_s]
    exact lpE (ih (by rw [tr6]; omega) l2 h' m1 _)
  · refine p_M_layPairs_19 (d + 5) _ _ h' _ ?_
    have hM' := RM_SM m1.1 hM
    have t6 := tr6_ok a (by omega)
    rw [hM'.2.1, nI_s b]
    refine lpS hb (by omega) (s_M_areLike (d + 3) hM' hB (by omega) hb (bz_br (fun c => ?_) (fun c => ?_)))
    · rw [lkf, c, cond_false] at ih
      exact ih (by omega) l2 h' m1
    · rw [lkf, c, cond_true] at ih
      rw [pk_us, m1.2.1, nI_s y.length, nI_clamp (show y.length + 1 < 2 ^ 31 by omega), show (10 : Int32) * nI a + nI b = nI (10 * a + b) by rw [show (10 : Int32) = nI 10 from rfl, pk_mul, nI_add]]
      refine ⟨vp_in_nI (show y.length + 1 < 16 by omega) (by decide), ?_⟩
      have sm1 : SM h (hs (hs h' 46 (upd (h'.1 46) 29 (nI (y.length + 1)))) 62 (upd (h'.1 62) (y.length + 1) (nI (10 * a + b)))) := SM_hs (SM_hf m1.1 rfl _) rfl (by decide) _
      refine s_M_layWrong d (RM_SM sm1 hM) hB (show a < m by omega) hb (n := y.length + 1) (by omega) (by
        show upd (h'.1 46) 29 (nI (y.length + 1)) 29 = _
        rw [pk_us]) (fun F f1 f2 => ?_)
      refine ih (by rw [List.length_append]; show y.length + 1 ≤ _; omega) (fun r hr => ?_) _ ⟨SM_hs sm1 rfl (by decide) _, ?_, fun r hr => ?_⟩
      · rw [List.length_append] at hr
        by_cases e : r < y.length
        · rw [qn_app e]; exact l2 r e
        · rw [show r = y.length by have : r < y.length + 1 := hr; omega, qn_end]
          exact ⟨by omega, by omega, by omega⟩
      · show upd (h'.1 46) 29 (nI (y.length + 1)) 29 = _
        rw [pk_us, List.length_append]; rfl
      · rw [List.length_append] at hr
        have hr : r < y.length + 1 := hr
        by_cases e : r < y.length
        · rw [qn_app e]
          refine ⟨?_, fun k hk => ?_⟩
          · show upd (h'.1 62) (y.length + 1) _ (r + 1) = _
            rw [pk_un (by omega)]; exact (m1.2.2 r e).1
          · show F (16 * k + (r + 1)) = _
            rw [f2 _ (fun k' hk' => by omega)]
            exact (m1.2.2 r e).2 k hk
        · rw [show r = y.length by omega, qn_end]
          refine ⟨?_, fun k hk => ?_⟩
          · show upd (h'.1 62) (y.length + 1) _ (y.length + 1) = _
            rw [pk_us]
          · show F (16 * k + (y.length + 1)) = _
            rw [f1 k hk, show (10 * a + b) / 10 = a by omega, show (10 * a + b) % 10 = b by omega]
/-- the first kings of a row: what is used, how many have one, how wrong -/
def rowv (g : Gs) (y : List Nat) (ρ : Nat → Nat) : Nat → Option (Nat × Nat × Nat)
  | 0 => some (0, 0, 0)
  | k + 1 => match rowv g y ρ k with
    | none => none
    | some (u, mm, w) => if ρ k = 0 then some (u, mm, w) else bif okp g k u (qn y (ρ k - 1)) then some (u ||| bo (qn y (ρ k - 1)), mm + 1, w + Wp g k (qn y (ρ k - 1))) else none
theorem rowv_congr {g : Gs} {y : List Nat} {ρ σ : Nat → Nat} : ∀ {k}, (∀ j, j < k → ρ j = σ j) → rowv g y ρ k = rowv g y σ k
  | 0, _ => rfl
  | k + 1, h => by
    rw [rowv, rowv, rowv_congr (fun j hj => h j (by omega)), h k (by omega)]
theorem rowv_none {g : Gs} {y : List Nat} {ρ : Nat → Nat} {k : Nat} (h : rowv g y ρ k = none) : ∀ {n}, k ≤ n → rowv g y ρ n = none
  | 0, hn => by rw [show k = 0 by omega] at h; exact h
  | n + 1, hn => by
    by_cases e : k = n + 1
    · rw [← e]; exact h
    · rw [rowv, rowv_none h (show k ≤ n by omega)]
theorem rowv_0 {g : Gs} {y : List Nat} {ρ : Nat → Nat} {k u mm w : Nat} (h : rowv g y ρ k = some (u, mm, w)) (e : ρ k = 0) : rowv g y ρ (k + 1) = some (u, mm, w) := by
  rw [rowv, h]
  exact if_pos e
theorem rowv_ok {g : Gs} {y : List Nat} {ρ : Nat → Nat} {k u mm w : Nat} (h : rowv g y ρ k = some (u, mm, w)) (e : ρ k ≠ 0) (ho : okp g k u (qn y (ρ k - 1)) = true) : rowv g y ρ (k + 1) = some (u ||| bo (qn y (ρ k - 1)), mm + 1, w + Wp g k (qn y (ρ k - 1))) := by
  rw [rowv, h]
  show (if ρ k = 0 then _ else _) = _
  rw [if_neg e, ho]; rfl
theorem rowv_no {g : Gs} {y : List Nat} {ρ : Nat → Nat} {k u mm w : Nat} (h : rowv g y ρ k = some (u, mm, w)) (e : ρ k ≠ 0) (ho : okp g k u (qn y (ρ k - 1)) = false) : rowv g y ρ (k + 1) = none := by
  rw [rowv, h]
  show (if ρ k = 0 then _ else _) = _
  rw [if_neg e, ho]; rfl
theorem rowv_bd {K m : Nat} {g : Gs} (hB : GB K m g) {y : List Nat} {ρ : Nat → Nat} : ∀ {k u mm w}, k ≤ K → rowv g y ρ k = some (u, mm, w) → u < 64 ∧ mm ≤ k ∧ w ≤ 32 * k
  | 0, u, mm, w, _, h => by
    have h : (0, 0, 0) = (u, mm, w) := Option.some.inj h
    rw [Prod.mk.injEq, Prod.mk.injEq] at h
    omega
  | k + 1, u, mm, w, hk, h => by
    have hm6 := hB.2.1
    cases hr : rowv g y ρ k with
    | none => rw [rowv, hr] at h; cases h
    | some x =>
      obtain ⟨u0, m0, w0⟩ := x
      obtain ⟨b1, b2, b3⟩ := rowv_bd hB (show k ≤ K by omega) hr
      by_cases e : ρ k = 0
      · rw [rowv_0 hr e] at h
        have h := Option.some.inj h
        rw [Prod.mk.injEq, Prod.mk.injEq] at h
        omega
      · cases ho : okp g k u0 (qn y (ρ k - 1))
        · rw [rowv_no hr e ho] at h; cases h
        · rw [rowv_ok hr e ho] at h
          have h := Option.some.inj h
          rw [Prod.mk.injEq, Prod.mk.injEq] at h
          unfold okp at ho
          simp only [Bool.and_eq_true] at ho
          obtain ⟨u1, u2⟩ := pr_lt hB ho.1
          have hw := Wp_le hB (show k < K by omega) u1 u2
          have hb := bo_lt (p := qn y (ρ k - 1)) (by omega) (by omega)
          have := Nat.or_lt_two_pow (n := 6) b1 hb
          refine ⟨by rw [← h.1]; exact this, by omega, by omega⟩
