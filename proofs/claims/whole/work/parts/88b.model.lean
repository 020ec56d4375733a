/-! the reference's loops over stockings, kings and pairs -/
theorem or0 (a : Nat) : nI a ||| 0 = nI a := by
  rw [show (0 : Int32) = nI 0 from rfl, nI_or, Nat.or_zero]
theorem add0 (a : Nat) : nI a + 0 = nI a := nI_add a 0
/-- through the pairs in their order -/
def fo {σ : Type} (f : σ → Nat → Nat → σ) (x : σ) : Nat → σ
  | 0 => x
  | n + 1 => f (fo f x n) (pn n / 10) (pn n % 10)
def fin {σ : Type} (f : σ → Nat → Nat → σ) (a : Nat) (x : σ) : Nat → σ
  | 0 => x
  | j + 1 => f (fin f a x j) a (a + 1 + j)
def fou {σ : Type} (f : σ → Nat → Nat → σ) (m : Nat) (x : σ) : Nat → σ
  | 0 => x
  | a + 1 => fin f a (fou f m x a) (m - (a + 1))
theorem fo_15 {σ : Type} (f : σ → Nat → Nat → σ) (x : σ) : fo f x 15 = f (f (f (f (f (f (f (f (f (f (f (f (f (f (f x 0 1) 0 2) 0 3) 0 4) 0 5) 1 2) 1 3) 1 4) 1 5) 2 3) 2 4) 2 5) 3 4) 3 5) 4 5 := rfl
theorem fou_fo {σ : Type} {f : σ → Nat → Nat → σ} {x : σ} {m : Nat} (hm : m ≤ 6) (hsk : ∀ x a b, m ≤ b → b < 6 → f x a b = x) : fou f m x m = fo f x 15 := by
  rw [fo_15]
  rcases (show m = 0 ∨ m = 1 ∨ m = 2 ∨ m = 3 ∨ m = 4 ∨ m = 5 ∨ m = 6 by omega) with rfl | rfl | rfl | rfl | rfl | rfl | rfl
  · simp only [fun x a => hsk x a 1 (by decide) (by decide), fun x a => hsk x a 2 (by decide) (by decide), fun x a => hsk x a 3 (by decide) (by decide), fun x a => hsk x a 4 (by decide) (by decide), fun x a => hsk x a 5 (by decide) (by decide)]
    rfl
  · simp only [fun x a => hsk x a 1 (by decide) (by decide), fun x a => hsk x a 2 (by decide) (by decide), fun x a => hsk x a 3 (by decide) (by decide), fun x a => hsk x a 4 (by decide) (by decide), fun x a => hsk x a 5 (by decide) (by decide)]
    rfl
  · simp only [fun x a => hsk x a 2 (by decide) (by decide), fun x a => hsk x a 3 (by decide) (by decide), fun x a => hsk x a 4 (by decide) (by decide), fun x a => hsk x a 5 (by decide) (by decide)]
    rfl
  · simp only [fun x a => hsk x a 3 (by decide) (by decide), fun x a => hsk x a 4 (by decide) (by decide), fun x a => hsk x a 5 (by decide) (by decide)]
    rfl
  · simp only [fun x a => hsk x a 4 (by decide) (by decide), fun x a => hsk x a 5 (by decide) (by decide)]
    rfl
  · simp only [fun x a => hsk x a 5 (by decide) (by decide)]
    rfl
  · rfl
/-- two loops in each other, as the reference goes through the pairs -/
theorem two {σ : Type} {f : σ → Nat → Nat → σ} {x : σ} {m : Nat} {T : Nat → σ → Prop} {U : Nat → Nat → σ → Prop} (he : T m (fou f m x m)) (ho : ∀ a y, a < m → U a (a + 1) y → T a y) (hx : ∀ a y, a < m → T (a + 1) y → U a m y) (hu : ∀ a b y, a < b → b < m → U a (b + 1) (f y a b) → U a b y) : T 0 x := by
  refine dn (T := fun a => T a (fou f m x a)) he (fun a ha ih => ?_) 0 (Nat.zero_le m)
  refine ho a _ ha ?_
  refine dn (T := fun j => U a (a + 1 + j) (fin f a (fou f m x a) j)) (m := m - (a + 1)) ?_ (fun j hj ih2 => ?_) 0 (Nat.zero_le _)
  · rw [show a + 1 + (m - (a + 1)) = m by omega]
    exact hx a _ ha ih
  · exact hu a _ _ (by omega) (by omega) ih2
def pct (g : Gs) (k n a b : Nat) : Nat := bif pr g k a b then n + 1 else n
theorem cnt_fo (g : Gs) (k : Nat) : ∀ n, cnt n (prq g k) = fo (pct g k) 0 n
  | 0 => rfl
  | n + 1 => by
    rw [cnt.eq_2, cnt_fo g k n, fo, pct, ← prq]
    cases prq g k n <;> rfl
theorem pr_no {K m : Nat} {g : Gs} (hB : GB K m g) (k a : Nat) {b : Nat} (hb : m ≤ b) : pr g k a b = false := by
  cases hc : pr g k a b
  · rfl
  · have := (pr_lt hB hc).2
    omega
theorem s_M_pairsOf (d : Nat) {h : Hp} {K m : Nat} {g : Gs} (hM : RM h K m g) (hB : GB K m g) {k : Nat} (hk : k < K) {Kk : Int32 → Hp → Prop} (hq : Kk (nI (cnt 15 (prq g k))) h) : Ev mtb shp (d + 5) m_M_pairsOf [.ref 46, .int (nI k)] h (qI Kk) := by
  have hm6 := hB.2.1
  refine e_M_pairsOf (d + 4) _ h _ ?_
  rw [cnt_fo, ← fou_fo hm6 (fun x a b hb _ => by rw [pct, pr_no hB k a hb]; rfl)] at hq
  refine two (f := pct g k) (x := 0) (m := m) (T := fun a y => ∀ w, PP (Ev mtb shp (d + 4)) shp cd_M_pairsOf 1 (qI Kk) 4 [.ref 46, .int (nI k), .int (nI y), .int (nI a), w] [] h) (U := fun a b y => PP (Ev mtb shp (d + 4)) shp cd_M_pairsOf 1 (qI Kk) 17 [.ref 46, .int (nI k), .int (nI y), .int (nI a), .int (nI b)] [] h) (fun w => ?_) (fun a y ha ih w => ?_) (fun a y ha ih => ?_) (fun a b y hab hb ih => ?_) unv
  · refine p_M_pairsOf_4 (d + 4) _ _ _ _ h _ ?_
    rw [hM.2.1]
    exact lpE hq
  · refine p_M_pairsOf_4 (d + 4) _ _ _ _ h _ ?_
    rw [hM.2.1, nI_s]
    exact lpS ha (by omega) ih
  · refine p_M_pairsOf_17 (d + 4) _ _ _ _ h _ ?_
    rw [hM.2.1, nI_s]
    exact lpE (ih _)
  · refine p_M_pairsOf_17 (d + 4) _ _ _ _ h _ ?_
    rw [hM.2.1, nI_s a, nI_s b]
    refine lpS hb (by omega) (s_M_isPairOf d hM hB hk (by omega) hb (bz_br (fun c => ?_) (fun c => ?_)))
    · rw [add0]
      rw [pct, c, cond_false] at ih
      exact ih
    · rw [nI_s]
      rw [pct, c, cond_true] at ih
      exact ih
theorem s_M_wrongOfPair (d : Nat) {h : Hp} {K m : Nat} {g : Gs} (hM : RM h K m g) (hB : GB K m g) {k p : Nat} (hk : k < K) (hp : p < 100) (h1 : p / 10 < m) (h2 : p % 10 < m) {Kk : Int32 → Hp → Prop} (hq : Kk (nI (Wp g k p)) h) : Ev mtb shp (d + 3) m_M_wrongOfPair [.ref 46, .int (nI k), .int (nI p)] h (qI Kk) := by
  refine e_M_wrongOfPair (d + 2) _ _ h _ ⟨by decide, ?_⟩
  rw [rm10 hp, dv10 hp]
  refine s_M_wrongOf d hM hB hk h1 ⟨by decide, ?_⟩
  refine s_M_wrongOf d hM hB hk h2 ?_
  rw [nI_add]
  exact hq
def bpt (g : Gs) (k y a b : Nat) : Nat := bps g k y (10 * a + b)
theorem bpf_fo (g : Gs) (k : Nat) : ∀ n, bpf g k n = fo (bpt g k) 0 n
  | 0 => rfl
  | n + 1 => by rw [bpf.eq_2, bpf_fo g k n, fo, bpt, show 10 * (pn n / 10) + pn n % 10 = pn n by omega]
/-- how wrong the best pair up to now is -/
def lz (g : Gs) (k b : Nat) : Nat := if b = 0 then 268435456 else Wp g k (b - 1)
theorem s_M_leastPair (d : Nat) {h : Hp} {K m : Nat} {g : Gs} (hM : RM h K m g) (hB : GB K m g) {k : Nat} (hk : k < K) {Kk : Int32 → Hp → Prop} (hq : Kk (pI (bpf g k 15)) h) : Ev mtb shp (d + 5) m_M_leastPair [.ref 46, .int (nI k)] h (qI Kk) := by
  have hm6 := hB.2.1
  refine e_M_leastPair (d + 4) _ h _ ?_
  rw [bpf_fo, ← fou_fo hm6 (fun x a b hb hb6 => by rw [bpt, bps, show (10 * a + b) / 10 = a by omega, show (10 * a + b) % 10 = b by omega, pr_no hB k a hb]; rfl)] at hq
  refine two (f := bpt g k) (x := 0) (m := m) (T := fun a y => bpo g k y → ∀ w w', PP (Ev mtb shp (d + 4)) shp cd_M_leastPair 1 (qI Kk) 8 [.ref 46, .int (nI k), .int (pI y), .int (nI (lz g k y)), .int (nI a), w, w'] [] h) (U := fun a b y => bpo g k y → ∀ w', PP (Ev mtb shp (d + 4)) shp cd_M_leastPair 1 (qI Kk) 23 [.ref 46, .int (nI k), .int (pI y), .int (nI (lz g k y)), .int (nI a), .int (nI b), w'] [] h) (fun hy w w' => ?_) (fun a y ha ih hy w w' => ?_) (fun a y ha ih hy w' => ?_) (fun a b y hab hb ih hy w' => ?_) (Or.inl rfl) unv unv
  · refine p_M_leastPair_8 (d + 4) _ _ _ _ _ _ h _ ?_
    rw [hM.2.1]
    exact lpE hq
  · refine p_M_leastPair_8 (d + 4) _ _ _ _ _ _ h _ ?_
    rw [hM.2.1, nI_s]
    exact lpS ha (by omega) (ih hy _)
  · refine p_M_leastPair_23 (d + 4) _ _ _ _ _ _ h _ ?_
    rw [hM.2.1, nI_s]
    exact lpE (ih hy _ _)
  · refine p_M_leastPair_23 (d + 4) _ _ _ _ _ _ h _ ?_
    have e1 : (10 * a + b) / 10 = a := by omega
    have e2 : (10 * a + b) % 10 = b := by omega
    have hlz : lz g k y ≤ 268435456 := by
      unfold lz
      split
      · exact Nat.le_refl _
      · rename_i e
        obtain ⟨q1, q2⟩ := hy.resolve_left e
        obtain ⟨u3, u4⟩ := pr_lt hB q2
        have := Wp_le hB hk u3 u4
        omega
    have ih := ih (bps_ok hy (by omega))
    rw [hM.2.1, nI_s a, nI_s b, show (10 : Int32) = nI 10 from rfl, pk_mul, nI_add]
    rw [bpt, bps, e1, e2] at ih
    refine lpS hb (by omega) (s_M_isPairOf d hM hB hk (by omega) hb (bz_br (fun c => ?_) (fun c => ?_)))
    · rw [c, cond_false] at ih
      refine pk_le (lz g k y) 268435456 (fun _ => pk_le (lz g k y) 268435456 (fun _ => ih _) (fun z => by omega)) (fun z => by omega)
    · rw [c, cond_true] at ih
      refine s_M_wrongOfPair (d + 1) hM hB hk (by omega) (by omega) (by omega) ?_
      have hw := Wp_le hB hk (p := 10 * a + b) (by omega) (by omega)
      refine pk_le (lz g k y) (Wp g k (10 * a + b)) (fun c1 => pk_le (lz g k y) (Wp g k (10 * a + b)) (fun _ => ?_) (fun z => by omega)) (fun c1 => pk_le (lz g k y) (Wp g k (10 * a + b)) (fun z => by omega) (fun _ => ?_))
      · have ey : y ≠ 0 := by
          intro e
          rw [lz, if_pos e] at c1
          omega
        have hl : lz g k y = Wp g k (y - 1) := by rw [lz, if_neg ey]
        rw [if_neg ey, if_neg (by omega)] at ih
        exact ih _
      · by_cases ey : y = 0
        · rw [if_pos ey, sub1] at ih
          rw [show lz g k (10 * a + b + 1) = Wp g k (10 * a + b) from by rw [lz, if_neg (by omega), Nat.add_sub_cancel]] at ih
          exact ih _
        · have hl : lz g k y = Wp g k (y - 1) := by rw [lz, if_neg ey]
          rw [if_neg ey, if_pos (by omega), sub1] at ih
          rw [show lz g k (10 * a + b + 1) = Wp g k (10 * a + b) from by rw [lz, if_neg (by omega), Nat.add_sub_cancel]] at ih
          exact ih _

theorem s_M_mayBits (d : Nat) {h : Hp} {K m : Nat} {g : Gs} (hM : RM h K m g) (hB : GB K m g) {k : Nat} (hk : k < K) {Kk : Int32 → Hp → Prop} (hq : Kk (nI (bits m (may g k))) h) : Ev mtb shp (d + 4) m_M_mayBits [.ref 46, .int (nI k)] h (qI Kk) := by
  have hm6 := hB.2.1
  refine e_M_mayBits (d + 3) _ h _ ?_
  refine dn0 (T := fun i => PP (Ev mtb shp (d + 3)) shp cd_M_mayBits 1 (qI Kk) 4 [.ref 46, .int (nI k), .int (nI (bits i (may g k))), .int (nI i)] [] h) m ?_ (fun i hi ih => ?_)
  · refine p_M_mayBits_4 (d + 3) _ _ _ h _ ?_
    rw [hM.2.1]
    exact lpE hq
  · refine p_M_mayBits_4 (d + 3) _ _ _ h _ ?_
    rw [hM.2.1, nI_s]
    refine lpS hi (by omega) (s_M_mayBe d hM hB hk hi (bz_br (fun c => ?_) (fun c => ?_)))
    · rw [or0]
      rw [bits_f (p := may g k) c] at ih
      exact ih
    · rw [or_bit (bits_lt _ _) (by omega)]
      rw [bits_t (p := may g k) c] at ih
      exact ih
theorem s_M_whoseBits (d : Nat) {h : Hp} {K m : Nat} {g : Gs} (hM : RM h K m g) (hB : GB K m g) {s : Nat} (hs : s < m) {Kk : Int32 → Hp → Prop} (hq : Kk (nI (bits K (fun k => may g k s))) h) : Ev mtb shp (d + 4) m_M_whoseBits [.ref 46, .int (nI s)] h (qI Kk) := by
  have hK4 := hB.1
  refine e_M_whoseBits (d + 3) _ h _ ?_
  refine dn0 (T := fun i => PP (Ev mtb shp (d + 3)) shp cd_M_whoseBits 1 (qI Kk) 4 [.ref 46, .int (nI s), .int (nI (bits i (fun k => may g k s))), .int (nI i)] [] h) K ?_ (fun i hi ih => ?_)
  · refine p_M_whoseBits_4 (d + 3) _ _ _ h _ ?_
    rw [hM.1]
    exact lpE hq
  · refine p_M_whoseBits_4 (d + 3) _ _ _ h _ ?_
    rw [hM.1, nI_s]
    refine lpS hi (by omega) (s_M_mayBe d hM hB hi hs (bz_br (fun c => ?_) (fun c => ?_)))
    · rw [or0]
      rw [bits_f (p := fun k => may g k s) c] at ih
      exact ih
    · rw [or_bit (bits_lt _ _) (by omega)]
      rw [bits_t (p := fun k => may g k s) c] at ih
      exact ih
theorem s_M_nearest (d : Nat) {h : Hp} {K m : Nat} {g : Gs} (hM : RM h K m g) (hB : GB K m g) (hK : 0 < K) {s : Nat} (hs : s < m) {Kk : Int32 → Hp → Prop} (hq : Kk (nI (nr g s K)) h) : Ev mtb shp (d + 3) m_M_nearest [.ref 46, .int (nI s)] h (qI Kk) := by
  have hK4 := hB.1
  refine e_M_nearest (d + 2) _ h _ ?_
  have key := dn (T := fun i => 0 < i → PP (Ev mtb shp (d + 2)) shp cd_M_nearest 1 (qI Kk) 4 [.ref 46, .int (nI s), .int (nI (nr g s i)), .int (nI i)] [] h) (m := K) (fun _ => ?_) (fun i hi ih h0 => ?_) 1 hK (by decide)
  · rw [nr_1] at key
    exact key
  · refine p_M_nearest_4 (d + 2) _ _ _ h _ ?_
    rw [hM.1]
    exact lpE hq
  · refine p_M_nearest_4 (d + 2) _ _ _ h _ ?_
    rw [hM.1]
    obtain ⟨j, rfl⟩ : ∃ j, i = j + 1 := ⟨i - 1, by omega⟩
    have hj := nr_le g s j
    refine lpS hi (by omega) ?_
    refine s_M_wrongOf d hM hB hi hs ?_
    refine s_M_wrongOf d hM hB (k := nr g s (j + 1)) (by omega) hs ?_
    have w1 := Wg_le hB hi hs
    have w2 := Wg_le hB (show nr g s (j + 1) < K by omega) hs
    have ih := ih (by omega)
    refine pk_le (Wg g (nr g s (j + 1)) s) (Wg g (j + 1) s) (fun c => ?_) (fun c => ?_)
    · rw [nI_s]
      rw [nr.eq_2, if_neg (by omega)] at ih
      exact ih
    · rw [nI_s]
      rw [nr.eq_2, if_pos (by omega)] at ih
      exact ih
theorem s_M_matchBits (d : Nat) {h : Hp} {K m : Nat} {g : Gs} (hM : RM h K m g) (hB : GB K m g) {s : Nat} (hs : s < m) {Kk : Int32 → Hp → Prop} (hq : Kk (nI (bits m (mtq g s))) h) : Ev mtb shp (d + 3) m_M_matchBits [.ref 46, .int (nI s)] h (qI Kk) := by
  have hm6 := hB.2.1
  refine e_M_matchBits (d + 2) _ h _ ?_
  refine dn0 (T := fun i => PP (Ev mtb shp (d + 2)) shp cd_M_matchBits 1 (qI Kk) 4 [.ref 46, .int (nI s), .int (nI (bits i (mtq g s))), .int (nI i)] [] h) m ?_ (fun i hi ih => ?_)
  · refine p_M_matchBits_4 (d + 2) _ _ _ h _ ?_
    rw [hM.2.1]
    exact lpE hq
  · refine p_M_matchBits_4 (d + 2) _ _ _ h _ ?_
    rw [hM.2.1, nI_s, or0]
    refine lpS hi (by omega) (pk_eq i s (fun e => ?_) (fun e => ?_))
    · rw [bits_f (p := mtq g s) (by unfold mtq; rw [decide_eq_true e]; rfl)] at ih
      exact ih
    · refine s_M_areLike d hM hB hs hi (bz_br (fun c => ?_) (fun c => ?_))
      · rw [bits_f (p := mtq g s) (by unfold mtq; rw [decide_eq_false e, c]; rfl)] at ih
        exact ih
      · rw [or_bit (bits_lt _ _) (by omega)]
        rw [bits_t (p := mtq g s) (by unfold mtq; rw [decide_eq_false e, c]; rfl)] at ih
        exact ih
/-- the greatest i < n with p, and one; 0: none -/
def lst (p : Nat → Bool) : Nat → Nat
  | 0 => 0
  | n + 1 => bif p n then n + 1 else lst p n
/-- no two at one peg -/
def DP (g : Gs) : Prop := ∀ a b, g 8 a = g 8 b → g 8 a ≠ 0 → a = b
theorem lst_hat {g : Gs} (hD : DP g) (p : Nat) : ∀ m, lst (fun s => decide (g 8 s = p + 1)) m = hat g m p
  | 0 => rfl
  | m + 1 => by
    rw [lst.eq_2, lst_hat hD p m]
    unfold hat
    rw [fst.eq_2]
    cases hc : decide (g 8 m = p + 1)
    · rw [cond_false, cond_false]
      split
      · rfl
      · rename_i e
        omega
    · rw [cond_true, cond_true]
      have hm := of_decide_eq_true hc
      rw [fst_0 (n := m) (fun i hi => decide_eq_false (fun z => by
        have := hD i m (by omega) (by omega)
        omega))]
      rfl
theorem s_M_hangsAt (d : Nat) {h : Hp} {K m : Nat} {g : Gs} (hM : RM h K m g) (hB : GB K m g) (hD : DP g) {p : Nat} (hp : p < 10) {Kk : Int32 → Hp → Prop} (hq : Kk (pI (hat g m p)) h) : Ev mtb shp (d + 1) m_M_hangsAt [.ref 46, .int (nI p)] h (qI Kk) := by
  have hm6 := hB.2.1
  refine e_M_hangsAt d _ h _ ?_
  rw [← lst_hat hD] at hq
  refine dn0 (T := fun i => PP (Ev mtb shp d) shp cd_M_hangsAt 1 (qI Kk) 4 [.ref 46, .int (nI p), .int (pI (lst (fun s => decide (g 8 s = p + 1)) i)), .int (nI i)] [] h) m ?_ (fun i hi ih => ?_)
  · refine p_M_hangsAt_4 d _ _ _ h _ ?_
    rw [hM.2.1]
    exact lpE hq
  · refine p_M_hangsAt_4 d _ _ _ h _ ?_
    have h8 := hB.2.2.2.2.1 i
    rw [hM.2.1, nI_s, nI_clamp (show i < 2 ^ 31 by omega), (hM.2.2.2 i hi).2.2.2.2, ← sub1 p, pI_inj (by omega) (by omega), sub1]
    rw [lst.eq_2] at ih
    refine lpS hi (by omega) ⟨vp_in_nI (show i < 6 by omega) (by decide), fun c => ?_, fun c => ?_⟩
    · rw [decide_eq_false c, cond_false] at ih
      exact ih
    · rw [decide_eq_true c, cond_true, sub1] at ih
      exact ih
theorem s_M_hanging (d : Nat) {h : Hp} {K m : Nat} {g : Gs} (hM : RM h K m g) (hB : GB K m g) {Kk : Int32 → Hp → Prop} (hq : Kk (nI (cnt m (hg g))) h) : Ev mtb shp (d + 2) m_M_hanging [.ref 46] h (qI Kk) := by
  have hm6 := hB.2.1
  refine e_M_hanging (d + 1) h _ ?_
  refine dn0 (T := fun i => PP (Ev mtb shp (d + 1)) shp cd_M_hanging 1 (qI Kk) 4 [.ref 46, .int (nI (cnt i (hg g))), .int (nI i)] [] h) m ?_ (fun i hi ih => ?_)
  · refine p_M_hanging_4 (d + 1) _ _ h _ ?_
    rw [hM.2.1]
    exact lpE hq
  · refine p_M_hanging_4 (d + 1) _ _ h _ ?_
    rw [hM.2.1, nI_s i]
    refine lpS hi (by omega) (s_M_hangs d hM hB hi (bz_br (fun c => ?_) (fun c => ?_)))
    · rw [add0]
      rw [cnt_f c] at ih
      exact ih
    · rw [nI_s]
      rw [cnt_t c] at ih
      exact ih
theorem s_M_sizes (d : Nat) {h : Hp} {K m : Nat} {g : Gs} (hM : RM h K m g) (hB : GB K m g) {Kk : Int32 → Hp → Prop} (hq : Kk (nI (sm (g 4) m)) h) : Ev mtb shp (d + 1) m_M_sizes [.ref 46] h (qI Kk) := by
  have hm6 := hB.2.1
  refine e_M_sizes d h _ ?_
  refine dn0 (T := fun i => PP (Ev mtb shp d) shp cd_M_sizes 1 (qI Kk) 4 [.ref 46, .int (nI (sm (g 4) i)), .int (nI i)] [] h) m ?_ (fun i hi ih => ?_)
  · refine p_M_sizes_4 d _ _ h _ ?_
    rw [hM.2.1]
    exact lpE hq
  · refine p_M_sizes_4 d _ _ h _ ?_
    rw [hM.2.1, nI_clamp (show i < 2 ^ 31 by omega), (hM.2.2.2 i hi).1, nI_add, nI_s]
    exact lpS hi (by omega) ⟨vp_in_nI (show i < 6 by omega) (by decide), ih⟩
theorem s_M_having (d : Nat) {h : Hp} {K m : Nat} {g : Gs} (hM : RM h K m g) (hB : GB K m g) {Kk : Int32 → Hp → Prop} (hq : Kk (nI (bits K (hp g))) h) : Ev mtb shp (d + 6) m_M_having [.ref 46] h (qI Kk) := by
  have hK4 := hB.1
  refine e_M_having (d + 5) h _ ?_
  refine dn0 (T := fun i => PP (Ev mtb shp (d + 5)) shp cd_M_having 1 (qI Kk) 4 [.ref 46, .int (nI (bits i (hp g))), .int (nI i)] [] h) K ?_ (fun i hi ih => ?_)
  · refine p_M_having_4 (d + 5) _ _ h _ ?_
    rw [hM.1]
    exact lpE hq
  · refine p_M_having_4 (d + 5) _ _ h _ ?_
    rw [hM.1, nI_s i]
    refine lpS hi (by omega) (s_M_pairsOf d hM hB hi (pk_le (cnt 15 (prq g i)) 0 (fun c => ?_) (fun c => ?_) (ha := by have := cnt_le (prq g i) 15; omega)))
    · rw [or0]
      rw [bits_f (p := hp g) (decide_eq_false (by omega))] at ih
      exact ih
    · rw [or_bit (bits_lt _ _) (by omega)]
      rw [bits_t (p := hp g) (decide_eq_true c)] at ih
      exact ih
theorem s_M_throneBy (d : Nat) {h : Hp} {b : Nat} (hb : b < 2 ^ 31) {Kk : Int32 → Hp → Prop} (hq : Kk (nI (min (popc b) 2)) h) : Ev mtb shp (d + 2) m_M_throneBy [.ref 46, .int (nI b)] h (qI Kk) := by
  have hp := popc_le b
  refine e_M_throneBy (d + 1) _ h _ (s_M_size d hb (pk_le (popc b) 1 (fun c => s_M_size d hb ?_) (fun c => ?_)))
  · rw [Nat.min_eq_left (by omega)] at hq
    exact hq
  · rw [Nat.min_eq_right (by omega)] at hq
    exact hq
/-- a loop that goes down -/
theorem dw0 {T : Nat → Prop} (n : Nat) (he : T 0) (hs : ∀ i, i < n → T i → T (i + 1)) : T n := by
  have : ∀ i, i ≤ n → T i := by
    intro i
    induction i with
    | zero => exact fun _ => he
    | succ i ih => exact fun h => hs i (by omega) (ih (by omega))
  exact this n (Nat.le_refl n)
/-- from i on down: the least below -/
theorem s_M_leastIn (d : Nat) {h : Hp} {b : Nat} (hb : b < 2 ^ 31) {Kk : Int32 → Hp → Prop} (hq : Kk (pI (fst (fun i => b.testBit i) 4)) h) : Ev mtb shp (d + 2) m_M_leastIn [.ref 46, .int (nI b)] h (qI Kk) := by
  refine e_M_leastIn (d + 1) _ h _ ?_
  have st : ∀ (i x : Nat) (v : Int32), i < 4 → (PP (Ev mtb shp (d + 1)) shp cd_M_leastIn 1 (qI Kk) 4 [.ref 46, .int (nI b), .int (bif b.testBit i then nI i else v), .int (pI i)] [] h) → PP (Ev mtb shp (d + 1)) shp cd_M_leastIn 1 (qI Kk) 4 [.ref 46, .int (nI b), .int v, .int (nI i)] [] h := by
    intro i x v hi ih
    refine p_M_leastIn_4 (d + 1) _ _ _ h _ ⟨fun z => absurd z (nI_pos (by omega)), fun _ => ?_⟩
    rw [show nI i + (-1) = pI i from (Int32.sub_eq_add_neg _ _).symm]
    refine s_M_isIn d hb (by omega) (bz_br (fun c => ?_) (fun c => ?_))
    · rw [c] at ih; exact ih
    · rw [c] at ih; exact ih
  refine st 3 0 _ (by decide) (st 2 0 _ (by decide) (st 1 0 _ (by decide) (st 0 0 _ (by decide) ?_)))
  refine p_M_leastIn_4 (d + 1) _ _ _ h _ ⟨fun _ => ?_, fun z => absurd (by decide) z⟩
  have e : fst (fun i => b.testBit i) 4 = bif b.testBit 0 then 1 else bif b.testBit 1 then 2 else bif b.testBit 2 then 3 else bif b.testBit 3 then 4 else 0 := by
    unfold fst fst fst fst fst
    cases b.testBit 0 <;> cases b.testBit 1 <;> cases b.testBit 2 <;> cases b.testBit 3 <;> rfl
  rw [e] at hq
  cases h0 : b.testBit 0 <;> cases h1 : b.testBit 1 <;> cases h2 : b.testBit 2 <;> cases h3 : b.testBit 3 <;> (rw [h0, h1, h2, h3] at hq; exact hq)
