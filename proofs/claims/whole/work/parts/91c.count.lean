/-! what is counted; the digest -/
theorem ne_out {a : Int32} {n : Nat} (h : inR a n = false) (hn : n < 2 ^ 31) {c : Nat} (hc : c < n) : ¬ a = nI c := by
  intro e
  rw [e, inR_nI (by omega), decide_eq_true hc] at h
  cases h
def aN (K m : Nat) (g : Gs) : Nat → Int32
  | 0 => nI K
  | 1 => nI m
  | 2 => nI (cnt m (hg g))
  | 3 => nI (sm (g 4) m)
  | 4 => nI (cnt 15 (lkq g))
  | 5 => nI (popc (bits K (hp g)))
  | 6 => nI (g 14 2)
  | 7 => nI (g 14 3)
  | 8 => nI (g 14 0)
  | 9 => nI (g 14 1)
  | 10 => nI (g 16 0)
  | 11 => nI (g 16 1)
  | _ => nI (g 16 2)
theorem s_X_countK (d : Nat) {h : Hp} {K m : Nat} {g : Gs} {ik : Bool} {gk : Gs} (hX : XS h K m g ik gk) (hB : GB K m g) {w : Nat} (hw : w < 13) {Kk : Int32 → Hp → Prop} (hq : Kk (aN K m g w) h) : Ev mtb shp (d + 6) m_X_count [.ref 0, .int (nI w)] h (qI Kk) := by
  obtain ⟨hC, hR, hN, hP, h11, h12, -, -⟩ := hX
  have hm6 := hB.2.1
  have hK4 := hB.1
  have hb : bits K (hp g) < 1024 := Nat.lt_of_lt_of_le (bits_lt _ _) (show 2 ^ K ≤ 2 ^ 10 from Nat.pow_le_pow_right (by decide) (by omega))
  have hb2 : bits m (hg g) < 1024 := Nat.lt_of_lt_of_le (bits_lt _ _) (show 2 ^ m ≤ 2 ^ 10 from Nat.pow_le_pow_right (by decide) (by omega))
  refine e_X_count (d + 5) _ h _ ?_
  rw [hC.1, hR.1, hN.1, hN.2.1, hN.2.2.1, hN.2.2.2.1, hP.1, h11, h12]
  refine pk_eq w 0 (fun e => by rw [e] at hq; exact hq) (fun e0 => pk_eq w 1 (fun e => by rw [e] at hq; exact hq) (fun e1 => pk_eq w 2 (fun e => s_R_hanging (d + 3) hR hB (s_bitCount (d + 4) hb2 (by rw [popc_bits (by omega)]; rw [e] at hq; exact hq))) (fun e2 => pk_eq w 3 (fun e => s_R_allSizes (d + 4) hR hB (by rw [e] at hq; exact hq)) (fun e3 => ?_))))
  refine pk_eq w 4 (fun e => s_R_matchingTwos (d + 2) hR hB (by rw [e] at hq; exact hq)) (fun e4 => pk_eq w 5 (fun e => s_C_heirs d hC hR hB (s_bitCount (d + 4) hb (by rw [e] at hq; exact hq))) (fun e5 => ?_))
  refine pk_eq w 6 (fun e => by rw [e] at hq; exact hq) (fun e6 => pk_eq w 7 (fun e => by rw [e] at hq; exact hq) (fun e7 => pk_eq w 8 (fun e => by rw [e] at hq; exact hq) (fun e8 => pk_eq w 9 (fun e => by rw [e] at hq; exact hq) (fun e9 => ?_))))
  exact pk_eq w 10 (fun e => by rw [e] at hq; exact hq) (fun e10 => pk_eq w 11 (fun e => by rw [e] at hq; exact hq) (fun e11 => pk_eq w 12 (fun e => by rw [e] at hq; exact hq) (fun e12 => by omega)))
theorem s_M_howMany (d : Nat) {h : Hp} {K m : Nat} {g : Gs} {ik : Bool} {gk : Gs} (hX : MS h K m g ik gk) (hB : GB K m g) {w : Nat} (hw : w < 13) {Kk : Int32 → Hp → Prop} (hq : Kk (aN K m g w) h) : Ev mtb shp (d + 7) m_M_howMany [.ref 46, .int (nI w)] h (qI Kk) := by
  obtain ⟨hM, hN, hP, h11, h12, -, -⟩ := hX
  have hm6 := hB.2.1
  have hK4 := hB.1
  have hb : bits K (hp g) < 1024 := Nat.lt_of_lt_of_le (bits_lt _ _) (show 2 ^ K ≤ 2 ^ 10 from Nat.pow_le_pow_right (by decide) (by omega))
  refine e_M_howMany (d + 6) _ h _ ?_
  rw [hM.1, hM.2.1, hN.1, hN.2.1, hN.2.2.1, hN.2.2.2.1, hP.1, h11, h12]
  refine pk_eq w 0 (fun e => by rw [e] at hq; exact hq) (fun e0 => pk_eq w 1 (fun e => by rw [e] at hq; exact hq) (fun e1 => pk_eq w 2 (fun e => s_M_hanging (d + 4) hM hB (by rw [e] at hq; exact hq)) (fun e2 => pk_eq w 3 (fun e => s_M_sizes (d + 5) hM hB (by rw [e] at hq; exact hq)) (fun e3 => ?_))))
  refine pk_eq w 4 (fun e => s_M_matching (d + 2) hM hB (by rw [e] at hq; exact hq)) (fun e4 => pk_eq w 5 (fun e => s_M_having d hM hB (s_M_size (d + 5) (by omega) (by rw [e] at hq; exact hq))) (fun e5 => ?_))
  refine pk_eq w 6 (fun e => by rw [e] at hq; exact hq) (fun e6 => pk_eq w 7 (fun e => by rw [e] at hq; exact hq) (fun e7 => pk_eq w 8 (fun e => by rw [e] at hq; exact hq) (fun e8 => pk_eq w 9 (fun e => by rw [e] at hq; exact hq) (fun e9 => ?_))))
  exact pk_eq w 10 (fun e => by rw [e] at hq; exact hq) (fun e10 => pk_eq w 11 (fun e => by rw [e] at hq; exact hq) (fun e11 => pk_eq w 12 (fun e => by rw [e] at hq; exact hq) (fun e12 => by omega)))
/-- one number more; the numbers f 0 .. -/
def mxL (x : Int64) (v : Int32) : Int64 := 31 * x + v.toInt64
def fmx (f : Nat → Int32) (x : Int64) : Nat → Int64
  | 0 => x
  | n + 1 => mxL (fmx f x n) (f n)
def dK (K m : Nat) (g : Gs) (k : Nat) (x : Int64) : Int64 := mxL (mxL (mxL (fmx (aK m g k) x 10) (aC m g k 0)) (aC m g k 1)) (aO K m g k)
def dKs (K m : Nat) (g : Gs) : Nat → Int64
  | 0 => 1097
  | n + 1 => dK K m g n (dKs K m g n)
def dS (K m : Nat) (g : Gs) (s : Nat) (x : Int64) : Int64 := fmx (fun k => nI (Wg g k s)) (fmx (aSt9 K m g s) x 8) K
def dSs (K m : Nat) (g : Gs) : Nat → Int64
  | 0 => dKs K m g K
  | n + 1 => dS K m g n (dSs K m g n)
def dT (K m : Nat) (g : Gs) (x : Int64) : Int64 := fmx (aW m g) (mxL (mxL (mxL (fmx (aT K g) x 3) (aD K m g 0)) (aD K m g 1)) (aF K m g)) 4
def dH (K m : Nat) (g : Gs) : Int64 := if m = 0 then dSs K m g m else dT K m g (dSs K m g m)
def dE (K m : Nat) (g : Gs) : Int64 := fmx (aN K m g) (fmx (fun i => nI (g 15 i)) (dH K m g) (g 16 0)) 13
theorem gt_E {c : Nat} {A B : Prop} (hc : c + 1 < 2 ^ 31) (a : A) : (nI c < nI (c + 1) → A) ∧ (¬ nI c < nI (c + 1) → B) := pk_lt c (c + 1) (fun _ => a) (fun z => by omega)
theorem gt_S {c i : Nat} {A B : Prop} (hi : i < c + 1) (hc : c + 1 < 2 ^ 31) (b : B) : (nI c < nI i → A) ∧ (¬ nI c < nI i → B) := pk_lt c i (fun z => by omega) (fun _ => b)
