/-! numbers, bits and counts that the methods' answers are told in -/
def bz (b : Bool) : Int32 := bif b then 1 else 0
theorem bz_br {b : Bool} {A B : Prop} (hf : b = false → A) (ht : b = true → B) : (bz b = 0 → A) ∧ (¬ bz b = 0 → B) := by
  cases b
  · exact ⟨fun _ => hf rfl, fun z => absurd rfl z⟩
  · exact ⟨fun z => absurd z (by decide), fun _ => ht rfl⟩
theorem bz_bn {b : Bool} {A B : Prop} (ht : b = true → A) (hf : b = false → B) : (¬ bz b = 0 → A) ∧ (bz b = 0 → B) := ⟨(bz_br hf ht).2, (bz_br hf ht).1⟩
theorem bz_nar (b : Bool) : narrow .boolean (.int (bz b)) = .int (bz b) := by cases b <;> rfl
theorem pk_ne {x y : Int32} {A B : Prop} (a b : Nat) (f : a ≠ b → A) (g : a = b → B) (hx : x = nI a := by rfl) (hy : y = nI b := by rfl) (ha : a < 2 ^ 31 := by omega) (hb : b < 2 ^ 31 := by omega) : (¬ x = y → A) ∧ (x = y → B) := by
  subst hx hy
  rw [nI_eq ha hb]
  exact ⟨f, g⟩
/-- a loop that goes up: what holds at its end holds at its start -/
theorem dn {T : Nat → Prop} {m : Nat} (he : T m) (hs : ∀ i, i < m → T (i + 1) → T i) : ∀ i, i ≤ m → T i := by
  intro i hi
  obtain ⟨n, hn⟩ : ∃ n, i + n = m := ⟨m - i, by omega⟩
  induction n generalizing i with
  | zero =>
    obtain rfl : i = m := by omega
    exact he
  | succ n ih => exact hs i (by omega) (ih (i + 1) (by omega) (by omega))
theorem dn0 {T : Nat → Prop} (m : Nat) (he : T m) (hs : ∀ i, i < m → T (i + 1) → T i) : T 0 := dn he hs 0 (Nat.zero_le _)
theorem nI_s (i : Nat) : nI i + 1 = nI (i + 1) := nI_1 i
/-- the bits of those i < n with p -/
def bits : Nat → (Nat → Bool) → Nat
  | 0, _ => 0
  | n + 1, p => bits n p + (bif p n then 2 ^ n else 0)
def cnt : Nat → (Nat → Bool) → Nat
  | 0, _ => 0
  | n + 1, p => cnt n p + (bif p n then 1 else 0)
theorem bits_lt (p : Nat → Bool) : ∀ n, bits n p < 2 ^ n
  | 0 => by show 0 < 1; decide
  | n + 1 => by
    have := bits_lt p n
    unfold bits
    rw [Nat.pow_succ]
    cases p n
    · simp only [cond_false]; omega
    · simp only [cond_true]; omega
theorem bits_congr {p q : Nat → Bool} : ∀ n, (∀ i, i < n → p i = q i) → bits n p = bits n q
  | 0, _ => rfl
  | n + 1, h => by
    unfold bits
    rw [bits_congr n (fun i hi => h i (by omega)), h n (by omega)]
theorem cnt_congr {p q : Nat → Bool} : ∀ n, (∀ i, i < n → p i = q i) → cnt n p = cnt n q
  | 0, _ => rfl
  | n + 1, h => by
    unfold cnt
    rw [cnt_congr n (fun i hi => h i (by omega)), h n (by omega)]
theorem cnt_le (p : Nat → Bool) : ∀ n, cnt n p ≤ n
  | 0 => Nat.le_refl _
  | n + 1 => by
    have := cnt_le p n
    unfold cnt
    cases p n
    · simp only [cond_false]; omega
    · simp only [cond_true]; omega
theorem bits_bit (p : Nat → Bool) (i : Nat) : ∀ n, (bits n p).testBit i = (decide (i < n) && p i)
  | 0 => by simp [bits]
  | n + 1 => by
    have h1 := bits_lt p n
    have h2 := bits_bit p i n
    unfold bits
    cases hp : p n
    · simp only [cond_false, Nat.add_zero]
      rw [h2]
      by_cases hi : i = n
      · subst hi
        simp [hp]
      · rw [decide_eq_decide.mpr (show i < n ↔ i < n + 1 by omega)]
    · simp only [cond_true]
      rw [Nat.add_comm]
      by_cases hi : i = n
      · subst hi
        rw [Nat.testBit_two_pow_add_eq, h2]
        simp [hp]
      · by_cases hlt : i < n
        · rw [Nat.testBit_two_pow_add_gt hlt, h2, decide_eq_decide.mpr (show i < n ↔ i < n + 1 by omega)]
        · have hb : 2 ^ n + bits n p < 2 ^ i := by
            have h3 : 2 ^ (n + 1) ≤ 2 ^ i := Nat.pow_le_pow_right (by decide) (by omega)
            rw [Nat.pow_succ] at h3
            omega
          rw [Nat.testBit_lt_two_pow hb, decide_eq_false (by omega), Bool.false_and]
theorem shl1 : ∀ i, i < 31 → (1 : Int32) <<< (nI i &&& 31) = nI (2 ^ i) := by decide +kernel
theorem nI_or (a b : Nat) : nI a ||| nI b = nI (a ||| b) := by
  apply Int32.toBitVec_inj.mp
  apply BitVec.eq_of_toNat_eq
  rw [Int32.toBitVec_or, BitVec.toNat_or]
  show (a % 2 ^ 32) ||| (b % 2 ^ 32) = (a ||| b) % 2 ^ 32
  rw [Nat.or_mod_two_pow]
theorem nI_and (a b : Nat) : nI a &&& nI b = nI (a &&& b) := by
  apply Int32.toBitVec_inj.mp
  apply BitVec.eq_of_toNat_eq
  rw [Int32.toBitVec_and, BitVec.toNat_and]
  show (a % 2 ^ 32) &&& (b % 2 ^ 32) = (a &&& b) % 2 ^ 32
  rw [Nat.and_mod_two_pow]
theorem or_bit {b i : Nat} (hb : b < 2 ^ i) (hi : i < 31) : nI b ||| ((1 : Int32) <<< (nI i &&& 31)) = nI (b + 2 ^ i) := by
  rw [shl1 i hi, nI_or]
  have h := Nat.two_pow_add_eq_or_of_lt hb 1
  rw [Nat.mul_one] at h
  rw [Nat.or_comm, ← h, Nat.add_comm]
theorem or_bit' {b i : Nat} (hb : b < 2 ^ i) (hi : i < 31) : nI b ||| nI (2 ^ i) = nI (b + 2 ^ i) := by
  rw [← shl1 i hi]
  exact or_bit hb hi
theorem sh_amt : ∀ k, k < 32 → ((nI k &&& 31).toBitVec.smod 32).toNat = k := by decide +kernel
theorem has_bit {b k : Nat} (hb : b < 2 ^ 31) (hk : k < 31) : (nI b >>> (nI k &&& 31)) &&& 1 = nI (b / 2 ^ k % 2) := by
  rw [pk_shrN hb _ k (sh_amt k (by omega)), show (1 : Int32) = nI 1 from rfl, nI_and, Nat.and_one_is_mod]
theorem has_bz {b k : Nat} (hb : b < 2 ^ 31) (hk : k < 31) : (nI b >>> (nI k &&& 31)) &&& 1 = bz (b.testBit k) := by
  rw [has_bit hb hk, Nat.testBit_eq_decide_div_mod_eq]
  rcases (show b / 2 ^ k % 2 = 0 ∨ b / 2 ^ k % 2 = 1 by omega) with h | h <;> rw [h] <;> rfl
theorem bz_1 (b : Bool) : bz b = 1 ↔ b = true := by cases b <;> decide
/-- those of a that aren't in b -/
def dif (a b : Nat) : Nat := a &&& (1023 ^^^ b)
theorem dif_bit {a b : Nat} (ha : a < 1024) (i : Nat) : (dif a b).testBit i = (a.testBit i && !b.testBit i) := by
  unfold dif
  rw [Nat.testBit_and, Nat.testBit_xor]
  by_cases hi : i < 10
  · rw [show (1023 : Nat).testBit i = true by
      rcases (show i = 0 ∨ i = 1 ∨ i = 2 ∨ i = 3 ∨ i = 4 ∨ i = 5 ∨ i = 6 ∨ i = 7 ∨ i = 8 ∨ i = 9 by omega) with rfl | rfl | rfl | rfl | rfl | rfl | rfl | rfl | rfl | rfl <;> decide]
    simp
  · rw [show a.testBit i = false from Nat.testBit_lt_two_pow (Nat.lt_of_lt_of_le ha (show 2 ^ 10 ≤ 2 ^ i from Nat.pow_le_pow_right (by decide) (by omega)))]
    simp
theorem and_bit (a b i : Nat) : (a &&& b).testBit i = (a.testBit i && b.testBit i) := Nat.testBit_and a b i
theorem m1_tn : (-1 : Int32).toBitVec.toNat = 2 ^ 32 - 1 := by decide +kernel
theorem nI_dif {a b : Nat} (ha : a < 1024) (hb : b < 1024) : nI a &&& (nI b ^^^ (-1)) = nI (dif a b) := by
  apply Int32.toBitVec_inj.mp
  apply BitVec.eq_of_toNat_eq
  rw [Int32.toBitVec_and, BitVec.toNat_and, Int32.toBitVec_xor, BitVec.toNat_xor, m1_tn]
  show (a % 2 ^ 32) &&& ((b % 2 ^ 32) ^^^ (2 ^ 32 - 1)) = dif a b % 2 ^ 32
  rw [Nat.mod_eq_of_lt (by omega), Nat.mod_eq_of_lt (by omega)]
  apply Nat.eq_of_testBit_eq
  intro i
  rw [Nat.testBit_mod_two_pow, dif_bit ha, Nat.testBit_and, Nat.testBit_xor, Nat.testBit_two_pow_sub_one]
  by_cases hi : i < 32
  · simp [hi]
  · rw [show a.testBit i = false from Nat.testBit_lt_two_pow (Nat.lt_of_lt_of_le ha (show 2 ^ 10 ≤ 2 ^ i from Nat.pow_le_pow_right (by decide) (by omega)))]
    simp
/-- how many of the ten lowest bits are set -/
def popc (b : Nat) : Nat := cnt 10 (fun i => b.testBit i)
theorem popc_bits {n : Nat} (hn : n ≤ 10) (p : Nat → Bool) : popc (bits n p) = cnt n p := by
  have h : ∀ k, popc (bits n p) = popc (bits n p) ∧ cnt (n + k) (fun i => (bits n p).testBit i) = cnt n p := by
    intro k
    refine ⟨rfl, ?_⟩
    induction k with
    | zero => exact cnt_congr n (fun i hi => by rw [bits_bit]; simp [hi])
    | succ k ih =>
      show cnt (n + k) (fun i => (bits n p).testBit i) + (bif (bits n p).testBit (n + k) then 1 else 0) = _
      rw [ih, bits_bit, decide_eq_false (by omega), Bool.false_and]
      rfl
  have := (h (10 - n)).2
  rw [show n + (10 - n) = 10 by omega] at this
  exact this
theorem popc_le (b : Nat) : popc b ≤ 10 := cnt_le _ _
