/-! the dog -/
/-- what a question to the class may spoil: the supposed rope, the wedding, the kennel, the partners -/
def scC (i : Nat) : Bool := (Nat.ble 20 i && Nat.ble i 25) || (Nat.ble 38 i && Nat.ble i 45)
def SC (h h' : Hp) : Prop := ∀ i, scC i = false → h'.1 i = h.1 i
theorem SC_rfl (h : Hp) : SC h h := fun _ _ => rfl
theorem SC_tr {a b c : Hp} (h1 : SC a b) (h2 : SC b c) : SC a c := fun i hi => (h2 i hi).trans (h1 i hi)
theorem hs_off (h : Hp) {i j : Nat} (f : Nat → Int32) (hij : i ≠ j) : (hs h j f).1 i = h.1 i := by
  unfold hs
  show (bif Nat.beq i j then f else h.1 i) = h.1 i
  cases hb : Nat.beq i j
  · rfl
  · exact absurd (Nat.eq_of_beq_eq_true hb) hij
theorem SC_hs {h h' : Hp} (hS : SC h h') {j : Nat} (hj : scC j = true) (f : Nat → Int32) : SC h (hs h' j f) := by
  intro i hi
  rw [hs_off h' f (fun e => by rw [e, hj] at hi; cases hi)]
  exact hS i hi
theorem RC_SC {h h' : Hp} {K : Nat} {g : Gs} (hS : SC h h') (hC : RC h K g) : RC h' K g := by
  unfold RC
  rw [hS 3 rfl, hS 4 rfl, hS 5 rfl, hS 6 rfl, hS 7 rfl]
  exact hC
theorem RR_SC {h h' : Hp} {m : Nat} {g : Gs} (hS : SC h h') (hR : RR8 h m g) : RR8 h' m g := by
  unfold RR8
  rw [hS 8 rfl, hS 9 rfl, hS 10 rfl, hS 11 rfl, hS 12 rfl, hS 13 rfl]
  exact hR
theorem RN_SC {h h' : Hp} {g : Gs} (hS : SC h h') (hN : RN h g) : RN h' g := by
  unfold RN
  rw [hS 26 rfl, hS 27 rfl, hS 28 rfl, hS 29 rfl, hS 30 rfl, hS 31 rfl]
  exact hN
/-- what a question to the reference may spoil -/
def scM (i : Nat) : Bool := Nat.beq i 46 || (Nat.ble 62 i && Nat.ble i 69)
def scF (f : Nat) : Bool := Nat.beq f 24 || Nat.beq f 25 || Nat.beq f 26 || Nat.beq f 29 || Nat.beq f 30 || Nat.beq f 31
def SM (h h' : Hp) : Prop := (∀ i, scM i = false → h'.1 i = h.1 i) ∧ ∀ f, scF f = false → h'.1 46 f = h.1 46 f
theorem SM_rfl (h : Hp) : SM h h := ⟨fun _ _ => rfl, fun _ _ => rfl⟩
theorem SM_tr {a b c : Hp} (h1 : SM a b) (h2 : SM b c) : SM a c := ⟨fun i hi => (h2.1 i hi).trans (h1.1 i hi), fun i hi => (h2.2 i hi).trans (h1.2 i hi)⟩
theorem SM_hs {h h' : Hp} (hS : SM h h') {j : Nat} (hj : scM j = true) (hn : j ≠ 46) (f : Nat → Int32) : SM h (hs h' j f) := by
  refine ⟨fun i hi => ?_, fun k hk => ?_⟩
  · rw [hs_off h' f (fun e => by rw [e, hj] at hi; cases hi)]
    exact hS.1 i hi
  · rw [hs_off h' f (fun e => hn e.symm)]
    exact hS.2 k hk
theorem SM_hf {h h' : Hp} (hS : SM h h') {k : Nat} (hk : scF k = true) (x : Int32) : SM h (hs h' 46 (upd (h'.1 46) k x)) := by
  refine ⟨fun i hi => ?_, fun f hf => ?_⟩
  · rw [hs_off h' _ (fun e => by rw [e] at hi; cases hi)]
    exact hS.1 i hi
  · rw [show (hs h' 46 (upd (h'.1 46) k x)).1 46 = upd (h'.1 46) k x from rfl, pk_un (fun e => by rw [e, hk] at hf; cases hf)]
    exact hS.2 f hf
theorem SM_L {h h' : Hp} (hS : SM h h') (i k : Nat) (x : Int64) : SM h (hsL h' i k x) := hS
theorem RM_SM {h h' : Hp} {K m : Nat} {g : Gs} (hS : SM h h') (hM : RM h K m g) : RM h' K m g := by
  unfold RM
  rw [hS.1 47 rfl, hS.1 48 rfl, hS.1 49 rfl, hS.1 50 rfl, hS.1 51 rfl, hS.1 52 rfl, hS.1 53 rfl, hS.1 54 rfl, hS.1 55 rfl, hS.2 1 rfl, hS.2 2 rfl]
  exact hM
theorem RO_SM {h h' : Hp} {g : Gs} (hS : SM h h') (hN : RO h g) : RO h' g := by
  unfold RO
  rw [hS.1 56 rfl, hS.1 57 rfl, hS.1 58 rfl, hS.1 59 rfl, hS.1 60 rfl, hS.2 12 rfl, hS.2 13 rfl, hS.2 14 rfl, hS.2 17 rfl]
  exact hN
theorem ad_add : ∀ a, a < 64 → ∀ b, b < 64 → (a &&& b) + dif a b = a := by decide +kernel
theorem pc_0 : ∀ a, a < 64 → (popc a = 0 ↔ a = 0) := by decide +kernel
/-- tries when king k's is the first question; 0: not to be known, else the tries and one -/
def trq (B T : Nat → Nat) (S k : Nat) : Nat := if (S &&& B k = 0 ∨ dif S (B k) = 0) ∨ (T (S &&& B k) = 0 ∨ T (dif S (B k)) = 0) then 0 else max (T (S &&& B k)) (T (dif S (B k))) + 1
def fws (b t : Nat) : Nat := if t = 0 then b else if b = 0 ∨ t < b then t else b
def fwq (B T : Nat → Nat) (S : Nat) : Nat → Nat
  | 0 => 0
  | k + 1 => fws (fwq B T S k) (trq B T S k)
def dval (K : Nat) (B T : Nat → Nat) (S : Nat) : Nat := if popc S = 0 then 0 else if popc S = 1 then 1 else fwq B T S K
def tab (K : Nat) (B : Nat → Nat) : Nat → Nat → Nat
  | 0, _ => 0
  | n + 1, S => if S = n then dval K B (tab K B n) n else tab K B n S
def dg (K : Nat) (B : Nat → Nat) (S : Nat) : Nat := dval K B (tab K B S) S
theorem tab_dg (K : Nat) (B : Nat → Nat) (S : Nat) : ∀ n, S < n → tab K B n S = dg K B S
  | 0, h => absurd h (Nat.not_lt_zero S)
  | n + 1, h => by
    rw [tab]
    by_cases e : S = n
    · rw [if_pos e, e]; rfl
    · rw [if_neg e]; exact tab_dg K B S n (by omega)
theorem trq_congr {B T T' : Nat → Nat} {S k : Nat} (hS : S < 64) (hB : B k < 64) (h : ∀ s, s < S → T s = T' s) : trq B T S k = trq B T' S k := by
  have := ad_add S hS (B k) hB
  unfold trq
  by_cases e : S &&& B k = 0 ∨ dif S (B k) = 0
  · rw [if_pos (Or.inl e), if_pos (Or.inl e)]
  · rw [h (S &&& B k) (by omega), h (dif S (B k)) (by omega)]
theorem fwq_congr {B T T' : Nat → Nat} {S : Nat} (hS : S < 64) (hB : ∀ k, B k < 64) (h : ∀ s, s < S → T s = T' s) : ∀ k, fwq B T S k = fwq B T' S k
  | 0 => rfl
  | k + 1 => by rw [fwq, fwq, fwq_congr hS hB h k, trq_congr hS (hB k) h]
theorem dg_eq {K : Nat} {B : Nat → Nat} {S : Nat} (hS : S < 64) (hB : ∀ k, B k < 64) : dg K B S = if popc S = 0 then 0 else if popc S = 1 then 1 else fwq B (dg K B) S K := by
  unfold dg
  rw [dval, fwq_congr hS hB (fun s hs => tab_dg K B s S hs) K]
  rfl
theorem fws_le {b t n : Nat} (hb : b ≤ n) (ht : t ≤ n) : fws b t ≤ n := by
  unfold fws
  split
  · exact hb
  · split
    · exact ht
    · exact hb
theorem trq_le {B T : Nat → Nat} {S k : Nat} (hS : S < 64) (hB : B k < 64) (h : ∀ s, s < S → T s ≤ s + 1) : trq B T S k ≤ S + 1 := by
  have := ad_add S hS (B k) hB
  unfold trq
  split
  · omega
  · rename_i e
    have h1 := h (S &&& B k) (by omega)
    have h2 := h (dif S (B k)) (by omega)
    omega
theorem fwq_le {B T : Nat → Nat} {S : Nat} (hS : S < 64) (hB : ∀ k, B k < 64) (h : ∀ s, s < S → T s ≤ s + 1) : ∀ k, fwq B T S k ≤ S + 1
  | 0 => Nat.zero_le _
  | k + 1 => fws_le (fwq_le hS hB h k) (trq_le hS (hB k) h)
theorem dg_le {K : Nat} {B : Nat → Nat} (hB : ∀ k, B k < 64) : ∀ n S, S < n → S < 64 → dg K B S ≤ S + 1
  | 0, _, h, _ => absurd h (Nat.not_lt_zero _)
  | n + 1, S, h, hS => by
    rw [dg_eq hS hB]
    split
    · omega
    · split
      · omega
      · exact fwq_le hS hB (fun s hs => dg_le hB n s (by omega) (by omega)) K
theorem dg_bd {K : Nat} {B : Nat → Nat} (hB : ∀ k, B k < 64) {S : Nat} (hS : S < 64) : dg K B S ≤ 64 := by
  have := dg_le (K := K) hB (S + 1) S (by omega) hS
  omega
theorem tr_bd {K : Nat} {B : Nat → Nat} (hB : ∀ k, B k < 64) {S : Nat} (hS : S < 64) (k : Nat) : trq B (dg K B) S k ≤ 64 ∧ fwq B (dg K B) S k ≤ 64 := by
  have h1 := trq_le (T := dg K B) (k := k) hS (hB k) (fun s hs => dg_le hB (s + 1) s (by omega) (by omega))
  have h2 := fwq_le (T := dg K B) hS hB (fun s hs => dg_le hB (s + 1) s (by omega) (by omega)) k
  omega
theorem dg_0 (K : Nat) (B : Nat → Nat) : dg K B 0 = 0 := rfl
def Bm (m : Nat) (g : Gs) (k : Nat) : Nat := bits m (may g k)
theorem Bm_lt {K m : Nat} {g : Gs} (hB : GB K m g) (k : Nat) : Bm m g k < 64 := may6 hB k
theorem s_D_triesFrom (d : Nat) {h : Hp} {K S k : Nat} {B : Nat → Nat} (hB : ∀ k, B k < 64) (hk : k < K) (hK : K ≤ 4) (h0 : 0 < S) (hS : S < 64) (h44 : ∀ j, j < K → h.1 44 j = nI (B j)) (h43 : ∀ s, s < S → h.1 43 s = pI (dg K B s)) {Kk : Int32 → Hp → Prop} (hq : Kk (pI (trq B (dg K B) S k)) h) : Ev mtb shp (d + 1) m_D_triesFrom [.ref 42, .int (nI k), .int (nI S)] h (qI Kk) := by
  have hBk := hB k
  have had := ad_add S hS (B k) hBk
  have v4 := vp_in_nI (show k < 4 by omega) (by decide)
  refine e_D_triesFrom d _ _ h _ ?_
  rw [nI_clamp (show k < 2 ^ 31 by omega), h44 k hk, nI_and, nI_dif (by omega) (by omega), nI_clamp (show S &&& B k < 2 ^ 31 by omega), nI_clamp (show dif S (B k) < 2 ^ 31 by omega)]
  refine ⟨v4, vp_in_nI (show S &&& B k < 64 by omega) (by decide), v4, vp_in_nI (show dif S (B k) < 64 by omega) (by decide), ?_⟩
  unfold trq at hq
  by_cases e1 : S &&& B k = 0
  · rw [e1, h43 0 h0, dg_0]
    rw [if_pos (Or.inl (Or.inl e1))] at hq
    exact ⟨fun _ => hq, fun z => absurd rfl z⟩
  · by_cases e2 : dif S (B k) = 0
    · rw [e2, h43 0 h0, dg_0]
      rw [if_pos (Or.inl (Or.inr e2))] at hq
      exact ⟨fun _ => hq, fun _ => ⟨fun z => absurd rfl z, fun _ => hq⟩⟩
    · rw [h43 (S &&& B k) (by omega), h43 (dif S (B k)) (by omega)]
      have b1 := dg_bd (K := K) hB (show S &&& B k < 64 by omega)
      have b2 := dg_bd (K := K) hB (show dif S (B k) < 64 by omega)
      refine pI_br (by omega) (fun z1 => ?_) (fun z1 => pI_bn (by omega) (fun z2 => ?_) (fun z2 => ?_))
      · rw [if_pos (Or.inr (Or.inl z1))] at hq; exact hq
      · rw [if_neg (by omega)] at hq
        generalize ha : dg K B (S &&& B k) = a at hq z1 b1 ⊢
        generalize hc : dg K B (dif S (B k)) = c at hq z2 b2 ⊢
        obtain ⟨a', rfl⟩ : ∃ a', a = a' + 1 := ⟨a - 1, by omega⟩
        obtain ⟨c', rfl⟩ : ∃ c', c = c' + 1 := ⟨c - 1, by omega⟩
        rw [sub1, sub1, mx_nI (by omega) (by omega), show (1 : Int32) = nI 1 from rfl, nI_add]
        rw [sub1, show max (a' + 1) (c' + 1) = 1 + max a' c' by omega] at hq
        exact hq
      · rw [if_pos (Or.inr (Or.inr z2))] at hq; exact hq
theorem pI_leb {a b : Nat} {A C : Prop} (ha : a < 2 ^ 31) (hb : b < 2 ^ 31) (f : a ≤ b → A) (t : b < a → C) : (pI a ≤ pI b → A) ∧ (¬ pI a ≤ pI b → C) := by
  rw [le_toInt, pI_toInt ha, pI_toInt hb]
  exact ⟨fun z => f (by omega), fun z => t (by omega)⟩
theorem s_D_fewestOver (d : Nat) {h : Hp} {K S : Nat} {B : Nat → Nat} (hB : ∀ k, B k < 64) (hK : K ≤ 4) (h0 : 0 < S) (hS : S < 64) (h42 : h.1 42 2 = nI K) (h44 : ∀ j, j < K → h.1 44 j = nI (B j)) (h43 : ∀ s, s < S → h.1 43 s = pI (dg K B s)) {Kk : Int32 → Hp → Prop} (hq : Kk (pI (fwq B (dg K B) S K)) h) : Ev mtb shp (d + 2) m_D_fewestOver [.ref 42, .int (nI S)] h (qI Kk) := by
  refine e_D_fewestOver (d + 1) _ h _ ?_
  refine dn0 (T := fun k => ∀ w, PP (Ev mtb shp (d + 1)) shp cd_D_fewestOver 1 (qI Kk) 4 [.ref 42, .int (nI S), .int (pI (fwq B (dg K B) S k)), .int (nI k), w] [] h) K (fun w => ?_) (fun k hk ih w => ?_) unv
  · refine p_D_fewestOver_4 (d + 1) _ _ _ _ h _ ?_
    rw [h42]
    exact lpE hq
  · refine p_D_fewestOver_4 (d + 1) _ _ _ _ h _ ?_
    rw [h42, nI_s k]
    obtain ⟨b1, b2⟩ := tr_bd (K := K) hB hS k
    refine lpS hk (by omega) (s_D_triesFrom d hB hk hK h0 hS h44 h43 ?_)
    rw [fwq, fws] at ih
    refine pI_br (by omega) (fun e => ?_) (fun e => pI_br (by omega) (fun e2 => ?_) (fun e2 => pI_leb (by omega) (by omega) (fun c => ?_) (fun c => ?_)))
    · rw [if_pos e] at ih; exact ih _
    · rw [if_neg e, if_pos (Or.inl e2)] at ih; exact ih _
    · rw [if_neg e, if_neg (by omega)] at ih; exact ih _
    · rw [if_neg e, if_pos (Or.inr c)] at ih; exact ih _
/-- the kennel has learnt -/
def KD (h : Hp) (K m : Nat) (B : Nat → Nat) : Prop := h.1 42 2 = nI K ∧ (∀ j, j < K → h.1 44 j = nI (B j)) ∧ ∀ s, s < 2 ^ m → h.1 43 s = pI (dg K B s)
theorem p64 {m : Nat} (h : m ≤ 6) : 2 ^ m ≤ 64 := Nat.pow_le_pow_right (n := 2) (by decide) h
theorem s_D_learn (d : Nat) {h : Hp} {K m : Nat} {g : Gs} (hC : RC h K g) (hR : RR8 h m g) (hB : GB K m g) {Kk : Hp → Prop} (hq : ∀ h', SC h h' → KD h' K m (Bm m g) → Kk h') : Ev mtb shp (d + 3) m_D_learn [.ref 42, .ref 3, .ref 8] h (qV Kk) := by
  have hK4 := hB.1
  have hm6 := hB.2.1
  have h64 := p64 hm6
  refine e_D_learn (d + 2) h _ ?_
  rw [hC.1]
  refine dn (T := fun k => ∀ h', SC h h' → h'.1 42 2 = nI K → (∀ j, j < k → h'.1 44 j = nI (Bm m g j)) → PP (Ev mtb shp (d + 2)) shp cd_D_learn 0 (qV Kk) 10 [.ref 42, .ref 3, .ref 8, .int (nI k)] [] h') (m := K) (fun h' s1 s2 s3 => ?_) (fun k hk ih h' s1 s2 s3 => ?_) 0 (Nat.zero_le _) _ (SC_hs (SC_rfl h) rfl _) rfl (fun j hj => absurd hj (Nat.not_lt_zero j))
  · refine p_D_learn_10 (d + 2) _ h' _ ?_
    rw [s2]
    refine lpE ⟨vp_in_nI (n := 0) (N := 64) (by decide) (by decide), ?_⟩
    have key := dn (T := fun s => 0 < s → ∀ h', SC h h' → h'.1 42 2 = nI K → (∀ j, j < K → h'.1 44 j = nI (Bm m g j)) → (∀ t, t < s → h'.1 43 t = pI (dg K (Bm m g) t)) → PP (Ev mtb shp (d + 2)) shp cd_D_learn 0 (qV Kk) 45 [.ref 42, .ref 3, .ref 8, .int (nI s)] [] h') (m := 2 ^ m) (fun _ h' s1 s2 s3 s4 => ?_) (fun s hs0 ih h0 h' s1 s2 s3 s4 => ?_) 1 (Nat.one_le_two_pow)
    · refine key (by decide) _ (SC_hs s1 rfl _) s2 s3 (fun t ht => ?_)
      rw [show t = 0 by omega]
      rfl
    · refine p_D_learn_45 (d + 2) _ h' _ ?_
      rw [(RR_SC s1 hR).1, shl1 m (by omega)]
      exact lpE (hq h' s1 ⟨s2, s3, s4⟩)
    · refine p_D_learn_45 (d + 2) _ h' _ ?_
      rw [(RR_SC s1 hR).1, shl1 m (by omega), nI_clamp (show s < 2 ^ 31 by omega), nI_s]
      have v64 := vp_in_nI (show s < 64 by omega) (by decide)
      have hp0 := pc_0 s (by omega)
      have nxt : ∀ v, v = dg K (Bm m g) s → PP (Ev mtb shp (d + 2)) shp cd_D_learn 0 (qV Kk) 45 [.ref 42, .ref 3, .ref 8, .int (nI (s + 1))] [] (hs h' 43 (upd (h'.1 43) s (pI v))) := by
        intro v hv
        refine ih (by omega) _ (SC_hs s1 rfl _) s2 s3 (fun t ht => ?_)
        show upd (h'.1 43) s (pI v) t = _
        by_cases e : t = s
        · rw [e, pk_us, hv]
        · rw [pk_un e]
          exact s4 t (by omega)
      rw [dg_eq (show s < 64 by omega) (fun k => Bm_lt hB k), if_neg (by omega)] at nxt
      refine lpS hs0 (by omega) (s_bitCount (d + 1) (by omega) (pk_ne (popc s) 1 (fun e => ?_) (fun e => ⟨v64, ?_⟩) (ha := by have := popc_le s; omega)))
      · refine s_D_fewestOver d (fun k => Bm_lt hB k) hK4 h0 (by omega) s2 s3 s4 ⟨v64, ?_⟩
        exact nxt _ (by rw [if_neg e])
      · exact nxt 1 (by rw [if_pos e])
  · refine p_D_learn_10 (d + 2) _ h' _ ?_
    rw [s2, nI_clamp (show k < 2 ^ 31 by omega), nI_s]
    refine lpS hk (by omega) (s_C_mayBeHis d (RC_SC s1 hC) (RR_SC s1 hR) hB hk ⟨vp_in_nI (show k < 4 by omega) (by decide), ?_⟩)
    refine ih _ (SC_hs s1 rfl _) s2 (fun j hj => ?_)
    show upd (h'.1 44) k _ j = _
    by_cases e : j = k
    · rw [e, pk_us]; rfl
    · rw [pk_un e]
      exact s3 j (by omega)
theorem s_D_firstKing (d : Nat) {h : Hp} {K m S : Nat} {B : Nat → Nat} (hB : ∀ k, B k < 64) (hK : K ≤ 4) (hS : S < 2 ^ m) (hm : m ≤ 6) (hD : KD h K m B) {Kk : Int32 → Hp → Prop} (hq : Kk (if dg K B S < 2 then -1 else pI (fst (fun k => decide (trq B (dg K B) S k = dg K B S)) K)) h) : Ev mtb shp (d + 2) m_D_firstKing [.ref 42, .int (nI S)] h (qI Kk) := by
  have h64 := p64 hm
  obtain ⟨h42, h44, h43⟩ := hD
  have bd := dg_bd (K := K) hB (show S < 64 by omega)
  have v64 := vp_in_nI (show S < 64 by omega) (by decide)
  refine e_D_firstKing (d + 1) _ h _ ?_
  refine dn (T := fun i => (∀ j, j < i → decide (trq B (dg K B) S j = dg K B S) = false) → PP (Ev mtb shp (d + 1)) shp cd_D_firstKing 1 (qI Kk) 2 [.ref 42, .int (nI S), .int (nI i)] [] h) (m := K) (fun hn => ?_) (fun i hi ih hn => ?_) 0 (Nat.zero_le _) (fun j hj => absurd hj (Nat.not_lt_zero j))
  · refine p_D_firstKing_2 (d + 1) _ _ h _ ?_
    rw [h42]
    refine lpE ?_
    rw [fst_0 hn] at hq
    by_cases e : dg K B S < 2
    · rw [if_pos e] at hq; exact hq
    · rw [if_neg e] at hq; exact hq
  · refine p_D_firstKing_2 (d + 1) _ _ h _ ?_
    rw [h42, nI_clamp (show S < 2 ^ 31 by omega), h43 S hS, nI_s]
    refine lpS hi (by omega) ⟨v64, ?_⟩
    have e0 : (pI (dg K B S) ≤ 0) = (dg K B S < 2) := by
      rw [le_toInt, pI_toInt (by omega), show (0 : Int32).toInt = 0 from rfl]
      exact propext (by omega)
    rw [e0]
    refine ⟨fun z => ?_, fun z => ?_⟩
    · rw [if_pos z] at hq; exact hq
    · rw [if_neg z] at hq
      have hS0 : 0 < S := by
        rcases Nat.eq_zero_or_pos S with z0 | z0
        · rw [z0, dg_0] at z
          omega
        · exact z0
      have b1 := (tr_bd (K := K) hB (show S < 64 by omega) i).1
      refine s_D_triesFrom d hB hi hK hS0 (by omega) h44 (fun s hs => h43 s (by omega)) ⟨v64, ?_⟩
      rw [h43 S hS]
      refine pI_ne (by omega) (by omega) (fun c => ?_) (fun c => ?_)
      · refine ih (fun j hj => ?_)
        by_cases e : j = i
        · subst e; exact decide_eq_false c
        · exact hn j (by omega)
      · rw [fst_i (p := fun k => decide (trq B (dg K B) S k = dg K B S)) (decide_eq_true c) hn hi, sub1] at hq
        exact hq
def aD (K m : Nat) (g : Gs) (w : Nat) : Int32 := if w = 0 then pI (dg K (Bm m g) (bits m (hg g))) else if dg K (Bm m g) (bits m (hg g)) < 2 then -1 else pI (fst (fun k => decide (trq (Bm m g) (dg K (Bm m g)) (bits m (hg g)) k = dg K (Bm m g) (bits m (hg g)))) K)

/-- the reference's way to write it -/
def md (c : Nat) : Nat := if c = 0 then 268435456 else c - 1
theorem md_0 : md 0 = 268435456 := rfl
theorem md_s (c : Nat) : md (c + 1) = c := rfl
theorem md_lt {c : Nat} (h : c ≤ 64) : md c < 2 ^ 31 := by
  unfold md
  split <;> omega
theorem s_M_triesWith (d : Nat) {h : Hp} {K S k : Nat} {B : Nat → Nat} (hB : ∀ k, B k < 64) (hk : k < K) (hK : K ≤ 4) (hS : S < 64) (h67 : ∀ j, j < K → h.1 67 j = nI (B j)) (h66 : ∀ s, s < S → s ≠ 0 → h.1 66 s = nI (md (dg K B s))) {Kk : Int32 → Hp → Prop} (hq : Kk (nI (md (trq B (dg K B) S k))) h) : Ev mtb shp (d + 1) m_M_triesWith [.ref 46, .int (nI S), .int (nI k)] h (qI Kk) := by
  have hBk := hB k
  have had := ad_add S hS (B k) hBk
  have v4 := vp_in_nI (show k < 4 by omega) (by decide)
  refine e_M_triesWith d _ _ h _ ?_
  rw [nI_clamp (show k < 2 ^ 31 by omega), h67 k hk, nI_and, nI_dif (by omega) (by omega), nI_clamp (show S &&& B k < 2 ^ 31 by omega), nI_clamp (show dif S (B k) < 2 ^ 31 by omega)]
  have va := vp_in_nI (show S &&& B k < 64 by omega) (by decide)
  have vd := vp_in_nI (show dif S (B k) < 64 by omega) (by decide)
  unfold trq at hq
  refine ⟨v4, v4, pk_eq (S &&& B k) 0 (fun e1 => ?_) (fun e1 => pk_ne (dif S (B k)) 0 (fun e2 => ⟨va, vd, ?_⟩) (fun e2 => ?_))⟩
  · rw [if_pos (Or.inl (Or.inl e1))] at hq; exact hq
  · rw [h66 (S &&& B k) (by omega) e1, h66 (dif S (B k)) (by omega) e2]
    have b1 := dg_bd (K := K) hB (show S &&& B k < 64 by omega)
    have b2 := dg_bd (K := K) hB (show dif S (B k) < 64 by omega)
    generalize ha : dg K B (S &&& B k) = a at hq b1 ⊢
    generalize hc : dg K B (dif S (B k)) = c at hq b2 ⊢
    have l1 := md_lt b1
    have l2 := md_lt b2
    have hq0 : (a = 0 ∨ c = 0) → Kk 268435456 h := by
      intro z
      rw [if_pos (Or.inr z)] at hq
      exact hq
    have hq1 : a ≠ 0 → c ≠ 0 → Kk (nI (max a c)) h := by
      intro z1 z2
      rw [if_neg (by omega), md_s] at hq
      exact hq
    have ea : a = 0 ∧ md a = 268435456 ∨ a ≠ 0 ∧ md a = a - 1 := by
      unfold md
      by_cases z : a = 0
      · exact Or.inl ⟨z, if_pos z⟩
      · exact Or.inr ⟨z, if_neg z⟩
    have ec : c = 0 ∧ md c = 268435456 ∨ c ≠ 0 ∧ md c = c - 1 := by
      unfold md
      by_cases z : c = 0
      · exact Or.inl ⟨z, if_pos z⟩
      · exact Or.inr ⟨z, if_neg z⟩
    refine pk_le (md a) (md c) (fun c1 => ⟨vd, pk_lt (md c) 268435456 (fun c2 => ?_) (fun c2 => ?_)⟩) (fun c1 => ⟨va, pk_lt (md a) 268435456 (fun c2 => ?_) (fun c2 => ?_)⟩)
    · rw [nI_s, show md c + 1 = max a c by omega]
      exact hq1 (by omega) (by omega)
    · exact hq0 (by omega)
    · rw [nI_s, show md a + 1 = max a c by omega]
      exact hq1 (by omega) (by omega)
    · exact hq0 (by omega)
  · rw [if_pos (Or.inl (Or.inr e2))] at hq; exact hq
theorem s_M_fewestTries (d : Nat) {h : Hp} {K S : Nat} {B : Nat → Nat} (hB : ∀ k, B k < 64) (hK : K ≤ 4) (hS : S < 64) (h1 : h.1 46 1 = nI K) (h67 : ∀ j, j < K → h.1 67 j = nI (B j)) (h66 : ∀ s, s < S → s ≠ 0 → h.1 66 s = nI (md (dg K B s))) {Kk : Int32 → Hp → Prop} (hq : Kk (nI (md (fwq B (dg K B) S K))) h) : Ev mtb shp (d + 2) m_M_fewestTries [.ref 46, .int (nI S)] h (qI Kk) := by
  refine e_M_fewestTries (d + 1) _ h _ ?_
  refine dn0 (T := fun k => PP (Ev mtb shp (d + 1)) shp cd_M_fewestTries 1 (qI Kk) 5 [.ref 46, .int (nI S), .int (nI (md (fwq B (dg K B) S k))), .int (nI k)] [] h) K ?_ (fun k hk ih => ?_)
  · refine p_M_fewestTries_5 (d + 1) _ _ _ h _ ?_
    rw [h1]
    exact lpE hq
  · refine p_M_fewestTries_5 (d + 1) _ _ _ h _ ?_
    rw [h1, nI_s k]
    obtain ⟨b1, b2⟩ := tr_bd (K := K) hB hS k
    have l1 := md_lt b1
    have l2 := md_lt b2
    refine lpS hk (by omega) (s_M_triesWith d hB hk hK hS h67 h66 ?_)
    rw [fwq] at ih
    generalize ht : trq B (dg K B) S k = t at ih b1 l1 ⊢
    generalize fwq B (dg K B) S k = b at ih b2 l2 ⊢
    have et : t = 0 ∧ md t = 268435456 ∨ t ≠ 0 ∧ md t = t - 1 := by
      unfold md
      by_cases z : t = 0
      · exact Or.inl ⟨z, if_pos z⟩
      · exact Or.inr ⟨z, if_neg z⟩
    have eb : b = 0 ∧ md b = 268435456 ∨ b ≠ 0 ∧ md b = b - 1 := by
      unfold md
      by_cases z : b = 0
      · exact Or.inl ⟨z, if_pos z⟩
      · exact Or.inr ⟨z, if_neg z⟩
    unfold fws at ih
    refine pk_le (md b) (md t) (fun c => ?_) (fun c => ?_)
    · by_cases z : t = 0
      · rw [if_pos z] at ih; exact ih
      · rw [if_neg z, if_neg (by omega)] at ih; exact ih
    · refine s_M_triesWith d hB hk hK hS h67 h66 ?_
      rw [ht]
      rw [if_neg (by omega), if_pos (by omega)] at ih
      exact ih

/-- the longs stay as they are, too -/
def SD (h h' : Hp) : Prop := SM h h' ∧ h'.2 = h.2
theorem SD_hs {h h' : Hp} (hS : SD h h') {j : Nat} (hj : scM j = true) (hn : j ≠ 46) (f : Nat → Int32) : SD h (hs h' j f) := ⟨SM_hs hS.1 hj hn f, hS.2⟩
theorem s_M_dogNow (d : Nat) {h : Hp} {K m : Nat} {g : Gs} (hM : RM h K m g) (hB : GB K m g) {w : Nat} (hw : w < 2) {Kk : Int32 → Hp → Prop} (hq : ∀ h', SD h h' → Kk (aD K m g w) h') : Ev mtb shp (d + 5) m_M_dogNow [.ref 46, .int (nI w)] h (qI Kk) := by
  have hK4 := hB.1
  have hm6 := hB.2.1
  have hBm := fun k => Bm_lt hB k
  have hH : bits m (hg g) < 64 := Nat.lt_of_lt_of_le (bits_lt _ _) (p64 hm6)
  refine e_M_dogNow (d + 4) _ h _ ?_
  refine dn0 (T := fun i => PP (Ev mtb shp (d + 4)) shp cd_M_dogNow 1 (qI Kk) 4 [.ref 46, .int (nI w), .int (nI (bits i (hg g))), .int (nI i), unv, unv] [] h) m ?_ (fun i hi ih => ?_)
  · refine p_M_dogNow_4 (d + 4) _ _ _ _ _ h _ ?_
    rw [hM.2.1]
    refine lpE ?_
    refine dn (T := fun k => ∀ h', SD h h' → (∀ j, j < k → h'.1 67 j = nI (Bm m g j)) → PP (Ev mtb shp (d + 4)) shp cd_M_dogNow 1 (qI Kk) 38 [.ref 46, .int (nI w), .int (nI (bits m (hg g))), .int (nI k), unv, unv] [] h') (m := K) (fun h' s1 s2 => ?_) (fun k hk ih h' s1 s2 => ?_) 0 (Nat.zero_le _) h ⟨SM_rfl h, rfl⟩ (fun j hj => absurd hj (Nat.not_lt_zero j))
    · refine p_M_dogNow_38 (d + 4) _ _ _ _ _ h' _ ?_
      rw [(RM_SM s1.1 hM).1]
      refine lpE ?_
      refine dn (T := fun s => ∀ h', SD h h' → (∀ j, j < K → h'.1 67 j = nI (Bm m g j)) → (∀ t, t < s → t ≠ 0 → h'.1 66 t = nI (md (dg K (Bm m g) t))) → PP (Ev mtb shp (d + 4)) shp cd_M_dogNow 1 (qI Kk) 65 [.ref 46, .int (nI w), .int (nI (bits m (hg g))), .int (nI s), unv, unv] [] h') (m := 64) (fun h' s1 s2 s3 => ?_) (fun s hs0 ih h' s1 s2 s3 => ?_) 0 (Nat.zero_le _) h' s1 s2 (fun t ht => absurd ht (Nat.not_lt_zero t))
      · refine p_M_dogNow_65 (d + 4) _ _ _ _ _ h' _ (lpE (m := 64) ?_)
        rw [nI_clamp (show bits m (hg g) < 2 ^ 31 by omega)]
        have hq := hq h' s1
        unfold aD at hq
        refine pk_ne (bits m (hg g)) 0 (fun e => ⟨vp_in_nI hH (by decide), ?_⟩) (fun e => ?_)
        · rw [s3 _ hH e]
          have bd := dg_bd (K := K) hBm hH
          have em : dg K (Bm m g) (bits m (hg g)) = 0 ∧ md (dg K (Bm m g) (bits m (hg g))) = 268435456 ∨ dg K (Bm m g) (bits m (hg g)) ≠ 0 ∧ md (dg K (Bm m g) (bits m (hg g))) = dg K (Bm m g) (bits m (hg g)) - 1 := by
            unfold md
            by_cases z : dg K (Bm m g) (bits m (hg g)) = 0
            · exact Or.inl ⟨z, if_pos z⟩
            · exact Or.inr ⟨z, if_neg z⟩
          have hlm := md_lt bd
          refine pk_le 268435456 (md (dg K (Bm m g) (bits m (hg g)))) (fun c => pk_lt (md (dg K (Bm m g) (bits m (hg g)))) 268435456 (fun z => by omega) (fun _ => ?_)) (fun c => pk_ne w 0 (fun e2 => ?_) (fun e2 => pk_lt (md (dg K (Bm m g) (bits m (hg g)))) 268435456 (fun z => ?_) (fun z => by omega)))
          · have z : dg K (Bm m g) (bits m (hg g)) = 0 := by omega
            rw [z] at hq
            by_cases ew : w = 0
            · rw [if_pos ew] at hq; exact hq
            · rw [if_neg ew, if_pos (by decide)] at hq; exact hq
          · rw [if_neg e2] at hq
            rw [(RM_SM s1.1 hM).1]
            have lst : ∀ j, j ≤ K → ∀ v, ((v = 0 ∧ ∀ k, j ≤ k → k < K → decide (trq (Bm m g) (dg K (Bm m g)) (bits m (hg g)) k = dg K (Bm m g) (bits m (hg g))) = false) ∨ (∃ k, v = k + 1 ∧ j ≤ k ∧ k < K ∧ decide (trq (Bm m g) (dg K (Bm m g)) (bits m (hg g)) k = dg K (Bm m g) (bits m (hg g))) = true ∧ ∀ i, j ≤ i → i < k → decide (trq (Bm m g) (dg K (Bm m g)) (bits m (hg g)) i = dg K (Bm m g) (bits m (hg g))) = false)) → (v = 0 ∨ 2 ≤ dg K (Bm m g) (bits m (hg g))) → PP (Ev mtb shp (d + 4)) shp cd_M_dogNow 1 (qI Kk) 149 [.ref 46, .int (nI w), .int (nI (bits m (hg g))), .int (nI (md (dg K (Bm m g) (bits m (hg g))))), .int (pI v), .int (pI j)] [] h' := by
              intro j
              induction j with
              | zero =>
                intro hj v hv hv2
                refine p_M_dogNow_149 (d + 4) _ _ _ _ _ h' _ ⟨fun _ => ?_, fun z => absurd (by decide) z⟩
                rcases hv with ⟨hv0, hno⟩ | ⟨k, hv0, -, hk, hp, hno⟩
                · rw [fst_0 (fun k hk => hno k (Nat.zero_le k) hk)] at hq
                  rw [hv0]
                  by_cases e3 : dg K (Bm m g) (bits m (hg g)) < 2
                  · rw [if_pos e3] at hq; exact hq
                  · rw [if_neg e3] at hq; exact hq
                · rw [fst_i hp (fun i hi => hno i (Nat.zero_le i) hi) hk, if_neg (by omega)] at hq
                  rw [hv0]
                  exact hq
              | succ j ih =>
                intro hj v hv hv2
                refine p_M_dogNow_149 (d + 4) _ _ _ _ _ h' _ ?_
                rw [sub1, show nI j + (-1) = pI j from (Int32.sub_eq_add_neg _ _).symm]
                refine ⟨fun z => absurd z (nI_pos (by omega)), fun _ => pk_le (md (dg K (Bm m g) (bits m (hg g)))) 0 (fun e3 => ?_) (fun e3 => ?_)⟩
                · rw [if_pos (by clear hv; omega)] at hq
                  rw [show v = 0 by clear hv; omega]
                  exact hq
                · refine s_M_triesWith (d + 3) hBm (by omega) hK4 hH s2 (fun s hs hs0 => s3 s (by omega) hs0) ?_
                  obtain ⟨b1, b2⟩ := tr_bd (K := K) hBm hH j
                  have l1 := md_lt b1
                  have et : trq (Bm m g) (dg K (Bm m g)) (bits m (hg g)) j = 0 ∧ md (trq (Bm m g) (dg K (Bm m g)) (bits m (hg g)) j) = 268435456 ∨ trq (Bm m g) (dg K (Bm m g)) (bits m (hg g)) j ≠ 0 ∧ md (trq (Bm m g) (dg K (Bm m g)) (bits m (hg g)) j) = trq (Bm m g) (dg K (Bm m g)) (bits m (hg g)) j - 1 := by
                    unfold md
                    by_cases z : trq (Bm m g) (dg K (Bm m g)) (bits m (hg g)) j = 0
                    · exact Or.inl ⟨z, if_pos z⟩
                    · exact Or.inr ⟨z, if_neg z⟩
                  refine pk_ne (md (trq (Bm m g) (dg K (Bm m g)) (bits m (hg g)) j)) (md (dg K (Bm m g) (bits m (hg g)))) (fun e4 => ?_) (fun e4 => ?_)
                  · have hne : decide (trq (Bm m g) (dg K (Bm m g)) (bits m (hg g)) j = dg K (Bm m g) (bits m (hg g))) = false := decide_eq_false (fun z => e4 (by rw [z]))
                    refine ih (by omega) v ?_ hv2
                    rcases hv with ⟨hv0, hno⟩ | ⟨k, hv0, hjk, hk, hp, hno⟩
                    · refine Or.inl ⟨hv0, fun k h1 h2 => ?_⟩
                      by_cases e5 : k = j
                      · rw [e5]; exact hne
                      · exact hno k (by omega) h2
                    · refine Or.inr ⟨k, hv0, by omega, hk, hp, fun i h1 h2 => ?_⟩
                      by_cases e5 : i = j
                      · rw [e5]; exact hne
                      · exact hno i (by omega) h2
                  · have heq : decide (trq (Bm m g) (dg K (Bm m g)) (bits m (hg g)) j = dg K (Bm m g) (bits m (hg g))) = true := decide_eq_true (by clear hv; omega)
                    rw [← sub1 j]
                    exact ih (by omega) (j + 1) (Or.inr ⟨j, rfl, Nat.le_refl j, by omega, heq, fun i h1 h2 => by omega⟩) (Or.inr (by clear hv; omega))
            exact lst K (Nat.le_refl K) 0 (Or.inl ⟨rfl, fun k h1 h2 => by omega⟩) (Or.inl rfl)
          · rw [if_pos e2] at hq
            obtain ⟨c', hc'⟩ : ∃ c', dg K (Bm m g) (bits m (hg g)) = c' + 1 := ⟨dg K (Bm m g) (bits m (hg g)) - 1, by omega⟩
            rw [hc', sub1] at hq
            rw [hc', md_s]
            exact hq
        · rw [e, dg_0] at hq
          have hm1 : Kk (-1) h' := by
            by_cases ew : w = 0
            · rw [if_pos ew] at hq; exact hq
            · rw [if_neg ew, if_pos (by decide)] at hq; exact hq
          exact ⟨fun _ => ⟨fun z => absurd z (by decide), fun _ => hm1⟩, fun z => absurd (by decide) z⟩
      · refine p_M_dogNow_65 (d + 4) _ _ _ _ _ h' _ (lpS (m := 64) hs0 (by decide) ?_)
        rw [nI_clamp (show s < 2 ^ 31 by omega), nI_s]
        have v64 := vp_in_nI hs0 (by decide)
        have hp0 := pc_0 s hs0
        have nxt : ∀ v : Nat, (s ≠ 0 → v = md (dg K (Bm m g) s)) → PP (Ev mtb shp (d + 4)) shp cd_M_dogNow 1 (qI Kk) 65 [.ref 46, .int (nI w), .int (nI (bits m (hg g))), .int (nI (s + 1)), unv, unv] [] (hs h' 66 (upd (h'.1 66) s (nI v))) := by
          intro v hv
          refine ih _ (SD_hs s1 rfl (by decide) _) s2 (fun t ht ht0 => ?_)
          show upd (h'.1 66) s (nI v) t = _
          by_cases e : t = s
          · rw [e, pk_us, hv (by omega)]
          · rw [pk_un e]
            exact s3 t (by omega) ht0
        rw [dg_eq hs0 hBm] at nxt
        refine s_M_size (d + 3) (by omega) (pk_le 2 (popc s) (fun c => ?_) (fun c => ⟨v64, ?_⟩) (hb := by have := popc_le s; omega))
        · refine s_M_fewestTries (d + 2) hBm hK4 hs0 (RM_SM s1.1 hM).1 s2 s3 ⟨v64, ?_⟩
          exact nxt _ (fun _ => by rw [if_neg (by omega), if_neg (by omega)])
        · exact nxt 0 (fun z => by rw [if_neg (by omega), if_pos (by omega)]; rfl)
    · refine p_M_dogNow_38 (d + 4) _ _ _ _ _ h' _ ?_
      rw [(RM_SM s1.1 hM).1, nI_clamp (show k < 2 ^ 31 by omega), nI_s]
      refine lpS hk (by omega) (s_M_mayBits d (RM_SM s1.1 hM) hB hk ⟨vp_in_nI (show k < 4 by omega) (by decide), ?_⟩)
      refine ih _ (SD_hs s1 rfl (by decide) _) (fun j hj => ?_)
      show upd (h'.1 67) k _ j = _
      by_cases e : j = k
      · rw [e, pk_us]; rfl
      · rw [pk_un e]
        exact s2 j (by omega)
  · refine p_M_dogNow_4 (d + 4) _ _ _ _ _ h _ ?_
    rw [hM.2.1, nI_s i]
    refine lpS hi (by omega) (s_M_hangs (d + 3) hM hB hi (bz_br (fun c => ?_) (fun c => ?_)))
    · rw [or0]
      rw [bits_f c] at ih
      exact ih
    · rw [or_bit (bits_lt _ _) (by omega)]
      rw [bits_t c] at ih
      exact ih
