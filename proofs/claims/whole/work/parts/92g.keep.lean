/-! what is kept, and taken back: the class -/
theorem cpy0 {f g : Nat → Int32} {n k : Nat} (h : k < n) : va_cpy f g 0 0 n k = f k := by
  rw [pk_cpy_in (by omega) (by omega), Nat.zero_add, Nat.sub_zero]
theorem fit_b {x : Int32} (h : x = 0 ∨ x = 1) : fits .boolean (.int x) = true := by
  rcases h with rfl | rfl <;> rfl
theorem s_R_copy_kr (d : Nat) {h : Hp} {m : Nat} {g : Gs} (hR : RR8 h m g) (hm : m ≤ 6) {Kk : Hp → Prop} (hq : ∀ h', (∀ i, i < 14 ∨ 19 < i → h'.1 i = h.1 i) → RR14 h' m g → Kk h') : Ev mtb shp (d + 1) m_R_copyFrom [.ref 14, .ref 8] h (qV Kk) := by
  refine e_R_copyFrom_kr d h _ ?_
  refine ⟨by decide, by decide, by decide, by decide, by decide, fun _ _ => rfl, by decide, by decide, by decide, by decide, by decide, fun _ _ => rfl, by decide, by decide, by decide, by decide, by decide, fun _ _ => rfl, by decide, by decide, by decide, by decide, by decide, fun _ _ => rfl, by decide, by decide, by decide, by decide, by decide, fun _ _ => rfl, ?_⟩
  refine hq _ (fun i hi => by rw [hs_off _ _ (by omega), hs_off _ _ (by omega), hs_off _ _ (by omega), hs_off _ _ (by omega), hs_off _ _ (by omega), hs_off _ _ (by omega)]) ⟨hR.1, fun s hs => ?_, fun s hs => ?_⟩
  · obtain ⟨r4, r5, r6, r7⟩ := hR.2.1 s hs
    exact ⟨(cpy0 (by omega)).trans r4, (cpy0 (by omega)).trans r5, (cpy0 (by omega)).trans r6, (cpy0 (by omega)).trans r7⟩
  · exact (cpy0 hs).trans (hR.2.2 s hs)
theorem s_R_copy_rk (d : Nat) {h : Hp} {m : Nat} {g : Gs} (hR : RR14 h m g) (hm : m ≤ 6) {Kk : Hp → Prop} (hq : ∀ h', (∀ i, i < 8 ∨ 13 < i → h'.1 i = h.1 i) → RR8 h' m g → Kk h') : Ev mtb shp (d + 1) m_R_copyFrom [.ref 8, .ref 14] h (qV Kk) := by
  refine e_R_copyFrom_rk d h _ ?_
  refine ⟨by decide, by decide, by decide, by decide, by decide, fun _ _ => rfl, by decide, by decide, by decide, by decide, by decide, fun _ _ => rfl, by decide, by decide, by decide, by decide, by decide, fun _ _ => rfl, by decide, by decide, by decide, by decide, by decide, fun _ _ => rfl, by decide, by decide, by decide, by decide, by decide, fun _ _ => rfl, ?_⟩
  refine hq _ (fun i hi => by rw [hs_off _ _ (by omega), hs_off _ _ (by omega), hs_off _ _ (by omega), hs_off _ _ (by omega), hs_off _ _ (by omega), hs_off _ _ (by omega)]) ⟨hR.1, fun s hs => ?_, fun s hs => ?_⟩
  · obtain ⟨r4, r5, r6, r7⟩ := hR.2.1 s hs
    exact ⟨(cpy0 (by omega)).trans r4, (cpy0 (by omega)).trans r5, (cpy0 (by omega)).trans r6, (cpy0 (by omega)).trans r7⟩
  · exact (cpy0 hs).trans (hR.2.2 s hs)
theorem s_N_copy_kn (d : Nat) {h : Hp} {g : Gs} (hN : RN h g) (h6 : g 14 0 ≤ 6) (h8 : g 14 1 ≤ 8) {Kk : Hp → Prop} (hq : ∀ h', (∀ i, i < 32 ∨ 37 < i → h'.1 i = h.1 i) → RK h' g → Kk h') : Ev mtb shp (d + 1) m_N_copyFrom [.ref 32, .ref 26] h (qV Kk) := by
  refine e_N_copyFrom_kn d h _ ?_
  refine ⟨by decide, by decide, by decide, by decide, by decide, fun _ _ => rfl, by decide, by decide, by decide, by decide, by decide, fun _ _ => rfl, by decide, by decide, by decide, by decide, by decide, fun _ _ => rfl, by decide, by decide, by decide, by decide, by decide, fun _ _ => rfl, by decide, by decide, by decide, by decide, by decide, fun q hq => fit_b (hN.2.2.2.2.2.2 (0 + q) (by omega)), ?_⟩
  obtain ⟨n1, n2, n3, n4, n5, n6, n7⟩ := hN
  refine hq _ (fun i hi => by rw [hs_off _ _ (by omega), hs_off _ _ (by omega), hs_off _ _ (by omega), hs_off _ _ (by omega), hs_off _ _ (by omega), hs_off _ _ (by omega), hs_off _ _ (by omega), hs_off _ _ (by omega), hs_off _ _ (by omega)]) ⟨n1, n2, n3, n4, fun i hi => ?_, fun i hi => ?_, fun i hi => ?_⟩
  · exact ⟨(cpy0 (by omega)).trans (n5 i hi).1, (cpy0 (by omega)).trans (n5 i hi).2⟩
  · exact ⟨(cpy0 (by omega)).trans (n6 i hi).1, (cpy0 (by omega)).trans (n6 i hi).2.1, (cpy0 (by omega)).trans (n6 i hi).2.2⟩
  · have e : va_cpy (h.1 31) (h.1 37) 0 0 8 i = h.1 31 i := cpy0 hi
    show va_cpy (h.1 31) (h.1 37) 0 0 8 i = 0 ∨ va_cpy (h.1 31) (h.1 37) 0 0 8 i = 1
    rw [e]
    exact n7 i hi
theorem s_N_copy_nk (d : Nat) {h : Hp} {g : Gs} (hN : RK h g) (h6 : g 14 0 ≤ 6) (h8 : g 14 1 ≤ 8) {Kk : Hp → Prop} (hq : ∀ h', (∀ i, i < 26 ∨ 31 < i → h'.1 i = h.1 i) → RN h' g → Kk h') : Ev mtb shp (d + 1) m_N_copyFrom [.ref 26, .ref 32] h (qV Kk) := by
  refine e_N_copyFrom_nk d h _ ?_
  refine ⟨by decide, by decide, by decide, by decide, by decide, fun _ _ => rfl, by decide, by decide, by decide, by decide, by decide, fun _ _ => rfl, by decide, by decide, by decide, by decide, by decide, fun _ _ => rfl, by decide, by decide, by decide, by decide, by decide, fun _ _ => rfl, by decide, by decide, by decide, by decide, by decide, fun q hq => fit_b (hN.2.2.2.2.2.2 (0 + q) (by omega)), ?_⟩
  obtain ⟨n1, n2, n3, n4, n5, n6, n7⟩ := hN
  refine hq _ (fun i hi => by rw [hs_off _ _ (by omega), hs_off _ _ (by omega), hs_off _ _ (by omega), hs_off _ _ (by omega), hs_off _ _ (by omega), hs_off _ _ (by omega), hs_off _ _ (by omega), hs_off _ _ (by omega), hs_off _ _ (by omega)]) ⟨n1, n2, n3, n4, fun i hi => ?_, fun i hi => ?_, fun i hi => ?_⟩
  · exact ⟨(cpy0 (by omega)).trans (n5 i hi).1, (cpy0 (by omega)).trans (n5 i hi).2⟩
  · exact ⟨(cpy0 (by omega)).trans (n6 i hi).1, (cpy0 (by omega)).trans (n6 i hi).2.1, (cpy0 (by omega)).trans (n6 i hi).2.2⟩
  · have e : va_cpy (h.1 37) (h.1 31) 0 0 8 i = h.1 37 i := cpy0 hi
    show va_cpy (h.1 37) (h.1 31) 0 0 8 i = 0 ∨ va_cpy (h.1 37) (h.1 31) 0 0 8 i = 1
    rw [e]
    exact n7 i hi
/-- the reference keeps -/
def IM6 (h0 h' : Hp) (i : Nat) : Prop := (∀ c, c < 70 → h'.1 c = h0.1 c) ∧ ∀ t, t < i → h'.1 70 t = h0.1 51 t ∧ h'.1 71 t = h0.1 52 t ∧ h'.1 72 t = h0.1 54 t ∧ h'.1 73 t = h0.1 55 t ∧ h'.1 74 t = h0.1 56 t ∧ h'.1 75 t = h0.1 57 t
def IM8 (h0 h' : Hp) (i : Nat) : Prop := ∀ t, t < i → h'.1 76 t = h0.1 58 t ∧ h'.1 77 t = h0.1 59 t ∧ h'.1 78 t = h0.1 60 t
theorem upd_k {f : Nat → Int32} {i t : Nat} {x : Int32} {y : Int32} (h1 : t ≠ i → f t = y) (h2 : t = i → x = y) : upd f i x t = y := by
  by_cases e : t = i
  · rw [e, pk_us]; exact h2 e
  · rw [pk_un e]; exact h1 e
theorem s_M_imageL (d : Nat) {h0 : Hp} {Kk : Int32 → Hp → Prop} (hq : ∀ h', IM6 h0 h' 6 → IM8 h0 h' 8 → Kk (h0.1 46 12) h') : PP (Ev mtb shp d) shp cd_M_image 1 (qI Kk) 57 [.ref 46, .int 0] [] h0 := by
  refine dn (T := fun i => ∀ h', IM6 h0 h' i → PP (Ev mtb shp d) shp cd_M_image 1 (qI Kk) 57 [.ref 46, .int (nI i)] [] h') (m := 6) (fun h' i6 => ?_) (fun i hi ih h' i6 => ?_) 0 (Nat.zero_le _) h0 ⟨fun _ _ => rfl, fun t ht => absurd ht (Nat.not_lt_zero t)⟩
  · refine p_M_image_57 d _ h' _ (lpE (m := 6) ?_)
    refine dn (T := fun i => ∀ h', IM6 h0 h' 6 → IM8 h0 h' i → PP (Ev mtb shp d) shp cd_M_image 1 (qI Kk) 143 [.ref 46, .int (nI i)] [] h') (m := 8) (fun h' i6 i8 => ?_) (fun i hi ih h' i6 i8 => ?_) 0 (Nat.zero_le _) h' i6 (fun t ht => absurd ht (Nat.not_lt_zero t))
    · refine p_M_image_143 d _ h' _ (lpE (m := 8) ?_)
      rw [i6.1 46 (by decide)]
      exact hq h' i6 i8
    · have v8 := vp_in_nI hi (by decide)
      refine p_M_image_143 d _ h' _ (lpS (m := 8) hi (by decide) ⟨v8, v8, v8, v8, v8, v8, ?_⟩)
      rw [nI_clamp (by omega), nI_s, i6.1 58 (by decide), i6.1 59 (by decide), i6.1 60 (by decide)]
      refine ih _ ⟨fun c hc => by rw [hs_off _ _ (by omega), hs_off _ _ (by omega), hs_off _ _ (by omega)]; exact i6.1 c hc, i6.2⟩ (fun t ht => ?_)
      exact ⟨upd_k (fun e => (i8 t (by omega)).1) (fun e => by rw [e]), upd_k (fun e => (i8 t (by omega)).2.1) (fun e => by rw [e]), upd_k (fun e => (i8 t (by omega)).2.2) (fun e => by rw [e])⟩
  · have v6 := vp_in_nI hi (by decide)
    refine p_M_image_57 d _ h' _ (lpS (m := 6) hi (by decide) ⟨v6, v6, v6, v6, v6, v6, v6, v6, v6, v6, v6, v6, ?_⟩)
    rw [nI_clamp (by omega), nI_s, i6.1 51 (by decide), i6.1 52 (by decide), i6.1 54 (by decide), i6.1 55 (by decide), i6.1 56 (by decide), i6.1 57 (by decide)]
    refine ih _ ⟨fun c hc => by rw [hs_off _ _ (by omega), hs_off _ _ (by omega), hs_off _ _ (by omega), hs_off _ _ (by omega), hs_off _ _ (by omega), hs_off _ _ (by omega)]; exact i6.1 c hc, fun t ht => ?_⟩
    exact ⟨upd_k (fun e => (i6.2 t (by omega)).1) (fun e => by rw [e]), upd_k (fun e => (i6.2 t (by omega)).2.1) (fun e => by rw [e]), upd_k (fun e => (i6.2 t (by omega)).2.2.1) (fun e => by rw [e]), upd_k (fun e => (i6.2 t (by omega)).2.2.2.1) (fun e => by rw [e]), upd_k (fun e => (i6.2 t (by omega)).2.2.2.2.1) (fun e => by rw [e]), upd_k (fun e => (i6.2 t (by omega)).2.2.2.2.2) (fun e => by rw [e])⟩
/-- the reference takes back -/
def RS6 (h0 h' : Hp) (i : Nat) : Prop := ∀ t, t < i → h'.1 51 t = h0.1 70 t ∧ h'.1 52 t = h0.1 71 t ∧ h'.1 54 t = h0.1 72 t ∧ h'.1 55 t = h0.1 73 t ∧ h'.1 56 t = h0.1 74 t ∧ h'.1 57 t = h0.1 75 t
def RS8 (h0 h' : Hp) (i : Nat) : Prop := ∀ t, t < i → h'.1 58 t = h0.1 76 t ∧ h'.1 59 t = h0.1 77 t ∧ h'.1 60 t = h0.1 78 t
def RSF (h0 h' : Hp) : Prop := ∀ c, (c < 51 ∨ c = 53 ∨ 60 < c) → h'.1 c = h0.1 c
theorem s_M_restoreL (d : Nat) {h0 : Hp} {Kk : Int32 → Hp → Prop} (hq : ∀ h', RSF h0 h' → RS6 h0 h' 6 → RS8 h0 h' 8 → Kk (h0.1 46 12) h') : PP (Ev mtb shp d) shp cd_M_restore 1 (qI Kk) 55 [.ref 46, .int 0] [] h0 := by
  refine dn (T := fun i => ∀ h', RSF h0 h' → RS6 h0 h' i → PP (Ev mtb shp d) shp cd_M_restore 1 (qI Kk) 55 [.ref 46, .int (nI i)] [] h') (m := 6) (fun h' f i6 => ?_) (fun i hi ih h' f i6 => ?_) 0 (Nat.zero_le _) h0 (fun _ _ => rfl) (fun t ht => absurd ht (Nat.not_lt_zero t))
  · refine p_M_restore_55 d _ h' _ (lpE (m := 6) ?_)
    refine dn (T := fun i => ∀ h', RSF h0 h' → RS6 h0 h' 6 → RS8 h0 h' i → PP (Ev mtb shp d) shp cd_M_restore 1 (qI Kk) 141 [.ref 46, .int (nI i)] [] h') (m := 8) (fun h' f i6 i8 => ?_) (fun i hi ih h' f i6 i8 => ?_) 0 (Nat.zero_le _) h' f i6 (fun t ht => absurd ht (Nat.not_lt_zero t))
    · refine p_M_restore_141 d _ h' _ (lpE (m := 8) ?_)
      rw [f 46 (by omega)]
      exact hq h' f i6 i8
    · have v8 := vp_in_nI hi (by decide)
      refine p_M_restore_141 d _ h' _ (lpS (m := 8) hi (by decide) ⟨v8, v8, v8, v8, v8, v8, ?_⟩)
      rw [nI_clamp (by omega), nI_s, f 76 (by omega), f 77 (by omega), f 78 (by omega)]
      refine ih _ (fun c hc => by rw [hs_off _ _ (by omega), hs_off _ _ (by omega), hs_off _ _ (by omega)]; exact f c hc) i6 (fun t ht => ?_)
      exact ⟨upd_k (fun e => (i8 t (by omega)).1) (fun e => by rw [e]), upd_k (fun e => (i8 t (by omega)).2.1) (fun e => by rw [e]), upd_k (fun e => (i8 t (by omega)).2.2) (fun e => by rw [e])⟩
  · have v6 := vp_in_nI hi (by decide)
    refine p_M_restore_55 d _ h' _ (lpS (m := 6) hi (by decide) ⟨v6, v6, v6, v6, v6, v6, v6, v6, v6, v6, v6, v6, ?_⟩)
    rw [nI_clamp (by omega), nI_s, f 70 (by omega), f 71 (by omega), f 72 (by omega), f 73 (by omega), f 74 (by omega), f 75 (by omega)]
    refine ih _ (fun c hc => by rw [hs_off _ _ (by omega), hs_off _ _ (by omega), hs_off _ _ (by omega), hs_off _ _ (by omega), hs_off _ _ (by omega), hs_off _ _ (by omega)]; exact f c hc) (fun t ht => ?_)
    exact ⟨upd_k (fun e => (i6 t (by omega)).1) (fun e => by rw [e]), upd_k (fun e => (i6 t (by omega)).2.1) (fun e => by rw [e]), upd_k (fun e => (i6 t (by omega)).2.2.1) (fun e => by rw [e]), upd_k (fun e => (i6 t (by omega)).2.2.2.1) (fun e => by rw [e]), upd_k (fun e => (i6 t (by omega)).2.2.2.2.1) (fun e => by rw [e]), upd_k (fun e => (i6 t (by omega)).2.2.2.2.2) (fun e => by rw [e])⟩
