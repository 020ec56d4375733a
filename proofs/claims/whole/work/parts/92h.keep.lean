/-! image and restore -/
def XC (h : Hp) (K m : Nat) (g : Gs) : Prop := RC h K g ∧ RR8 h m g ∧ RN h g ∧ RP h g
theorem RC_of {h h' : Hp} {K : Nat} {g : Gs} (e : ∀ i, 3 ≤ i → i ≤ 7 → h'.1 i = h.1 i) (H : RC h K g) : RC h' K g := by
  unfold RC at H ⊢
  rw [e 3 (by decide) (by decide), e 4 (by decide) (by decide), e 5 (by decide) (by decide), e 6 (by decide) (by decide), e 7 (by decide) (by decide)]
  exact H
theorem RR8_of {h h' : Hp} {m : Nat} {g : Gs} (e : ∀ i, 8 ≤ i → i ≤ 13 → h'.1 i = h.1 i) (H : RR8 h m g) : RR8 h' m g := by
  unfold RR8 at H ⊢
  rw [e 8 (by decide) (by decide), e 9 (by decide) (by decide), e 10 (by decide) (by decide), e 11 (by decide) (by decide), e 12 (by decide) (by decide), e 13 (by decide) (by decide)]
  exact H
theorem RR14_of {h h' : Hp} {m : Nat} {g : Gs} (e : ∀ i, 14 ≤ i → i ≤ 19 → h'.1 i = h.1 i) (H : RR14 h m g) : RR14 h' m g := by
  unfold RR14 at H ⊢
  rw [e 14 (by decide) (by decide), e 15 (by decide) (by decide), e 16 (by decide) (by decide), e 17 (by decide) (by decide), e 18 (by decide) (by decide), e 19 (by decide) (by decide)]
  exact H
theorem RN_of {h h' : Hp} {g : Gs} (e : ∀ i, 26 ≤ i → i ≤ 31 → h'.1 i = h.1 i) (H : RN h g) : RN h' g := by
  unfold RN at H ⊢
  rw [e 26 (by decide) (by decide), e 27 (by decide) (by decide), e 28 (by decide) (by decide), e 29 (by decide) (by decide), e 30 (by decide) (by decide), e 31 (by decide) (by decide)]
  exact H
theorem RK_of {h h' : Hp} {g : Gs} (e : ∀ i, 32 ≤ i → i ≤ 37 → h'.1 i = h.1 i) (H : RK h g) : RK h' g := by
  unfold RK at H ⊢
  rw [e 32 (by decide) (by decide), e 33 (by decide) (by decide), e 34 (by decide) (by decide), e 35 (by decide) (by decide), e 36 (by decide) (by decide), e 37 (by decide) (by decide)]
  exact H
theorem RP_of {h h' : Hp} {g : Gs} (e1 : h'.1 1 = h.1 1) (e2 : h'.1 2 = h.1 2) (H : RP h g) : RP h' g := by
  unfold RP at H ⊢
  rw [e1, e2]
  exact H
theorem RM_of {h h' : Hp} {K m : Nat} {g : Gs} (e1 : h'.1 46 1 = h.1 46 1) (e2 : h'.1 46 2 = h.1 46 2) (e : ∀ i, 47 ≤ i → i ≤ 55 → h'.1 i = h.1 i) (H : RM h K m g) : RM h' K m g := by
  unfold RM at H ⊢
  rw [e1, e2, e 47 (by decide) (by decide), e 48 (by decide) (by decide), e 49 (by decide) (by decide), e 50 (by decide) (by decide), e 51 (by decide) (by decide), e 52 (by decide) (by decide), e 53 (by decide) (by decide), e 54 (by decide) (by decide), e 55 (by decide) (by decide)]
  exact H
theorem RO_of {h h' : Hp} {g : Gs} (e1 : h'.1 46 12 = h.1 46 12) (e2 : h'.1 46 13 = h.1 46 13) (e3 : h'.1 46 14 = h.1 46 14) (e4 : h'.1 46 17 = h.1 46 17) (e : ∀ i, 56 ≤ i → i ≤ 60 → h'.1 i = h.1 i) (H : RO h g) : RO h' g := by
  unfold RO at H ⊢
  rw [e1, e2, e3, e4, e 56 (by decide) (by decide), e 57 (by decide) (by decide), e 58 (by decide) (by decide), e 59 (by decide) (by decide), e 60 (by decide) (by decide)]
  exact H
theorem RQ_of {h h' : Hp} {g : Gs} (e1 : h'.1 46 22 = h.1 46 22) (e2 : h'.1 61 = h.1 61) (H : RQ h g) : RQ h' g := by
  unfold RQ at H ⊢
  rw [e1, e2]
  exact H
section OPH
variable {k : Nat} {h : Hp}
theorem op_image (hI : Inv k h) : op2 m_X_image m_M_image [] h (Inv (k + 1)) := by
  obtain ⟨K, m, g, ik, gk, hB, hX, hM⟩ := hI
  obtain ⟨hG, hNB, hPB, hDP, hK0, h20, hlk, hKB⟩ := id hB
  have hm6 := hG.2.1
  obtain ⟨xC, xR, xN, xP, x11, x12, x10, xk⟩ := hX
  refine e_X_image 15 h _ (s_X_noLine 14 xR (by omega) ?_)
  by_cases hm0 : m = 0
  · rw [decide_eq_true hm0]
    refine z_t (e_M_image 15 h _ ?_)
    rw [hM.1.2.1]
    exact pk_ne m 0 (fun z => absurd hm0 z) (fun _ => ⟨rfl, inv_same hB ⟨xC, xR, xN, xP, x11, x12, x10, xk⟩ hM⟩)
  rw [decide_eq_false hm0]
  refine z_f (s_R_copy_kr 14 xR hm6 (fun h1 f1 r14 => s_N_copy_kn 14 (RN_of (fun i _ _ => f1 i (by omega)) xN) hNB.1 hNB.2.1 (fun h2 f2 rk => ⟨rfl, ?_⟩)))
  have e2 : ∀ i, (i < 14 ∨ (19 < i ∧ i < 32) ∨ 37 < i) → h2.1 i = h.1 i := fun i hi => (f2 i (by omega)).trans (f1 i (by omega))
  have e3 : ∀ i, i ≠ 0 → (i < 14 ∨ (19 < i ∧ i < 32) ∨ 37 < i) → (hs h2 0 (upd (h2.1 0) 10 1)).1 i = h.1 i := fun i h0 hi => (hs_off _ _ h0).trans (e2 i hi)
  have hX3 : XS (hs h2 0 (upd (h2.1 0) 10 1)) K m g true g := by
    refine ⟨RC_of (fun i _ _ => e3 i (by omega) (by omega)) xC, RR8_of (fun i _ _ => e3 i (by omega) (by omega)) xR, RN_of (fun i _ _ => e3 i (by omega) (by omega)) xN, RP_of (e3 1 (by omega) (by omega)) (e3 2 (by omega) (by omega)) xP, ?_, ?_, rfl, fun _ => ⟨RR14_of (fun i _ _ => (hs_off _ _ (by omega)).trans (f2 i (by omega))) r14, RK_of (fun i _ _ => hs_off _ _ (by omega)) rk⟩⟩
    · show h2.1 0 11 = _
      rw [e2 0 (by omega)]; exact x11
    · show h2.1 0 12 = _
      rw [e2 0 (by omega)]; exact x12
  have hM3 : MS (hs h2 0 (upd (h2.1 0) 10 1)) K m g ik gk := MS_hi (fun i hi => e3 i (by omega) (by omega)) hM
  have ea : h2.1 26 5 = nI (g 14 2) := by rw [e2 26 (by omega)]; exact xN.1
  rw [ea]
  generalize hs h2 0 (upd (h2.1 0) 10 1) = h3 at hX3 hM3
  obtain ⟨yM, yO, yQ, y0, y21, yt, yf⟩ := hM3
  refine e_M_image 15 h3 _ ?_
  rw [yM.2.1]
  refine pk_ne m 0 (fun _ => ⟨rfl, s_M_imageL 15 (fun h' i6 i8 => ⟨?_, K, m, g, true, g, ⟨hG, hNB, hPB, hDP, hK0, h20, (by omega), fun _ => ⟨hG, hNB, hDP, fun _ _ => ⟨rfl, rfl, rfl, rfl⟩, fun _ _ => rfl⟩⟩, ?_, ?_⟩)⟩) (fun z => absurd z hm0)
  · exact yO.1.symm
  · exact XS_lo (fun i hi => (i6.1 i (by omega)).trans (by rw [hs_off _ _ (by omega), hs_off _ _ (by omega), hs_off _ _ (by omega), hs_off _ _ (by omega), hs_off _ _ (by omega), hs_off _ _ (by omega)])) hX3
  · have e46 := i6.1 46 (by decide)
    have ec : ∀ c, 46 < c → c < 70 → h'.1 c = h3.1 c := fun c h1 h2 => (i6.1 c h2).trans (by rw [hs_off _ _ (by omega), hs_off _ _ (by omega), hs_off _ _ (by omega), hs_off _ _ (by omega), hs_off _ _ (by omega), hs_off _ _ (by omega)])
    have ef : ∀ f x, h'.1 46 f = x → h'.1 46 f = x := fun _ _ z => z
    refine ⟨RM_of (by rw [e46]; rfl) (by rw [e46]; rfl) (fun i _ _ => ec i (by omega) (by omega)) yM, RO_of (by rw [e46]; rfl) (by rw [e46]; rfl) (by rw [e46]; rfl) (by rw [e46]; rfl) (fun i _ _ => ec i (by omega) (by omega)) yO, RQ_of (by rw [e46]; rfl) (ec 61 (by omega) (by omega)) yQ, ?_, ?_, fun _ => ⟨?_, ?_, ?_, ?_, ?_, ?_, fun s hs => ?_, fun i hi => ?_, fun i hi => ?_⟩, fun z => by cases z⟩
    · rw [e46]; exact y0
    · rw [e46]; exact y21
    · rw [e46]; rfl
    · rw [e46]; exact y0
    · rw [e46]; exact yO.1
    · rw [e46]; exact yO.2.1
    · rw [e46]; exact yO.2.2.1
    · rw [e46]; exact yO.2.2.2.1
    · obtain ⟨j1, j2, j3, j4, -⟩ := i6.2 s (by omega)
      obtain ⟨q1, q2, q3, q4, q5⟩ := yM.2.2.2 s hs
      exact ⟨j1.trans q1, j2.trans q2, j3.trans q4, j4.trans q5⟩
    · obtain ⟨-, -, -, -, j5, j6⟩ := i6.2 i (by have := hNB.1; omega)
      exact ⟨j5.trans (yO.2.2.2.2.1 i hi).1, j6.trans (yO.2.2.2.2.1 i hi).2⟩
    · obtain ⟨j1, j2, j3⟩ := i8 i (by have := hNB.2.1; omega)
      obtain ⟨q1, q2, q3⟩ := yO.2.2.2.2.2 i hi
      exact ⟨j1.trans q1, j2.trans q2, j3.trans q3⟩
/-- the state taken back -/
def gre (g gk : Gs) : Gs := fun r => bif Nat.ble r 14 then gk r else g r
theorem op_restore (hk : k < 64) (hI : Inv k h) : op2 m_X_restore m_M_restore [] h (Inv (k + 1)) := by
  obtain ⟨K, m, g, ik, gk, hB, hX, hM⟩ := hI
  obtain ⟨hG, hNB, hPB, hDP, hK0, h20, hlk, hKB⟩ := id hB
  have hm6 := hG.2.1
  obtain ⟨xC, xR, xN, xP, x11, x12, x10, xk⟩ := id hX
  refine e_X_restore 15 h _ ?_
  rw [x10]
  cases ik with
  | false =>
    refine n_f (e_M_restore 15 h _ ?_)
    have y : h.1 46 39 = 0 ∨ ∃ l, l < g 16 1 ∧ h.1 46 40 = nI l := hM.2.2.2.2.2.2 rfl
    rcases y with y | ⟨l, hl, y⟩
    · rw [y]
      exact ⟨fun _ => ⟨rfl, inv_same hB hX hM⟩, fun z => absurd rfl z⟩
    · rw [y, hM.2.2.2.1]
      exact ⟨fun _ => ⟨rfl, inv_same hB hX hM⟩, fun _ => pk_eq l (g 16 1) (fun z => by omega) (fun _ => ⟨rfl, inv_same hB hX hM⟩)⟩
  | true =>
    obtain ⟨r14, rk⟩ := xk rfl
    obtain ⟨kG, kN, kD, kK, k6⟩ := hKB rfl
    refine n_t (s_R_copy_rk 14 r14 hm6 (fun h1 f1 hR1 => s_N_copy_nk 14 (RK_of (fun i _ _ => f1 i (by omega)) rk) kN.1 kN.2.1 (fun h2 f2 hN2 => ?_)))
    have e2 : ∀ i, (i < 8 ∨ (13 < i ∧ i < 26) ∨ 31 < i) → h2.1 i = h.1 i := fun i hi => (f2 i (by omega)).trans (f1 i (by omega))
    have hX2 : XS h2 K m (gre g gk) true gk := by
      refine ⟨⟨?_, fun j hj => ?_⟩, RR8_of (h := h1) (fun i _ _ => f2 i (by omega)) hR1, hN2, RP_of (e2 1 (by omega)) (e2 2 (by omega)) xP, ?_, ?_, ?_, fun _ => ⟨RR14_of (fun i _ _ => e2 i (by omega)) r14, RK_of (fun i _ _ => e2 i (by omega)) rk⟩⟩
      · rw [e2 3 (by omega)]; exact xC.1
      · rw [e2 4 (by omega), e2 5 (by omega), e2 6 (by omega), e2 7 (by omega)]
        obtain ⟨c0, c1, c2, c3⟩ := xC.2 j hj
        obtain ⟨d0, d1, d2, d3⟩ := kK j hj
        show h.1 4 j = nI (gk 0 j) ∧ h.1 5 j = nI (gk 1 j) ∧ h.1 6 j = nI (gk 2 j) ∧ h.1 7 j = nI (gk 3 j)
        rw [d0, d1, d2, d3]
        exact ⟨c0, c1, c2, c3⟩
      · rw [e2 0 (by omega)]; exact x11
      · rw [e2 0 (by omega)]; exact x12
      · rw [e2 0 (by omega)]; exact x10
    have hM2 : MS h2 K m g true gk := MS_hi (fun i hi => e2 i (by omega)) hM
    have ea : h2.1 26 5 = nI (gk 14 2) := hN2.1
    rw [ea]
    obtain ⟨yM, yO, yQ, y0, y21, yt, yf⟩ := hM2
    obtain ⟨t39, t40, km⟩ := yt rfl
    obtain ⟨m1, m2, m3, m4, m5, m6, m7⟩ := km
    refine e_M_restore 15 h2 _ ?_
    rw [t39]
    refine ⟨fun z => absurd z (by decide), fun _ => ⟨fun _ => s_M_restoreL 15 (fun h' f s6 s8 => ⟨?_, K, m, gre g gk, true, gk, ⟨kG, kN, hPB, kD, hK0, h20, (show g 16 1 ≤ k + 1 by omega), fun _ => ⟨kG, kN, kD, fun _ _ => ⟨rfl, rfl, rfl, rfl⟩, fun _ _ => rfl⟩⟩, ?_, ?_⟩), fun z => absurd (t40.trans y0.symm) z⟩⟩
    · exact m1.symm
    · exact XS_lo (fun i hi => (f i (by omega)).trans (by rw [hs_off _ _ (by omega), hs_off _ _ (by omega), hs_off _ _ (by omega), hs_off _ _ (by omega)])) hX2
    · have e46 := f 46 (by omega)
      have ec : ∀ c, (46 < c ∧ c < 51 ∨ c = 53 ∨ 60 < c) → h'.1 c = h2.1 c := fun c hc => (f c (by omega)).trans (by rw [hs_off _ _ (by omega), hs_off _ _ (by omega), hs_off _ _ (by omega), hs_off _ _ (by omega)])
      refine ⟨⟨?_, ?_, fun j hj => ?_, fun s hs => ?_⟩, ⟨?_, ?_, ?_, ?_, fun i hi => ?_, fun i hi => ?_⟩, RQ_of (h := h2) (by rw [e46]; rfl) (ec 61 (by omega)) yQ, ?_, ?_, fun _ => ⟨?_, ?_, ?_, ?_, ?_, ?_, fun s hs => ?_, fun i hi => ?_, fun i hi => ?_⟩, fun z => by cases z⟩
      · rw [e46]; exact yM.1
      · rw [e46]; exact yM.2.1
      · rw [ec 47 (by omega), ec 48 (by omega), ec 49 (by omega), ec 50 (by omega)]
        obtain ⟨c0, c1, c2, c3⟩ := yM.2.2.1 j hj
        obtain ⟨d0, d1, d2, d3⟩ := kK j hj
        show h2.1 47 j = nI (gk 0 j) ∧ h2.1 48 j = nI (gk 1 j) ∧ h2.1 49 j = nI (gk 2 j) ∧ h2.1 50 j = nI (gk 3 j)
        rw [d0, d1, d2, d3]
        exact ⟨c0, c1, c2, c3⟩
      · obtain ⟨j1, j2, j3, j4, -⟩ := s6 s (by omega)
        obtain ⟨q1, q2, q3, q4⟩ := m5 s hs
        refine ⟨j1.trans q1, j2.trans q2, ?_, j3.trans q3, j4.trans q4⟩
        rw [ec 53 (by omega)]
        show h2.1 53 s = nI (gk 6 s)
        rw [k6 s hs]
        exact (yM.2.2.2 s hs).2.2.1
      · rw [e46]; exact m1
      · rw [e46]; exact m2
      · rw [e46]; exact m3
      · rw [e46]; exact m4
      · have hi : i < gk 14 0 := hi
        obtain ⟨-, -, -, -, j5, j6⟩ := s6 i (by have := kN.1; omega)
        exact ⟨j5.trans (m6 i hi).1, j6.trans (m6 i hi).2⟩
      · have hi : i < gk 14 1 := hi
        obtain ⟨j1, j2, j3⟩ := s8 i (by have := kN.2.1; omega)
        obtain ⟨q1, q2, q3⟩ := m7 i hi
        exact ⟨j1.trans q1, j2.trans q2, j3.trans q3⟩
      · rw [e46]; exact y0
      · rw [e46]; exact y21
      · rw [e46]; exact t39
      · rw [e46]; exact t40
      · rw [e46]; exact m1
      · rw [e46]; exact m2
      · rw [e46]; exact m3
      · rw [e46]; exact m4
      · rw [ec 70 (by omega), ec 71 (by omega), ec 72 (by omega), ec 73 (by omega)]; exact m5 s hs
      · rw [ec 74 (by omega), ec 75 (by omega)]; exact m6 i hi
      · rw [ec 76 (by omega), ec 77 (by omega), ec 78 (by omega)]; exact m7 i hi
end OPH
