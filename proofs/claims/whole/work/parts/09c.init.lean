/-! the rope's constructor: its pegs are filled by the library's own method, run on a world of one row -/
def sh1 : Nat → Option Shp := fun i => bif Nat.beq i 0 then some (.inl (0, 6)) else none
def ad1 (ad : Nat → Nat) (q : Nat) : Nat → Nat := fun i => bif Nat.beq i 0 then q else ad i
def hz : Nat → Nat → Int32 := fun _ => zI
theorem ad1_hi {ad : Nat → Nat} {q i : Nat} (h : 100 ≤ i) : ad1 ad q i = ad i := by
  unfold ad1
  cases hb : Nat.beq i 0
  · rfl
  · have := Nat.eq_of_beq_eq_true hb
    omega
theorem SF.congr {ad ad' : Nat → Nat} {A : Nat → Prop} {U : State} {H : Heap} (h : SF ad A U H) (e : ∀ i, 100 ≤ i → ad' i = ad i) : SF ad' A U H := by
  refine ⟨fun k hk => ?_, h.2.1, ?_⟩
  · rw [e (100 + k) (by omega)]
    exact h.1 k hk
  · rw [e 110 (by decide), e 107 (by decide)]
    exact h.2.2
theorem okSh1 : okSh sh1 1 := by
  have h0 : ∀ i s, sh1 i = some s → i = 0 ∧ s = .inl (0, 6) := by
    intro i s h
    unfold sh1 at h
    cases hb : Nat.beq i 0
    · rw [hb] at h; cases h
    · rw [hb] at h; cases h; exact ⟨Nat.eq_of_beq_eq_true hb, rfl⟩
  refine ⟨by decide, fun i s h => ?_, fun i q h => ?_, fun i q h => ?_⟩
  · rw [(h0 i s h).1]; decide
  · obtain ⟨-, e⟩ := h0 i _ h
    cases e
    decide
  · obtain ⟨-, e⟩ := h0 i _ h
    cases e
set_option maxRecDepth 20000 in
theorem e_J_fill1 (d : Nat) (a1 : Int32) (h : Hp) (Q : Pst) (H : PP (Ev mtb sh1 d) sh1 cd_J_fill 0 Q 5 [.ref 0, .int a1, .int 0, .int 6] [] h) : Ev mtb sh1 (d + 1) m_J_fill [.ref 0, .int a1] h Q :=
  wpb_sound (E := Ev mtb sh1 d) (sh := sh1) (C := cd_J_fill) (rt := 0) (pc := 0) (L := [.ref 0, .int a1, unv, unv]) (S := []) [5] 6 (Ev_mono d) H
set_option maxRecDepth 20000 in
theorem p_J_fill1_5 (d : Nat) (x1 : Int32) (x2 : Int32) (x3 : Int32) (h : Hp) (Q : Pst) (H : (x3 ≤ x2 → Q none h) ∧ (¬ x3 ≤ x2 → vp_in x2 6 ∧ (PP (Ev mtb sh1 d) sh1 cd_J_fill 0 Q 5 [.ref 0, .int x1, .int (x2 + 1), .int x3] [] (hs h 0 (upd (h.1 0) x2.toNatClampNeg x1))))) : PP (Ev mtb sh1 d) sh1 cd_J_fill 0 Q 5 [.ref 0, .int x1, .int x2, .int x3] [] h :=
  wpb_sound (E := Ev mtb sh1 d) (sh := sh1) (C := cd_J_fill) (rt := 0) (pc := 5) (L := [.ref 0, .int x1, .int x2, .int x3]) (S := []) [5] 10 (Ev_mono d) H
theorem s_fill1 : Ev mtb sh1 1 m_J_fill [.ref 0, .int (-1)] (hz, fun _ _ => 0) (qV fun h => h.1 0 = pegs0) := by
  refine e_J_fill1 0 _ _ _ ?_
  refine p_J_fill1_5 0 _ _ _ _ _ ⟨fun q => absurd q (by decide +kernel), fun _ => ⟨by unfold vp_in; decide +kernel, ?_⟩⟩
  refine p_J_fill1_5 0 _ _ _ _ _ ⟨fun q => absurd q (by decide +kernel), fun _ => ⟨by unfold vp_in; decide +kernel, ?_⟩⟩
  refine p_J_fill1_5 0 _ _ _ _ _ ⟨fun q => absurd q (by decide +kernel), fun _ => ⟨by unfold vp_in; decide +kernel, ?_⟩⟩
  refine p_J_fill1_5 0 _ _ _ _ _ ⟨fun q => absurd q (by decide +kernel), fun _ => ⟨by unfold vp_in; decide +kernel, ?_⟩⟩
  refine p_J_fill1_5 0 _ _ _ _ _ ⟨fun q => absurd q (by decide +kernel), fun _ => ⟨by unfold vp_in; decide +kernel, ?_⟩⟩
  refine p_J_fill1_5 0 _ _ _ _ _ ⟨fun q => absurd q (by decide +kernel), fun _ => ⟨by unfold vp_in; decide +kernel, ?_⟩⟩
  refine p_J_fill1_5 0 _ _ _ _ _ ⟨fun _ => ?_, fun q => absurd (by decide +kernel) q⟩
  rfl

def bw4 (cy : Nat → Nat) (h0 : Nat) (u : List Nat) : va_W := [(h0, .inr (4, [.ref (u.getD 0 0), .ref (u.getD 1 0), .ref (u.getD 2 0), .ref (u.getD 3 0), .ref (u.getD 4 0), .int 0])), ((u.getD 0 0), .inl (cy 0, 6, .inl zI)), ((u.getD 1 0), .inl (cy 0, 6, .inl zI)), ((u.getD 2 0), .inl (cy 0, 6, .inl zI)), ((u.getD 3 0), .inl (cy 0, 6, .inl zI)), ((u.getD 4 0), .inl (cy 0, 6, .inl pegs0))]
theorem di_X4_0 : decode cX4_init 0 = .ok (.aload_n 0, 1) := by decide +kernel
theorem di_X4_1 : decode cX4_init 1 = .ok (.invokespecial 3, 3) := by decide +kernel
theorem di_X4_4 : decode cX4_init 4 = .ok (.aload_n 0, 1) := by decide +kernel
theorem di_X4_5 : decode cX4_init 5 = .ok (.bipush 6, 2) := by decide +kernel
theorem di_X4_7 : decode cX4_init 7 = .ok (.newarray .int, 2) := by decide +kernel
theorem di_X4_9 : decode cX4_init 9 = .ok (.putfield 9, 3) := by decide +kernel
theorem di_X4_12 : decode cX4_init 12 = .ok (.aload_n 0, 1) := by decide +kernel
theorem di_X4_13 : decode cX4_init 13 = .ok (.bipush 6, 2) := by decide +kernel
theorem di_X4_15 : decode cX4_init 15 = .ok (.newarray .int, 2) := by decide +kernel
theorem di_X4_17 : decode cX4_init 17 = .ok (.putfield 15, 3) := by decide +kernel
theorem di_X4_20 : decode cX4_init 20 = .ok (.aload_n 0, 1) := by decide +kernel
theorem di_X4_21 : decode cX4_init 21 = .ok (.bipush 6, 2) := by decide +kernel
theorem di_X4_23 : decode cX4_init 23 = .ok (.newarray .int, 2) := by decide +kernel
theorem di_X4_25 : decode cX4_init 25 = .ok (.putfield 18, 3) := by decide +kernel
theorem di_X4_28 : decode cX4_init 28 = .ok (.aload_n 0, 1) := by decide +kernel
theorem di_X4_29 : decode cX4_init 29 = .ok (.bipush 6, 2) := by decide +kernel
theorem di_X4_31 : decode cX4_init 31 = .ok (.newarray .int, 2) := by decide +kernel
theorem di_X4_33 : decode cX4_init 33 = .ok (.putfield 21, 3) := by decide +kernel
theorem di_X4_36 : decode cX4_init 36 = .ok (.aload_n 0, 1) := by decide +kernel
theorem di_X4_37 : decode cX4_init 37 = .ok (.bipush 6, 2) := by decide +kernel
theorem di_X4_39 : decode cX4_init 39 = .ok (.newarray .int, 2) := by decide +kernel
theorem di_X4_41 : decode cX4_init 41 = .ok (.putfield 24, 3) := by decide +kernel
theorem di_X4_44 : decode cX4_init 44 = .ok (.aload_n 0, 1) := by decide +kernel
theorem di_X4_45 : decode cX4_init 45 = .ok (.getfield 24, 3) := by decide +kernel
theorem di_X4_48 : decode cX4_init 48 = .ok (.iconst (-1), 1) := by decide +kernel
theorem di_X4_49 : decode cX4_init 49 = .ok (.invokestatic 27, 3) := by decide +kernel
theorem di_X4_52 : decode cX4_init 52 = .ok (.return_, 1) := by decide +kernel
theorem go_4 : (.methodLink RX4 3 objectInit : Jvm.Cond) ∈ gt := okw_mem (pl := 160) (by decide +kernel)
theorem gl_4_9 : (.fieldLink "StockingLine$Rope" 9 "StockingLine$Rope" "size" "[I" : Jvm.Cond) ∈ gt := okw_mem (pl := 164) (by decide +kernel)
theorem gl_4_15 : (.fieldLink "StockingLine$Rope" 15 "StockingLine$Rope" "starch" "[I" : Jvm.Cond) ∈ gt := okw_mem (pl := 167) (by decide +kernel)
theorem gl_4_18 : (.fieldLink "StockingLine$Rope" 18 "StockingLine$Rope" "knitter" "[I" : Jvm.Cond) ∈ gt := okw_mem (pl := 170) (by decide +kernel)
theorem gl_4_21 : (.fieldLink "StockingLine$Rope" 21 "StockingLine$Rope" "heel" "[I" : Jvm.Cond) ∈ gt := okw_mem (pl := 173) (by decide +kernel)
theorem gl_4_24 : (.fieldLink "StockingLine$Rope" 24 "StockingLine$Rope" "peg" "[I" : Jvm.Cond) ∈ gt := okw_mem (pl := 176) (by decide +kernel)
theorem gm_fill : (.methodLink RX4 27 (mnm m_J_fill) : Jvm.Cond) ∈ gt := okw_mem (pl := 161) (by decide +kernel)
set_option maxHeartbeats 4000000 in
set_option maxRecDepth 100000 in
theorem ci_X4 (l : Launch) (D : va_G) (ad cy : Nat → Nat) (h0 sz : Nat) : Met l yX4_init (.code yX4_init cX4_init 1 none :: gt) (iR 5 30) (va_Pc [.ref h0] (fun U => U.heap.size = sz ∧ va_P D vwCl [(h0, .inr (4, [.null, .null, .null, .null, .null, .int 0]))] U.heap ∧ va_K D vwCl (tyL cy) U ∧ SF ad (aI h0 sz) U U.heap ∧ NW U ∧ vk_R "StockingLine$Page" 30 "klybr" (ad 110) U)) (va_Qv (fun u : List Nat => u.length = 5) (fun u t => va_P D vwCl (bw4 cy h0 u) t.heap ∧ va_D (aI h0 sz) (bw4 cy h0 u)) (aI h0 sz)) 5 30 (aI h0 sz) := by
  refine Met.ofW (cc := cX4_init) (maxL := 1) (ret := none) (by decide +kernel) rfl ?_
  intro p e s m args below meth c s₁ B hml hv
  obtain ⟨rfl, hsz, hP, hK, hSF, hNW, hvR⟩ := hv
  subst hsz
  have hx := B.exec
  have hb := B.bytes
  have hr := B.returns
  have hts0 := atoms_spec (ws := .code yX4_init cX4_init 1 none :: gt) B.pre
  have hts : ∀ w ∈ gt, w.before [Value.ref h0].toArray s = true := fun w hw => hts0 w (List.mem_cons_of_mem _ hw)
  have hown : s.vm.findClass RX4 = some m.cls := findClass_of_methodNamed B.named
  have hlocks := B.notSynchronized
  have hin : meth.name = "<init>" := (name_of_methodNamed B.named B.method).1
  have hA : ∀ q : Nat, s.heap.size ≤ q → aI h0 s.heap.size q := fun q h => Or.inr h
  have hD : va_D (aI h0 s.heap.size) [(h0, .inr (4, [.null, .null, .null, .null, .null, .int 0]))] := va_D1 (Or.inl rfl)
  have hS : va_S (aI h0 s.heap.size) s.heap s.heap [] := va_S.rf
  have hl := lv_entry ([.ref h0]) (n := 1) (Nat.le_of_ble_eq_true rfl)
  rw [lg_entry_eq]
  generalize (lg_sl ([.ref h0]) ++ List.replicate (1 - (lg_sl ([.ref h0])).length) Slot.unset).toArray = ls at hl ⊢
  have hl : lv_has ls 1 [(0, .ref h0)] := hl
  refine lv_aload_n hx hb di_X4_0 rfl (lv_at hl 0 rfl) ?_
  refine W.objInit hx hb hown (hts _ go_4) (hts _ gw_oin) (hts _ gw_oco) rfl (by rw [hml]; exact hl.1) rfl di_X4_1 (Nat.le_of_ble_eq_true rfl) (Nat.le_of_ble_eq_true rfl) ?_
  refine W.eq (g2 := F0 m 4 ls []) rfl ?_
  refine lv_aload_n hx hb di_X4_4 rfl (lv_at hl 0 rfl) ?_
  refine lv_bipush (v := nI 6) hx hb di_X4_5 (by decide +kernel) ?_
  refine ini_arr (r := (RX4, TX4, 6)) (ci := 4) (f := 0) (idx := 9) (n := 6) (k := 0) hx hb hown hts hin hK hA rfl hP hD hS rfl (by decide) (Nat.le_of_ble_eq_true rfl) (Nat.le_of_ble_eq_true rfl) rfl rfl (by decide +kernel) gw_ac0 gl_4_9 (Nat.le_of_ble_eq_true rfl) (Nat.le_of_ble_eq_true rfl) (Nat.le_of_ble_eq_true rfl) di_X4_7 di_X4_9 (fun q1 H locs hP hD hS => ?_)
  have hP : va_P D vwCl [(h0, .inr (4, [.ref q1, .null, .null, .null, .null, .int 0])), (q1, .inl (cy 0, 6, .inl zI))] H := hP
  have hD : va_D (aI h0 s.heap.size) [(h0, .inr (4, [.ref q1, .null, .null, .null, .null, .int 0])), (q1, .inl (cy 0, 6, .inl zI))] := hD
  refine W.widen (k := 1) (n := 6) (Nat.le_of_ble_eq_true rfl) (Nat.le_of_ble_eq_true rfl) ?_
  refine lv_aload_n hx hb di_X4_12 rfl (lv_at hl 0 rfl) ?_
  refine lv_bipush (v := nI 6) hx hb di_X4_13 (by decide +kernel) ?_
  refine ini_arr (r := (RX4, TX4, 6)) (ci := 4) (f := 1) (idx := 15) (n := 6) (k := 0) hx hb hown hts hin hK hA rfl hP hD hS rfl (by decide) (Nat.le_of_ble_eq_true rfl) (Nat.le_of_ble_eq_true rfl) rfl rfl (by decide +kernel) gw_ac0 gl_4_15 (Nat.le_of_ble_eq_true rfl) (Nat.le_of_ble_eq_true rfl) (Nat.le_of_ble_eq_true rfl) di_X4_15 di_X4_17 (fun q2 H locs hP hD hS => ?_)
  have hP : va_P D vwCl [(h0, .inr (4, [.ref q1, .ref q2, .null, .null, .null, .int 0])), (q1, .inl (cy 0, 6, .inl zI)), (q2, .inl (cy 0, 6, .inl zI))] H := hP
  have hD : va_D (aI h0 s.heap.size) [(h0, .inr (4, [.ref q1, .ref q2, .null, .null, .null, .int 0])), (q1, .inl (cy 0, 6, .inl zI)), (q2, .inl (cy 0, 6, .inl zI))] := hD
  refine W.widen (k := 2) (n := 12) (Nat.le_of_ble_eq_true rfl) (Nat.le_of_ble_eq_true rfl) ?_
  refine lv_aload_n hx hb di_X4_20 rfl (lv_at hl 0 rfl) ?_
  refine lv_bipush (v := nI 6) hx hb di_X4_21 (by decide +kernel) ?_
  refine ini_arr (r := (RX4, TX4, 6)) (ci := 4) (f := 2) (idx := 18) (n := 6) (k := 0) hx hb hown hts hin hK hA rfl hP hD hS rfl (by decide) (Nat.le_of_ble_eq_true rfl) (Nat.le_of_ble_eq_true rfl) rfl rfl (by decide +kernel) gw_ac0 gl_4_18 (Nat.le_of_ble_eq_true rfl) (Nat.le_of_ble_eq_true rfl) (Nat.le_of_ble_eq_true rfl) di_X4_23 di_X4_25 (fun q3 H locs hP hD hS => ?_)
  have hP : va_P D vwCl [(h0, .inr (4, [.ref q1, .ref q2, .ref q3, .null, .null, .int 0])), (q1, .inl (cy 0, 6, .inl zI)), (q2, .inl (cy 0, 6, .inl zI)), (q3, .inl (cy 0, 6, .inl zI))] H := hP
  have hD : va_D (aI h0 s.heap.size) [(h0, .inr (4, [.ref q1, .ref q2, .ref q3, .null, .null, .int 0])), (q1, .inl (cy 0, 6, .inl zI)), (q2, .inl (cy 0, 6, .inl zI)), (q3, .inl (cy 0, 6, .inl zI))] := hD
  refine W.widen (k := 3) (n := 18) (Nat.le_of_ble_eq_true rfl) (Nat.le_of_ble_eq_true rfl) ?_
  refine lv_aload_n hx hb di_X4_28 rfl (lv_at hl 0 rfl) ?_
  refine lv_bipush (v := nI 6) hx hb di_X4_29 (by decide +kernel) ?_
  refine ini_arr (r := (RX4, TX4, 6)) (ci := 4) (f := 3) (idx := 21) (n := 6) (k := 0) hx hb hown hts hin hK hA rfl hP hD hS rfl (by decide) (Nat.le_of_ble_eq_true rfl) (Nat.le_of_ble_eq_true rfl) rfl rfl (by decide +kernel) gw_ac0 gl_4_21 (Nat.le_of_ble_eq_true rfl) (Nat.le_of_ble_eq_true rfl) (Nat.le_of_ble_eq_true rfl) di_X4_31 di_X4_33 (fun q4 H locs hP hD hS => ?_)
  have hP : va_P D vwCl [(h0, .inr (4, [.ref q1, .ref q2, .ref q3, .ref q4, .null, .int 0])), (q1, .inl (cy 0, 6, .inl zI)), (q2, .inl (cy 0, 6, .inl zI)), (q3, .inl (cy 0, 6, .inl zI)), (q4, .inl (cy 0, 6, .inl zI))] H := hP
  have hD : va_D (aI h0 s.heap.size) [(h0, .inr (4, [.ref q1, .ref q2, .ref q3, .ref q4, .null, .int 0])), (q1, .inl (cy 0, 6, .inl zI)), (q2, .inl (cy 0, 6, .inl zI)), (q3, .inl (cy 0, 6, .inl zI)), (q4, .inl (cy 0, 6, .inl zI))] := hD
  refine W.widen (k := 4) (n := 24) (Nat.le_of_ble_eq_true rfl) (Nat.le_of_ble_eq_true rfl) ?_
  refine lv_aload_n hx hb di_X4_36 rfl (lv_at hl 0 rfl) ?_
  refine lv_bipush (v := nI 6) hx hb di_X4_37 (by decide +kernel) ?_
  refine ini_arr (r := (RX4, TX4, 6)) (ci := 4) (f := 4) (idx := 24) (n := 6) (k := 0) hx hb hown hts hin hK hA rfl hP hD hS rfl (by decide) (Nat.le_of_ble_eq_true rfl) (Nat.le_of_ble_eq_true rfl) rfl rfl (by decide +kernel) gw_ac0 gl_4_24 (Nat.le_of_ble_eq_true rfl) (Nat.le_of_ble_eq_true rfl) (Nat.le_of_ble_eq_true rfl) di_X4_39 di_X4_41 (fun q5 H locs hP hD hS => ?_)
  have hP : va_P D vwCl [(h0, .inr (4, [.ref q1, .ref q2, .ref q3, .ref q4, .ref q5, .int 0])), (q1, .inl (cy 0, 6, .inl zI)), (q2, .inl (cy 0, 6, .inl zI)), (q3, .inl (cy 0, 6, .inl zI)), (q4, .inl (cy 0, 6, .inl zI)), (q5, .inl (cy 0, 6, .inl zI))] H := hP
  have hD : va_D (aI h0 s.heap.size) [(h0, .inr (4, [.ref q1, .ref q2, .ref q3, .ref q4, .ref q5, .int 0])), (q1, .inl (cy 0, 6, .inl zI)), (q2, .inl (cy 0, 6, .inl zI)), (q3, .inl (cy 0, 6, .inl zI)), (q4, .inl (cy 0, 6, .inl zI)), (q5, .inl (cy 0, 6, .inl zI))] := hD
  refine W.widen (k := 5) (n := 30) (Nat.le_of_ble_eq_true rfl) (Nat.le_of_ble_eq_true rfl) ?_
  refine lv_aload_n hx hb di_X4_44 rfl (lv_at hl 0 rfl) ?_
  refine va_get (C := RX4) (T := TX4) (N := 6) (ref := RX4) (v := .ref q5) hx hb hts uok4 hown hK hP 0 rfl rfl 4 (by decide) (hts _ gl_4_24) (fun _ z => z) rfl di_X4_45 ?_
  refine lv_iconst (v := -1) hx hb di_X4_48 (by decide +kernel) ?_
  have hPc := hP.sub (ws' := wsH (ad1 ad q5) cy sh1 1 (hz, fun _ _ => 0)) [5] rfl
  have hDc := hD.sub (ws' := wsH (ad1 ad q5) cy sh1 1 (hz, fun _ _ => 0)) [5] (by decide) rfl
  have hq5 : aI h0 s.heap.size q5 := hD.2 5 _ rfl
  have hFc : ∀ q, aA (ad1 ad q5) 1 H.size q → aI h0 s.heap.size q := fun q hq => hq.elim (fun ⟨k, hk, e⟩ => by
    obtain rfl : k = 0 := by omega
    rw [e]
    exact hq5) (fun z => Or.inr (Nat.le_trans hS.1 z))
  have hM := sim l D (ad1 ad q5) cy sh1 1 okSh1 1 m_J_fill [.ref 0, .int (-1)] (hz, fun _ _ => 0) (qV fun h => h.1 0 = pegs0) (cd_J_fill, 4, 0) H.size rfl s_fill1
  refine va_callv (va_runS (As := [.ref q5, .int (-1)]) (rest := []) (bytes := mbc m_J_fill) (maxL := 4) (ret := none) (n := 2) (Ts := gt) (nL := 1) ⟨hx, hb, hml, hown, hts⟩ hM (va_cwS 2 hts (fun w hw => ?_) rfl rfl rfl (by decide +kernel) ⟨Nat.le_of_ble_eq_true rfl, Nat.le_of_ble_eq_true rfl⟩) ⟨blindP, fun U hU hW => ⟨rfl, by rw [hU], by rw [hU]; exact hPc, va_K.moved hW.alike hK, hDc.weaken (fun _ _ _ _ => trivial), ?_, hNW.warm hW, ?_⟩⟩ rfl rfl hl.1 rfl (lv_room (Nat.le_of_ble_eq_true rfl)) di_X4_49 ⟨Nat.le_of_ble_eq_true rfl, Nat.le_of_ble_eq_true rfl⟩) hS (fun q _ z => hFc q z) hFc (fun u t H1 locs1 ht hvm hq hB hz1 hk1 hS1 => ?_)
  · rcases List.mem_append.mp hw with hw | hw
    · have : w ∈ gt := by
        simp only [List.mem_cons, List.not_mem_nil, or_false] at hw
        rcases hw with rfl | rfl | rfl
        · exact gm_fill
        · exact okw_mem (pl := (mpl m_J_fill).2.2.1) (by decide +kernel)
        · exact okw_mem (pl := (mpl m_J_fill).2.1) (by decide +kernel)
      exact ⟨this, gt_good _ this⟩
    · exact good_cdw (okm_spec (mok (y := m_J_fill) rfl).1).1 w hw
  · rw [hU]
    exact (((hSF.kept hS.2.1).moved hW.alike).narrow hFc).congr (fun i hi => ad1_hi hi)
  · rw [ad1_hi (by decide)]
    exact hvR.warm hW
  have hP1 : va_P D vwCl [(q5, .inl (cy 0, 6, .inl pegs0))] H1 := by
    have h1 : va_P D vwCl (wsH (ad1 ad q5) cy sh1 1 u) t.heap := hB
    have h2 : u.1 0 = pegs0 := hq
    rw [ht] at h1
    intro k x hx0
    match k, hx0 with
    | 0, hx0 =>
      cases hx0
      have h3 := h1 0 _ (wsH_at u (by decide))
      have h4 : ceo (ad1 ad q5) cy (sh1 0) (u.1 0) (u.2 0) = .inl (cy 0, 6, .inl (u.1 0)) := rfl
      rw [h4, h2] at h3
      exact h3
    | k + 1, hx0 => cases hx0
  obtain ⟨hP, hD⟩ := va_join (wc := [(q5, .inl (cy 0, 6, .inl zI))]) (wr := [(h0, .inr (4, [.ref q1, .ref q2, .ref q3, .ref q4, .ref q5, .int 0])), (q1, .inl (cy 0, 6, .inl zI)), (q2, .inl (cy 0, 6, .inl zI)), (q3, .inl (cy 0, 6, .inl zI)), (q4, .inl (cy 0, 6, .inl zI))]) (w1 := [(q5, .inl (cy 0, 6, .inl pegs0))]) hP hD [5] [0, 1, 2, 3, 4] rfl rfl (by decide) (by decide) (fun q g1 g2 => hk1 q g1 (fun z => g2 (z.elim (fun ⟨k, hk, e⟩ => by
    obtain rfl : k = 0 := by omega
    exact Or.inl ⟨0, _, by rw [e]; rfl⟩) Or.inr))) (fun q z => hFc q (z.elim (fun ⟨k, x, e⟩ => Or.inl ⟨0, by decide, by
    match k, e with
    | 0, e => cases e; rfl
    | k + 1, e => cases e⟩) Or.inr)) hP1 (va_D1 (Or.inl ⟨0, _, rfl⟩))
  have hS := hS1
  generalize H1 = H at hP hS ⊢
  generalize locs1 = locs at hS ⊢
  exact W.vret hx hb hr (fun t ht hW => ⟨⟨[q1, q2, q3, q4, q5], rfl, rfl, by rw [ht]; exact hP, hD⟩, hS.F ht⟩) hS.2.2 di_X4_52
