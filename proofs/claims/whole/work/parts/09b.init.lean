/-! the constructors of the classes that hold rows alone; printed by program (wip/whole/gen_init.py) -/
theorem va_D1 {A : Nat → Prop} {a : Nat} {e : va_E} (h : A a) : va_D A [(a, e)] := by
  refine ⟨fun i j p q hp hq _ => ?_, fun k q hk => ?_⟩
  · have h1 := (List.getElem?_eq_some_iff.mp hp).1
    have h2 := (List.getElem?_eq_some_iff.mp hq).1
    simp at h1 h2
    omega
  · have h1 := (List.getElem?_eq_some_iff.mp hk).1
    simp at h1
    subst h1
    cases hk
    exact h
def zI : Nat → Int32 := fun _ => 0
/-- a row of six -1 -/
def pegs0 : Nat → Int32 := upd (upd (upd (upd (upd (upd zI 0 (-1)) 1 (-1)) 2 (-1)) 3 (-1)) 4 (-1)) 5 (-1)
def bw3 (cy : Nat → Nat) (h0 : Nat) (u : List Nat) : va_W := [(h0, .inr (3, [.ref (u.getD 0 0), .int 0])), ((u.getD 0 0), .inl (cy 0, 52, .inl zI))]
theorem di_X3_0 : decode cX3_init 0 = .ok (.aload_n 0, 1) := by decide +kernel
theorem di_X3_1 : decode cX3_init 1 = .ok (.invokespecial 3, 3) := by decide +kernel
theorem di_X3_4 : decode cX3_init 4 = .ok (.aload_n 0, 1) := by decide +kernel
theorem di_X3_5 : decode cX3_init 5 = .ok (.bipush 52, 2) := by decide +kernel
theorem di_X3_7 : decode cX3_init 7 = .ok (.newarray .int, 2) := by decide +kernel
theorem di_X3_9 : decode cX3_init 9 = .ok (.putfield 9, 3) := by decide +kernel
theorem di_X3_12 : decode cX3_init 12 = .ok (.return_, 1) := by decide +kernel
theorem go_3 : (.methodLink RX3 3 objectInit : Jvm.Cond) ∈ gt := okw_mem (pl := 115) (by decide +kernel)
theorem gl_3_9 : (.fieldLink "StockingLine$Page" 9 "StockingLine$Page" "letters" "[I" : Jvm.Cond) ∈ gt := okw_mem (pl := 116) (by decide +kernel)
set_option maxHeartbeats 4000000 in
set_option maxRecDepth 100000 in
theorem ci_X3 (l : Launch) (D : va_G) (ad cy : Nat → Nat) (h0 sz : Nat) : Met l yX3_init (.code yX3_init cX3_init 1 none :: gt) (iR 1 52) (va_Pc [.ref h0] (fun U => U.heap.size = sz ∧ va_P D vwCl [(h0, .inr (3, [.null, .int 0]))] U.heap ∧ va_K D vwCl (tyL cy) U ∧ SF ad (aI h0 sz) U U.heap ∧ NW U ∧ vk_R "StockingLine$Page" 30 "klybr" (ad 110) U)) (va_Qv (fun u : List Nat => u.length = 1) (fun u t => va_P D vwCl (bw3 cy h0 u) t.heap ∧ va_D (aI h0 sz) (bw3 cy h0 u)) (aI h0 sz)) 1 52 (aI h0 sz) := by
  refine Met.ofW (cc := cX3_init) (maxL := 1) (ret := none) (by decide +kernel) rfl ?_
  intro p e s m args below meth c s₁ B hml hv
  obtain ⟨rfl, hsz, hP, hK, hSF, hNW, hvR⟩ := hv
  subst hsz
  have hx := B.exec
  have hb := B.bytes
  have hr := B.returns
  have hts0 := atoms_spec (ws := .code yX3_init cX3_init 1 none :: gt) B.pre
  have hts : ∀ w ∈ gt, w.before [Value.ref h0].toArray s = true := fun w hw => hts0 w (List.mem_cons_of_mem _ hw)
  have hown : s.vm.findClass RX3 = some m.cls := findClass_of_methodNamed B.named
  have hlocks := B.notSynchronized
  have hin : meth.name = "<init>" := (name_of_methodNamed B.named B.method).1
  have hA : ∀ q : Nat, s.heap.size ≤ q → aI h0 s.heap.size q := fun q h => Or.inr h
  have hD : va_D (aI h0 s.heap.size) [(h0, .inr (3, [.null, .int 0]))] := va_D1 (Or.inl rfl)
  have hS : va_S (aI h0 s.heap.size) s.heap s.heap [] := va_S.rf
  have hl := lv_entry ([.ref h0]) (n := 1) (Nat.le_of_ble_eq_true rfl)
  rw [lg_entry_eq]
  generalize (lg_sl ([.ref h0]) ++ List.replicate (1 - (lg_sl ([.ref h0])).length) Slot.unset).toArray = ls at hl ⊢
  have hl : lv_has ls 1 [(0, .ref h0)] := hl
  refine lv_aload_n hx hb di_X3_0 rfl (lv_at hl 0 rfl) ?_
  refine W.objInit hx hb hown (hts _ go_3) (hts _ gw_oin) (hts _ gw_oco) rfl (by rw [hml]; exact hl.1) rfl di_X3_1 (Nat.le_of_ble_eq_true rfl) (Nat.le_of_ble_eq_true rfl) ?_
  refine W.eq (g2 := F0 m 4 ls []) rfl ?_
  refine lv_aload_n hx hb di_X3_4 rfl (lv_at hl 0 rfl) ?_
  refine lv_bipush (v := nI 52) hx hb di_X3_5 (by decide +kernel) ?_
  refine ini_arr (r := (RX3, TX3, 2)) (ci := 3) (f := 0) (idx := 9) (n := 52) (k := 0) hx hb hown hts hin hK hA rfl hP hD hS rfl (by decide) (Nat.le_of_ble_eq_true rfl) (Nat.le_of_ble_eq_true rfl) rfl rfl (by decide +kernel) gw_ac0 gl_3_9 (Nat.le_of_ble_eq_true rfl) (Nat.le_of_ble_eq_true rfl) (Nat.le_of_ble_eq_true rfl) di_X3_7 di_X3_9 (fun q1 H locs hP hD hS => ?_)
  have hP : va_P D vwCl [(h0, .inr (3, [.ref q1, .int 0])), (q1, .inl (cy 0, 52, .inl zI))] H := hP
  have hD : va_D (aI h0 s.heap.size) [(h0, .inr (3, [.ref q1, .int 0])), (q1, .inl (cy 0, 52, .inl zI))] := hD
  refine W.widen (k := 1) (n := 52) (Nat.le_of_ble_eq_true rfl) (Nat.le_of_ble_eq_true rfl) ?_
  exact W.vret hx hb hr (fun t ht hW => ⟨⟨[q1], rfl, rfl, by rw [ht]; exact hP, hD⟩, hS.F ht⟩) hS.2.2 di_X3_12
def bw0 (cy : Nat → Nat) (h0 : Nat) (u : List Nat) : va_W := [(h0, .inr (0, [.ref (u.getD 0 0), .ref (u.getD 1 0), .ref (u.getD 2 0), .ref (u.getD 3 0), .int 0])), ((u.getD 0 0), .inl (cy 0, 4, .inl zI)), ((u.getD 1 0), .inl (cy 0, 4, .inl zI)), ((u.getD 2 0), .inl (cy 0, 4, .inl zI)), ((u.getD 3 0), .inl (cy 0, 4, .inl zI))]
theorem di_X0_0 : decode cX0_init 0 = .ok (.aload_n 0, 1) := by decide +kernel
theorem di_X0_1 : decode cX0_init 1 = .ok (.invokespecial 3, 3) := by decide +kernel
theorem di_X0_4 : decode cX0_init 4 = .ok (.aload_n 0, 1) := by decide +kernel
theorem di_X0_5 : decode cX0_init 5 = .ok (.iconst 4, 1) := by decide +kernel
theorem di_X0_6 : decode cX0_init 6 = .ok (.newarray .int, 2) := by decide +kernel
theorem di_X0_8 : decode cX0_init 8 = .ok (.putfield 9, 3) := by decide +kernel
theorem di_X0_11 : decode cX0_init 11 = .ok (.aload_n 0, 1) := by decide +kernel
theorem di_X0_12 : decode cX0_init 12 = .ok (.iconst 4, 1) := by decide +kernel
theorem di_X0_13 : decode cX0_init 13 = .ok (.newarray .int, 2) := by decide +kernel
theorem di_X0_15 : decode cX0_init 15 = .ok (.putfield 15, 3) := by decide +kernel
theorem di_X0_18 : decode cX0_init 18 = .ok (.aload_n 0, 1) := by decide +kernel
theorem di_X0_19 : decode cX0_init 19 = .ok (.iconst 4, 1) := by decide +kernel
theorem di_X0_20 : decode cX0_init 20 = .ok (.newarray .int, 2) := by decide +kernel
theorem di_X0_22 : decode cX0_init 22 = .ok (.putfield 18, 3) := by decide +kernel
theorem di_X0_25 : decode cX0_init 25 = .ok (.aload_n 0, 1) := by decide +kernel
theorem di_X0_26 : decode cX0_init 26 = .ok (.iconst 4, 1) := by decide +kernel
theorem di_X0_27 : decode cX0_init 27 = .ok (.newarray .int, 2) := by decide +kernel
theorem di_X0_29 : decode cX0_init 29 = .ok (.putfield 21, 3) := by decide +kernel
theorem di_X0_32 : decode cX0_init 32 = .ok (.return_, 1) := by decide +kernel
theorem go_0 : (.methodLink RX0 3 objectInit : Jvm.Cond) ∈ gt := okw_mem (pl := 131) (by decide +kernel)
theorem gl_0_9 : (.fieldLink "StockingLine$Court" 9 "StockingLine$Court" "kind" "[I" : Jvm.Cond) ∈ gt := okw_mem (pl := 132) (by decide +kernel)
theorem gl_0_15 : (.fieldLink "StockingLine$Court" 15 "StockingLine$Court" "calf" "[I" : Jvm.Cond) ∈ gt := okw_mem (pl := 134) (by decide +kernel)
theorem gl_0_18 : (.fieldLink "StockingLine$Court" 18 "StockingLine$Court" "starch" "[I" : Jvm.Cond) ∈ gt := okw_mem (pl := 136) (by decide +kernel)
theorem gl_0_21 : (.fieldLink "StockingLine$Court" 21 "StockingLine$Court" "knitter" "[I" : Jvm.Cond) ∈ gt := okw_mem (pl := 138) (by decide +kernel)
set_option maxHeartbeats 4000000 in
set_option maxRecDepth 100000 in
theorem ci_X0 (l : Launch) (D : va_G) (ad cy : Nat → Nat) (h0 sz : Nat) : Met l yX0_init (.code yX0_init cX0_init 1 none :: gt) (iR 4 16) (va_Pc [.ref h0] (fun U => U.heap.size = sz ∧ va_P D vwCl [(h0, .inr (0, [.null, .null, .null, .null, .int 0]))] U.heap ∧ va_K D vwCl (tyL cy) U ∧ SF ad (aI h0 sz) U U.heap ∧ NW U ∧ vk_R "StockingLine$Page" 30 "klybr" (ad 110) U)) (va_Qv (fun u : List Nat => u.length = 4) (fun u t => va_P D vwCl (bw0 cy h0 u) t.heap ∧ va_D (aI h0 sz) (bw0 cy h0 u)) (aI h0 sz)) 4 16 (aI h0 sz) := by
  refine Met.ofW (cc := cX0_init) (maxL := 1) (ret := none) (by decide +kernel) rfl ?_
  intro p e s m args below meth c s₁ B hml hv
  obtain ⟨rfl, hsz, hP, hK, hSF, hNW, hvR⟩ := hv
  subst hsz
  have hx := B.exec
  have hb := B.bytes
  have hr := B.returns
  have hts0 := atoms_spec (ws := .code yX0_init cX0_init 1 none :: gt) B.pre
  have hts : ∀ w ∈ gt, w.before [Value.ref h0].toArray s = true := fun w hw => hts0 w (List.mem_cons_of_mem _ hw)
  have hown : s.vm.findClass RX0 = some m.cls := findClass_of_methodNamed B.named
  have hlocks := B.notSynchronized
  have hin : meth.name = "<init>" := (name_of_methodNamed B.named B.method).1
  have hA : ∀ q : Nat, s.heap.size ≤ q → aI h0 s.heap.size q := fun q h => Or.inr h
  have hD : va_D (aI h0 s.heap.size) [(h0, .inr (0, [.null, .null, .null, .null, .int 0]))] := va_D1 (Or.inl rfl)
  have hS : va_S (aI h0 s.heap.size) s.heap s.heap [] := va_S.rf
  have hl := lv_entry ([.ref h0]) (n := 1) (Nat.le_of_ble_eq_true rfl)
  rw [lg_entry_eq]
  generalize (lg_sl ([.ref h0]) ++ List.replicate (1 - (lg_sl ([.ref h0])).length) Slot.unset).toArray = ls at hl ⊢
  have hl : lv_has ls 1 [(0, .ref h0)] := hl
  refine lv_aload_n hx hb di_X0_0 rfl (lv_at hl 0 rfl) ?_
  refine W.objInit hx hb hown (hts _ go_0) (hts _ gw_oin) (hts _ gw_oco) rfl (by rw [hml]; exact hl.1) rfl di_X0_1 (Nat.le_of_ble_eq_true rfl) (Nat.le_of_ble_eq_true rfl) ?_
  refine W.eq (g2 := F0 m 4 ls []) rfl ?_
  refine lv_aload_n hx hb di_X0_4 rfl (lv_at hl 0 rfl) ?_
  refine lv_iconst (v := nI 4) hx hb di_X0_5 (by decide +kernel) ?_
  refine ini_arr (r := (RX0, TX0, 5)) (ci := 0) (f := 0) (idx := 9) (n := 4) (k := 0) hx hb hown hts hin hK hA rfl hP hD hS rfl (by decide) (Nat.le_of_ble_eq_true rfl) (Nat.le_of_ble_eq_true rfl) rfl rfl (by decide +kernel) gw_ac0 gl_0_9 (Nat.le_of_ble_eq_true rfl) (Nat.le_of_ble_eq_true rfl) (Nat.le_of_ble_eq_true rfl) di_X0_6 di_X0_8 (fun q1 H locs hP hD hS => ?_)
  have hP : va_P D vwCl [(h0, .inr (0, [.ref q1, .null, .null, .null, .int 0])), (q1, .inl (cy 0, 4, .inl zI))] H := hP
  have hD : va_D (aI h0 s.heap.size) [(h0, .inr (0, [.ref q1, .null, .null, .null, .int 0])), (q1, .inl (cy 0, 4, .inl zI))] := hD
  refine W.widen (k := 1) (n := 4) (Nat.le_of_ble_eq_true rfl) (Nat.le_of_ble_eq_true rfl) ?_
  refine lv_aload_n hx hb di_X0_11 rfl (lv_at hl 0 rfl) ?_
  refine lv_iconst (v := nI 4) hx hb di_X0_12 (by decide +kernel) ?_
  refine ini_arr (r := (RX0, TX0, 5)) (ci := 0) (f := 1) (idx := 15) (n := 4) (k := 0) hx hb hown hts hin hK hA rfl hP hD hS rfl (by decide) (Nat.le_of_ble_eq_true rfl) (Nat.le_of_ble_eq_true rfl) rfl rfl (by decide +kernel) gw_ac0 gl_0_15 (Nat.le_of_ble_eq_true rfl) (Nat.le_of_ble_eq_true rfl) (Nat.le_of_ble_eq_true rfl) di_X0_13 di_X0_15 (fun q2 H locs hP hD hS => ?_)
  have hP : va_P D vwCl [(h0, .inr (0, [.ref q1, .ref q2, .null, .null, .int 0])), (q1, .inl (cy 0, 4, .inl zI)), (q2, .inl (cy 0, 4, .inl zI))] H := hP
  have hD : va_D (aI h0 s.heap.size) [(h0, .inr (0, [.ref q1, .ref q2, .null, .null, .int 0])), (q1, .inl (cy 0, 4, .inl zI)), (q2, .inl (cy 0, 4, .inl zI))] := hD
  refine W.widen (k := 2) (n := 8) (Nat.le_of_ble_eq_true rfl) (Nat.le_of_ble_eq_true rfl) ?_
  refine lv_aload_n hx hb di_X0_18 rfl (lv_at hl 0 rfl) ?_
  refine lv_iconst (v := nI 4) hx hb di_X0_19 (by decide +kernel) ?_
  refine ini_arr (r := (RX0, TX0, 5)) (ci := 0) (f := 2) (idx := 18) (n := 4) (k := 0) hx hb hown hts hin hK hA rfl hP hD hS rfl (by decide) (Nat.le_of_ble_eq_true rfl) (Nat.le_of_ble_eq_true rfl) rfl rfl (by decide +kernel) gw_ac0 gl_0_18 (Nat.le_of_ble_eq_true rfl) (Nat.le_of_ble_eq_true rfl) (Nat.le_of_ble_eq_true rfl) di_X0_20 di_X0_22 (fun q3 H locs hP hD hS => ?_)
  have hP : va_P D vwCl [(h0, .inr (0, [.ref q1, .ref q2, .ref q3, .null, .int 0])), (q1, .inl (cy 0, 4, .inl zI)), (q2, .inl (cy 0, 4, .inl zI)), (q3, .inl (cy 0, 4, .inl zI))] H := hP
  have hD : va_D (aI h0 s.heap.size) [(h0, .inr (0, [.ref q1, .ref q2, .ref q3, .null, .int 0])), (q1, .inl (cy 0, 4, .inl zI)), (q2, .inl (cy 0, 4, .inl zI)), (q3, .inl (cy 0, 4, .inl zI))] := hD
  refine W.widen (k := 3) (n := 12) (Nat.le_of_ble_eq_true rfl) (Nat.le_of_ble_eq_true rfl) ?_
  refine lv_aload_n hx hb di_X0_25 rfl (lv_at hl 0 rfl) ?_
  refine lv_iconst (v := nI 4) hx hb di_X0_26 (by decide +kernel) ?_
  refine ini_arr (r := (RX0, TX0, 5)) (ci := 0) (f := 3) (idx := 21) (n := 4) (k := 0) hx hb hown hts hin hK hA rfl hP hD hS rfl (by decide) (Nat.le_of_ble_eq_true rfl) (Nat.le_of_ble_eq_true rfl) rfl rfl (by decide +kernel) gw_ac0 gl_0_21 (Nat.le_of_ble_eq_true rfl) (Nat.le_of_ble_eq_true rfl) (Nat.le_of_ble_eq_true rfl) di_X0_27 di_X0_29 (fun q4 H locs hP hD hS => ?_)
  have hP : va_P D vwCl [(h0, .inr (0, [.ref q1, .ref q2, .ref q3, .ref q4, .int 0])), (q1, .inl (cy 0, 4, .inl zI)), (q2, .inl (cy 0, 4, .inl zI)), (q3, .inl (cy 0, 4, .inl zI)), (q4, .inl (cy 0, 4, .inl zI))] H := hP
  have hD : va_D (aI h0 s.heap.size) [(h0, .inr (0, [.ref q1, .ref q2, .ref q3, .ref q4, .int 0])), (q1, .inl (cy 0, 4, .inl zI)), (q2, .inl (cy 0, 4, .inl zI)), (q3, .inl (cy 0, 4, .inl zI)), (q4, .inl (cy 0, 4, .inl zI))] := hD
  refine W.widen (k := 4) (n := 16) (Nat.le_of_ble_eq_true rfl) (Nat.le_of_ble_eq_true rfl) ?_
  exact W.vret hx hb hr (fun t ht hW => ⟨⟨[q1, q2, q3, q4], rfl, rfl, by rw [ht]; exact hP, hD⟩, hS.F ht⟩) hS.2.2 di_X0_32
def bw2 (cy : Nat → Nat) (h0 : Nat) (u : List Nat) : va_W := [(h0, .inr (2, [.ref (u.getD 0 0), .ref (u.getD 1 0), .ref (u.getD 2 0), .ref (u.getD 3 0), .ref (u.getD 4 0), .int 0, .int 0, .int 0, .int 0])), ((u.getD 0 0), .inl (cy 0, 6, .inl zI)), ((u.getD 1 0), .inl (cy 0, 6, .inl zI)), ((u.getD 2 0), .inl (cy 0, 8, .inl zI)), ((u.getD 3 0), .inl (cy 0, 8, .inl zI)), ((u.getD 4 0), .inl (cy 2, 8, .inl zI))]
theorem di_X2_0 : decode cX2_init 0 = .ok (.aload_n 0, 1) := by decide +kernel
theorem di_X2_1 : decode cX2_init 1 = .ok (.invokespecial 3, 3) := by decide +kernel
theorem di_X2_4 : decode cX2_init 4 = .ok (.aload_n 0, 1) := by decide +kernel
theorem di_X2_5 : decode cX2_init 5 = .ok (.bipush 6, 2) := by decide +kernel
theorem di_X2_7 : decode cX2_init 7 = .ok (.newarray .int, 2) := by decide +kernel
theorem di_X2_9 : decode cX2_init 9 = .ok (.putfield 9, 3) := by decide +kernel
theorem di_X2_12 : decode cX2_init 12 = .ok (.aload_n 0, 1) := by decide +kernel
theorem di_X2_13 : decode cX2_init 13 = .ok (.bipush 6, 2) := by decide +kernel
theorem di_X2_15 : decode cX2_init 15 = .ok (.newarray .int, 2) := by decide +kernel
theorem di_X2_17 : decode cX2_init 17 = .ok (.putfield 15, 3) := by decide +kernel
theorem di_X2_20 : decode cX2_init 20 = .ok (.aload_n 0, 1) := by decide +kernel
theorem di_X2_21 : decode cX2_init 21 = .ok (.bipush 8, 2) := by decide +kernel
theorem di_X2_23 : decode cX2_init 23 = .ok (.newarray .int, 2) := by decide +kernel
theorem di_X2_25 : decode cX2_init 25 = .ok (.putfield 18, 3) := by decide +kernel
theorem di_X2_28 : decode cX2_init 28 = .ok (.aload_n 0, 1) := by decide +kernel
theorem di_X2_29 : decode cX2_init 29 = .ok (.bipush 8, 2) := by decide +kernel
theorem di_X2_31 : decode cX2_init 31 = .ok (.newarray .int, 2) := by decide +kernel
theorem di_X2_33 : decode cX2_init 33 = .ok (.putfield 21, 3) := by decide +kernel
theorem di_X2_36 : decode cX2_init 36 = .ok (.aload_n 0, 1) := by decide +kernel
theorem di_X2_37 : decode cX2_init 37 = .ok (.bipush 8, 2) := by decide +kernel
theorem di_X2_39 : decode cX2_init 39 = .ok (.newarray .boolean, 2) := by decide +kernel
theorem di_X2_41 : decode cX2_init 41 = .ok (.putfield 24, 3) := by decide +kernel
theorem di_X2_44 : decode cX2_init 44 = .ok (.return_, 1) := by decide +kernel
theorem go_2 : (.methodLink RX2 3 objectInit : Jvm.Cond) ∈ gt := okw_mem (pl := 200) (by decide +kernel)
theorem gl_2_9 : (.fieldLink "StockingLine$Notes" 9 "StockingLine$Notes" "lieStocking" "[I" : Jvm.Cond) ∈ gt := okw_mem (pl := 201) (by decide +kernel)
theorem gl_2_15 : (.fieldLink "StockingLine$Notes" 15 "StockingLine$Notes" "liePeg" "[I" : Jvm.Cond) ∈ gt := okw_mem (pl := 203) (by decide +kernel)
theorem gl_2_18 : (.fieldLink "StockingLine$Notes" 18 "StockingLine$Notes" "triedKing" "[I" : Jvm.Cond) ∈ gt := okw_mem (pl := 205) (by decide +kernel)
theorem gl_2_21 : (.fieldLink "StockingLine$Notes" 21 "StockingLine$Notes" "triedStocking" "[I" : Jvm.Cond) ∈ gt := okw_mem (pl := 207) (by decide +kernel)
theorem gl_2_24 : (.fieldLink "StockingLine$Notes" 24 "StockingLine$Notes" "triedMay" "[Z" : Jvm.Cond) ∈ gt := okw_mem (pl := 209) (by decide +kernel)
set_option maxHeartbeats 4000000 in
set_option maxRecDepth 100000 in
theorem ci_X2 (l : Launch) (D : va_G) (ad cy : Nat → Nat) (h0 sz : Nat) : Met l yX2_init (.code yX2_init cX2_init 1 none :: gt) (iR 5 36) (va_Pc [.ref h0] (fun U => U.heap.size = sz ∧ va_P D vwCl [(h0, .inr (2, [.null, .null, .null, .null, .null, .int 0, .int 0, .int 0, .int 0]))] U.heap ∧ va_K D vwCl (tyL cy) U ∧ SF ad (aI h0 sz) U U.heap ∧ NW U ∧ vk_R "StockingLine$Page" 30 "klybr" (ad 110) U)) (va_Qv (fun u : List Nat => u.length = 5) (fun u t => va_P D vwCl (bw2 cy h0 u) t.heap ∧ va_D (aI h0 sz) (bw2 cy h0 u)) (aI h0 sz)) 5 36 (aI h0 sz) := by
  refine Met.ofW (cc := cX2_init) (maxL := 1) (ret := none) (by decide +kernel) rfl ?_
  intro p e s m args below meth c s₁ B hml hv
  obtain ⟨rfl, hsz, hP, hK, hSF, hNW, hvR⟩ := hv
  subst hsz
  have hx := B.exec
  have hb := B.bytes
  have hr := B.returns
  have hts0 := atoms_spec (ws := .code yX2_init cX2_init 1 none :: gt) B.pre
  have hts : ∀ w ∈ gt, w.before [Value.ref h0].toArray s = true := fun w hw => hts0 w (List.mem_cons_of_mem _ hw)
  have hown : s.vm.findClass RX2 = some m.cls := findClass_of_methodNamed B.named
  have hlocks := B.notSynchronized
  have hin : meth.name = "<init>" := (name_of_methodNamed B.named B.method).1
  have hA : ∀ q : Nat, s.heap.size ≤ q → aI h0 s.heap.size q := fun q h => Or.inr h
  have hD : va_D (aI h0 s.heap.size) [(h0, .inr (2, [.null, .null, .null, .null, .null, .int 0, .int 0, .int 0, .int 0]))] := va_D1 (Or.inl rfl)
  have hS : va_S (aI h0 s.heap.size) s.heap s.heap [] := va_S.rf
  have hl := lv_entry ([.ref h0]) (n := 1) (Nat.le_of_ble_eq_true rfl)
  rw [lg_entry_eq]
  generalize (lg_sl ([.ref h0]) ++ List.replicate (1 - (lg_sl ([.ref h0])).length) Slot.unset).toArray = ls at hl ⊢
  have hl : lv_has ls 1 [(0, .ref h0)] := hl
  refine lv_aload_n hx hb di_X2_0 rfl (lv_at hl 0 rfl) ?_
  refine W.objInit hx hb hown (hts _ go_2) (hts _ gw_oin) (hts _ gw_oco) rfl (by rw [hml]; exact hl.1) rfl di_X2_1 (Nat.le_of_ble_eq_true rfl) (Nat.le_of_ble_eq_true rfl) ?_
  refine W.eq (g2 := F0 m 4 ls []) rfl ?_
  refine lv_aload_n hx hb di_X2_4 rfl (lv_at hl 0 rfl) ?_
  refine lv_bipush (v := nI 6) hx hb di_X2_5 (by decide +kernel) ?_
  refine ini_arr (r := (RX2, TX2, 9)) (ci := 2) (f := 0) (idx := 9) (n := 6) (k := 0) hx hb hown hts hin hK hA rfl hP hD hS rfl (by decide) (Nat.le_of_ble_eq_true rfl) (Nat.le_of_ble_eq_true rfl) rfl rfl (by decide +kernel) gw_ac0 gl_2_9 (Nat.le_of_ble_eq_true rfl) (Nat.le_of_ble_eq_true rfl) (Nat.le_of_ble_eq_true rfl) di_X2_7 di_X2_9 (fun q1 H locs hP hD hS => ?_)
  have hP : va_P D vwCl [(h0, .inr (2, [.ref q1, .null, .null, .null, .null, .int 0, .int 0, .int 0, .int 0])), (q1, .inl (cy 0, 6, .inl zI))] H := hP
  have hD : va_D (aI h0 s.heap.size) [(h0, .inr (2, [.ref q1, .null, .null, .null, .null, .int 0, .int 0, .int 0, .int 0])), (q1, .inl (cy 0, 6, .inl zI))] := hD
  refine W.widen (k := 1) (n := 6) (Nat.le_of_ble_eq_true rfl) (Nat.le_of_ble_eq_true rfl) ?_
  refine lv_aload_n hx hb di_X2_12 rfl (lv_at hl 0 rfl) ?_
  refine lv_bipush (v := nI 6) hx hb di_X2_13 (by decide +kernel) ?_
  refine ini_arr (r := (RX2, TX2, 9)) (ci := 2) (f := 1) (idx := 15) (n := 6) (k := 0) hx hb hown hts hin hK hA rfl hP hD hS rfl (by decide) (Nat.le_of_ble_eq_true rfl) (Nat.le_of_ble_eq_true rfl) rfl rfl (by decide +kernel) gw_ac0 gl_2_15 (Nat.le_of_ble_eq_true rfl) (Nat.le_of_ble_eq_true rfl) (Nat.le_of_ble_eq_true rfl) di_X2_15 di_X2_17 (fun q2 H locs hP hD hS => ?_)
  have hP : va_P D vwCl [(h0, .inr (2, [.ref q1, .ref q2, .null, .null, .null, .int 0, .int 0, .int 0, .int 0])), (q1, .inl (cy 0, 6, .inl zI)), (q2, .inl (cy 0, 6, .inl zI))] H := hP
  have hD : va_D (aI h0 s.heap.size) [(h0, .inr (2, [.ref q1, .ref q2, .null, .null, .null, .int 0, .int 0, .int 0, .int 0])), (q1, .inl (cy 0, 6, .inl zI)), (q2, .inl (cy 0, 6, .inl zI))] := hD
  refine W.widen (k := 2) (n := 12) (Nat.le_of_ble_eq_true rfl) (Nat.le_of_ble_eq_true rfl) ?_
  refine lv_aload_n hx hb di_X2_20 rfl (lv_at hl 0 rfl) ?_
  refine lv_bipush (v := nI 8) hx hb di_X2_21 (by decide +kernel) ?_
  refine ini_arr (r := (RX2, TX2, 9)) (ci := 2) (f := 2) (idx := 18) (n := 8) (k := 0) hx hb hown hts hin hK hA rfl hP hD hS rfl (by decide) (Nat.le_of_ble_eq_true rfl) (Nat.le_of_ble_eq_true rfl) rfl rfl (by decide +kernel) gw_ac0 gl_2_18 (Nat.le_of_ble_eq_true rfl) (Nat.le_of_ble_eq_true rfl) (Nat.le_of_ble_eq_true rfl) di_X2_23 di_X2_25 (fun q3 H locs hP hD hS => ?_)
  have hP : va_P D vwCl [(h0, .inr (2, [.ref q1, .ref q2, .ref q3, .null, .null, .int 0, .int 0, .int 0, .int 0])), (q1, .inl (cy 0, 6, .inl zI)), (q2, .inl (cy 0, 6, .inl zI)), (q3, .inl (cy 0, 8, .inl zI))] H := hP
  have hD : va_D (aI h0 s.heap.size) [(h0, .inr (2, [.ref q1, .ref q2, .ref q3, .null, .null, .int 0, .int 0, .int 0, .int 0])), (q1, .inl (cy 0, 6, .inl zI)), (q2, .inl (cy 0, 6, .inl zI)), (q3, .inl (cy 0, 8, .inl zI))] := hD
  refine W.widen (k := 3) (n := 20) (Nat.le_of_ble_eq_true rfl) (Nat.le_of_ble_eq_true rfl) ?_
  refine lv_aload_n hx hb di_X2_28 rfl (lv_at hl 0 rfl) ?_
  refine lv_bipush (v := nI 8) hx hb di_X2_29 (by decide +kernel) ?_
  refine ini_arr (r := (RX2, TX2, 9)) (ci := 2) (f := 3) (idx := 21) (n := 8) (k := 0) hx hb hown hts hin hK hA rfl hP hD hS rfl (by decide) (Nat.le_of_ble_eq_true rfl) (Nat.le_of_ble_eq_true rfl) rfl rfl (by decide +kernel) gw_ac0 gl_2_21 (Nat.le_of_ble_eq_true rfl) (Nat.le_of_ble_eq_true rfl) (Nat.le_of_ble_eq_true rfl) di_X2_31 di_X2_33 (fun q4 H locs hP hD hS => ?_)
  have hP : va_P D vwCl [(h0, .inr (2, [.ref q1, .ref q2, .ref q3, .ref q4, .null, .int 0, .int 0, .int 0, .int 0])), (q1, .inl (cy 0, 6, .inl zI)), (q2, .inl (cy 0, 6, .inl zI)), (q3, .inl (cy 0, 8, .inl zI)), (q4, .inl (cy 0, 8, .inl zI))] H := hP
  have hD : va_D (aI h0 s.heap.size) [(h0, .inr (2, [.ref q1, .ref q2, .ref q3, .ref q4, .null, .int 0, .int 0, .int 0, .int 0])), (q1, .inl (cy 0, 6, .inl zI)), (q2, .inl (cy 0, 6, .inl zI)), (q3, .inl (cy 0, 8, .inl zI)), (q4, .inl (cy 0, 8, .inl zI))] := hD
  refine W.widen (k := 4) (n := 28) (Nat.le_of_ble_eq_true rfl) (Nat.le_of_ble_eq_true rfl) ?_
  refine lv_aload_n hx hb di_X2_36 rfl (lv_at hl 0 rfl) ?_
  refine lv_bipush (v := nI 8) hx hb di_X2_37 (by decide +kernel) ?_
  refine ini_arr (r := (RX2, TX2, 9)) (ci := 2) (f := 4) (idx := 24) (n := 8) (k := 2) hx hb hown hts hin hK hA rfl hP hD hS rfl (by decide) (Nat.le_of_ble_eq_true rfl) (Nat.le_of_ble_eq_true rfl) rfl rfl (by decide +kernel) gw_ac2 gl_2_24 (Nat.le_of_ble_eq_true rfl) (Nat.le_of_ble_eq_true rfl) (Nat.le_of_ble_eq_true rfl) di_X2_39 di_X2_41 (fun q5 H locs hP hD hS => ?_)
  have hP : va_P D vwCl [(h0, .inr (2, [.ref q1, .ref q2, .ref q3, .ref q4, .ref q5, .int 0, .int 0, .int 0, .int 0])), (q1, .inl (cy 0, 6, .inl zI)), (q2, .inl (cy 0, 6, .inl zI)), (q3, .inl (cy 0, 8, .inl zI)), (q4, .inl (cy 0, 8, .inl zI)), (q5, .inl (cy 2, 8, .inl zI))] H := hP
  have hD : va_D (aI h0 s.heap.size) [(h0, .inr (2, [.ref q1, .ref q2, .ref q3, .ref q4, .ref q5, .int 0, .int 0, .int 0, .int 0])), (q1, .inl (cy 0, 6, .inl zI)), (q2, .inl (cy 0, 6, .inl zI)), (q3, .inl (cy 0, 8, .inl zI)), (q4, .inl (cy 0, 8, .inl zI)), (q5, .inl (cy 2, 8, .inl zI))] := hD
  refine W.widen (k := 5) (n := 36) (Nat.le_of_ble_eq_true rfl) (Nat.le_of_ble_eq_true rfl) ?_
  exact W.vret hx hb hr (fun t ht hW => ⟨⟨[q1, q2, q3, q4, q5], rfl, rfl, by rw [ht]; exact hP, hD⟩, hS.F ht⟩) hS.2.2 di_X2_44
def bw1 (cy : Nat → Nat) (h0 : Nat) (u : List Nat) : va_W := [(h0, .inr (1, [.ref (u.getD 0 0), .ref (u.getD 1 0), .int 0])), ((u.getD 0 0), .inl (cy 0, 64, .inl zI)), ((u.getD 1 0), .inl (cy 0, 4, .inl zI))]
theorem di_X1_0 : decode cX1_init 0 = .ok (.aload_n 0, 1) := by decide +kernel
theorem di_X1_1 : decode cX1_init 1 = .ok (.invokespecial 3, 3) := by decide +kernel
theorem di_X1_4 : decode cX1_init 4 = .ok (.aload_n 0, 1) := by decide +kernel
theorem di_X1_5 : decode cX1_init 5 = .ok (.bipush 64, 2) := by decide +kernel
theorem di_X1_7 : decode cX1_init 7 = .ok (.newarray .int, 2) := by decide +kernel
theorem di_X1_9 : decode cX1_init 9 = .ok (.putfield 9, 3) := by decide +kernel
theorem di_X1_12 : decode cX1_init 12 = .ok (.aload_n 0, 1) := by decide +kernel
theorem di_X1_13 : decode cX1_init 13 = .ok (.iconst 4, 1) := by decide +kernel
theorem di_X1_14 : decode cX1_init 14 = .ok (.newarray .int, 2) := by decide +kernel
theorem di_X1_16 : decode cX1_init 16 = .ok (.putfield 15, 3) := by decide +kernel
theorem di_X1_19 : decode cX1_init 19 = .ok (.return_, 1) := by decide +kernel
theorem go_1 : (.methodLink RX1 3 objectInit : Jvm.Cond) ∈ gt := okw_mem (pl := 274) (by decide +kernel)
theorem gl_1_9 : (.fieldLink "StockingLine$Kennel" 9 "StockingLine$Kennel" "fewest" "[I" : Jvm.Cond) ∈ gt := okw_mem (pl := 275) (by decide +kernel)
theorem gl_1_15 : (.fieldLink "StockingLine$Kennel" 15 "StockingLine$Kennel" "may" "[I" : Jvm.Cond) ∈ gt := okw_mem (pl := 277) (by decide +kernel)
set_option maxHeartbeats 4000000 in
set_option maxRecDepth 100000 in
theorem ci_X1 (l : Launch) (D : va_G) (ad cy : Nat → Nat) (h0 sz : Nat) : Met l yX1_init (.code yX1_init cX1_init 1 none :: gt) (iR 2 68) (va_Pc [.ref h0] (fun U => U.heap.size = sz ∧ va_P D vwCl [(h0, .inr (1, [.null, .null, .int 0]))] U.heap ∧ va_K D vwCl (tyL cy) U ∧ SF ad (aI h0 sz) U U.heap ∧ NW U ∧ vk_R "StockingLine$Page" 30 "klybr" (ad 110) U)) (va_Qv (fun u : List Nat => u.length = 2) (fun u t => va_P D vwCl (bw1 cy h0 u) t.heap ∧ va_D (aI h0 sz) (bw1 cy h0 u)) (aI h0 sz)) 2 68 (aI h0 sz) := by
  refine Met.ofW (cc := cX1_init) (maxL := 1) (ret := none) (by decide +kernel) rfl ?_
  intro p e s m args below meth c s₁ B hml hv
  obtain ⟨rfl, hsz, hP, hK, hSF, hNW, hvR⟩ := hv
  subst hsz
  have hx := B.exec
  have hb := B.bytes
  have hr := B.returns
  have hts0 := atoms_spec (ws := .code yX1_init cX1_init 1 none :: gt) B.pre
  have hts : ∀ w ∈ gt, w.before [Value.ref h0].toArray s = true := fun w hw => hts0 w (List.mem_cons_of_mem _ hw)
  have hown : s.vm.findClass RX1 = some m.cls := findClass_of_methodNamed B.named
  have hlocks := B.notSynchronized
  have hin : meth.name = "<init>" := (name_of_methodNamed B.named B.method).1
  have hA : ∀ q : Nat, s.heap.size ≤ q → aI h0 s.heap.size q := fun q h => Or.inr h
  have hD : va_D (aI h0 s.heap.size) [(h0, .inr (1, [.null, .null, .int 0]))] := va_D1 (Or.inl rfl)
  have hS : va_S (aI h0 s.heap.size) s.heap s.heap [] := va_S.rf
  have hl := lv_entry ([.ref h0]) (n := 1) (Nat.le_of_ble_eq_true rfl)
  rw [lg_entry_eq]
  generalize (lg_sl ([.ref h0]) ++ List.replicate (1 - (lg_sl ([.ref h0])).length) Slot.unset).toArray = ls at hl ⊢
  have hl : lv_has ls 1 [(0, .ref h0)] := hl
  refine lv_aload_n hx hb di_X1_0 rfl (lv_at hl 0 rfl) ?_
  refine W.objInit hx hb hown (hts _ go_1) (hts _ gw_oin) (hts _ gw_oco) rfl (by rw [hml]; exact hl.1) rfl di_X1_1 (Nat.le_of_ble_eq_true rfl) (Nat.le_of_ble_eq_true rfl) ?_
  refine W.eq (g2 := F0 m 4 ls []) rfl ?_
  refine lv_aload_n hx hb di_X1_4 rfl (lv_at hl 0 rfl) ?_
  refine lv_bipush (v := nI 64) hx hb di_X1_5 (by decide +kernel) ?_
  refine ini_arr (r := (RX1, TX1, 3)) (ci := 1) (f := 0) (idx := 9) (n := 64) (k := 0) hx hb hown hts hin hK hA rfl hP hD hS rfl (by decide) (Nat.le_of_ble_eq_true rfl) (Nat.le_of_ble_eq_true rfl) rfl rfl (by decide +kernel) gw_ac0 gl_1_9 (Nat.le_of_ble_eq_true rfl) (Nat.le_of_ble_eq_true rfl) (Nat.le_of_ble_eq_true rfl) di_X1_7 di_X1_9 (fun q1 H locs hP hD hS => ?_)
  have hP : va_P D vwCl [(h0, .inr (1, [.ref q1, .null, .int 0])), (q1, .inl (cy 0, 64, .inl zI))] H := hP
  have hD : va_D (aI h0 s.heap.size) [(h0, .inr (1, [.ref q1, .null, .int 0])), (q1, .inl (cy 0, 64, .inl zI))] := hD
  refine W.widen (k := 1) (n := 64) (Nat.le_of_ble_eq_true rfl) (Nat.le_of_ble_eq_true rfl) ?_
  refine lv_aload_n hx hb di_X1_12 rfl (lv_at hl 0 rfl) ?_
  refine lv_iconst (v := nI 4) hx hb di_X1_13 (by decide +kernel) ?_
  refine ini_arr (r := (RX1, TX1, 3)) (ci := 1) (f := 1) (idx := 15) (n := 4) (k := 0) hx hb hown hts hin hK hA rfl hP hD hS rfl (by decide) (Nat.le_of_ble_eq_true rfl) (Nat.le_of_ble_eq_true rfl) rfl rfl (by decide +kernel) gw_ac0 gl_1_15 (Nat.le_of_ble_eq_true rfl) (Nat.le_of_ble_eq_true rfl) (Nat.le_of_ble_eq_true rfl) di_X1_14 di_X1_16 (fun q2 H locs hP hD hS => ?_)
  have hP : va_P D vwCl [(h0, .inr (1, [.ref q1, .ref q2, .int 0])), (q1, .inl (cy 0, 64, .inl zI)), (q2, .inl (cy 0, 4, .inl zI))] H := hP
  have hD : va_D (aI h0 s.heap.size) [(h0, .inr (1, [.ref q1, .ref q2, .int 0])), (q1, .inl (cy 0, 64, .inl zI)), (q2, .inl (cy 0, 4, .inl zI))] := hD
  refine W.widen (k := 2) (n := 68) (Nat.le_of_ble_eq_true rfl) (Nat.le_of_ble_eq_true rfl) ?_
  exact W.vret hx hb hr (fun t ht hW => ⟨⟨[q1, q2], rfl, rfl, by rw [ht]; exact hP, hD⟩, hS.F ht⟩) hS.2.2 di_X1_19
def bw5 (cy : Nat → Nat) (h0 : Nat) (u : List Nat) : va_W := [(h0, .inr (5, [.ref (u.getD 0 0), .int 0, .int 0, .ref (u.getD 1 0), .ref (u.getD 2 0), .int 0])), ((u.getD 0 0), .inl (cy 0, 4, .inl zI)), ((u.getD 1 0), .inl (cy 0, 4, .inl zI)), ((u.getD 2 0), .inl (cy 0, 60, .inl zI))]
theorem di_X5_0 : decode cX5_init 0 = .ok (.aload_n 0, 1) := by decide +kernel
theorem di_X5_1 : decode cX5_init 1 = .ok (.invokespecial 3, 3) := by decide +kernel
theorem di_X5_4 : decode cX5_init 4 = .ok (.aload_n 0, 1) := by decide +kernel
theorem di_X5_5 : decode cX5_init 5 = .ok (.iconst 4, 1) := by decide +kernel
theorem di_X5_6 : decode cX5_init 6 = .ok (.newarray .int, 2) := by decide +kernel
theorem di_X5_8 : decode cX5_init 8 = .ok (.putfield 9, 3) := by decide +kernel
theorem di_X5_11 : decode cX5_init 11 = .ok (.aload_n 0, 1) := by decide +kernel
theorem di_X5_12 : decode cX5_init 12 = .ok (.iconst 4, 1) := by decide +kernel
theorem di_X5_13 : decode cX5_init 13 = .ok (.newarray .int, 2) := by decide +kernel
theorem di_X5_15 : decode cX5_init 15 = .ok (.putfield 15, 3) := by decide +kernel
theorem di_X5_18 : decode cX5_init 18 = .ok (.aload_n 0, 1) := by decide +kernel
theorem di_X5_19 : decode cX5_init 19 = .ok (.iconst 4, 1) := by decide +kernel
theorem di_X5_20 : decode cX5_init 20 = .ok (.getstatic 18, 3) := by decide +kernel
theorem di_X5_23 : decode cX5_init 23 = .ok (.arraylength, 1) := by decide +kernel
theorem di_X5_24 : decode cX5_init 24 = .ok (.imul, 1) := by decide +kernel
theorem di_X5_25 : decode cX5_init 25 = .ok (.newarray .int, 2) := by decide +kernel
theorem di_X5_27 : decode cX5_init 27 = .ok (.putfield 21, 3) := by decide +kernel
theorem di_X5_30 : decode cX5_init 30 = .ok (.return_, 1) := by decide +kernel
theorem go_5 : (.methodLink RX5 3 objectInit : Jvm.Cond) ∈ gt := okw_mem (pl := 244) (by decide +kernel)
theorem gl_5_9 : (.fieldLink "StockingLine$Wedding" 9 "StockingLine$Wedding" "best" "[I" : Jvm.Cond) ∈ gt := okw_mem (pl := 247) (by decide +kernel)
theorem gl_5_15 : (.fieldLink "StockingLine$Wedding" 15 "StockingLine$Wedding" "given" "[I" : Jvm.Cond) ∈ gt := okw_mem (pl := 253) (by decide +kernel)
theorem gl_5_21 : (.fieldLink "StockingLine$Wedding" 21 "StockingLine$Wedding" "wrongs" "[I" : Jvm.Cond) ∈ gt := okw_mem (pl := 254) (by decide +kernel)
set_option maxHeartbeats 4000000 in
set_option maxRecDepth 100000 in
theorem ci_X5 (l : Launch) (D : va_G) (ad cy : Nat → Nat) (h0 sz : Nat) : Met l yX5_init (.code yX5_init cX5_init 1 none :: gt) (iR 3 68) (va_Pc [.ref h0] (fun U => U.heap.size = sz ∧ va_P D vwCl [(h0, .inr (5, [.null, .int 0, .int 0, .null, .null, .int 0]))] U.heap ∧ va_K D vwCl (tyL cy) U ∧ SF ad (aI h0 sz) U U.heap ∧ NW U ∧ vk_R "StockingLine$Page" 30 "klybr" (ad 110) U)) (va_Qv (fun u : List Nat => u.length = 3) (fun u t => va_P D vwCl (bw5 cy h0 u) t.heap ∧ va_D (aI h0 sz) (bw5 cy h0 u)) (aI h0 sz)) 3 68 (aI h0 sz) := by
  refine Met.ofW (cc := cX5_init) (maxL := 1) (ret := none) (by decide +kernel) rfl ?_
  intro p e s m args below meth c s₁ B hml hv
  obtain ⟨rfl, hsz, hP, hK, hSF, hNW, hvR⟩ := hv
  subst hsz
  have hx := B.exec
  have hb := B.bytes
  have hr := B.returns
  have hts0 := atoms_spec (ws := .code yX5_init cX5_init 1 none :: gt) B.pre
  have hts : ∀ w ∈ gt, w.before [Value.ref h0].toArray s = true := fun w hw => hts0 w (List.mem_cons_of_mem _ hw)
  have hown : s.vm.findClass RX5 = some m.cls := findClass_of_methodNamed B.named
  have hlocks := B.notSynchronized
  have hin : meth.name = "<init>" := (name_of_methodNamed B.named B.method).1
  have hA : ∀ q : Nat, s.heap.size ≤ q → aI h0 s.heap.size q := fun q h => Or.inr h
  have hD : va_D (aI h0 s.heap.size) [(h0, .inr (5, [.null, .int 0, .int 0, .null, .null, .int 0]))] := va_D1 (Or.inl rfl)
  have hS : va_S (aI h0 s.heap.size) s.heap s.heap [] := va_S.rf
  have hl := lv_entry ([.ref h0]) (n := 1) (Nat.le_of_ble_eq_true rfl)
  rw [lg_entry_eq]
  generalize (lg_sl ([.ref h0]) ++ List.replicate (1 - (lg_sl ([.ref h0])).length) Slot.unset).toArray = ls at hl ⊢
  have hl : lv_has ls 1 [(0, .ref h0)] := hl
  refine lv_aload_n hx hb di_X5_0 rfl (lv_at hl 0 rfl) ?_
  refine W.objInit hx hb hown (hts _ go_5) (hts _ gw_oin) (hts _ gw_oco) rfl (by rw [hml]; exact hl.1) rfl di_X5_1 (Nat.le_of_ble_eq_true rfl) (Nat.le_of_ble_eq_true rfl) ?_
  refine W.eq (g2 := F0 m 4 ls []) rfl ?_
  refine lv_aload_n hx hb di_X5_4 rfl (lv_at hl 0 rfl) ?_
  refine lv_iconst (v := nI 4) hx hb di_X5_5 (by decide +kernel) ?_
  refine ini_arr (r := (RX5, TX5, 6)) (ci := 5) (f := 0) (idx := 9) (n := 4) (k := 0) hx hb hown hts hin hK hA rfl hP hD hS rfl (by decide) (Nat.le_of_ble_eq_true rfl) (Nat.le_of_ble_eq_true rfl) rfl rfl (by decide +kernel) gw_ac0 gl_5_9 (Nat.le_of_ble_eq_true rfl) (Nat.le_of_ble_eq_true rfl) (Nat.le_of_ble_eq_true rfl) di_X5_6 di_X5_8 (fun q1 H locs hP hD hS => ?_)
  have hP : va_P D vwCl [(h0, .inr (5, [.ref q1, .int 0, .int 0, .null, .null, .int 0])), (q1, .inl (cy 0, 4, .inl zI))] H := hP
  have hD : va_D (aI h0 s.heap.size) [(h0, .inr (5, [.ref q1, .int 0, .int 0, .null, .null, .int 0])), (q1, .inl (cy 0, 4, .inl zI))] := hD
  refine W.widen (k := 1) (n := 4) (Nat.le_of_ble_eq_true rfl) (Nat.le_of_ble_eq_true rfl) ?_
  refine lv_aload_n hx hb di_X5_11 rfl (lv_at hl 0 rfl) ?_
  refine lv_iconst (v := nI 4) hx hb di_X5_12 (by decide +kernel) ?_
  refine ini_arr (r := (RX5, TX5, 6)) (ci := 5) (f := 3) (idx := 15) (n := 4) (k := 0) hx hb hown hts hin hK hA rfl hP hD hS rfl (by decide) (Nat.le_of_ble_eq_true rfl) (Nat.le_of_ble_eq_true rfl) rfl rfl (by decide +kernel) gw_ac0 gl_5_15 (Nat.le_of_ble_eq_true rfl) (Nat.le_of_ble_eq_true rfl) (Nat.le_of_ble_eq_true rfl) di_X5_13 di_X5_15 (fun q2 H locs hP hD hS => ?_)
  have hP : va_P D vwCl [(h0, .inr (5, [.ref q1, .int 0, .int 0, .ref q2, .null, .int 0])), (q1, .inl (cy 0, 4, .inl zI)), (q2, .inl (cy 0, 4, .inl zI))] H := hP
  have hD : va_D (aI h0 s.heap.size) [(h0, .inr (5, [.ref q1, .int 0, .int 0, .ref q2, .null, .int 0])), (q1, .inl (cy 0, 4, .inl zI)), (q2, .inl (cy 0, 4, .inl zI))] := hD
  refine W.widen (k := 2) (n := 8) (Nat.le_of_ble_eq_true rfl) (Nat.le_of_ble_eq_true rfl) ?_
  refine lv_aload_n hx hb di_X5_18 rfl (lv_at hl 0 rfl) ?_
  refine lv_iconst (v := 4) hx hb di_X5_19 (by decide) ?_
  refine va_getsN (ref := "StockingLine") (host := "StockingLine") hx hb (hSF.1 0 (by decide)).1 hS hown (va_Nw.use rfl (hNW _ (List.mem_of_getElem? (i := 0) rfl))) (fun _ z => z) di_X5_20 ?_
  refine va_tlen (v := nI 15) hx hb (hSF.1 0 (by decide)).2 hS (by decide +kernel) di_X5_23 ?_
  refine lv_imul hx hb di_X5_24 ?_
  rw [show (4 : Int32) * nI 15 = nI 60 by decide +kernel]
  refine ini_arr (r := (RX5, TX5, 6)) (ci := 5) (f := 4) (idx := 21) (n := 60) (k := 0) hx hb hown hts hin hK hA rfl hP hD hS rfl (by decide) (Nat.le_of_ble_eq_true rfl) (Nat.le_of_ble_eq_true rfl) rfl rfl (by decide +kernel) gw_ac0 gl_5_21 (Nat.le_of_ble_eq_true rfl) (Nat.le_of_ble_eq_true rfl) (Nat.le_of_ble_eq_true rfl) di_X5_25 di_X5_27 (fun q3 H locs hP hD hS => ?_)
  have hP : va_P D vwCl [(h0, .inr (5, [.ref q1, .int 0, .int 0, .ref q2, .ref q3, .int 0])), (q1, .inl (cy 0, 4, .inl zI)), (q2, .inl (cy 0, 4, .inl zI)), (q3, .inl (cy 0, 60, .inl zI))] H := hP
  have hD : va_D (aI h0 s.heap.size) [(h0, .inr (5, [.ref q1, .int 0, .int 0, .ref q2, .ref q3, .int 0])), (q1, .inl (cy 0, 4, .inl zI)), (q2, .inl (cy 0, 4, .inl zI)), (q3, .inl (cy 0, 60, .inl zI))] := hD
  refine W.widen (k := 3) (n := 68) (Nat.le_of_ble_eq_true rfl) (Nat.le_of_ble_eq_true rfl) ?_
  exact W.vret hx hb hr (fun t ht hW => ⟨⟨[q1, q2, q3], rfl, rfl, by rw [ht]; exact hP, hD⟩, hS.F ht⟩) hS.2.2 di_X5_30
def bw7 (cy : Nat → Nat) (h0 : Nat) (u : List Nat) : va_W := [(h0, .inr (7, [.int 0, .int 0, .int 0, .ref (u.getD 0 0), .ref (u.getD 1 0), .ref (u.getD 2 0), .ref (u.getD 3 0), .ref (u.getD 4 0), .ref (u.getD 5 0), .ref (u.getD 6 0), .ref (u.getD 7 0), .ref (u.getD 8 0), .int 0, .int 0, .int 0, .ref (u.getD 9 0), .ref (u.getD 10 0), .int 0, .ref (u.getD 11 0), .ref (u.getD 12 0), .ref (u.getD 13 0), .int 0, .int 0, .ref (u.getD 14 0), .int 0, .int 0, .int 0, .ref (u.getD 15 0), .ref (u.getD 16 0), .int 0, .int 0, .int 0, .ref (u.getD 17 0), .ref (u.getD 18 0), .ref (u.getD 19 0), .ref (u.getD 20 0), .ref (u.getD 21 0), .long 0, .ref (u.getD 22 0), .int 0, .int 0, .int 0, .int 0, .int 0, .int 0, .ref (u.getD 23 0), .ref (u.getD 24 0), .ref (u.getD 25 0), .ref (u.getD 26 0), .ref (u.getD 27 0), .ref (u.getD 28 0), .ref (u.getD 29 0), .ref (u.getD 30 0), .ref (u.getD 31 0), .long 0])), ((u.getD 0 0), .inl (cy 0, 4, .inl zI)), ((u.getD 1 0), .inl (cy 0, 4, .inl zI)), ((u.getD 2 0), .inl (cy 0, 4, .inl zI)), ((u.getD 3 0), .inl (cy 0, 4, .inl zI)), ((u.getD 4 0), .inl (cy 0, 6, .inl zI)), ((u.getD 5 0), .inl (cy 0, 6, .inl zI)), ((u.getD 6 0), .inl (cy 0, 6, .inl zI)), ((u.getD 7 0), .inl (cy 0, 6, .inl zI)), ((u.getD 8 0), .inl (cy 0, 6, .inl zI)), ((u.getD 9 0), .inl (cy 0, 6, .inl zI)), ((u.getD 10 0), .inl (cy 0, 6, .inl zI)), ((u.getD 11 0), .inl (cy 0, 8, .inl zI)), ((u.getD 12 0), .inl (cy 0, 8, .inl zI)), ((u.getD 13 0), .inl (cy 0, 8, .inl zI)), ((u.getD 14 0), .inl (cy 1, 52, .inl zI)), ((u.getD 15 0), .inl (cy 0, 16, .inl zI)), ((u.getD 16 0), .inl (cy 0, 64, .inl zI)), ((u.getD 17 0), .inl (cy 0, 4, .inl zI)), ((u.getD 18 0), .inl (cy 0, 4, .inl zI)), ((u.getD 19 0), .inl (cy 0, 64, .inl zI)), ((u.getD 20 0), .inl (cy 0, 4, .inl zI)), ((u.getD 21 0), .inl (cy 0, 6, .inl zI)), ((u.getD 22 0), .inl (cy 0, 6, .inl zI)), ((u.getD 23 0), .inl (cy 0, 6, .inl zI)), ((u.getD 24 0), .inl (cy 0, 6, .inl zI)), ((u.getD 25 0), .inl (cy 0, 6, .inl zI)), ((u.getD 26 0), .inl (cy 0, 6, .inl zI)), ((u.getD 27 0), .inl (cy 0, 6, .inl zI)), ((u.getD 28 0), .inl (cy 0, 6, .inl zI)), ((u.getD 29 0), .inl (cy 0, 8, .inl zI)), ((u.getD 30 0), .inl (cy 0, 8, .inl zI)), ((u.getD 31 0), .inl (cy 0, 8, .inl zI))]
theorem di_X7_0 : decode cX7_init 0 = .ok (.aload_n 0, 1) := by decide +kernel
theorem di_X7_1 : decode cX7_init 1 = .ok (.invokespecial 1, 3) := by decide +kernel
theorem di_X7_4 : decode cX7_init 4 = .ok (.aload_n 0, 1) := by decide +kernel
theorem di_X7_5 : decode cX7_init 5 = .ok (.iconst 4, 1) := by decide +kernel
theorem di_X7_6 : decode cX7_init 6 = .ok (.newarray .int, 2) := by decide +kernel
theorem di_X7_8 : decode cX7_init 8 = .ok (.putfield 7, 3) := by decide +kernel
theorem di_X7_11 : decode cX7_init 11 = .ok (.aload_n 0, 1) := by decide +kernel
theorem di_X7_12 : decode cX7_init 12 = .ok (.iconst 4, 1) := by decide +kernel
theorem di_X7_13 : decode cX7_init 13 = .ok (.newarray .int, 2) := by decide +kernel
theorem di_X7_15 : decode cX7_init 15 = .ok (.putfield 13, 3) := by decide +kernel
theorem di_X7_18 : decode cX7_init 18 = .ok (.aload_n 0, 1) := by decide +kernel
theorem di_X7_19 : decode cX7_init 19 = .ok (.iconst 4, 1) := by decide +kernel
theorem di_X7_20 : decode cX7_init 20 = .ok (.newarray .int, 2) := by decide +kernel
theorem di_X7_22 : decode cX7_init 22 = .ok (.putfield 16, 3) := by decide +kernel
theorem di_X7_25 : decode cX7_init 25 = .ok (.aload_n 0, 1) := by decide +kernel
theorem di_X7_26 : decode cX7_init 26 = .ok (.iconst 4, 1) := by decide +kernel
theorem di_X7_27 : decode cX7_init 27 = .ok (.newarray .int, 2) := by decide +kernel
theorem di_X7_29 : decode cX7_init 29 = .ok (.putfield 19, 3) := by decide +kernel
theorem di_X7_32 : decode cX7_init 32 = .ok (.aload_n 0, 1) := by decide +kernel
theorem di_X7_33 : decode cX7_init 33 = .ok (.bipush 6, 2) := by decide +kernel
theorem di_X7_35 : decode cX7_init 35 = .ok (.newarray .int, 2) := by decide +kernel
theorem di_X7_37 : decode cX7_init 37 = .ok (.putfield 22, 3) := by decide +kernel
theorem di_X7_40 : decode cX7_init 40 = .ok (.aload_n 0, 1) := by decide +kernel
theorem di_X7_41 : decode cX7_init 41 = .ok (.bipush 6, 2) := by decide +kernel
theorem di_X7_43 : decode cX7_init 43 = .ok (.newarray .int, 2) := by decide +kernel
theorem di_X7_45 : decode cX7_init 45 = .ok (.putfield 25, 3) := by decide +kernel
theorem di_X7_48 : decode cX7_init 48 = .ok (.aload_n 0, 1) := by decide +kernel
theorem di_X7_49 : decode cX7_init 49 = .ok (.bipush 6, 2) := by decide +kernel
theorem di_X7_51 : decode cX7_init 51 = .ok (.newarray .int, 2) := by decide +kernel
theorem di_X7_53 : decode cX7_init 53 = .ok (.putfield 28, 3) := by decide +kernel
theorem di_X7_56 : decode cX7_init 56 = .ok (.aload_n 0, 1) := by decide +kernel
theorem di_X7_57 : decode cX7_init 57 = .ok (.bipush 6, 2) := by decide +kernel
theorem di_X7_59 : decode cX7_init 59 = .ok (.newarray .int, 2) := by decide +kernel
theorem di_X7_61 : decode cX7_init 61 = .ok (.putfield 31, 3) := by decide +kernel
theorem di_X7_64 : decode cX7_init 64 = .ok (.aload_n 0, 1) := by decide +kernel
theorem di_X7_65 : decode cX7_init 65 = .ok (.bipush 6, 2) := by decide +kernel
theorem di_X7_67 : decode cX7_init 67 = .ok (.newarray .int, 2) := by decide +kernel
theorem di_X7_69 : decode cX7_init 69 = .ok (.putfield 34, 3) := by decide +kernel
theorem di_X7_72 : decode cX7_init 72 = .ok (.aload_n 0, 1) := by decide +kernel
theorem di_X7_73 : decode cX7_init 73 = .ok (.bipush 6, 2) := by decide +kernel
theorem di_X7_75 : decode cX7_init 75 = .ok (.newarray .int, 2) := by decide +kernel
theorem di_X7_77 : decode cX7_init 77 = .ok (.putfield 37, 3) := by decide +kernel
theorem di_X7_80 : decode cX7_init 80 = .ok (.aload_n 0, 1) := by decide +kernel
theorem di_X7_81 : decode cX7_init 81 = .ok (.bipush 6, 2) := by decide +kernel
theorem di_X7_83 : decode cX7_init 83 = .ok (.newarray .int, 2) := by decide +kernel
theorem di_X7_85 : decode cX7_init 85 = .ok (.putfield 40, 3) := by decide +kernel
theorem di_X7_88 : decode cX7_init 88 = .ok (.aload_n 0, 1) := by decide +kernel
theorem di_X7_89 : decode cX7_init 89 = .ok (.bipush 8, 2) := by decide +kernel
theorem di_X7_91 : decode cX7_init 91 = .ok (.newarray .int, 2) := by decide +kernel
theorem di_X7_93 : decode cX7_init 93 = .ok (.putfield 43, 3) := by decide +kernel
theorem di_X7_96 : decode cX7_init 96 = .ok (.aload_n 0, 1) := by decide +kernel
theorem di_X7_97 : decode cX7_init 97 = .ok (.bipush 8, 2) := by decide +kernel
theorem di_X7_99 : decode cX7_init 99 = .ok (.newarray .int, 2) := by decide +kernel
theorem di_X7_101 : decode cX7_init 101 = .ok (.putfield 46, 3) := by decide +kernel
theorem di_X7_104 : decode cX7_init 104 = .ok (.aload_n 0, 1) := by decide +kernel
theorem di_X7_105 : decode cX7_init 105 = .ok (.bipush 8, 2) := by decide +kernel
theorem di_X7_107 : decode cX7_init 107 = .ok (.newarray .int, 2) := by decide +kernel
theorem di_X7_109 : decode cX7_init 109 = .ok (.putfield 49, 3) := by decide +kernel
theorem di_X7_112 : decode cX7_init 112 = .ok (.aload_n 0, 1) := by decide +kernel
theorem di_X7_113 : decode cX7_init 113 = .ok (.bipush 52, 2) := by decide +kernel
theorem di_X7_115 : decode cX7_init 115 = .ok (.newarray .byte, 2) := by decide +kernel
theorem di_X7_117 : decode cX7_init 117 = .ok (.putfield 52, 3) := by decide +kernel
theorem di_X7_120 : decode cX7_init 120 = .ok (.aload_n 0, 1) := by decide +kernel
theorem di_X7_121 : decode cX7_init 121 = .ok (.bipush 16, 2) := by decide +kernel
theorem di_X7_123 : decode cX7_init 123 = .ok (.newarray .int, 2) := by decide +kernel
theorem di_X7_125 : decode cX7_init 125 = .ok (.putfield 56, 3) := by decide +kernel
theorem di_X7_128 : decode cX7_init 128 = .ok (.aload_n 0, 1) := by decide +kernel
theorem di_X7_129 : decode cX7_init 129 = .ok (.bipush 64, 2) := by decide +kernel
theorem di_X7_131 : decode cX7_init 131 = .ok (.newarray .int, 2) := by decide +kernel
theorem di_X7_133 : decode cX7_init 133 = .ok (.putfield 59, 3) := by decide +kernel
theorem di_X7_136 : decode cX7_init 136 = .ok (.aload_n 0, 1) := by decide +kernel
theorem di_X7_137 : decode cX7_init 137 = .ok (.iconst 4, 1) := by decide +kernel
theorem di_X7_138 : decode cX7_init 138 = .ok (.newarray .int, 2) := by decide +kernel
theorem di_X7_140 : decode cX7_init 140 = .ok (.putfield 62, 3) := by decide +kernel
theorem di_X7_143 : decode cX7_init 143 = .ok (.aload_n 0, 1) := by decide +kernel
theorem di_X7_144 : decode cX7_init 144 = .ok (.iconst 4, 1) := by decide +kernel
theorem di_X7_145 : decode cX7_init 145 = .ok (.newarray .int, 2) := by decide +kernel
theorem di_X7_147 : decode cX7_init 147 = .ok (.putfield 65, 3) := by decide +kernel
theorem di_X7_150 : decode cX7_init 150 = .ok (.aload_n 0, 1) := by decide +kernel
theorem di_X7_151 : decode cX7_init 151 = .ok (.bipush 64, 2) := by decide +kernel
theorem di_X7_153 : decode cX7_init 153 = .ok (.newarray .int, 2) := by decide +kernel
theorem di_X7_155 : decode cX7_init 155 = .ok (.putfield 68, 3) := by decide +kernel
theorem di_X7_158 : decode cX7_init 158 = .ok (.aload_n 0, 1) := by decide +kernel
theorem di_X7_159 : decode cX7_init 159 = .ok (.iconst 4, 1) := by decide +kernel
theorem di_X7_160 : decode cX7_init 160 = .ok (.newarray .int, 2) := by decide +kernel
theorem di_X7_162 : decode cX7_init 162 = .ok (.putfield 71, 3) := by decide +kernel
theorem di_X7_165 : decode cX7_init 165 = .ok (.aload_n 0, 1) := by decide +kernel
theorem di_X7_166 : decode cX7_init 166 = .ok (.bipush 6, 2) := by decide +kernel
theorem di_X7_168 : decode cX7_init 168 = .ok (.newarray .int, 2) := by decide +kernel
theorem di_X7_170 : decode cX7_init 170 = .ok (.putfield 74, 3) := by decide +kernel
theorem di_X7_173 : decode cX7_init 173 = .ok (.aload_n 0, 1) := by decide +kernel
theorem di_X7_174 : decode cX7_init 174 = .ok (.bipush 6, 2) := by decide +kernel
theorem di_X7_176 : decode cX7_init 176 = .ok (.newarray .int, 2) := by decide +kernel
theorem di_X7_178 : decode cX7_init 178 = .ok (.putfield 77, 3) := by decide +kernel
theorem di_X7_181 : decode cX7_init 181 = .ok (.aload_n 0, 1) := by decide +kernel
theorem di_X7_182 : decode cX7_init 182 = .ok (.bipush 6, 2) := by decide +kernel
theorem di_X7_184 : decode cX7_init 184 = .ok (.newarray .int, 2) := by decide +kernel
theorem di_X7_186 : decode cX7_init 186 = .ok (.putfield 80, 3) := by decide +kernel
theorem di_X7_189 : decode cX7_init 189 = .ok (.aload_n 0, 1) := by decide +kernel
theorem di_X7_190 : decode cX7_init 190 = .ok (.bipush 6, 2) := by decide +kernel
theorem di_X7_192 : decode cX7_init 192 = .ok (.newarray .int, 2) := by decide +kernel
theorem di_X7_194 : decode cX7_init 194 = .ok (.putfield 83, 3) := by decide +kernel
theorem di_X7_197 : decode cX7_init 197 = .ok (.aload_n 0, 1) := by decide +kernel
theorem di_X7_198 : decode cX7_init 198 = .ok (.bipush 6, 2) := by decide +kernel
theorem di_X7_200 : decode cX7_init 200 = .ok (.newarray .int, 2) := by decide +kernel
theorem di_X7_202 : decode cX7_init 202 = .ok (.putfield 86, 3) := by decide +kernel
theorem di_X7_205 : decode cX7_init 205 = .ok (.aload_n 0, 1) := by decide +kernel
theorem di_X7_206 : decode cX7_init 206 = .ok (.bipush 6, 2) := by decide +kernel
theorem di_X7_208 : decode cX7_init 208 = .ok (.newarray .int, 2) := by decide +kernel
theorem di_X7_210 : decode cX7_init 210 = .ok (.putfield 89, 3) := by decide +kernel
theorem di_X7_213 : decode cX7_init 213 = .ok (.aload_n 0, 1) := by decide +kernel
theorem di_X7_214 : decode cX7_init 214 = .ok (.bipush 6, 2) := by decide +kernel
theorem di_X7_216 : decode cX7_init 216 = .ok (.newarray .int, 2) := by decide +kernel
theorem di_X7_218 : decode cX7_init 218 = .ok (.putfield 92, 3) := by decide +kernel
theorem di_X7_221 : decode cX7_init 221 = .ok (.aload_n 0, 1) := by decide +kernel
theorem di_X7_222 : decode cX7_init 222 = .ok (.bipush 6, 2) := by decide +kernel
theorem di_X7_224 : decode cX7_init 224 = .ok (.newarray .int, 2) := by decide +kernel
theorem di_X7_226 : decode cX7_init 226 = .ok (.putfield 95, 3) := by decide +kernel
theorem di_X7_229 : decode cX7_init 229 = .ok (.aload_n 0, 1) := by decide +kernel
theorem di_X7_230 : decode cX7_init 230 = .ok (.bipush 8, 2) := by decide +kernel
theorem di_X7_232 : decode cX7_init 232 = .ok (.newarray .int, 2) := by decide +kernel
theorem di_X7_234 : decode cX7_init 234 = .ok (.putfield 98, 3) := by decide +kernel
theorem di_X7_237 : decode cX7_init 237 = .ok (.aload_n 0, 1) := by decide +kernel
theorem di_X7_238 : decode cX7_init 238 = .ok (.bipush 8, 2) := by decide +kernel
theorem di_X7_240 : decode cX7_init 240 = .ok (.newarray .int, 2) := by decide +kernel
theorem di_X7_242 : decode cX7_init 242 = .ok (.putfield 101, 3) := by decide +kernel
theorem di_X7_245 : decode cX7_init 245 = .ok (.aload_n 0, 1) := by decide +kernel
theorem di_X7_246 : decode cX7_init 246 = .ok (.bipush 8, 2) := by decide +kernel
theorem di_X7_248 : decode cX7_init 248 = .ok (.newarray .int, 2) := by decide +kernel
theorem di_X7_250 : decode cX7_init 250 = .ok (.putfield 104, 3) := by decide +kernel
theorem di_X7_253 : decode cX7_init 253 = .ok (.return_, 1) := by decide +kernel
theorem go_7 : (.methodLink RX7 1 objectInit : Jvm.Cond) ∈ gt := okw_mem (pl := 883) (by decide +kernel)
theorem gl_7_7 : (.fieldLink "StockingLineModel" 7 "StockingLineModel" "kindOf" "[I" : Jvm.Cond) ∈ gt := okw_mem (pl := 887) (by decide +kernel)
theorem gl_7_13 : (.fieldLink "StockingLineModel" 13 "StockingLineModel" "calfOf" "[I" : Jvm.Cond) ∈ gt := okw_mem (pl := 888) (by decide +kernel)
theorem gl_7_16 : (.fieldLink "StockingLineModel" 16 "StockingLineModel" "starchOfKing" "[I" : Jvm.Cond) ∈ gt := okw_mem (pl := 889) (by decide +kernel)
theorem gl_7_19 : (.fieldLink "StockingLineModel" 19 "StockingLineModel" "knitterOfKing" "[I" : Jvm.Cond) ∈ gt := okw_mem (pl := 890) (by decide +kernel)
theorem gl_7_22 : (.fieldLink "StockingLineModel" 22 "StockingLineModel" "sizeOf" "[I" : Jvm.Cond) ∈ gt := okw_mem (pl := 891) (by decide +kernel)
theorem gl_7_25 : (.fieldLink "StockingLineModel" 25 "StockingLineModel" "starchOf" "[I" : Jvm.Cond) ∈ gt := okw_mem (pl := 892) (by decide +kernel)
theorem gl_7_28 : (.fieldLink "StockingLineModel" 28 "StockingLineModel" "knitterOf" "[I" : Jvm.Cond) ∈ gt := okw_mem (pl := 893) (by decide +kernel)
theorem gl_7_31 : (.fieldLink "StockingLineModel" 31 "StockingLineModel" "heelOf" "[I" : Jvm.Cond) ∈ gt := okw_mem (pl := 894) (by decide +kernel)
theorem gl_7_34 : (.fieldLink "StockingLineModel" 34 "StockingLineModel" "pegOf" "[I" : Jvm.Cond) ∈ gt := okw_mem (pl := 895) (by decide +kernel)
theorem gl_7_37 : (.fieldLink "StockingLineModel" 37 "StockingLineModel" "liesStocking" "[I" : Jvm.Cond) ∈ gt := okw_mem (pl := 899) (by decide +kernel)
theorem gl_7_40 : (.fieldLink "StockingLineModel" 40 "StockingLineModel" "liesPeg" "[I" : Jvm.Cond) ∈ gt := okw_mem (pl := 900) (by decide +kernel)
theorem gl_7_43 : (.fieldLink "StockingLineModel" 43 "StockingLineModel" "triedKing" "[I" : Jvm.Cond) ∈ gt := okw_mem (pl := 902) (by decide +kernel)
theorem gl_7_46 : (.fieldLink "StockingLineModel" 46 "StockingLineModel" "triedStocking" "[I" : Jvm.Cond) ∈ gt := okw_mem (pl := 903) (by decide +kernel)
theorem gl_7_49 : (.fieldLink "StockingLineModel" 49 "StockingLineModel" "triedMay" "[I" : Jvm.Cond) ∈ gt := okw_mem (pl := 904) (by decide +kernel)
theorem gl_7_52 : (.fieldLink "StockingLineModel" 52 "StockingLineModel" "page" "[B" : Jvm.Cond) ∈ gt := okw_mem (pl := 907) (by decide +kernel)
theorem gl_7_56 : (.fieldLink "StockingLineModel" 56 "StockingLineModel" "pairAt" "[I" : Jvm.Cond) ∈ gt := okw_mem (pl := 911) (by decide +kernel)
theorem gl_7_59 : (.fieldLink "StockingLineModel" 59 "StockingLineModel" "wrongBy" "[I" : Jvm.Cond) ∈ gt := okw_mem (pl := 912) (by decide +kernel)
theorem gl_7_62 : (.fieldLink "StockingLineModel" 62 "StockingLineModel" "row" "[I" : Jvm.Cond) ∈ gt := okw_mem (pl := 916) (by decide +kernel)
theorem gl_7_65 : (.fieldLink "StockingLineModel" 65 "StockingLineModel" "bestRow" "[I" : Jvm.Cond) ∈ gt := okw_mem (pl := 917) (by decide +kernel)
theorem gl_7_68 : (.fieldLink "StockingLineModel" 68 "StockingLineModel" "triesBy" "[I" : Jvm.Cond) ∈ gt := okw_mem (pl := 918) (by decide +kernel)
theorem gl_7_71 : (.fieldLink "StockingLineModel" 71 "StockingLineModel" "mayOf" "[I" : Jvm.Cond) ∈ gt := okw_mem (pl := 919) (by decide +kernel)
theorem gl_7_74 : (.fieldLink "StockingLineModel" 74 "StockingLineModel" "savedPeg" "[I" : Jvm.Cond) ∈ gt := okw_mem (pl := 920) (by decide +kernel)
theorem gl_7_77 : (.fieldLink "StockingLineModel" 77 "StockingLineModel" "savedSize" "[I" : Jvm.Cond) ∈ gt := okw_mem (pl := 922) (by decide +kernel)
theorem gl_7_80 : (.fieldLink "StockingLineModel" 80 "StockingLineModel" "keptSize" "[I" : Jvm.Cond) ∈ gt := okw_mem (pl := 929) (by decide +kernel)
theorem gl_7_83 : (.fieldLink "StockingLineModel" 83 "StockingLineModel" "keptStarch" "[I" : Jvm.Cond) ∈ gt := okw_mem (pl := 930) (by decide +kernel)
theorem gl_7_86 : (.fieldLink "StockingLineModel" 86 "StockingLineModel" "keptHeel" "[I" : Jvm.Cond) ∈ gt := okw_mem (pl := 931) (by decide +kernel)
theorem gl_7_89 : (.fieldLink "StockingLineModel" 89 "StockingLineModel" "keptPeg" "[I" : Jvm.Cond) ∈ gt := okw_mem (pl := 932) (by decide +kernel)
theorem gl_7_92 : (.fieldLink "StockingLineModel" 92 "StockingLineModel" "keptLiesStocking" "[I" : Jvm.Cond) ∈ gt := okw_mem (pl := 933) (by decide +kernel)
theorem gl_7_95 : (.fieldLink "StockingLineModel" 95 "StockingLineModel" "keptLiesPeg" "[I" : Jvm.Cond) ∈ gt := okw_mem (pl := 934) (by decide +kernel)
theorem gl_7_98 : (.fieldLink "StockingLineModel" 98 "StockingLineModel" "keptKing" "[I" : Jvm.Cond) ∈ gt := okw_mem (pl := 935) (by decide +kernel)
theorem gl_7_101 : (.fieldLink "StockingLineModel" 101 "StockingLineModel" "keptStocking" "[I" : Jvm.Cond) ∈ gt := okw_mem (pl := 936) (by decide +kernel)
theorem gl_7_104 : (.fieldLink "StockingLineModel" 104 "StockingLineModel" "keptMay" "[I" : Jvm.Cond) ∈ gt := okw_mem (pl := 937) (by decide +kernel)
set_option maxHeartbeats 4000000 in
set_option maxRecDepth 100000 in
theorem ci_X7 (l : Launch) (D : va_G) (ad cy : Nat → Nat) (h0 sz : Nat) : Met l yX7_init (.code yX7_init cX7_init 1 none :: gt) (iR 32 362) (va_Pc [.ref h0] (fun U => U.heap.size = sz ∧ va_P D vwCl [(h0, .inr (7, [.int 0, .int 0, .int 0, .null, .null, .null, .null, .null, .null, .null, .null, .null, .int 0, .int 0, .int 0, .null, .null, .int 0, .null, .null, .null, .int 0, .int 0, .null, .int 0, .int 0, .int 0, .null, .null, .int 0, .int 0, .int 0, .null, .null, .null, .null, .null, .long 0, .null, .int 0, .int 0, .int 0, .int 0, .int 0, .int 0, .null, .null, .null, .null, .null, .null, .null, .null, .null, .long 0]))] U.heap ∧ va_K D vwCl (tyL cy) U ∧ SF ad (aI h0 sz) U U.heap ∧ NW U ∧ vk_R "StockingLine$Page" 30 "klybr" (ad 110) U)) (va_Qv (fun u : List Nat => u.length = 32) (fun u t => va_P D vwCl (bw7 cy h0 u) t.heap ∧ va_D (aI h0 sz) (bw7 cy h0 u)) (aI h0 sz)) 32 362 (aI h0 sz) := by
  refine Met.ofW (cc := cX7_init) (maxL := 1) (ret := none) (by decide +kernel) rfl ?_
  intro p e s m args below meth c s₁ B hml hv
  obtain ⟨rfl, hsz, hP, hK, hSF, hNW, hvR⟩ := hv
  subst hsz
  have hx := B.exec
  have hb := B.bytes
  have hr := B.returns
  have hts0 := atoms_spec (ws := .code yX7_init cX7_init 1 none :: gt) B.pre
  have hts : ∀ w ∈ gt, w.before [Value.ref h0].toArray s = true := fun w hw => hts0 w (List.mem_cons_of_mem _ hw)
  have hown : s.vm.findClass RX7 = some m.cls := findClass_of_methodNamed B.named
  have hlocks := B.notSynchronized
  have hin : meth.name = "<init>" := (name_of_methodNamed B.named B.method).1
  have hA : ∀ q : Nat, s.heap.size ≤ q → aI h0 s.heap.size q := fun q h => Or.inr h
  have hD : va_D (aI h0 s.heap.size) [(h0, .inr (7, [.int 0, .int 0, .int 0, .null, .null, .null, .null, .null, .null, .null, .null, .null, .int 0, .int 0, .int 0, .null, .null, .int 0, .null, .null, .null, .int 0, .int 0, .null, .int 0, .int 0, .int 0, .null, .null, .int 0, .int 0, .int 0, .null, .null, .null, .null, .null, .long 0, .null, .int 0, .int 0, .int 0, .int 0, .int 0, .int 0, .null, .null, .null, .null, .null, .null, .null, .null, .null, .long 0]))] := va_D1 (Or.inl rfl)
  have hS : va_S (aI h0 s.heap.size) s.heap s.heap [] := va_S.rf
  have hl := lv_entry ([.ref h0]) (n := 1) (Nat.le_of_ble_eq_true rfl)
  rw [lg_entry_eq]
  generalize (lg_sl ([.ref h0]) ++ List.replicate (1 - (lg_sl ([.ref h0])).length) Slot.unset).toArray = ls at hl ⊢
  have hl : lv_has ls 1 [(0, .ref h0)] := hl
  refine lv_aload_n hx hb di_X7_0 rfl (lv_at hl 0 rfl) ?_
  refine W.objInit hx hb hown (hts _ go_7) (hts _ gw_oin) (hts _ gw_oco) rfl (by rw [hml]; exact hl.1) rfl di_X7_1 (Nat.le_of_ble_eq_true rfl) (Nat.le_of_ble_eq_true rfl) ?_
  refine W.eq (g2 := F0 m 4 ls []) rfl ?_
  refine lv_aload_n hx hb di_X7_4 rfl (lv_at hl 0 rfl) ?_
  refine lv_iconst (v := nI 4) hx hb di_X7_5 (by decide +kernel) ?_
  refine ini_arr (r := (RX7, TX7, 55)) (ci := 7) (f := 3) (idx := 7) (n := 4) (k := 0) hx hb hown hts hin hK hA rfl hP hD hS rfl (by decide) (Nat.le_of_ble_eq_true rfl) (Nat.le_of_ble_eq_true rfl) rfl rfl (by decide +kernel) gw_ac0 gl_7_7 (Nat.le_of_ble_eq_true rfl) (Nat.le_of_ble_eq_true rfl) (Nat.le_of_ble_eq_true rfl) di_X7_6 di_X7_8 (fun q1 H locs hP hD hS => ?_)
  have hP : va_P D vwCl [(h0, .inr (7, [.int 0, .int 0, .int 0, .ref q1, .null, .null, .null, .null, .null, .null, .null, .null, .int 0, .int 0, .int 0, .null, .null, .int 0, .null, .null, .null, .int 0, .int 0, .null, .int 0, .int 0, .int 0, .null, .null, .int 0, .int 0, .int 0, .null, .null, .null, .null, .null, .long 0, .null, .int 0, .int 0, .int 0, .int 0, .int 0, .int 0, .null, .null, .null, .null, .null, .null, .null, .null, .null, .long 0])), (q1, .inl (cy 0, 4, .inl zI))] H := hP
  have hD : va_D (aI h0 s.heap.size) [(h0, .inr (7, [.int 0, .int 0, .int 0, .ref q1, .null, .null, .null, .null, .null, .null, .null, .null, .int 0, .int 0, .int 0, .null, .null, .int 0, .null, .null, .null, .int 0, .int 0, .null, .int 0, .int 0, .int 0, .null, .null, .int 0, .int 0, .int 0, .null, .null, .null, .null, .null, .long 0, .null, .int 0, .int 0, .int 0, .int 0, .int 0, .int 0, .null, .null, .null, .null, .null, .null, .null, .null, .null, .long 0])), (q1, .inl (cy 0, 4, .inl zI))] := hD
  refine W.widen (k := 1) (n := 4) (Nat.le_of_ble_eq_true rfl) (Nat.le_of_ble_eq_true rfl) ?_
  refine lv_aload_n hx hb di_X7_11 rfl (lv_at hl 0 rfl) ?_
  refine lv_iconst (v := nI 4) hx hb di_X7_12 (by decide +kernel) ?_
  refine ini_arr (r := (RX7, TX7, 55)) (ci := 7) (f := 4) (idx := 13) (n := 4) (k := 0) hx hb hown hts hin hK hA rfl hP hD hS rfl (by decide) (Nat.le_of_ble_eq_true rfl) (Nat.le_of_ble_eq_true rfl) rfl rfl (by decide +kernel) gw_ac0 gl_7_13 (Nat.le_of_ble_eq_true rfl) (Nat.le_of_ble_eq_true rfl) (Nat.le_of_ble_eq_true rfl) di_X7_13 di_X7_15 (fun q2 H locs hP hD hS => ?_)
  have hP : va_P D vwCl [(h0, .inr (7, [.int 0, .int 0, .int 0, .ref q1, .ref q2, .null, .null, .null, .null, .null, .null, .null, .int 0, .int 0, .int 0, .null, .null, .int 0, .null, .null, .null, .int 0, .int 0, .null, .int 0, .int 0, .int 0, .null, .null, .int 0, .int 0, .int 0, .null, .null, .null, .null, .null, .long 0, .null, .int 0, .int 0, .int 0, .int 0, .int 0, .int 0, .null, .null, .null, .null, .null, .null, .null, .null, .null, .long 0])), (q1, .inl (cy 0, 4, .inl zI)), (q2, .inl (cy 0, 4, .inl zI))] H := hP
  have hD : va_D (aI h0 s.heap.size) [(h0, .inr (7, [.int 0, .int 0, .int 0, .ref q1, .ref q2, .null, .null, .null, .null, .null, .null, .null, .int 0, .int 0, .int 0, .null, .null, .int 0, .null, .null, .null, .int 0, .int 0, .null, .int 0, .int 0, .int 0, .null, .null, .int 0, .int 0, .int 0, .null, .null, .null, .null, .null, .long 0, .null, .int 0, .int 0, .int 0, .int 0, .int 0, .int 0, .null, .null, .null, .null, .null, .null, .null, .null, .null, .long 0])), (q1, .inl (cy 0, 4, .inl zI)), (q2, .inl (cy 0, 4, .inl zI))] := hD
  refine W.widen (k := 2) (n := 8) (Nat.le_of_ble_eq_true rfl) (Nat.le_of_ble_eq_true rfl) ?_
  refine lv_aload_n hx hb di_X7_18 rfl (lv_at hl 0 rfl) ?_
  refine lv_iconst (v := nI 4) hx hb di_X7_19 (by decide +kernel) ?_
  refine ini_arr (r := (RX7, TX7, 55)) (ci := 7) (f := 5) (idx := 16) (n := 4) (k := 0) hx hb hown hts hin hK hA rfl hP hD hS rfl (by decide) (Nat.le_of_ble_eq_true rfl) (Nat.le_of_ble_eq_true rfl) rfl rfl (by decide +kernel) gw_ac0 gl_7_16 (Nat.le_of_ble_eq_true rfl) (Nat.le_of_ble_eq_true rfl) (Nat.le_of_ble_eq_true rfl) di_X7_20 di_X7_22 (fun q3 H locs hP hD hS => ?_)
  have hP : va_P D vwCl [(h0, .inr (7, [.int 0, .int 0, .int 0, .ref q1, .ref q2, .ref q3, .null, .null, .null, .null, .null, .null, .int 0, .int 0, .int 0, .null, .null, .int 0, .null, .null, .null, .int 0, .int 0, .null, .int 0, .int 0, .int 0, .null, .null, .int 0, .int 0, .int 0, .null, .null, .null, .null, .null, .long 0, .null, .int 0, .int 0, .int 0, .int 0, .int 0, .int 0, .null, .null, .null, .null, .null, .null, .null, .null, .null, .long 0])), (q1, .inl (cy 0, 4, .inl zI)), (q2, .inl (cy 0, 4, .inl zI)), (q3, .inl (cy 0, 4, .inl zI))] H := hP
  have hD : va_D (aI h0 s.heap.size) [(h0, .inr (7, [.int 0, .int 0, .int 0, .ref q1, .ref q2, .ref q3, .null, .null, .null, .null, .null, .null, .int 0, .int 0, .int 0, .null, .null, .int 0, .null, .null, .null, .int 0, .int 0, .null, .int 0, .int 0, .int 0, .null, .null, .int 0, .int 0, .int 0, .null, .null, .null, .null, .null, .long 0, .null, .int 0, .int 0, .int 0, .int 0, .int 0, .int 0, .null, .null, .null, .null, .null, .null, .null, .null, .null, .long 0])), (q1, .inl (cy 0, 4, .inl zI)), (q2, .inl (cy 0, 4, .inl zI)), (q3, .inl (cy 0, 4, .inl zI))] := hD
  refine W.widen (k := 3) (n := 12) (Nat.le_of_ble_eq_true rfl) (Nat.le_of_ble_eq_true rfl) ?_
  refine lv_aload_n hx hb di_X7_25 rfl (lv_at hl 0 rfl) ?_
  refine lv_iconst (v := nI 4) hx hb di_X7_26 (by decide +kernel) ?_
  refine ini_arr (r := (RX7, TX7, 55)) (ci := 7) (f := 6) (idx := 19) (n := 4) (k := 0) hx hb hown hts hin hK hA rfl hP hD hS rfl (by decide) (Nat.le_of_ble_eq_true rfl) (Nat.le_of_ble_eq_true rfl) rfl rfl (by decide +kernel) gw_ac0 gl_7_19 (Nat.le_of_ble_eq_true rfl) (Nat.le_of_ble_eq_true rfl) (Nat.le_of_ble_eq_true rfl) di_X7_27 di_X7_29 (fun q4 H locs hP hD hS => ?_)
  have hP : va_P D vwCl [(h0, .inr (7, [.int 0, .int 0, .int 0, .ref q1, .ref q2, .ref q3, .ref q4, .null, .null, .null, .null, .null, .int 0, .int 0, .int 0, .null, .null, .int 0, .null, .null, .null, .int 0, .int 0, .null, .int 0, .int 0, .int 0, .null, .null, .int 0, .int 0, .int 0, .null, .null, .null, .null, .null, .long 0, .null, .int 0, .int 0, .int 0, .int 0, .int 0, .int 0, .null, .null, .null, .null, .null, .null, .null, .null, .null, .long 0])), (q1, .inl (cy 0, 4, .inl zI)), (q2, .inl (cy 0, 4, .inl zI)), (q3, .inl (cy 0, 4, .inl zI)), (q4, .inl (cy 0, 4, .inl zI))] H := hP
  have hD : va_D (aI h0 s.heap.size) [(h0, .inr (7, [.int 0, .int 0, .int 0, .ref q1, .ref q2, .ref q3, .ref q4, .null, .null, .null, .null, .null, .int 0, .int 0, .int 0, .null, .null, .int 0, .null, .null, .null, .int 0, .int 0, .null, .int 0, .int 0, .int 0, .null, .null, .int 0, .int 0, .int 0, .null, .null, .null, .null, .null, .long 0, .null, .int 0, .int 0, .int 0, .int 0, .int 0, .int 0, .null, .null, .null, .null, .null, .null, .null, .null, .null, .long 0])), (q1, .inl (cy 0, 4, .inl zI)), (q2, .inl (cy 0, 4, .inl zI)), (q3, .inl (cy 0, 4, .inl zI)), (q4, .inl (cy 0, 4, .inl zI))] := hD
  refine W.widen (k := 4) (n := 16) (Nat.le_of_ble_eq_true rfl) (Nat.le_of_ble_eq_true rfl) ?_
  refine lv_aload_n hx hb di_X7_32 rfl (lv_at hl 0 rfl) ?_
  refine lv_bipush (v := nI 6) hx hb di_X7_33 (by decide +kernel) ?_
  refine ini_arr (r := (RX7, TX7, 55)) (ci := 7) (f := 7) (idx := 22) (n := 6) (k := 0) hx hb hown hts hin hK hA rfl hP hD hS rfl (by decide) (Nat.le_of_ble_eq_true rfl) (Nat.le_of_ble_eq_true rfl) rfl rfl (by decide +kernel) gw_ac0 gl_7_22 (Nat.le_of_ble_eq_true rfl) (Nat.le_of_ble_eq_true rfl) (Nat.le_of_ble_eq_true rfl) di_X7_35 di_X7_37 (fun q5 H locs hP hD hS => ?_)
  have hP : va_P D vwCl [(h0, .inr (7, [.int 0, .int 0, .int 0, .ref q1, .ref q2, .ref q3, .ref q4, .ref q5, .null, .null, .null, .null, .int 0, .int 0, .int 0, .null, .null, .int 0, .null, .null, .null, .int 0, .int 0, .null, .int 0, .int 0, .int 0, .null, .null, .int 0, .int 0, .int 0, .null, .null, .null, .null, .null, .long 0, .null, .int 0, .int 0, .int 0, .int 0, .int 0, .int 0, .null, .null, .null, .null, .null, .null, .null, .null, .null, .long 0])), (q1, .inl (cy 0, 4, .inl zI)), (q2, .inl (cy 0, 4, .inl zI)), (q3, .inl (cy 0, 4, .inl zI)), (q4, .inl (cy 0, 4, .inl zI)), (q5, .inl (cy 0, 6, .inl zI))] H := hP
  have hD : va_D (aI h0 s.heap.size) [(h0, .inr (7, [.int 0, .int 0, .int 0, .ref q1, .ref q2, .ref q3, .ref q4, .ref q5, .null, .null, .null, .null, .int 0, .int 0, .int 0, .null, .null, .int 0, .null, .null, .null, .int 0, .int 0, .null, .int 0, .int 0, .int 0, .null, .null, .int 0, .int 0, .int 0, .null, .null, .null, .null, .null, .long 0, .null, .int 0, .int 0, .int 0, .int 0, .int 0, .int 0, .null, .null, .null, .null, .null, .null, .null, .null, .null, .long 0])), (q1, .inl (cy 0, 4, .inl zI)), (q2, .inl (cy 0, 4, .inl zI)), (q3, .inl (cy 0, 4, .inl zI)), (q4, .inl (cy 0, 4, .inl zI)), (q5, .inl (cy 0, 6, .inl zI))] := hD
  refine W.widen (k := 5) (n := 22) (Nat.le_of_ble_eq_true rfl) (Nat.le_of_ble_eq_true rfl) ?_
  refine lv_aload_n hx hb di_X7_40 rfl (lv_at hl 0 rfl) ?_
  refine lv_bipush (v := nI 6) hx hb di_X7_41 (by decide +kernel) ?_
  refine ini_arr (r := (RX7, TX7, 55)) (ci := 7) (f := 8) (idx := 25) (n := 6) (k := 0) hx hb hown hts hin hK hA rfl hP hD hS rfl (by decide) (Nat.le_of_ble_eq_true rfl) (Nat.le_of_ble_eq_true rfl) rfl rfl (by decide +kernel) gw_ac0 gl_7_25 (Nat.le_of_ble_eq_true rfl) (Nat.le_of_ble_eq_true rfl) (Nat.le_of_ble_eq_true rfl) di_X7_43 di_X7_45 (fun q6 H locs hP hD hS => ?_)
  have hP : va_P D vwCl [(h0, .inr (7, [.int 0, .int 0, .int 0, .ref q1, .ref q2, .ref q3, .ref q4, .ref q5, .ref q6, .null, .null, .null, .int 0, .int 0, .int 0, .null, .null, .int 0, .null, .null, .null, .int 0, .int 0, .null, .int 0, .int 0, .int 0, .null, .null, .int 0, .int 0, .int 0, .null, .null, .null, .null, .null, .long 0, .null, .int 0, .int 0, .int 0, .int 0, .int 0, .int 0, .null, .null, .null, .null, .null, .null, .null, .null, .null, .long 0])), (q1, .inl (cy 0, 4, .inl zI)), (q2, .inl (cy 0, 4, .inl zI)), (q3, .inl (cy 0, 4, .inl zI)), (q4, .inl (cy 0, 4, .inl zI)), (q5, .inl (cy 0, 6, .inl zI)), (q6, .inl (cy 0, 6, .inl zI))] H := hP
  have hD : va_D (aI h0 s.heap.size) [(h0, .inr (7, [.int 0, .int 0, .int 0, .ref q1, .ref q2, .ref q3, .ref q4, .ref q5, .ref q6, .null, .null, .null, .int 0, .int 0, .int 0, .null, .null, .int 0, .null, .null, .null, .int 0, .int 0, .null, .int 0, .int 0, .int 0, .null, .null, .int 0, .int 0, .int 0, .null, .null, .null, .null, .null, .long 0, .null, .int 0, .int 0, .int 0, .int 0, .int 0, .int 0, .null, .null, .null, .null, .null, .null, .null, .null, .null, .long 0])), (q1, .inl (cy 0, 4, .inl zI)), (q2, .inl (cy 0, 4, .inl zI)), (q3, .inl (cy 0, 4, .inl zI)), (q4, .inl (cy 0, 4, .inl zI)), (q5, .inl (cy 0, 6, .inl zI)), (q6, .inl (cy 0, 6, .inl zI))] := hD
  refine W.widen (k := 6) (n := 28) (Nat.le_of_ble_eq_true rfl) (Nat.le_of_ble_eq_true rfl) ?_
  refine lv_aload_n hx hb di_X7_48 rfl (lv_at hl 0 rfl) ?_
  refine lv_bipush (v := nI 6) hx hb di_X7_49 (by decide +kernel) ?_
  refine ini_arr (r := (RX7, TX7, 55)) (ci := 7) (f := 9) (idx := 28) (n := 6) (k := 0) hx hb hown hts hin hK hA rfl hP hD hS rfl (by decide) (Nat.le_of_ble_eq_true rfl) (Nat.le_of_ble_eq_true rfl) rfl rfl (by decide +kernel) gw_ac0 gl_7_28 (Nat.le_of_ble_eq_true rfl) (Nat.le_of_ble_eq_true rfl) (Nat.le_of_ble_eq_true rfl) di_X7_51 di_X7_53 (fun q7 H locs hP hD hS => ?_)
  have hP : va_P D vwCl [(h0, .inr (7, [.int 0, .int 0, .int 0, .ref q1, .ref q2, .ref q3, .ref q4, .ref q5, .ref q6, .ref q7, .null, .null, .int 0, .int 0, .int 0, .null, .null, .int 0, .null, .null, .null, .int 0, .int 0, .null, .int 0, .int 0, .int 0, .null, .null, .int 0, .int 0, .int 0, .null, .null, .null, .null, .null, .long 0, .null, .int 0, .int 0, .int 0, .int 0, .int 0, .int 0, .null, .null, .null, .null, .null, .null, .null, .null, .null, .long 0])), (q1, .inl (cy 0, 4, .inl zI)), (q2, .inl (cy 0, 4, .inl zI)), (q3, .inl (cy 0, 4, .inl zI)), (q4, .inl (cy 0, 4, .inl zI)), (q5, .inl (cy 0, 6, .inl zI)), (q6, .inl (cy 0, 6, .inl zI)), (q7, .inl (cy 0, 6, .inl zI))] H := hP
  have hD : va_D (aI h0 s.heap.size) [(h0, .inr (7, [.int 0, .int 0, .int 0, .ref q1, .ref q2, .ref q3, .ref q4, .ref q5, .ref q6, .ref q7, .null, .null, .int 0, .int 0, .int 0, .null, .null, .int 0, .null, .null, .null, .int 0, .int 0, .null, .int 0, .int 0, .int 0, .null, .null, .int 0, .int 0, .int 0, .null, .null, .null, .null, .null, .long 0, .null, .int 0, .int 0, .int 0, .int 0, .int 0, .int 0, .null, .null, .null, .null, .null, .null, .null, .null, .null, .long 0])), (q1, .inl (cy 0, 4, .inl zI)), (q2, .inl (cy 0, 4, .inl zI)), (q3, .inl (cy 0, 4, .inl zI)), (q4, .inl (cy 0, 4, .inl zI)), (q5, .inl (cy 0, 6, .inl zI)), (q6, .inl (cy 0, 6, .inl zI)), (q7, .inl (cy 0, 6, .inl zI))] := hD
  refine W.widen (k := 7) (n := 34) (Nat.le_of_ble_eq_true rfl) (Nat.le_of_ble_eq_true rfl) ?_
  refine lv_aload_n hx hb di_X7_56 rfl (lv_at hl 0 rfl) ?_
  refine lv_bipush (v := nI 6) hx hb di_X7_57 (by decide +kernel) ?_
  refine ini_arr (r := (RX7, TX7, 55)) (ci := 7) (f := 10) (idx := 31) (n := 6) (k := 0) hx hb hown hts hin hK hA rfl hP hD hS rfl (by decide) (Nat.le_of_ble_eq_true rfl) (Nat.le_of_ble_eq_true rfl) rfl rfl (by decide +kernel) gw_ac0 gl_7_31 (Nat.le_of_ble_eq_true rfl) (Nat.le_of_ble_eq_true rfl) (Nat.le_of_ble_eq_true rfl) di_X7_59 di_X7_61 (fun q8 H locs hP hD hS => ?_)
  have hP : va_P D vwCl [(h0, .inr (7, [.int 0, .int 0, .int 0, .ref q1, .ref q2, .ref q3, .ref q4, .ref q5, .ref q6, .ref q7, .ref q8, .null, .int 0, .int 0, .int 0, .null, .null, .int 0, .null, .null, .null, .int 0, .int 0, .null, .int 0, .int 0, .int 0, .null, .null, .int 0, .int 0, .int 0, .null, .null, .null, .null, .null, .long 0, .null, .int 0, .int 0, .int 0, .int 0, .int 0, .int 0, .null, .null, .null, .null, .null, .null, .null, .null, .null, .long 0])), (q1, .inl (cy 0, 4, .inl zI)), (q2, .inl (cy 0, 4, .inl zI)), (q3, .inl (cy 0, 4, .inl zI)), (q4, .inl (cy 0, 4, .inl zI)), (q5, .inl (cy 0, 6, .inl zI)), (q6, .inl (cy 0, 6, .inl zI)), (q7, .inl (cy 0, 6, .inl zI)), (q8, .inl (cy 0, 6, .inl zI))] H := hP
  have hD : va_D (aI h0 s.heap.size) [(h0, .inr (7, [.int 0, .int 0, .int 0, .ref q1, .ref q2, .ref q3, .ref q4, .ref q5, .ref q6, .ref q7, .ref q8, .null, .int 0, .int 0, .int 0, .null, .null, .int 0, .null, .null, .null, .int 0, .int 0, .null, .int 0, .int 0, .int 0, .null, .null, .int 0, .int 0, .int 0, .null, .null, .null, .null, .null, .long 0, .null, .int 0, .int 0, .int 0, .int 0, .int 0, .int 0, .null, .null, .null, .null, .null, .null, .null, .null, .null, .long 0])), (q1, .inl (cy 0, 4, .inl zI)), (q2, .inl (cy 0, 4, .inl zI)), (q3, .inl (cy 0, 4, .inl zI)), (q4, .inl (cy 0, 4, .inl zI)), (q5, .inl (cy 0, 6, .inl zI)), (q6, .inl (cy 0, 6, .inl zI)), (q7, .inl (cy 0, 6, .inl zI)), (q8, .inl (cy 0, 6, .inl zI))] := hD
  refine W.widen (k := 8) (n := 40) (Nat.le_of_ble_eq_true rfl) (Nat.le_of_ble_eq_true rfl) ?_
  refine lv_aload_n hx hb di_X7_64 rfl (lv_at hl 0 rfl) ?_
  refine lv_bipush (v := nI 6) hx hb di_X7_65 (by decide +kernel) ?_
  refine ini_arr (r := (RX7, TX7, 55)) (ci := 7) (f := 11) (idx := 34) (n := 6) (k := 0) hx hb hown hts hin hK hA rfl hP hD hS rfl (by decide) (Nat.le_of_ble_eq_true rfl) (Nat.le_of_ble_eq_true rfl) rfl rfl (by decide +kernel) gw_ac0 gl_7_34 (Nat.le_of_ble_eq_true rfl) (Nat.le_of_ble_eq_true rfl) (Nat.le_of_ble_eq_true rfl) di_X7_67 di_X7_69 (fun q9 H locs hP hD hS => ?_)
  have hP : va_P D vwCl [(h0, .inr (7, [.int 0, .int 0, .int 0, .ref q1, .ref q2, .ref q3, .ref q4, .ref q5, .ref q6, .ref q7, .ref q8, .ref q9, .int 0, .int 0, .int 0, .null, .null, .int 0, .null, .null, .null, .int 0, .int 0, .null, .int 0, .int 0, .int 0, .null, .null, .int 0, .int 0, .int 0, .null, .null, .null, .null, .null, .long 0, .null, .int 0, .int 0, .int 0, .int 0, .int 0, .int 0, .null, .null, .null, .null, .null, .null, .null, .null, .null, .long 0])), (q1, .inl (cy 0, 4, .inl zI)), (q2, .inl (cy 0, 4, .inl zI)), (q3, .inl (cy 0, 4, .inl zI)), (q4, .inl (cy 0, 4, .inl zI)), (q5, .inl (cy 0, 6, .inl zI)), (q6, .inl (cy 0, 6, .inl zI)), (q7, .inl (cy 0, 6, .inl zI)), (q8, .inl (cy 0, 6, .inl zI)), (q9, .inl (cy 0, 6, .inl zI))] H := hP
  have hD : va_D (aI h0 s.heap.size) [(h0, .inr (7, [.int 0, .int 0, .int 0, .ref q1, .ref q2, .ref q3, .ref q4, .ref q5, .ref q6, .ref q7, .ref q8, .ref q9, .int 0, .int 0, .int 0, .null, .null, .int 0, .null, .null, .null, .int 0, .int 0, .null, .int 0, .int 0, .int 0, .null, .null, .int 0, .int 0, .int 0, .null, .null, .null, .null, .null, .long 0, .null, .int 0, .int 0, .int 0, .int 0, .int 0, .int 0, .null, .null, .null, .null, .null, .null, .null, .null, .null, .long 0])), (q1, .inl (cy 0, 4, .inl zI)), (q2, .inl (cy 0, 4, .inl zI)), (q3, .inl (cy 0, 4, .inl zI)), (q4, .inl (cy 0, 4, .inl zI)), (q5, .inl (cy 0, 6, .inl zI)), (q6, .inl (cy 0, 6, .inl zI)), (q7, .inl (cy 0, 6, .inl zI)), (q8, .inl (cy 0, 6, .inl zI)), (q9, .inl (cy 0, 6, .inl zI))] := hD
  refine W.widen (k := 9) (n := 46) (Nat.le_of_ble_eq_true rfl) (Nat.le_of_ble_eq_true rfl) ?_
  refine lv_aload_n hx hb di_X7_72 rfl (lv_at hl 0 rfl) ?_
  refine lv_bipush (v := nI 6) hx hb di_X7_73 (by decide +kernel) ?_
  refine ini_arr (r := (RX7, TX7, 55)) (ci := 7) (f := 15) (idx := 37) (n := 6) (k := 0) hx hb hown hts hin hK hA rfl hP hD hS rfl (by decide) (Nat.le_of_ble_eq_true rfl) (Nat.le_of_ble_eq_true rfl) rfl rfl (by decide +kernel) gw_ac0 gl_7_37 (Nat.le_of_ble_eq_true rfl) (Nat.le_of_ble_eq_true rfl) (Nat.le_of_ble_eq_true rfl) di_X7_75 di_X7_77 (fun q10 H locs hP hD hS => ?_)
  have hP : va_P D vwCl [(h0, .inr (7, [.int 0, .int 0, .int 0, .ref q1, .ref q2, .ref q3, .ref q4, .ref q5, .ref q6, .ref q7, .ref q8, .ref q9, .int 0, .int 0, .int 0, .ref q10, .null, .int 0, .null, .null, .null, .int 0, .int 0, .null, .int 0, .int 0, .int 0, .null, .null, .int 0, .int 0, .int 0, .null, .null, .null, .null, .null, .long 0, .null, .int 0, .int 0, .int 0, .int 0, .int 0, .int 0, .null, .null, .null, .null, .null, .null, .null, .null, .null, .long 0])), (q1, .inl (cy 0, 4, .inl zI)), (q2, .inl (cy 0, 4, .inl zI)), (q3, .inl (cy 0, 4, .inl zI)), (q4, .inl (cy 0, 4, .inl zI)), (q5, .inl (cy 0, 6, .inl zI)), (q6, .inl (cy 0, 6, .inl zI)), (q7, .inl (cy 0, 6, .inl zI)), (q8, .inl (cy 0, 6, .inl zI)), (q9, .inl (cy 0, 6, .inl zI)), (q10, .inl (cy 0, 6, .inl zI))] H := hP
  have hD : va_D (aI h0 s.heap.size) [(h0, .inr (7, [.int 0, .int 0, .int 0, .ref q1, .ref q2, .ref q3, .ref q4, .ref q5, .ref q6, .ref q7, .ref q8, .ref q9, .int 0, .int 0, .int 0, .ref q10, .null, .int 0, .null, .null, .null, .int 0, .int 0, .null, .int 0, .int 0, .int 0, .null, .null, .int 0, .int 0, .int 0, .null, .null, .null, .null, .null, .long 0, .null, .int 0, .int 0, .int 0, .int 0, .int 0, .int 0, .null, .null, .null, .null, .null, .null, .null, .null, .null, .long 0])), (q1, .inl (cy 0, 4, .inl zI)), (q2, .inl (cy 0, 4, .inl zI)), (q3, .inl (cy 0, 4, .inl zI)), (q4, .inl (cy 0, 4, .inl zI)), (q5, .inl (cy 0, 6, .inl zI)), (q6, .inl (cy 0, 6, .inl zI)), (q7, .inl (cy 0, 6, .inl zI)), (q8, .inl (cy 0, 6, .inl zI)), (q9, .inl (cy 0, 6, .inl zI)), (q10, .inl (cy 0, 6, .inl zI))] := hD
  refine W.widen (k := 10) (n := 52) (Nat.le_of_ble_eq_true rfl) (Nat.le_of_ble_eq_true rfl) ?_
  refine lv_aload_n hx hb di_X7_80 rfl (lv_at hl 0 rfl) ?_
  refine lv_bipush (v := nI 6) hx hb di_X7_81 (by decide +kernel) ?_
  refine ini_arr (r := (RX7, TX7, 55)) (ci := 7) (f := 16) (idx := 40) (n := 6) (k := 0) hx hb hown hts hin hK hA rfl hP hD hS rfl (by decide) (Nat.le_of_ble_eq_true rfl) (Nat.le_of_ble_eq_true rfl) rfl rfl (by decide +kernel) gw_ac0 gl_7_40 (Nat.le_of_ble_eq_true rfl) (Nat.le_of_ble_eq_true rfl) (Nat.le_of_ble_eq_true rfl) di_X7_83 di_X7_85 (fun q11 H locs hP hD hS => ?_)
  have hP : va_P D vwCl [(h0, .inr (7, [.int 0, .int 0, .int 0, .ref q1, .ref q2, .ref q3, .ref q4, .ref q5, .ref q6, .ref q7, .ref q8, .ref q9, .int 0, .int 0, .int 0, .ref q10, .ref q11, .int 0, .null, .null, .null, .int 0, .int 0, .null, .int 0, .int 0, .int 0, .null, .null, .int 0, .int 0, .int 0, .null, .null, .null, .null, .null, .long 0, .null, .int 0, .int 0, .int 0, .int 0, .int 0, .int 0, .null, .null, .null, .null, .null, .null, .null, .null, .null, .long 0])), (q1, .inl (cy 0, 4, .inl zI)), (q2, .inl (cy 0, 4, .inl zI)), (q3, .inl (cy 0, 4, .inl zI)), (q4, .inl (cy 0, 4, .inl zI)), (q5, .inl (cy 0, 6, .inl zI)), (q6, .inl (cy 0, 6, .inl zI)), (q7, .inl (cy 0, 6, .inl zI)), (q8, .inl (cy 0, 6, .inl zI)), (q9, .inl (cy 0, 6, .inl zI)), (q10, .inl (cy 0, 6, .inl zI)), (q11, .inl (cy 0, 6, .inl zI))] H := hP
  have hD : va_D (aI h0 s.heap.size) [(h0, .inr (7, [.int 0, .int 0, .int 0, .ref q1, .ref q2, .ref q3, .ref q4, .ref q5, .ref q6, .ref q7, .ref q8, .ref q9, .int 0, .int 0, .int 0, .ref q10, .ref q11, .int 0, .null, .null, .null, .int 0, .int 0, .null, .int 0, .int 0, .int 0, .null, .null, .int 0, .int 0, .int 0, .null, .null, .null, .null, .null, .long 0, .null, .int 0, .int 0, .int 0, .int 0, .int 0, .int 0, .null, .null, .null, .null, .null, .null, .null, .null, .null, .long 0])), (q1, .inl (cy 0, 4, .inl zI)), (q2, .inl (cy 0, 4, .inl zI)), (q3, .inl (cy 0, 4, .inl zI)), (q4, .inl (cy 0, 4, .inl zI)), (q5, .inl (cy 0, 6, .inl zI)), (q6, .inl (cy 0, 6, .inl zI)), (q7, .inl (cy 0, 6, .inl zI)), (q8, .inl (cy 0, 6, .inl zI)), (q9, .inl (cy 0, 6, .inl zI)), (q10, .inl (cy 0, 6, .inl zI)), (q11, .inl (cy 0, 6, .inl zI))] := hD
  refine W.widen (k := 11) (n := 58) (Nat.le_of_ble_eq_true rfl) (Nat.le_of_ble_eq_true rfl) ?_
  refine lv_aload_n hx hb di_X7_88 rfl (lv_at hl 0 rfl) ?_
  refine lv_bipush (v := nI 8) hx hb di_X7_89 (by decide +kernel) ?_
  refine ini_arr (r := (RX7, TX7, 55)) (ci := 7) (f := 18) (idx := 43) (n := 8) (k := 0) hx hb hown hts hin hK hA rfl hP hD hS rfl (by decide) (Nat.le_of_ble_eq_true rfl) (Nat.le_of_ble_eq_true rfl) rfl rfl (by decide +kernel) gw_ac0 gl_7_43 (Nat.le_of_ble_eq_true rfl) (Nat.le_of_ble_eq_true rfl) (Nat.le_of_ble_eq_true rfl) di_X7_91 di_X7_93 (fun q12 H locs hP hD hS => ?_)
  have hP : va_P D vwCl [(h0, .inr (7, [.int 0, .int 0, .int 0, .ref q1, .ref q2, .ref q3, .ref q4, .ref q5, .ref q6, .ref q7, .ref q8, .ref q9, .int 0, .int 0, .int 0, .ref q10, .ref q11, .int 0, .ref q12, .null, .null, .int 0, .int 0, .null, .int 0, .int 0, .int 0, .null, .null, .int 0, .int 0, .int 0, .null, .null, .null, .null, .null, .long 0, .null, .int 0, .int 0, .int 0, .int 0, .int 0, .int 0, .null, .null, .null, .null, .null, .null, .null, .null, .null, .long 0])), (q1, .inl (cy 0, 4, .inl zI)), (q2, .inl (cy 0, 4, .inl zI)), (q3, .inl (cy 0, 4, .inl zI)), (q4, .inl (cy 0, 4, .inl zI)), (q5, .inl (cy 0, 6, .inl zI)), (q6, .inl (cy 0, 6, .inl zI)), (q7, .inl (cy 0, 6, .inl zI)), (q8, .inl (cy 0, 6, .inl zI)), (q9, .inl (cy 0, 6, .inl zI)), (q10, .inl (cy 0, 6, .inl zI)), (q11, .inl (cy 0, 6, .inl zI)), (q12, .inl (cy 0, 8, .inl zI))] H := hP
  have hD : va_D (aI h0 s.heap.size) [(h0, .inr (7, [.int 0, .int 0, .int 0, .ref q1, .ref q2, .ref q3, .ref q4, .ref q5, .ref q6, .ref q7, .ref q8, .ref q9, .int 0, .int 0, .int 0, .ref q10, .ref q11, .int 0, .ref q12, .null, .null, .int 0, .int 0, .null, .int 0, .int 0, .int 0, .null, .null, .int 0, .int 0, .int 0, .null, .null, .null, .null, .null, .long 0, .null, .int 0, .int 0, .int 0, .int 0, .int 0, .int 0, .null, .null, .null, .null, .null, .null, .null, .null, .null, .long 0])), (q1, .inl (cy 0, 4, .inl zI)), (q2, .inl (cy 0, 4, .inl zI)), (q3, .inl (cy 0, 4, .inl zI)), (q4, .inl (cy 0, 4, .inl zI)), (q5, .inl (cy 0, 6, .inl zI)), (q6, .inl (cy 0, 6, .inl zI)), (q7, .inl (cy 0, 6, .inl zI)), (q8, .inl (cy 0, 6, .inl zI)), (q9, .inl (cy 0, 6, .inl zI)), (q10, .inl (cy 0, 6, .inl zI)), (q11, .inl (cy 0, 6, .inl zI)), (q12, .inl (cy 0, 8, .inl zI))] := hD
  refine W.widen (k := 12) (n := 66) (Nat.le_of_ble_eq_true rfl) (Nat.le_of_ble_eq_true rfl) ?_
  refine lv_aload_n hx hb di_X7_96 rfl (lv_at hl 0 rfl) ?_
  refine lv_bipush (v := nI 8) hx hb di_X7_97 (by decide +kernel) ?_
  refine ini_arr (r := (RX7, TX7, 55)) (ci := 7) (f := 19) (idx := 46) (n := 8) (k := 0) hx hb hown hts hin hK hA rfl hP hD hS rfl (by decide) (Nat.le_of_ble_eq_true rfl) (Nat.le_of_ble_eq_true rfl) rfl rfl (by decide +kernel) gw_ac0 gl_7_46 (Nat.le_of_ble_eq_true rfl) (Nat.le_of_ble_eq_true rfl) (Nat.le_of_ble_eq_true rfl) di_X7_99 di_X7_101 (fun q13 H locs hP hD hS => ?_)
  have hP : va_P D vwCl [(h0, .inr (7, [.int 0, .int 0, .int 0, .ref q1, .ref q2, .ref q3, .ref q4, .ref q5, .ref q6, .ref q7, .ref q8, .ref q9, .int 0, .int 0, .int 0, .ref q10, .ref q11, .int 0, .ref q12, .ref q13, .null, .int 0, .int 0, .null, .int 0, .int 0, .int 0, .null, .null, .int 0, .int 0, .int 0, .null, .null, .null, .null, .null, .long 0, .null, .int 0, .int 0, .int 0, .int 0, .int 0, .int 0, .null, .null, .null, .null, .null, .null, .null, .null, .null, .long 0])), (q1, .inl (cy 0, 4, .inl zI)), (q2, .inl (cy 0, 4, .inl zI)), (q3, .inl (cy 0, 4, .inl zI)), (q4, .inl (cy 0, 4, .inl zI)), (q5, .inl (cy 0, 6, .inl zI)), (q6, .inl (cy 0, 6, .inl zI)), (q7, .inl (cy 0, 6, .inl zI)), (q8, .inl (cy 0, 6, .inl zI)), (q9, .inl (cy 0, 6, .inl zI)), (q10, .inl (cy 0, 6, .inl zI)), (q11, .inl (cy 0, 6, .inl zI)), (q12, .inl (cy 0, 8, .inl zI)), (q13, .inl (cy 0, 8, .inl zI))] H := hP
  have hD : va_D (aI h0 s.heap.size) [(h0, .inr (7, [.int 0, .int 0, .int 0, .ref q1, .ref q2, .ref q3, .ref q4, .ref q5, .ref q6, .ref q7, .ref q8, .ref q9, .int 0, .int 0, .int 0, .ref q10, .ref q11, .int 0, .ref q12, .ref q13, .null, .int 0, .int 0, .null, .int 0, .int 0, .int 0, .null, .null, .int 0, .int 0, .int 0, .null, .null, .null, .null, .null, .long 0, .null, .int 0, .int 0, .int 0, .int 0, .int 0, .int 0, .null, .null, .null, .null, .null, .null, .null, .null, .null, .long 0])), (q1, .inl (cy 0, 4, .inl zI)), (q2, .inl (cy 0, 4, .inl zI)), (q3, .inl (cy 0, 4, .inl zI)), (q4, .inl (cy 0, 4, .inl zI)), (q5, .inl (cy 0, 6, .inl zI)), (q6, .inl (cy 0, 6, .inl zI)), (q7, .inl (cy 0, 6, .inl zI)), (q8, .inl (cy 0, 6, .inl zI)), (q9, .inl (cy 0, 6, .inl zI)), (q10, .inl (cy 0, 6, .inl zI)), (q11, .inl (cy 0, 6, .inl zI)), (q12, .inl (cy 0, 8, .inl zI)), (q13, .inl (cy 0, 8, .inl zI))] := hD
  refine W.widen (k := 13) (n := 74) (Nat.le_of_ble_eq_true rfl) (Nat.le_of_ble_eq_true rfl) ?_
  refine lv_aload_n hx hb di_X7_104 rfl (lv_at hl 0 rfl) ?_
  refine lv_bipush (v := nI 8) hx hb di_X7_105 (by decide +kernel) ?_
  refine ini_arr (r := (RX7, TX7, 55)) (ci := 7) (f := 20) (idx := 49) (n := 8) (k := 0) hx hb hown hts hin hK hA rfl hP hD hS rfl (by decide) (Nat.le_of_ble_eq_true rfl) (Nat.le_of_ble_eq_true rfl) rfl rfl (by decide +kernel) gw_ac0 gl_7_49 (Nat.le_of_ble_eq_true rfl) (Nat.le_of_ble_eq_true rfl) (Nat.le_of_ble_eq_true rfl) di_X7_107 di_X7_109 (fun q14 H locs hP hD hS => ?_)
  have hP : va_P D vwCl [(h0, .inr (7, [.int 0, .int 0, .int 0, .ref q1, .ref q2, .ref q3, .ref q4, .ref q5, .ref q6, .ref q7, .ref q8, .ref q9, .int 0, .int 0, .int 0, .ref q10, .ref q11, .int 0, .ref q12, .ref q13, .ref q14, .int 0, .int 0, .null, .int 0, .int 0, .int 0, .null, .null, .int 0, .int 0, .int 0, .null, .null, .null, .null, .null, .long 0, .null, .int 0, .int 0, .int 0, .int 0, .int 0, .int 0, .null, .null, .null, .null, .null, .null, .null, .null, .null, .long 0])), (q1, .inl (cy 0, 4, .inl zI)), (q2, .inl (cy 0, 4, .inl zI)), (q3, .inl (cy 0, 4, .inl zI)), (q4, .inl (cy 0, 4, .inl zI)), (q5, .inl (cy 0, 6, .inl zI)), (q6, .inl (cy 0, 6, .inl zI)), (q7, .inl (cy 0, 6, .inl zI)), (q8, .inl (cy 0, 6, .inl zI)), (q9, .inl (cy 0, 6, .inl zI)), (q10, .inl (cy 0, 6, .inl zI)), (q11, .inl (cy 0, 6, .inl zI)), (q12, .inl (cy 0, 8, .inl zI)), (q13, .inl (cy 0, 8, .inl zI)), (q14, .inl (cy 0, 8, .inl zI))] H := hP
  have hD : va_D (aI h0 s.heap.size) [(h0, .inr (7, [.int 0, .int 0, .int 0, .ref q1, .ref q2, .ref q3, .ref q4, .ref q5, .ref q6, .ref q7, .ref q8, .ref q9, .int 0, .int 0, .int 0, .ref q10, .ref q11, .int 0, .ref q12, .ref q13, .ref q14, .int 0, .int 0, .null, .int 0, .int 0, .int 0, .null, .null, .int 0, .int 0, .int 0, .null, .null, .null, .null, .null, .long 0, .null, .int 0, .int 0, .int 0, .int 0, .int 0, .int 0, .null, .null, .null, .null, .null, .null, .null, .null, .null, .long 0])), (q1, .inl (cy 0, 4, .inl zI)), (q2, .inl (cy 0, 4, .inl zI)), (q3, .inl (cy 0, 4, .inl zI)), (q4, .inl (cy 0, 4, .inl zI)), (q5, .inl (cy 0, 6, .inl zI)), (q6, .inl (cy 0, 6, .inl zI)), (q7, .inl (cy 0, 6, .inl zI)), (q8, .inl (cy 0, 6, .inl zI)), (q9, .inl (cy 0, 6, .inl zI)), (q10, .inl (cy 0, 6, .inl zI)), (q11, .inl (cy 0, 6, .inl zI)), (q12, .inl (cy 0, 8, .inl zI)), (q13, .inl (cy 0, 8, .inl zI)), (q14, .inl (cy 0, 8, .inl zI))] := hD
  refine W.widen (k := 14) (n := 82) (Nat.le_of_ble_eq_true rfl) (Nat.le_of_ble_eq_true rfl) ?_
  refine lv_aload_n hx hb di_X7_112 rfl (lv_at hl 0 rfl) ?_
  refine lv_bipush (v := nI 52) hx hb di_X7_113 (by decide +kernel) ?_
  refine ini_arr (r := (RX7, TX7, 55)) (ci := 7) (f := 23) (idx := 52) (n := 52) (k := 1) hx hb hown hts hin hK hA rfl hP hD hS rfl (by decide) (Nat.le_of_ble_eq_true rfl) (Nat.le_of_ble_eq_true rfl) rfl rfl (by decide +kernel) gw_ac1 gl_7_52 (Nat.le_of_ble_eq_true rfl) (Nat.le_of_ble_eq_true rfl) (Nat.le_of_ble_eq_true rfl) di_X7_115 di_X7_117 (fun q15 H locs hP hD hS => ?_)
  have hP : va_P D vwCl [(h0, .inr (7, [.int 0, .int 0, .int 0, .ref q1, .ref q2, .ref q3, .ref q4, .ref q5, .ref q6, .ref q7, .ref q8, .ref q9, .int 0, .int 0, .int 0, .ref q10, .ref q11, .int 0, .ref q12, .ref q13, .ref q14, .int 0, .int 0, .ref q15, .int 0, .int 0, .int 0, .null, .null, .int 0, .int 0, .int 0, .null, .null, .null, .null, .null, .long 0, .null, .int 0, .int 0, .int 0, .int 0, .int 0, .int 0, .null, .null, .null, .null, .null, .null, .null, .null, .null, .long 0])), (q1, .inl (cy 0, 4, .inl zI)), (q2, .inl (cy 0, 4, .inl zI)), (q3, .inl (cy 0, 4, .inl zI)), (q4, .inl (cy 0, 4, .inl zI)), (q5, .inl (cy 0, 6, .inl zI)), (q6, .inl (cy 0, 6, .inl zI)), (q7, .inl (cy 0, 6, .inl zI)), (q8, .inl (cy 0, 6, .inl zI)), (q9, .inl (cy 0, 6, .inl zI)), (q10, .inl (cy 0, 6, .inl zI)), (q11, .inl (cy 0, 6, .inl zI)), (q12, .inl (cy 0, 8, .inl zI)), (q13, .inl (cy 0, 8, .inl zI)), (q14, .inl (cy 0, 8, .inl zI)), (q15, .inl (cy 1, 52, .inl zI))] H := hP
  have hD : va_D (aI h0 s.heap.size) [(h0, .inr (7, [.int 0, .int 0, .int 0, .ref q1, .ref q2, .ref q3, .ref q4, .ref q5, .ref q6, .ref q7, .ref q8, .ref q9, .int 0, .int 0, .int 0, .ref q10, .ref q11, .int 0, .ref q12, .ref q13, .ref q14, .int 0, .int 0, .ref q15, .int 0, .int 0, .int 0, .null, .null, .int 0, .int 0, .int 0, .null, .null, .null, .null, .null, .long 0, .null, .int 0, .int 0, .int 0, .int 0, .int 0, .int 0, .null, .null, .null, .null, .null, .null, .null, .null, .null, .long 0])), (q1, .inl (cy 0, 4, .inl zI)), (q2, .inl (cy 0, 4, .inl zI)), (q3, .inl (cy 0, 4, .inl zI)), (q4, .inl (cy 0, 4, .inl zI)), (q5, .inl (cy 0, 6, .inl zI)), (q6, .inl (cy 0, 6, .inl zI)), (q7, .inl (cy 0, 6, .inl zI)), (q8, .inl (cy 0, 6, .inl zI)), (q9, .inl (cy 0, 6, .inl zI)), (q10, .inl (cy 0, 6, .inl zI)), (q11, .inl (cy 0, 6, .inl zI)), (q12, .inl (cy 0, 8, .inl zI)), (q13, .inl (cy 0, 8, .inl zI)), (q14, .inl (cy 0, 8, .inl zI)), (q15, .inl (cy 1, 52, .inl zI))] := hD
  refine W.widen (k := 15) (n := 134) (Nat.le_of_ble_eq_true rfl) (Nat.le_of_ble_eq_true rfl) ?_
  refine lv_aload_n hx hb di_X7_120 rfl (lv_at hl 0 rfl) ?_
  refine lv_bipush (v := nI 16) hx hb di_X7_121 (by decide +kernel) ?_
  refine ini_arr (r := (RX7, TX7, 55)) (ci := 7) (f := 27) (idx := 56) (n := 16) (k := 0) hx hb hown hts hin hK hA rfl hP hD hS rfl (by decide) (Nat.le_of_ble_eq_true rfl) (Nat.le_of_ble_eq_true rfl) rfl rfl (by decide +kernel) gw_ac0 gl_7_56 (Nat.le_of_ble_eq_true rfl) (Nat.le_of_ble_eq_true rfl) (Nat.le_of_ble_eq_true rfl) di_X7_123 di_X7_125 (fun q16 H locs hP hD hS => ?_)
  have hP : va_P D vwCl [(h0, .inr (7, [.int 0, .int 0, .int 0, .ref q1, .ref q2, .ref q3, .ref q4, .ref q5, .ref q6, .ref q7, .ref q8, .ref q9, .int 0, .int 0, .int 0, .ref q10, .ref q11, .int 0, .ref q12, .ref q13, .ref q14, .int 0, .int 0, .ref q15, .int 0, .int 0, .int 0, .ref q16, .null, .int 0, .int 0, .int 0, .null, .null, .null, .null, .null, .long 0, .null, .int 0, .int 0, .int 0, .int 0, .int 0, .int 0, .null, .null, .null, .null, .null, .null, .null, .null, .null, .long 0])), (q1, .inl (cy 0, 4, .inl zI)), (q2, .inl (cy 0, 4, .inl zI)), (q3, .inl (cy 0, 4, .inl zI)), (q4, .inl (cy 0, 4, .inl zI)), (q5, .inl (cy 0, 6, .inl zI)), (q6, .inl (cy 0, 6, .inl zI)), (q7, .inl (cy 0, 6, .inl zI)), (q8, .inl (cy 0, 6, .inl zI)), (q9, .inl (cy 0, 6, .inl zI)), (q10, .inl (cy 0, 6, .inl zI)), (q11, .inl (cy 0, 6, .inl zI)), (q12, .inl (cy 0, 8, .inl zI)), (q13, .inl (cy 0, 8, .inl zI)), (q14, .inl (cy 0, 8, .inl zI)), (q15, .inl (cy 1, 52, .inl zI)), (q16, .inl (cy 0, 16, .inl zI))] H := hP
  have hD : va_D (aI h0 s.heap.size) [(h0, .inr (7, [.int 0, .int 0, .int 0, .ref q1, .ref q2, .ref q3, .ref q4, .ref q5, .ref q6, .ref q7, .ref q8, .ref q9, .int 0, .int 0, .int 0, .ref q10, .ref q11, .int 0, .ref q12, .ref q13, .ref q14, .int 0, .int 0, .ref q15, .int 0, .int 0, .int 0, .ref q16, .null, .int 0, .int 0, .int 0, .null, .null, .null, .null, .null, .long 0, .null, .int 0, .int 0, .int 0, .int 0, .int 0, .int 0, .null, .null, .null, .null, .null, .null, .null, .null, .null, .long 0])), (q1, .inl (cy 0, 4, .inl zI)), (q2, .inl (cy 0, 4, .inl zI)), (q3, .inl (cy 0, 4, .inl zI)), (q4, .inl (cy 0, 4, .inl zI)), (q5, .inl (cy 0, 6, .inl zI)), (q6, .inl (cy 0, 6, .inl zI)), (q7, .inl (cy 0, 6, .inl zI)), (q8, .inl (cy 0, 6, .inl zI)), (q9, .inl (cy 0, 6, .inl zI)), (q10, .inl (cy 0, 6, .inl zI)), (q11, .inl (cy 0, 6, .inl zI)), (q12, .inl (cy 0, 8, .inl zI)), (q13, .inl (cy 0, 8, .inl zI)), (q14, .inl (cy 0, 8, .inl zI)), (q15, .inl (cy 1, 52, .inl zI)), (q16, .inl (cy 0, 16, .inl zI))] := hD
  refine W.widen (k := 16) (n := 150) (Nat.le_of_ble_eq_true rfl) (Nat.le_of_ble_eq_true rfl) ?_
  refine lv_aload_n hx hb di_X7_128 rfl (lv_at hl 0 rfl) ?_
  refine lv_bipush (v := nI 64) hx hb di_X7_129 (by decide +kernel) ?_
  refine ini_arr (r := (RX7, TX7, 55)) (ci := 7) (f := 28) (idx := 59) (n := 64) (k := 0) hx hb hown hts hin hK hA rfl hP hD hS rfl (by decide) (Nat.le_of_ble_eq_true rfl) (Nat.le_of_ble_eq_true rfl) rfl rfl (by decide +kernel) gw_ac0 gl_7_59 (Nat.le_of_ble_eq_true rfl) (Nat.le_of_ble_eq_true rfl) (Nat.le_of_ble_eq_true rfl) di_X7_131 di_X7_133 (fun q17 H locs hP hD hS => ?_)
  have hP : va_P D vwCl [(h0, .inr (7, [.int 0, .int 0, .int 0, .ref q1, .ref q2, .ref q3, .ref q4, .ref q5, .ref q6, .ref q7, .ref q8, .ref q9, .int 0, .int 0, .int 0, .ref q10, .ref q11, .int 0, .ref q12, .ref q13, .ref q14, .int 0, .int 0, .ref q15, .int 0, .int 0, .int 0, .ref q16, .ref q17, .int 0, .int 0, .int 0, .null, .null, .null, .null, .null, .long 0, .null, .int 0, .int 0, .int 0, .int 0, .int 0, .int 0, .null, .null, .null, .null, .null, .null, .null, .null, .null, .long 0])), (q1, .inl (cy 0, 4, .inl zI)), (q2, .inl (cy 0, 4, .inl zI)), (q3, .inl (cy 0, 4, .inl zI)), (q4, .inl (cy 0, 4, .inl zI)), (q5, .inl (cy 0, 6, .inl zI)), (q6, .inl (cy 0, 6, .inl zI)), (q7, .inl (cy 0, 6, .inl zI)), (q8, .inl (cy 0, 6, .inl zI)), (q9, .inl (cy 0, 6, .inl zI)), (q10, .inl (cy 0, 6, .inl zI)), (q11, .inl (cy 0, 6, .inl zI)), (q12, .inl (cy 0, 8, .inl zI)), (q13, .inl (cy 0, 8, .inl zI)), (q14, .inl (cy 0, 8, .inl zI)), (q15, .inl (cy 1, 52, .inl zI)), (q16, .inl (cy 0, 16, .inl zI)), (q17, .inl (cy 0, 64, .inl zI))] H := hP
  have hD : va_D (aI h0 s.heap.size) [(h0, .inr (7, [.int 0, .int 0, .int 0, .ref q1, .ref q2, .ref q3, .ref q4, .ref q5, .ref q6, .ref q7, .ref q8, .ref q9, .int 0, .int 0, .int 0, .ref q10, .ref q11, .int 0, .ref q12, .ref q13, .ref q14, .int 0, .int 0, .ref q15, .int 0, .int 0, .int 0, .ref q16, .ref q17, .int 0, .int 0, .int 0, .null, .null, .null, .null, .null, .long 0, .null, .int 0, .int 0, .int 0, .int 0, .int 0, .int 0, .null, .null, .null, .null, .null, .null, .null, .null, .null, .long 0])), (q1, .inl (cy 0, 4, .inl zI)), (q2, .inl (cy 0, 4, .inl zI)), (q3, .inl (cy 0, 4, .inl zI)), (q4, .inl (cy 0, 4, .inl zI)), (q5, .inl (cy 0, 6, .inl zI)), (q6, .inl (cy 0, 6, .inl zI)), (q7, .inl (cy 0, 6, .inl zI)), (q8, .inl (cy 0, 6, .inl zI)), (q9, .inl (cy 0, 6, .inl zI)), (q10, .inl (cy 0, 6, .inl zI)), (q11, .inl (cy 0, 6, .inl zI)), (q12, .inl (cy 0, 8, .inl zI)), (q13, .inl (cy 0, 8, .inl zI)), (q14, .inl (cy 0, 8, .inl zI)), (q15, .inl (cy 1, 52, .inl zI)), (q16, .inl (cy 0, 16, .inl zI)), (q17, .inl (cy 0, 64, .inl zI))] := hD
  refine W.widen (k := 17) (n := 214) (Nat.le_of_ble_eq_true rfl) (Nat.le_of_ble_eq_true rfl) ?_
  refine lv_aload_n hx hb di_X7_136 rfl (lv_at hl 0 rfl) ?_
  refine lv_iconst (v := nI 4) hx hb di_X7_137 (by decide +kernel) ?_
  refine ini_arr (r := (RX7, TX7, 55)) (ci := 7) (f := 32) (idx := 62) (n := 4) (k := 0) hx hb hown hts hin hK hA rfl hP hD hS rfl (by decide) (Nat.le_of_ble_eq_true rfl) (Nat.le_of_ble_eq_true rfl) rfl rfl (by decide +kernel) gw_ac0 gl_7_62 (Nat.le_of_ble_eq_true rfl) (Nat.le_of_ble_eq_true rfl) (Nat.le_of_ble_eq_true rfl) di_X7_138 di_X7_140 (fun q18 H locs hP hD hS => ?_)
  have hP : va_P D vwCl [(h0, .inr (7, [.int 0, .int 0, .int 0, .ref q1, .ref q2, .ref q3, .ref q4, .ref q5, .ref q6, .ref q7, .ref q8, .ref q9, .int 0, .int 0, .int 0, .ref q10, .ref q11, .int 0, .ref q12, .ref q13, .ref q14, .int 0, .int 0, .ref q15, .int 0, .int 0, .int 0, .ref q16, .ref q17, .int 0, .int 0, .int 0, .ref q18, .null, .null, .null, .null, .long 0, .null, .int 0, .int 0, .int 0, .int 0, .int 0, .int 0, .null, .null, .null, .null, .null, .null, .null, .null, .null, .long 0])), (q1, .inl (cy 0, 4, .inl zI)), (q2, .inl (cy 0, 4, .inl zI)), (q3, .inl (cy 0, 4, .inl zI)), (q4, .inl (cy 0, 4, .inl zI)), (q5, .inl (cy 0, 6, .inl zI)), (q6, .inl (cy 0, 6, .inl zI)), (q7, .inl (cy 0, 6, .inl zI)), (q8, .inl (cy 0, 6, .inl zI)), (q9, .inl (cy 0, 6, .inl zI)), (q10, .inl (cy 0, 6, .inl zI)), (q11, .inl (cy 0, 6, .inl zI)), (q12, .inl (cy 0, 8, .inl zI)), (q13, .inl (cy 0, 8, .inl zI)), (q14, .inl (cy 0, 8, .inl zI)), (q15, .inl (cy 1, 52, .inl zI)), (q16, .inl (cy 0, 16, .inl zI)), (q17, .inl (cy 0, 64, .inl zI)), (q18, .inl (cy 0, 4, .inl zI))] H := hP
  have hD : va_D (aI h0 s.heap.size) [(h0, .inr (7, [.int 0, .int 0, .int 0, .ref q1, .ref q2, .ref q3, .ref q4, .ref q5, .ref q6, .ref q7, .ref q8, .ref q9, .int 0, .int 0, .int 0, .ref q10, .ref q11, .int 0, .ref q12, .ref q13, .ref q14, .int 0, .int 0, .ref q15, .int 0, .int 0, .int 0, .ref q16, .ref q17, .int 0, .int 0, .int 0, .ref q18, .null, .null, .null, .null, .long 0, .null, .int 0, .int 0, .int 0, .int 0, .int 0, .int 0, .null, .null, .null, .null, .null, .null, .null, .null, .null, .long 0])), (q1, .inl (cy 0, 4, .inl zI)), (q2, .inl (cy 0, 4, .inl zI)), (q3, .inl (cy 0, 4, .inl zI)), (q4, .inl (cy 0, 4, .inl zI)), (q5, .inl (cy 0, 6, .inl zI)), (q6, .inl (cy 0, 6, .inl zI)), (q7, .inl (cy 0, 6, .inl zI)), (q8, .inl (cy 0, 6, .inl zI)), (q9, .inl (cy 0, 6, .inl zI)), (q10, .inl (cy 0, 6, .inl zI)), (q11, .inl (cy 0, 6, .inl zI)), (q12, .inl (cy 0, 8, .inl zI)), (q13, .inl (cy 0, 8, .inl zI)), (q14, .inl (cy 0, 8, .inl zI)), (q15, .inl (cy 1, 52, .inl zI)), (q16, .inl (cy 0, 16, .inl zI)), (q17, .inl (cy 0, 64, .inl zI)), (q18, .inl (cy 0, 4, .inl zI))] := hD
  refine W.widen (k := 18) (n := 218) (Nat.le_of_ble_eq_true rfl) (Nat.le_of_ble_eq_true rfl) ?_
  refine lv_aload_n hx hb di_X7_143 rfl (lv_at hl 0 rfl) ?_
  refine lv_iconst (v := nI 4) hx hb di_X7_144 (by decide +kernel) ?_
  refine ini_arr (r := (RX7, TX7, 55)) (ci := 7) (f := 33) (idx := 65) (n := 4) (k := 0) hx hb hown hts hin hK hA rfl hP hD hS rfl (by decide) (Nat.le_of_ble_eq_true rfl) (Nat.le_of_ble_eq_true rfl) rfl rfl (by decide +kernel) gw_ac0 gl_7_65 (Nat.le_of_ble_eq_true rfl) (Nat.le_of_ble_eq_true rfl) (Nat.le_of_ble_eq_true rfl) di_X7_145 di_X7_147 (fun q19 H locs hP hD hS => ?_)
  have hP : va_P D vwCl [(h0, .inr (7, [.int 0, .int 0, .int 0, .ref q1, .ref q2, .ref q3, .ref q4, .ref q5, .ref q6, .ref q7, .ref q8, .ref q9, .int 0, .int 0, .int 0, .ref q10, .ref q11, .int 0, .ref q12, .ref q13, .ref q14, .int 0, .int 0, .ref q15, .int 0, .int 0, .int 0, .ref q16, .ref q17, .int 0, .int 0, .int 0, .ref q18, .ref q19, .null, .null, .null, .long 0, .null, .int 0, .int 0, .int 0, .int 0, .int 0, .int 0, .null, .null, .null, .null, .null, .null, .null, .null, .null, .long 0])), (q1, .inl (cy 0, 4, .inl zI)), (q2, .inl (cy 0, 4, .inl zI)), (q3, .inl (cy 0, 4, .inl zI)), (q4, .inl (cy 0, 4, .inl zI)), (q5, .inl (cy 0, 6, .inl zI)), (q6, .inl (cy 0, 6, .inl zI)), (q7, .inl (cy 0, 6, .inl zI)), (q8, .inl (cy 0, 6, .inl zI)), (q9, .inl (cy 0, 6, .inl zI)), (q10, .inl (cy 0, 6, .inl zI)), (q11, .inl (cy 0, 6, .inl zI)), (q12, .inl (cy 0, 8, .inl zI)), (q13, .inl (cy 0, 8, .inl zI)), (q14, .inl (cy 0, 8, .inl zI)), (q15, .inl (cy 1, 52, .inl zI)), (q16, .inl (cy 0, 16, .inl zI)), (q17, .inl (cy 0, 64, .inl zI)), (q18, .inl (cy 0, 4, .inl zI)), (q19, .inl (cy 0, 4, .inl zI))] H := hP
  have hD : va_D (aI h0 s.heap.size) [(h0, .inr (7, [.int 0, .int 0, .int 0, .ref q1, .ref q2, .ref q3, .ref q4, .ref q5, .ref q6, .ref q7, .ref q8, .ref q9, .int 0, .int 0, .int 0, .ref q10, .ref q11, .int 0, .ref q12, .ref q13, .ref q14, .int 0, .int 0, .ref q15, .int 0, .int 0, .int 0, .ref q16, .ref q17, .int 0, .int 0, .int 0, .ref q18, .ref q19, .null, .null, .null, .long 0, .null, .int 0, .int 0, .int 0, .int 0, .int 0, .int 0, .null, .null, .null, .null, .null, .null, .null, .null, .null, .long 0])), (q1, .inl (cy 0, 4, .inl zI)), (q2, .inl (cy 0, 4, .inl zI)), (q3, .inl (cy 0, 4, .inl zI)), (q4, .inl (cy 0, 4, .inl zI)), (q5, .inl (cy 0, 6, .inl zI)), (q6, .inl (cy 0, 6, .inl zI)), (q7, .inl (cy 0, 6, .inl zI)), (q8, .inl (cy 0, 6, .inl zI)), (q9, .inl (cy 0, 6, .inl zI)), (q10, .inl (cy 0, 6, .inl zI)), (q11, .inl (cy 0, 6, .inl zI)), (q12, .inl (cy 0, 8, .inl zI)), (q13, .inl (cy 0, 8, .inl zI)), (q14, .inl (cy 0, 8, .inl zI)), (q15, .inl (cy 1, 52, .inl zI)), (q16, .inl (cy 0, 16, .inl zI)), (q17, .inl (cy 0, 64, .inl zI)), (q18, .inl (cy 0, 4, .inl zI)), (q19, .inl (cy 0, 4, .inl zI))] := hD
  refine W.widen (k := 19) (n := 222) (Nat.le_of_ble_eq_true rfl) (Nat.le_of_ble_eq_true rfl) ?_
  refine lv_aload_n hx hb di_X7_150 rfl (lv_at hl 0 rfl) ?_
  refine lv_bipush (v := nI 64) hx hb di_X7_151 (by decide +kernel) ?_
  refine ini_arr (r := (RX7, TX7, 55)) (ci := 7) (f := 34) (idx := 68) (n := 64) (k := 0) hx hb hown hts hin hK hA rfl hP hD hS rfl (by decide) (Nat.le_of_ble_eq_true rfl) (Nat.le_of_ble_eq_true rfl) rfl rfl (by decide +kernel) gw_ac0 gl_7_68 (Nat.le_of_ble_eq_true rfl) (Nat.le_of_ble_eq_true rfl) (Nat.le_of_ble_eq_true rfl) di_X7_153 di_X7_155 (fun q20 H locs hP hD hS => ?_)
  have hP : va_P D vwCl [(h0, .inr (7, [.int 0, .int 0, .int 0, .ref q1, .ref q2, .ref q3, .ref q4, .ref q5, .ref q6, .ref q7, .ref q8, .ref q9, .int 0, .int 0, .int 0, .ref q10, .ref q11, .int 0, .ref q12, .ref q13, .ref q14, .int 0, .int 0, .ref q15, .int 0, .int 0, .int 0, .ref q16, .ref q17, .int 0, .int 0, .int 0, .ref q18, .ref q19, .ref q20, .null, .null, .long 0, .null, .int 0, .int 0, .int 0, .int 0, .int 0, .int 0, .null, .null, .null, .null, .null, .null, .null, .null, .null, .long 0])), (q1, .inl (cy 0, 4, .inl zI)), (q2, .inl (cy 0, 4, .inl zI)), (q3, .inl (cy 0, 4, .inl zI)), (q4, .inl (cy 0, 4, .inl zI)), (q5, .inl (cy 0, 6, .inl zI)), (q6, .inl (cy 0, 6, .inl zI)), (q7, .inl (cy 0, 6, .inl zI)), (q8, .inl (cy 0, 6, .inl zI)), (q9, .inl (cy 0, 6, .inl zI)), (q10, .inl (cy 0, 6, .inl zI)), (q11, .inl (cy 0, 6, .inl zI)), (q12, .inl (cy 0, 8, .inl zI)), (q13, .inl (cy 0, 8, .inl zI)), (q14, .inl (cy 0, 8, .inl zI)), (q15, .inl (cy 1, 52, .inl zI)), (q16, .inl (cy 0, 16, .inl zI)), (q17, .inl (cy 0, 64, .inl zI)), (q18, .inl (cy 0, 4, .inl zI)), (q19, .inl (cy 0, 4, .inl zI)), (q20, .inl (cy 0, 64, .inl zI))] H := hP
  have hD : va_D (aI h0 s.heap.size) [(h0, .inr (7, [.int 0, .int 0, .int 0, .ref q1, .ref q2, .ref q3, .ref q4, .ref q5, .ref q6, .ref q7, .ref q8, .ref q9, .int 0, .int 0, .int 0, .ref q10, .ref q11, .int 0, .ref q12, .ref q13, .ref q14, .int 0, .int 0, .ref q15, .int 0, .int 0, .int 0, .ref q16, .ref q17, .int 0, .int 0, .int 0, .ref q18, .ref q19, .ref q20, .null, .null, .long 0, .null, .int 0, .int 0, .int 0, .int 0, .int 0, .int 0, .null, .null, .null, .null, .null, .null, .null, .null, .null, .long 0])), (q1, .inl (cy 0, 4, .inl zI)), (q2, .inl (cy 0, 4, .inl zI)), (q3, .inl (cy 0, 4, .inl zI)), (q4, .inl (cy 0, 4, .inl zI)), (q5, .inl (cy 0, 6, .inl zI)), (q6, .inl (cy 0, 6, .inl zI)), (q7, .inl (cy 0, 6, .inl zI)), (q8, .inl (cy 0, 6, .inl zI)), (q9, .inl (cy 0, 6, .inl zI)), (q10, .inl (cy 0, 6, .inl zI)), (q11, .inl (cy 0, 6, .inl zI)), (q12, .inl (cy 0, 8, .inl zI)), (q13, .inl (cy 0, 8, .inl zI)), (q14, .inl (cy 0, 8, .inl zI)), (q15, .inl (cy 1, 52, .inl zI)), (q16, .inl (cy 0, 16, .inl zI)), (q17, .inl (cy 0, 64, .inl zI)), (q18, .inl (cy 0, 4, .inl zI)), (q19, .inl (cy 0, 4, .inl zI)), (q20, .inl (cy 0, 64, .inl zI))] := hD
  refine W.widen (k := 20) (n := 286) (Nat.le_of_ble_eq_true rfl) (Nat.le_of_ble_eq_true rfl) ?_
  refine lv_aload_n hx hb di_X7_158 rfl (lv_at hl 0 rfl) ?_
  refine lv_iconst (v := nI 4) hx hb di_X7_159 (by decide +kernel) ?_
  refine ini_arr (r := (RX7, TX7, 55)) (ci := 7) (f := 35) (idx := 71) (n := 4) (k := 0) hx hb hown hts hin hK hA rfl hP hD hS rfl (by decide) (Nat.le_of_ble_eq_true rfl) (Nat.le_of_ble_eq_true rfl) rfl rfl (by decide +kernel) gw_ac0 gl_7_71 (Nat.le_of_ble_eq_true rfl) (Nat.le_of_ble_eq_true rfl) (Nat.le_of_ble_eq_true rfl) di_X7_160 di_X7_162 (fun q21 H locs hP hD hS => ?_)
  have hP : va_P D vwCl [(h0, .inr (7, [.int 0, .int 0, .int 0, .ref q1, .ref q2, .ref q3, .ref q4, .ref q5, .ref q6, .ref q7, .ref q8, .ref q9, .int 0, .int 0, .int 0, .ref q10, .ref q11, .int 0, .ref q12, .ref q13, .ref q14, .int 0, .int 0, .ref q15, .int 0, .int 0, .int 0, .ref q16, .ref q17, .int 0, .int 0, .int 0, .ref q18, .ref q19, .ref q20, .ref q21, .null, .long 0, .null, .int 0, .int 0, .int 0, .int 0, .int 0, .int 0, .null, .null, .null, .null, .null, .null, .null, .null, .null, .long 0])), (q1, .inl (cy 0, 4, .inl zI)), (q2, .inl (cy 0, 4, .inl zI)), (q3, .inl (cy 0, 4, .inl zI)), (q4, .inl (cy 0, 4, .inl zI)), (q5, .inl (cy 0, 6, .inl zI)), (q6, .inl (cy 0, 6, .inl zI)), (q7, .inl (cy 0, 6, .inl zI)), (q8, .inl (cy 0, 6, .inl zI)), (q9, .inl (cy 0, 6, .inl zI)), (q10, .inl (cy 0, 6, .inl zI)), (q11, .inl (cy 0, 6, .inl zI)), (q12, .inl (cy 0, 8, .inl zI)), (q13, .inl (cy 0, 8, .inl zI)), (q14, .inl (cy 0, 8, .inl zI)), (q15, .inl (cy 1, 52, .inl zI)), (q16, .inl (cy 0, 16, .inl zI)), (q17, .inl (cy 0, 64, .inl zI)), (q18, .inl (cy 0, 4, .inl zI)), (q19, .inl (cy 0, 4, .inl zI)), (q20, .inl (cy 0, 64, .inl zI)), (q21, .inl (cy 0, 4, .inl zI))] H := hP
  have hD : va_D (aI h0 s.heap.size) [(h0, .inr (7, [.int 0, .int 0, .int 0, .ref q1, .ref q2, .ref q3, .ref q4, .ref q5, .ref q6, .ref q7, .ref q8, .ref q9, .int 0, .int 0, .int 0, .ref q10, .ref q11, .int 0, .ref q12, .ref q13, .ref q14, .int 0, .int 0, .ref q15, .int 0, .int 0, .int 0, .ref q16, .ref q17, .int 0, .int 0, .int 0, .ref q18, .ref q19, .ref q20, .ref q21, .null, .long 0, .null, .int 0, .int 0, .int 0, .int 0, .int 0, .int 0, .null, .null, .null, .null, .null, .null, .null, .null, .null, .long 0])), (q1, .inl (cy 0, 4, .inl zI)), (q2, .inl (cy 0, 4, .inl zI)), (q3, .inl (cy 0, 4, .inl zI)), (q4, .inl (cy 0, 4, .inl zI)), (q5, .inl (cy 0, 6, .inl zI)), (q6, .inl (cy 0, 6, .inl zI)), (q7, .inl (cy 0, 6, .inl zI)), (q8, .inl (cy 0, 6, .inl zI)), (q9, .inl (cy 0, 6, .inl zI)), (q10, .inl (cy 0, 6, .inl zI)), (q11, .inl (cy 0, 6, .inl zI)), (q12, .inl (cy 0, 8, .inl zI)), (q13, .inl (cy 0, 8, .inl zI)), (q14, .inl (cy 0, 8, .inl zI)), (q15, .inl (cy 1, 52, .inl zI)), (q16, .inl (cy 0, 16, .inl zI)), (q17, .inl (cy 0, 64, .inl zI)), (q18, .inl (cy 0, 4, .inl zI)), (q19, .inl (cy 0, 4, .inl zI)), (q20, .inl (cy 0, 64, .inl zI)), (q21, .inl (cy 0, 4, .inl zI))] := hD
  refine W.widen (k := 21) (n := 290) (Nat.le_of_ble_eq_true rfl) (Nat.le_of_ble_eq_true rfl) ?_
  refine lv_aload_n hx hb di_X7_165 rfl (lv_at hl 0 rfl) ?_
  refine lv_bipush (v := nI 6) hx hb di_X7_166 (by decide +kernel) ?_
  refine ini_arr (r := (RX7, TX7, 55)) (ci := 7) (f := 36) (idx := 74) (n := 6) (k := 0) hx hb hown hts hin hK hA rfl hP hD hS rfl (by decide) (Nat.le_of_ble_eq_true rfl) (Nat.le_of_ble_eq_true rfl) rfl rfl (by decide +kernel) gw_ac0 gl_7_74 (Nat.le_of_ble_eq_true rfl) (Nat.le_of_ble_eq_true rfl) (Nat.le_of_ble_eq_true rfl) di_X7_168 di_X7_170 (fun q22 H locs hP hD hS => ?_)
  have hP : va_P D vwCl [(h0, .inr (7, [.int 0, .int 0, .int 0, .ref q1, .ref q2, .ref q3, .ref q4, .ref q5, .ref q6, .ref q7, .ref q8, .ref q9, .int 0, .int 0, .int 0, .ref q10, .ref q11, .int 0, .ref q12, .ref q13, .ref q14, .int 0, .int 0, .ref q15, .int 0, .int 0, .int 0, .ref q16, .ref q17, .int 0, .int 0, .int 0, .ref q18, .ref q19, .ref q20, .ref q21, .ref q22, .long 0, .null, .int 0, .int 0, .int 0, .int 0, .int 0, .int 0, .null, .null, .null, .null, .null, .null, .null, .null, .null, .long 0])), (q1, .inl (cy 0, 4, .inl zI)), (q2, .inl (cy 0, 4, .inl zI)), (q3, .inl (cy 0, 4, .inl zI)), (q4, .inl (cy 0, 4, .inl zI)), (q5, .inl (cy 0, 6, .inl zI)), (q6, .inl (cy 0, 6, .inl zI)), (q7, .inl (cy 0, 6, .inl zI)), (q8, .inl (cy 0, 6, .inl zI)), (q9, .inl (cy 0, 6, .inl zI)), (q10, .inl (cy 0, 6, .inl zI)), (q11, .inl (cy 0, 6, .inl zI)), (q12, .inl (cy 0, 8, .inl zI)), (q13, .inl (cy 0, 8, .inl zI)), (q14, .inl (cy 0, 8, .inl zI)), (q15, .inl (cy 1, 52, .inl zI)), (q16, .inl (cy 0, 16, .inl zI)), (q17, .inl (cy 0, 64, .inl zI)), (q18, .inl (cy 0, 4, .inl zI)), (q19, .inl (cy 0, 4, .inl zI)), (q20, .inl (cy 0, 64, .inl zI)), (q21, .inl (cy 0, 4, .inl zI)), (q22, .inl (cy 0, 6, .inl zI))] H := hP
  have hD : va_D (aI h0 s.heap.size) [(h0, .inr (7, [.int 0, .int 0, .int 0, .ref q1, .ref q2, .ref q3, .ref q4, .ref q5, .ref q6, .ref q7, .ref q8, .ref q9, .int 0, .int 0, .int 0, .ref q10, .ref q11, .int 0, .ref q12, .ref q13, .ref q14, .int 0, .int 0, .ref q15, .int 0, .int 0, .int 0, .ref q16, .ref q17, .int 0, .int 0, .int 0, .ref q18, .ref q19, .ref q20, .ref q21, .ref q22, .long 0, .null, .int 0, .int 0, .int 0, .int 0, .int 0, .int 0, .null, .null, .null, .null, .null, .null, .null, .null, .null, .long 0])), (q1, .inl (cy 0, 4, .inl zI)), (q2, .inl (cy 0, 4, .inl zI)), (q3, .inl (cy 0, 4, .inl zI)), (q4, .inl (cy 0, 4, .inl zI)), (q5, .inl (cy 0, 6, .inl zI)), (q6, .inl (cy 0, 6, .inl zI)), (q7, .inl (cy 0, 6, .inl zI)), (q8, .inl (cy 0, 6, .inl zI)), (q9, .inl (cy 0, 6, .inl zI)), (q10, .inl (cy 0, 6, .inl zI)), (q11, .inl (cy 0, 6, .inl zI)), (q12, .inl (cy 0, 8, .inl zI)), (q13, .inl (cy 0, 8, .inl zI)), (q14, .inl (cy 0, 8, .inl zI)), (q15, .inl (cy 1, 52, .inl zI)), (q16, .inl (cy 0, 16, .inl zI)), (q17, .inl (cy 0, 64, .inl zI)), (q18, .inl (cy 0, 4, .inl zI)), (q19, .inl (cy 0, 4, .inl zI)), (q20, .inl (cy 0, 64, .inl zI)), (q21, .inl (cy 0, 4, .inl zI)), (q22, .inl (cy 0, 6, .inl zI))] := hD
  refine W.widen (k := 22) (n := 296) (Nat.le_of_ble_eq_true rfl) (Nat.le_of_ble_eq_true rfl) ?_
  refine lv_aload_n hx hb di_X7_173 rfl (lv_at hl 0 rfl) ?_
  refine lv_bipush (v := nI 6) hx hb di_X7_174 (by decide +kernel) ?_
  refine ini_arr (r := (RX7, TX7, 55)) (ci := 7) (f := 38) (idx := 77) (n := 6) (k := 0) hx hb hown hts hin hK hA rfl hP hD hS rfl (by decide) (Nat.le_of_ble_eq_true rfl) (Nat.le_of_ble_eq_true rfl) rfl rfl (by decide +kernel) gw_ac0 gl_7_77 (Nat.le_of_ble_eq_true rfl) (Nat.le_of_ble_eq_true rfl) (Nat.le_of_ble_eq_true rfl) di_X7_176 di_X7_178 (fun q23 H locs hP hD hS => ?_)
  have hP : va_P D vwCl [(h0, .inr (7, [.int 0, .int 0, .int 0, .ref q1, .ref q2, .ref q3, .ref q4, .ref q5, .ref q6, .ref q7, .ref q8, .ref q9, .int 0, .int 0, .int 0, .ref q10, .ref q11, .int 0, .ref q12, .ref q13, .ref q14, .int 0, .int 0, .ref q15, .int 0, .int 0, .int 0, .ref q16, .ref q17, .int 0, .int 0, .int 0, .ref q18, .ref q19, .ref q20, .ref q21, .ref q22, .long 0, .ref q23, .int 0, .int 0, .int 0, .int 0, .int 0, .int 0, .null, .null, .null, .null, .null, .null, .null, .null, .null, .long 0])), (q1, .inl (cy 0, 4, .inl zI)), (q2, .inl (cy 0, 4, .inl zI)), (q3, .inl (cy 0, 4, .inl zI)), (q4, .inl (cy 0, 4, .inl zI)), (q5, .inl (cy 0, 6, .inl zI)), (q6, .inl (cy 0, 6, .inl zI)), (q7, .inl (cy 0, 6, .inl zI)), (q8, .inl (cy 0, 6, .inl zI)), (q9, .inl (cy 0, 6, .inl zI)), (q10, .inl (cy 0, 6, .inl zI)), (q11, .inl (cy 0, 6, .inl zI)), (q12, .inl (cy 0, 8, .inl zI)), (q13, .inl (cy 0, 8, .inl zI)), (q14, .inl (cy 0, 8, .inl zI)), (q15, .inl (cy 1, 52, .inl zI)), (q16, .inl (cy 0, 16, .inl zI)), (q17, .inl (cy 0, 64, .inl zI)), (q18, .inl (cy 0, 4, .inl zI)), (q19, .inl (cy 0, 4, .inl zI)), (q20, .inl (cy 0, 64, .inl zI)), (q21, .inl (cy 0, 4, .inl zI)), (q22, .inl (cy 0, 6, .inl zI)), (q23, .inl (cy 0, 6, .inl zI))] H := hP
  have hD : va_D (aI h0 s.heap.size) [(h0, .inr (7, [.int 0, .int 0, .int 0, .ref q1, .ref q2, .ref q3, .ref q4, .ref q5, .ref q6, .ref q7, .ref q8, .ref q9, .int 0, .int 0, .int 0, .ref q10, .ref q11, .int 0, .ref q12, .ref q13, .ref q14, .int 0, .int 0, .ref q15, .int 0, .int 0, .int 0, .ref q16, .ref q17, .int 0, .int 0, .int 0, .ref q18, .ref q19, .ref q20, .ref q21, .ref q22, .long 0, .ref q23, .int 0, .int 0, .int 0, .int 0, .int 0, .int 0, .null, .null, .null, .null, .null, .null, .null, .null, .null, .long 0])), (q1, .inl (cy 0, 4, .inl zI)), (q2, .inl (cy 0, 4, .inl zI)), (q3, .inl (cy 0, 4, .inl zI)), (q4, .inl (cy 0, 4, .inl zI)), (q5, .inl (cy 0, 6, .inl zI)), (q6, .inl (cy 0, 6, .inl zI)), (q7, .inl (cy 0, 6, .inl zI)), (q8, .inl (cy 0, 6, .inl zI)), (q9, .inl (cy 0, 6, .inl zI)), (q10, .inl (cy 0, 6, .inl zI)), (q11, .inl (cy 0, 6, .inl zI)), (q12, .inl (cy 0, 8, .inl zI)), (q13, .inl (cy 0, 8, .inl zI)), (q14, .inl (cy 0, 8, .inl zI)), (q15, .inl (cy 1, 52, .inl zI)), (q16, .inl (cy 0, 16, .inl zI)), (q17, .inl (cy 0, 64, .inl zI)), (q18, .inl (cy 0, 4, .inl zI)), (q19, .inl (cy 0, 4, .inl zI)), (q20, .inl (cy 0, 64, .inl zI)), (q21, .inl (cy 0, 4, .inl zI)), (q22, .inl (cy 0, 6, .inl zI)), (q23, .inl (cy 0, 6, .inl zI))] := hD
  refine W.widen (k := 23) (n := 302) (Nat.le_of_ble_eq_true rfl) (Nat.le_of_ble_eq_true rfl) ?_
  refine lv_aload_n hx hb di_X7_181 rfl (lv_at hl 0 rfl) ?_
  refine lv_bipush (v := nI 6) hx hb di_X7_182 (by decide +kernel) ?_
  refine ini_arr (r := (RX7, TX7, 55)) (ci := 7) (f := 45) (idx := 80) (n := 6) (k := 0) hx hb hown hts hin hK hA rfl hP hD hS rfl (by decide) (Nat.le_of_ble_eq_true rfl) (Nat.le_of_ble_eq_true rfl) rfl rfl (by decide +kernel) gw_ac0 gl_7_80 (Nat.le_of_ble_eq_true rfl) (Nat.le_of_ble_eq_true rfl) (Nat.le_of_ble_eq_true rfl) di_X7_184 di_X7_186 (fun q24 H locs hP hD hS => ?_)
  have hP : va_P D vwCl [(h0, .inr (7, [.int 0, .int 0, .int 0, .ref q1, .ref q2, .ref q3, .ref q4, .ref q5, .ref q6, .ref q7, .ref q8, .ref q9, .int 0, .int 0, .int 0, .ref q10, .ref q11, .int 0, .ref q12, .ref q13, .ref q14, .int 0, .int 0, .ref q15, .int 0, .int 0, .int 0, .ref q16, .ref q17, .int 0, .int 0, .int 0, .ref q18, .ref q19, .ref q20, .ref q21, .ref q22, .long 0, .ref q23, .int 0, .int 0, .int 0, .int 0, .int 0, .int 0, .ref q24, .null, .null, .null, .null, .null, .null, .null, .null, .long 0])), (q1, .inl (cy 0, 4, .inl zI)), (q2, .inl (cy 0, 4, .inl zI)), (q3, .inl (cy 0, 4, .inl zI)), (q4, .inl (cy 0, 4, .inl zI)), (q5, .inl (cy 0, 6, .inl zI)), (q6, .inl (cy 0, 6, .inl zI)), (q7, .inl (cy 0, 6, .inl zI)), (q8, .inl (cy 0, 6, .inl zI)), (q9, .inl (cy 0, 6, .inl zI)), (q10, .inl (cy 0, 6, .inl zI)), (q11, .inl (cy 0, 6, .inl zI)), (q12, .inl (cy 0, 8, .inl zI)), (q13, .inl (cy 0, 8, .inl zI)), (q14, .inl (cy 0, 8, .inl zI)), (q15, .inl (cy 1, 52, .inl zI)), (q16, .inl (cy 0, 16, .inl zI)), (q17, .inl (cy 0, 64, .inl zI)), (q18, .inl (cy 0, 4, .inl zI)), (q19, .inl (cy 0, 4, .inl zI)), (q20, .inl (cy 0, 64, .inl zI)), (q21, .inl (cy 0, 4, .inl zI)), (q22, .inl (cy 0, 6, .inl zI)), (q23, .inl (cy 0, 6, .inl zI)), (q24, .inl (cy 0, 6, .inl zI))] H := hP
  have hD : va_D (aI h0 s.heap.size) [(h0, .inr (7, [.int 0, .int 0, .int 0, .ref q1, .ref q2, .ref q3, .ref q4, .ref q5, .ref q6, .ref q7, .ref q8, .ref q9, .int 0, .int 0, .int 0, .ref q10, .ref q11, .int 0, .ref q12, .ref q13, .ref q14, .int 0, .int 0, .ref q15, .int 0, .int 0, .int 0, .ref q16, .ref q17, .int 0, .int 0, .int 0, .ref q18, .ref q19, .ref q20, .ref q21, .ref q22, .long 0, .ref q23, .int 0, .int 0, .int 0, .int 0, .int 0, .int 0, .ref q24, .null, .null, .null, .null, .null, .null, .null, .null, .long 0])), (q1, .inl (cy 0, 4, .inl zI)), (q2, .inl (cy 0, 4, .inl zI)), (q3, .inl (cy 0, 4, .inl zI)), (q4, .inl (cy 0, 4, .inl zI)), (q5, .inl (cy 0, 6, .inl zI)), (q6, .inl (cy 0, 6, .inl zI)), (q7, .inl (cy 0, 6, .inl zI)), (q8, .inl (cy 0, 6, .inl zI)), (q9, .inl (cy 0, 6, .inl zI)), (q10, .inl (cy 0, 6, .inl zI)), (q11, .inl (cy 0, 6, .inl zI)), (q12, .inl (cy 0, 8, .inl zI)), (q13, .inl (cy 0, 8, .inl zI)), (q14, .inl (cy 0, 8, .inl zI)), (q15, .inl (cy 1, 52, .inl zI)), (q16, .inl (cy 0, 16, .inl zI)), (q17, .inl (cy 0, 64, .inl zI)), (q18, .inl (cy 0, 4, .inl zI)), (q19, .inl (cy 0, 4, .inl zI)), (q20, .inl (cy 0, 64, .inl zI)), (q21, .inl (cy 0, 4, .inl zI)), (q22, .inl (cy 0, 6, .inl zI)), (q23, .inl (cy 0, 6, .inl zI)), (q24, .inl (cy 0, 6, .inl zI))] := hD
  refine W.widen (k := 24) (n := 308) (Nat.le_of_ble_eq_true rfl) (Nat.le_of_ble_eq_true rfl) ?_
  refine lv_aload_n hx hb di_X7_189 rfl (lv_at hl 0 rfl) ?_
  refine lv_bipush (v := nI 6) hx hb di_X7_190 (by decide +kernel) ?_
  refine ini_arr (r := (RX7, TX7, 55)) (ci := 7) (f := 46) (idx := 83) (n := 6) (k := 0) hx hb hown hts hin hK hA rfl hP hD hS rfl (by decide) (Nat.le_of_ble_eq_true rfl) (Nat.le_of_ble_eq_true rfl) rfl rfl (by decide +kernel) gw_ac0 gl_7_83 (Nat.le_of_ble_eq_true rfl) (Nat.le_of_ble_eq_true rfl) (Nat.le_of_ble_eq_true rfl) di_X7_192 di_X7_194 (fun q25 H locs hP hD hS => ?_)
  have hP : va_P D vwCl [(h0, .inr (7, [.int 0, .int 0, .int 0, .ref q1, .ref q2, .ref q3, .ref q4, .ref q5, .ref q6, .ref q7, .ref q8, .ref q9, .int 0, .int 0, .int 0, .ref q10, .ref q11, .int 0, .ref q12, .ref q13, .ref q14, .int 0, .int 0, .ref q15, .int 0, .int 0, .int 0, .ref q16, .ref q17, .int 0, .int 0, .int 0, .ref q18, .ref q19, .ref q20, .ref q21, .ref q22, .long 0, .ref q23, .int 0, .int 0, .int 0, .int 0, .int 0, .int 0, .ref q24, .ref q25, .null, .null, .null, .null, .null, .null, .null, .long 0])), (q1, .inl (cy 0, 4, .inl zI)), (q2, .inl (cy 0, 4, .inl zI)), (q3, .inl (cy 0, 4, .inl zI)), (q4, .inl (cy 0, 4, .inl zI)), (q5, .inl (cy 0, 6, .inl zI)), (q6, .inl (cy 0, 6, .inl zI)), (q7, .inl (cy 0, 6, .inl zI)), (q8, .inl (cy 0, 6, .inl zI)), (q9, .inl (cy 0, 6, .inl zI)), (q10, .inl (cy 0, 6, .inl zI)), (q11, .inl (cy 0, 6, .inl zI)), (q12, .inl (cy 0, 8, .inl zI)), (q13, .inl (cy 0, 8, .inl zI)), (q14, .inl (cy 0, 8, .inl zI)), (q15, .inl (cy 1, 52, .inl zI)), (q16, .inl (cy 0, 16, .inl zI)), (q17, .inl (cy 0, 64, .inl zI)), (q18, .inl (cy 0, 4, .inl zI)), (q19, .inl (cy 0, 4, .inl zI)), (q20, .inl (cy 0, 64, .inl zI)), (q21, .inl (cy 0, 4, .inl zI)), (q22, .inl (cy 0, 6, .inl zI)), (q23, .inl (cy 0, 6, .inl zI)), (q24, .inl (cy 0, 6, .inl zI)), (q25, .inl (cy 0, 6, .inl zI))] H := hP
  have hD : va_D (aI h0 s.heap.size) [(h0, .inr (7, [.int 0, .int 0, .int 0, .ref q1, .ref q2, .ref q3, .ref q4, .ref q5, .ref q6, .ref q7, .ref q8, .ref q9, .int 0, .int 0, .int 0, .ref q10, .ref q11, .int 0, .ref q12, .ref q13, .ref q14, .int 0, .int 0, .ref q15, .int 0, .int 0, .int 0, .ref q16, .ref q17, .int 0, .int 0, .int 0, .ref q18, .ref q19, .ref q20, .ref q21, .ref q22, .long 0, .ref q23, .int 0, .int 0, .int 0, .int 0, .int 0, .int 0, .ref q24, .ref q25, .null, .null, .null, .null, .null, .null, .null, .long 0])), (q1, .inl (cy 0, 4, .inl zI)), (q2, .inl (cy 0, 4, .inl zI)), (q3, .inl (cy 0, 4, .inl zI)), (q4, .inl (cy 0, 4, .inl zI)), (q5, .inl (cy 0, 6, .inl zI)), (q6, .inl (cy 0, 6, .inl zI)), (q7, .inl (cy 0, 6, .inl zI)), (q8, .inl (cy 0, 6, .inl zI)), (q9, .inl (cy 0, 6, .inl zI)), (q10, .inl (cy 0, 6, .inl zI)), (q11, .inl (cy 0, 6, .inl zI)), (q12, .inl (cy 0, 8, .inl zI)), (q13, .inl (cy 0, 8, .inl zI)), (q14, .inl (cy 0, 8, .inl zI)), (q15, .inl (cy 1, 52, .inl zI)), (q16, .inl (cy 0, 16, .inl zI)), (q17, .inl (cy 0, 64, .inl zI)), (q18, .inl (cy 0, 4, .inl zI)), (q19, .inl (cy 0, 4, .inl zI)), (q20, .inl (cy 0, 64, .inl zI)), (q21, .inl (cy 0, 4, .inl zI)), (q22, .inl (cy 0, 6, .inl zI)), (q23, .inl (cy 0, 6, .inl zI)), (q24, .inl (cy 0, 6, .inl zI)), (q25, .inl (cy 0, 6, .inl zI))] := hD
  refine W.widen (k := 25) (n := 314) (Nat.le_of_ble_eq_true rfl) (Nat.le_of_ble_eq_true rfl) ?_
  refine lv_aload_n hx hb di_X7_197 rfl (lv_at hl 0 rfl) ?_
  refine lv_bipush (v := nI 6) hx hb di_X7_198 (by decide +kernel) ?_
  refine ini_arr (r := (RX7, TX7, 55)) (ci := 7) (f := 47) (idx := 86) (n := 6) (k := 0) hx hb hown hts hin hK hA rfl hP hD hS rfl (by decide) (Nat.le_of_ble_eq_true rfl) (Nat.le_of_ble_eq_true rfl) rfl rfl (by decide +kernel) gw_ac0 gl_7_86 (Nat.le_of_ble_eq_true rfl) (Nat.le_of_ble_eq_true rfl) (Nat.le_of_ble_eq_true rfl) di_X7_200 di_X7_202 (fun q26 H locs hP hD hS => ?_)
  have hP : va_P D vwCl [(h0, .inr (7, [.int 0, .int 0, .int 0, .ref q1, .ref q2, .ref q3, .ref q4, .ref q5, .ref q6, .ref q7, .ref q8, .ref q9, .int 0, .int 0, .int 0, .ref q10, .ref q11, .int 0, .ref q12, .ref q13, .ref q14, .int 0, .int 0, .ref q15, .int 0, .int 0, .int 0, .ref q16, .ref q17, .int 0, .int 0, .int 0, .ref q18, .ref q19, .ref q20, .ref q21, .ref q22, .long 0, .ref q23, .int 0, .int 0, .int 0, .int 0, .int 0, .int 0, .ref q24, .ref q25, .ref q26, .null, .null, .null, .null, .null, .null, .long 0])), (q1, .inl (cy 0, 4, .inl zI)), (q2, .inl (cy 0, 4, .inl zI)), (q3, .inl (cy 0, 4, .inl zI)), (q4, .inl (cy 0, 4, .inl zI)), (q5, .inl (cy 0, 6, .inl zI)), (q6, .inl (cy 0, 6, .inl zI)), (q7, .inl (cy 0, 6, .inl zI)), (q8, .inl (cy 0, 6, .inl zI)), (q9, .inl (cy 0, 6, .inl zI)), (q10, .inl (cy 0, 6, .inl zI)), (q11, .inl (cy 0, 6, .inl zI)), (q12, .inl (cy 0, 8, .inl zI)), (q13, .inl (cy 0, 8, .inl zI)), (q14, .inl (cy 0, 8, .inl zI)), (q15, .inl (cy 1, 52, .inl zI)), (q16, .inl (cy 0, 16, .inl zI)), (q17, .inl (cy 0, 64, .inl zI)), (q18, .inl (cy 0, 4, .inl zI)), (q19, .inl (cy 0, 4, .inl zI)), (q20, .inl (cy 0, 64, .inl zI)), (q21, .inl (cy 0, 4, .inl zI)), (q22, .inl (cy 0, 6, .inl zI)), (q23, .inl (cy 0, 6, .inl zI)), (q24, .inl (cy 0, 6, .inl zI)), (q25, .inl (cy 0, 6, .inl zI)), (q26, .inl (cy 0, 6, .inl zI))] H := hP
  have hD : va_D (aI h0 s.heap.size) [(h0, .inr (7, [.int 0, .int 0, .int 0, .ref q1, .ref q2, .ref q3, .ref q4, .ref q5, .ref q6, .ref q7, .ref q8, .ref q9, .int 0, .int 0, .int 0, .ref q10, .ref q11, .int 0, .ref q12, .ref q13, .ref q14, .int 0, .int 0, .ref q15, .int 0, .int 0, .int 0, .ref q16, .ref q17, .int 0, .int 0, .int 0, .ref q18, .ref q19, .ref q20, .ref q21, .ref q22, .long 0, .ref q23, .int 0, .int 0, .int 0, .int 0, .int 0, .int 0, .ref q24, .ref q25, .ref q26, .null, .null, .null, .null, .null, .null, .long 0])), (q1, .inl (cy 0, 4, .inl zI)), (q2, .inl (cy 0, 4, .inl zI)), (q3, .inl (cy 0, 4, .inl zI)), (q4, .inl (cy 0, 4, .inl zI)), (q5, .inl (cy 0, 6, .inl zI)), (q6, .inl (cy 0, 6, .inl zI)), (q7, .inl (cy 0, 6, .inl zI)), (q8, .inl (cy 0, 6, .inl zI)), (q9, .inl (cy 0, 6, .inl zI)), (q10, .inl (cy 0, 6, .inl zI)), (q11, .inl (cy 0, 6, .inl zI)), (q12, .inl (cy 0, 8, .inl zI)), (q13, .inl (cy 0, 8, .inl zI)), (q14, .inl (cy 0, 8, .inl zI)), (q15, .inl (cy 1, 52, .inl zI)), (q16, .inl (cy 0, 16, .inl zI)), (q17, .inl (cy 0, 64, .inl zI)), (q18, .inl (cy 0, 4, .inl zI)), (q19, .inl (cy 0, 4, .inl zI)), (q20, .inl (cy 0, 64, .inl zI)), (q21, .inl (cy 0, 4, .inl zI)), (q22, .inl (cy 0, 6, .inl zI)), (q23, .inl (cy 0, 6, .inl zI)), (q24, .inl (cy 0, 6, .inl zI)), (q25, .inl (cy 0, 6, .inl zI)), (q26, .inl (cy 0, 6, .inl zI))] := hD
  refine W.widen (k := 26) (n := 320) (Nat.le_of_ble_eq_true rfl) (Nat.le_of_ble_eq_true rfl) ?_
  refine lv_aload_n hx hb di_X7_205 rfl (lv_at hl 0 rfl) ?_
  refine lv_bipush (v := nI 6) hx hb di_X7_206 (by decide +kernel) ?_
  refine ini_arr (r := (RX7, TX7, 55)) (ci := 7) (f := 48) (idx := 89) (n := 6) (k := 0) hx hb hown hts hin hK hA rfl hP hD hS rfl (by decide) (Nat.le_of_ble_eq_true rfl) (Nat.le_of_ble_eq_true rfl) rfl rfl (by decide +kernel) gw_ac0 gl_7_89 (Nat.le_of_ble_eq_true rfl) (Nat.le_of_ble_eq_true rfl) (Nat.le_of_ble_eq_true rfl) di_X7_208 di_X7_210 (fun q27 H locs hP hD hS => ?_)
  have hP : va_P D vwCl [(h0, .inr (7, [.int 0, .int 0, .int 0, .ref q1, .ref q2, .ref q3, .ref q4, .ref q5, .ref q6, .ref q7, .ref q8, .ref q9, .int 0, .int 0, .int 0, .ref q10, .ref q11, .int 0, .ref q12, .ref q13, .ref q14, .int 0, .int 0, .ref q15, .int 0, .int 0, .int 0, .ref q16, .ref q17, .int 0, .int 0, .int 0, .ref q18, .ref q19, .ref q20, .ref q21, .ref q22, .long 0, .ref q23, .int 0, .int 0, .int 0, .int 0, .int 0, .int 0, .ref q24, .ref q25, .ref q26, .ref q27, .null, .null, .null, .null, .null, .long 0])), (q1, .inl (cy 0, 4, .inl zI)), (q2, .inl (cy 0, 4, .inl zI)), (q3, .inl (cy 0, 4, .inl zI)), (q4, .inl (cy 0, 4, .inl zI)), (q5, .inl (cy 0, 6, .inl zI)), (q6, .inl (cy 0, 6, .inl zI)), (q7, .inl (cy 0, 6, .inl zI)), (q8, .inl (cy 0, 6, .inl zI)), (q9, .inl (cy 0, 6, .inl zI)), (q10, .inl (cy 0, 6, .inl zI)), (q11, .inl (cy 0, 6, .inl zI)), (q12, .inl (cy 0, 8, .inl zI)), (q13, .inl (cy 0, 8, .inl zI)), (q14, .inl (cy 0, 8, .inl zI)), (q15, .inl (cy 1, 52, .inl zI)), (q16, .inl (cy 0, 16, .inl zI)), (q17, .inl (cy 0, 64, .inl zI)), (q18, .inl (cy 0, 4, .inl zI)), (q19, .inl (cy 0, 4, .inl zI)), (q20, .inl (cy 0, 64, .inl zI)), (q21, .inl (cy 0, 4, .inl zI)), (q22, .inl (cy 0, 6, .inl zI)), (q23, .inl (cy 0, 6, .inl zI)), (q24, .inl (cy 0, 6, .inl zI)), (q25, .inl (cy 0, 6, .inl zI)), (q26, .inl (cy 0, 6, .inl zI)), (q27, .inl (cy 0, 6, .inl zI))] H := hP
  have hD : va_D (aI h0 s.heap.size) [(h0, .inr (7, [.int 0, .int 0, .int 0, .ref q1, .ref q2, .ref q3, .ref q4, .ref q5, .ref q6, .ref q7, .ref q8, .ref q9, .int 0, .int 0, .int 0, .ref q10, .ref q11, .int 0, .ref q12, .ref q13, .ref q14, .int 0, .int 0, .ref q15, .int 0, .int 0, .int 0, .ref q16, .ref q17, .int 0, .int 0, .int 0, .ref q18, .ref q19, .ref q20, .ref q21, .ref q22, .long 0, .ref q23, .int 0, .int 0, .int 0, .int 0, .int 0, .int 0, .ref q24, .ref q25, .ref q26, .ref q27, .null, .null, .null, .null, .null, .long 0])), (q1, .inl (cy 0, 4, .inl zI)), (q2, .inl (cy 0, 4, .inl zI)), (q3, .inl (cy 0, 4, .inl zI)), (q4, .inl (cy 0, 4, .inl zI)), (q5, .inl (cy 0, 6, .inl zI)), (q6, .inl (cy 0, 6, .inl zI)), (q7, .inl (cy 0, 6, .inl zI)), (q8, .inl (cy 0, 6, .inl zI)), (q9, .inl (cy 0, 6, .inl zI)), (q10, .inl (cy 0, 6, .inl zI)), (q11, .inl (cy 0, 6, .inl zI)), (q12, .inl (cy 0, 8, .inl zI)), (q13, .inl (cy 0, 8, .inl zI)), (q14, .inl (cy 0, 8, .inl zI)), (q15, .inl (cy 1, 52, .inl zI)), (q16, .inl (cy 0, 16, .inl zI)), (q17, .inl (cy 0, 64, .inl zI)), (q18, .inl (cy 0, 4, .inl zI)), (q19, .inl (cy 0, 4, .inl zI)), (q20, .inl (cy 0, 64, .inl zI)), (q21, .inl (cy 0, 4, .inl zI)), (q22, .inl (cy 0, 6, .inl zI)), (q23, .inl (cy 0, 6, .inl zI)), (q24, .inl (cy 0, 6, .inl zI)), (q25, .inl (cy 0, 6, .inl zI)), (q26, .inl (cy 0, 6, .inl zI)), (q27, .inl (cy 0, 6, .inl zI))] := hD
  refine W.widen (k := 27) (n := 326) (Nat.le_of_ble_eq_true rfl) (Nat.le_of_ble_eq_true rfl) ?_
  refine lv_aload_n hx hb di_X7_213 rfl (lv_at hl 0 rfl) ?_
  refine lv_bipush (v := nI 6) hx hb di_X7_214 (by decide +kernel) ?_
  refine ini_arr (r := (RX7, TX7, 55)) (ci := 7) (f := 49) (idx := 92) (n := 6) (k := 0) hx hb hown hts hin hK hA rfl hP hD hS rfl (by decide) (Nat.le_of_ble_eq_true rfl) (Nat.le_of_ble_eq_true rfl) rfl rfl (by decide +kernel) gw_ac0 gl_7_92 (Nat.le_of_ble_eq_true rfl) (Nat.le_of_ble_eq_true rfl) (Nat.le_of_ble_eq_true rfl) di_X7_216 di_X7_218 (fun q28 H locs hP hD hS => ?_)
  have hP : va_P D vwCl [(h0, .inr (7, [.int 0, .int 0, .int 0, .ref q1, .ref q2, .ref q3, .ref q4, .ref q5, .ref q6, .ref q7, .ref q8, .ref q9, .int 0, .int 0, .int 0, .ref q10, .ref q11, .int 0, .ref q12, .ref q13, .ref q14, .int 0, .int 0, .ref q15, .int 0, .int 0, .int 0, .ref q16, .ref q17, .int 0, .int 0, .int 0, .ref q18, .ref q19, .ref q20, .ref q21, .ref q22, .long 0, .ref q23, .int 0, .int 0, .int 0, .int 0, .int 0, .int 0, .ref q24, .ref q25, .ref q26, .ref q27, .ref q28, .null, .null, .null, .null, .long 0])), (q1, .inl (cy 0, 4, .inl zI)), (q2, .inl (cy 0, 4, .inl zI)), (q3, .inl (cy 0, 4, .inl zI)), (q4, .inl (cy 0, 4, .inl zI)), (q5, .inl (cy 0, 6, .inl zI)), (q6, .inl (cy 0, 6, .inl zI)), (q7, .inl (cy 0, 6, .inl zI)), (q8, .inl (cy 0, 6, .inl zI)), (q9, .inl (cy 0, 6, .inl zI)), (q10, .inl (cy 0, 6, .inl zI)), (q11, .inl (cy 0, 6, .inl zI)), (q12, .inl (cy 0, 8, .inl zI)), (q13, .inl (cy 0, 8, .inl zI)), (q14, .inl (cy 0, 8, .inl zI)), (q15, .inl (cy 1, 52, .inl zI)), (q16, .inl (cy 0, 16, .inl zI)), (q17, .inl (cy 0, 64, .inl zI)), (q18, .inl (cy 0, 4, .inl zI)), (q19, .inl (cy 0, 4, .inl zI)), (q20, .inl (cy 0, 64, .inl zI)), (q21, .inl (cy 0, 4, .inl zI)), (q22, .inl (cy 0, 6, .inl zI)), (q23, .inl (cy 0, 6, .inl zI)), (q24, .inl (cy 0, 6, .inl zI)), (q25, .inl (cy 0, 6, .inl zI)), (q26, .inl (cy 0, 6, .inl zI)), (q27, .inl (cy 0, 6, .inl zI)), (q28, .inl (cy 0, 6, .inl zI))] H := hP
  have hD : va_D (aI h0 s.heap.size) [(h0, .inr (7, [.int 0, .int 0, .int 0, .ref q1, .ref q2, .ref q3, .ref q4, .ref q5, .ref q6, .ref q7, .ref q8, .ref q9, .int 0, .int 0, .int 0, .ref q10, .ref q11, .int 0, .ref q12, .ref q13, .ref q14, .int 0, .int 0, .ref q15, .int 0, .int 0, .int 0, .ref q16, .ref q17, .int 0, .int 0, .int 0, .ref q18, .ref q19, .ref q20, .ref q21, .ref q22, .long 0, .ref q23, .int 0, .int 0, .int 0, .int 0, .int 0, .int 0, .ref q24, .ref q25, .ref q26, .ref q27, .ref q28, .null, .null, .null, .null, .long 0])), (q1, .inl (cy 0, 4, .inl zI)), (q2, .inl (cy 0, 4, .inl zI)), (q3, .inl (cy 0, 4, .inl zI)), (q4, .inl (cy 0, 4, .inl zI)), (q5, .inl (cy 0, 6, .inl zI)), (q6, .inl (cy 0, 6, .inl zI)), (q7, .inl (cy 0, 6, .inl zI)), (q8, .inl (cy 0, 6, .inl zI)), (q9, .inl (cy 0, 6, .inl zI)), (q10, .inl (cy 0, 6, .inl zI)), (q11, .inl (cy 0, 6, .inl zI)), (q12, .inl (cy 0, 8, .inl zI)), (q13, .inl (cy 0, 8, .inl zI)), (q14, .inl (cy 0, 8, .inl zI)), (q15, .inl (cy 1, 52, .inl zI)), (q16, .inl (cy 0, 16, .inl zI)), (q17, .inl (cy 0, 64, .inl zI)), (q18, .inl (cy 0, 4, .inl zI)), (q19, .inl (cy 0, 4, .inl zI)), (q20, .inl (cy 0, 64, .inl zI)), (q21, .inl (cy 0, 4, .inl zI)), (q22, .inl (cy 0, 6, .inl zI)), (q23, .inl (cy 0, 6, .inl zI)), (q24, .inl (cy 0, 6, .inl zI)), (q25, .inl (cy 0, 6, .inl zI)), (q26, .inl (cy 0, 6, .inl zI)), (q27, .inl (cy 0, 6, .inl zI)), (q28, .inl (cy 0, 6, .inl zI))] := hD
  refine W.widen (k := 28) (n := 332) (Nat.le_of_ble_eq_true rfl) (Nat.le_of_ble_eq_true rfl) ?_
  refine lv_aload_n hx hb di_X7_221 rfl (lv_at hl 0 rfl) ?_
  refine lv_bipush (v := nI 6) hx hb di_X7_222 (by decide +kernel) ?_
  refine ini_arr (r := (RX7, TX7, 55)) (ci := 7) (f := 50) (idx := 95) (n := 6) (k := 0) hx hb hown hts hin hK hA rfl hP hD hS rfl (by decide) (Nat.le_of_ble_eq_true rfl) (Nat.le_of_ble_eq_true rfl) rfl rfl (by decide +kernel) gw_ac0 gl_7_95 (Nat.le_of_ble_eq_true rfl) (Nat.le_of_ble_eq_true rfl) (Nat.le_of_ble_eq_true rfl) di_X7_224 di_X7_226 (fun q29 H locs hP hD hS => ?_)
  have hP : va_P D vwCl [(h0, .inr (7, [.int 0, .int 0, .int 0, .ref q1, .ref q2, .ref q3, .ref q4, .ref q5, .ref q6, .ref q7, .ref q8, .ref q9, .int 0, .int 0, .int 0, .ref q10, .ref q11, .int 0, .ref q12, .ref q13, .ref q14, .int 0, .int 0, .ref q15, .int 0, .int 0, .int 0, .ref q16, .ref q17, .int 0, .int 0, .int 0, .ref q18, .ref q19, .ref q20, .ref q21, .ref q22, .long 0, .ref q23, .int 0, .int 0, .int 0, .int 0, .int 0, .int 0, .ref q24, .ref q25, .ref q26, .ref q27, .ref q28, .ref q29, .null, .null, .null, .long 0])), (q1, .inl (cy 0, 4, .inl zI)), (q2, .inl (cy 0, 4, .inl zI)), (q3, .inl (cy 0, 4, .inl zI)), (q4, .inl (cy 0, 4, .inl zI)), (q5, .inl (cy 0, 6, .inl zI)), (q6, .inl (cy 0, 6, .inl zI)), (q7, .inl (cy 0, 6, .inl zI)), (q8, .inl (cy 0, 6, .inl zI)), (q9, .inl (cy 0, 6, .inl zI)), (q10, .inl (cy 0, 6, .inl zI)), (q11, .inl (cy 0, 6, .inl zI)), (q12, .inl (cy 0, 8, .inl zI)), (q13, .inl (cy 0, 8, .inl zI)), (q14, .inl (cy 0, 8, .inl zI)), (q15, .inl (cy 1, 52, .inl zI)), (q16, .inl (cy 0, 16, .inl zI)), (q17, .inl (cy 0, 64, .inl zI)), (q18, .inl (cy 0, 4, .inl zI)), (q19, .inl (cy 0, 4, .inl zI)), (q20, .inl (cy 0, 64, .inl zI)), (q21, .inl (cy 0, 4, .inl zI)), (q22, .inl (cy 0, 6, .inl zI)), (q23, .inl (cy 0, 6, .inl zI)), (q24, .inl (cy 0, 6, .inl zI)), (q25, .inl (cy 0, 6, .inl zI)), (q26, .inl (cy 0, 6, .inl zI)), (q27, .inl (cy 0, 6, .inl zI)), (q28, .inl (cy 0, 6, .inl zI)), (q29, .inl (cy 0, 6, .inl zI))] H := hP
  have hD : va_D (aI h0 s.heap.size) [(h0, .inr (7, [.int 0, .int 0, .int 0, .ref q1, .ref q2, .ref q3, .ref q4, .ref q5, .ref q6, .ref q7, .ref q8, .ref q9, .int 0, .int 0, .int 0, .ref q10, .ref q11, .int 0, .ref q12, .ref q13, .ref q14, .int 0, .int 0, .ref q15, .int 0, .int 0, .int 0, .ref q16, .ref q17, .int 0, .int 0, .int 0, .ref q18, .ref q19, .ref q20, .ref q21, .ref q22, .long 0, .ref q23, .int 0, .int 0, .int 0, .int 0, .int 0, .int 0, .ref q24, .ref q25, .ref q26, .ref q27, .ref q28, .ref q29, .null, .null, .null, .long 0])), (q1, .inl (cy 0, 4, .inl zI)), (q2, .inl (cy 0, 4, .inl zI)), (q3, .inl (cy 0, 4, .inl zI)), (q4, .inl (cy 0, 4, .inl zI)), (q5, .inl (cy 0, 6, .inl zI)), (q6, .inl (cy 0, 6, .inl zI)), (q7, .inl (cy 0, 6, .inl zI)), (q8, .inl (cy 0, 6, .inl zI)), (q9, .inl (cy 0, 6, .inl zI)), (q10, .inl (cy 0, 6, .inl zI)), (q11, .inl (cy 0, 6, .inl zI)), (q12, .inl (cy 0, 8, .inl zI)), (q13, .inl (cy 0, 8, .inl zI)), (q14, .inl (cy 0, 8, .inl zI)), (q15, .inl (cy 1, 52, .inl zI)), (q16, .inl (cy 0, 16, .inl zI)), (q17, .inl (cy 0, 64, .inl zI)), (q18, .inl (cy 0, 4, .inl zI)), (q19, .inl (cy 0, 4, .inl zI)), (q20, .inl (cy 0, 64, .inl zI)), (q21, .inl (cy 0, 4, .inl zI)), (q22, .inl (cy 0, 6, .inl zI)), (q23, .inl (cy 0, 6, .inl zI)), (q24, .inl (cy 0, 6, .inl zI)), (q25, .inl (cy 0, 6, .inl zI)), (q26, .inl (cy 0, 6, .inl zI)), (q27, .inl (cy 0, 6, .inl zI)), (q28, .inl (cy 0, 6, .inl zI)), (q29, .inl (cy 0, 6, .inl zI))] := hD
  refine W.widen (k := 29) (n := 338) (Nat.le_of_ble_eq_true rfl) (Nat.le_of_ble_eq_true rfl) ?_
  refine lv_aload_n hx hb di_X7_229 rfl (lv_at hl 0 rfl) ?_
  refine lv_bipush (v := nI 8) hx hb di_X7_230 (by decide +kernel) ?_
  refine ini_arr (r := (RX7, TX7, 55)) (ci := 7) (f := 51) (idx := 98) (n := 8) (k := 0) hx hb hown hts hin hK hA rfl hP hD hS rfl (by decide) (Nat.le_of_ble_eq_true rfl) (Nat.le_of_ble_eq_true rfl) rfl rfl (by decide +kernel) gw_ac0 gl_7_98 (Nat.le_of_ble_eq_true rfl) (Nat.le_of_ble_eq_true rfl) (Nat.le_of_ble_eq_true rfl) di_X7_232 di_X7_234 (fun q30 H locs hP hD hS => ?_)
  have hP : va_P D vwCl [(h0, .inr (7, [.int 0, .int 0, .int 0, .ref q1, .ref q2, .ref q3, .ref q4, .ref q5, .ref q6, .ref q7, .ref q8, .ref q9, .int 0, .int 0, .int 0, .ref q10, .ref q11, .int 0, .ref q12, .ref q13, .ref q14, .int 0, .int 0, .ref q15, .int 0, .int 0, .int 0, .ref q16, .ref q17, .int 0, .int 0, .int 0, .ref q18, .ref q19, .ref q20, .ref q21, .ref q22, .long 0, .ref q23, .int 0, .int 0, .int 0, .int 0, .int 0, .int 0, .ref q24, .ref q25, .ref q26, .ref q27, .ref q28, .ref q29, .ref q30, .null, .null, .long 0])), (q1, .inl (cy 0, 4, .inl zI)), (q2, .inl (cy 0, 4, .inl zI)), (q3, .inl (cy 0, 4, .inl zI)), (q4, .inl (cy 0, 4, .inl zI)), (q5, .inl (cy 0, 6, .inl zI)), (q6, .inl (cy 0, 6, .inl zI)), (q7, .inl (cy 0, 6, .inl zI)), (q8, .inl (cy 0, 6, .inl zI)), (q9, .inl (cy 0, 6, .inl zI)), (q10, .inl (cy 0, 6, .inl zI)), (q11, .inl (cy 0, 6, .inl zI)), (q12, .inl (cy 0, 8, .inl zI)), (q13, .inl (cy 0, 8, .inl zI)), (q14, .inl (cy 0, 8, .inl zI)), (q15, .inl (cy 1, 52, .inl zI)), (q16, .inl (cy 0, 16, .inl zI)), (q17, .inl (cy 0, 64, .inl zI)), (q18, .inl (cy 0, 4, .inl zI)), (q19, .inl (cy 0, 4, .inl zI)), (q20, .inl (cy 0, 64, .inl zI)), (q21, .inl (cy 0, 4, .inl zI)), (q22, .inl (cy 0, 6, .inl zI)), (q23, .inl (cy 0, 6, .inl zI)), (q24, .inl (cy 0, 6, .inl zI)), (q25, .inl (cy 0, 6, .inl zI)), (q26, .inl (cy 0, 6, .inl zI)), (q27, .inl (cy 0, 6, .inl zI)), (q28, .inl (cy 0, 6, .inl zI)), (q29, .inl (cy 0, 6, .inl zI)), (q30, .inl (cy 0, 8, .inl zI))] H := hP
  have hD : va_D (aI h0 s.heap.size) [(h0, .inr (7, [.int 0, .int 0, .int 0, .ref q1, .ref q2, .ref q3, .ref q4, .ref q5, .ref q6, .ref q7, .ref q8, .ref q9, .int 0, .int 0, .int 0, .ref q10, .ref q11, .int 0, .ref q12, .ref q13, .ref q14, .int 0, .int 0, .ref q15, .int 0, .int 0, .int 0, .ref q16, .ref q17, .int 0, .int 0, .int 0, .ref q18, .ref q19, .ref q20, .ref q21, .ref q22, .long 0, .ref q23, .int 0, .int 0, .int 0, .int 0, .int 0, .int 0, .ref q24, .ref q25, .ref q26, .ref q27, .ref q28, .ref q29, .ref q30, .null, .null, .long 0])), (q1, .inl (cy 0, 4, .inl zI)), (q2, .inl (cy 0, 4, .inl zI)), (q3, .inl (cy 0, 4, .inl zI)), (q4, .inl (cy 0, 4, .inl zI)), (q5, .inl (cy 0, 6, .inl zI)), (q6, .inl (cy 0, 6, .inl zI)), (q7, .inl (cy 0, 6, .inl zI)), (q8, .inl (cy 0, 6, .inl zI)), (q9, .inl (cy 0, 6, .inl zI)), (q10, .inl (cy 0, 6, .inl zI)), (q11, .inl (cy 0, 6, .inl zI)), (q12, .inl (cy 0, 8, .inl zI)), (q13, .inl (cy 0, 8, .inl zI)), (q14, .inl (cy 0, 8, .inl zI)), (q15, .inl (cy 1, 52, .inl zI)), (q16, .inl (cy 0, 16, .inl zI)), (q17, .inl (cy 0, 64, .inl zI)), (q18, .inl (cy 0, 4, .inl zI)), (q19, .inl (cy 0, 4, .inl zI)), (q20, .inl (cy 0, 64, .inl zI)), (q21, .inl (cy 0, 4, .inl zI)), (q22, .inl (cy 0, 6, .inl zI)), (q23, .inl (cy 0, 6, .inl zI)), (q24, .inl (cy 0, 6, .inl zI)), (q25, .inl (cy 0, 6, .inl zI)), (q26, .inl (cy 0, 6, .inl zI)), (q27, .inl (cy 0, 6, .inl zI)), (q28, .inl (cy 0, 6, .inl zI)), (q29, .inl (cy 0, 6, .inl zI)), (q30, .inl (cy 0, 8, .inl zI))] := hD
  refine W.widen (k := 30) (n := 346) (Nat.le_of_ble_eq_true rfl) (Nat.le_of_ble_eq_true rfl) ?_
  refine lv_aload_n hx hb di_X7_237 rfl (lv_at hl 0 rfl) ?_
  refine lv_bipush (v := nI 8) hx hb di_X7_238 (by decide +kernel) ?_
  refine ini_arr (r := (RX7, TX7, 55)) (ci := 7) (f := 52) (idx := 101) (n := 8) (k := 0) hx hb hown hts hin hK hA rfl hP hD hS rfl (by decide) (Nat.le_of_ble_eq_true rfl) (Nat.le_of_ble_eq_true rfl) rfl rfl (by decide +kernel) gw_ac0 gl_7_101 (Nat.le_of_ble_eq_true rfl) (Nat.le_of_ble_eq_true rfl) (Nat.le_of_ble_eq_true rfl) di_X7_240 di_X7_242 (fun q31 H locs hP hD hS => ?_)
  have hP : va_P D vwCl [(h0, .inr (7, [.int 0, .int 0, .int 0, .ref q1, .ref q2, .ref q3, .ref q4, .ref q5, .ref q6, .ref q7, .ref q8, .ref q9, .int 0, .int 0, .int 0, .ref q10, .ref q11, .int 0, .ref q12, .ref q13, .ref q14, .int 0, .int 0, .ref q15, .int 0, .int 0, .int 0, .ref q16, .ref q17, .int 0, .int 0, .int 0, .ref q18, .ref q19, .ref q20, .ref q21, .ref q22, .long 0, .ref q23, .int 0, .int 0, .int 0, .int 0, .int 0, .int 0, .ref q24, .ref q25, .ref q26, .ref q27, .ref q28, .ref q29, .ref q30, .ref q31, .null, .long 0])), (q1, .inl (cy 0, 4, .inl zI)), (q2, .inl (cy 0, 4, .inl zI)), (q3, .inl (cy 0, 4, .inl zI)), (q4, .inl (cy 0, 4, .inl zI)), (q5, .inl (cy 0, 6, .inl zI)), (q6, .inl (cy 0, 6, .inl zI)), (q7, .inl (cy 0, 6, .inl zI)), (q8, .inl (cy 0, 6, .inl zI)), (q9, .inl (cy 0, 6, .inl zI)), (q10, .inl (cy 0, 6, .inl zI)), (q11, .inl (cy 0, 6, .inl zI)), (q12, .inl (cy 0, 8, .inl zI)), (q13, .inl (cy 0, 8, .inl zI)), (q14, .inl (cy 0, 8, .inl zI)), (q15, .inl (cy 1, 52, .inl zI)), (q16, .inl (cy 0, 16, .inl zI)), (q17, .inl (cy 0, 64, .inl zI)), (q18, .inl (cy 0, 4, .inl zI)), (q19, .inl (cy 0, 4, .inl zI)), (q20, .inl (cy 0, 64, .inl zI)), (q21, .inl (cy 0, 4, .inl zI)), (q22, .inl (cy 0, 6, .inl zI)), (q23, .inl (cy 0, 6, .inl zI)), (q24, .inl (cy 0, 6, .inl zI)), (q25, .inl (cy 0, 6, .inl zI)), (q26, .inl (cy 0, 6, .inl zI)), (q27, .inl (cy 0, 6, .inl zI)), (q28, .inl (cy 0, 6, .inl zI)), (q29, .inl (cy 0, 6, .inl zI)), (q30, .inl (cy 0, 8, .inl zI)), (q31, .inl (cy 0, 8, .inl zI))] H := hP
  have hD : va_D (aI h0 s.heap.size) [(h0, .inr (7, [.int 0, .int 0, .int 0, .ref q1, .ref q2, .ref q3, .ref q4, .ref q5, .ref q6, .ref q7, .ref q8, .ref q9, .int 0, .int 0, .int 0, .ref q10, .ref q11, .int 0, .ref q12, .ref q13, .ref q14, .int 0, .int 0, .ref q15, .int 0, .int 0, .int 0, .ref q16, .ref q17, .int 0, .int 0, .int 0, .ref q18, .ref q19, .ref q20, .ref q21, .ref q22, .long 0, .ref q23, .int 0, .int 0, .int 0, .int 0, .int 0, .int 0, .ref q24, .ref q25, .ref q26, .ref q27, .ref q28, .ref q29, .ref q30, .ref q31, .null, .long 0])), (q1, .inl (cy 0, 4, .inl zI)), (q2, .inl (cy 0, 4, .inl zI)), (q3, .inl (cy 0, 4, .inl zI)), (q4, .inl (cy 0, 4, .inl zI)), (q5, .inl (cy 0, 6, .inl zI)), (q6, .inl (cy 0, 6, .inl zI)), (q7, .inl (cy 0, 6, .inl zI)), (q8, .inl (cy 0, 6, .inl zI)), (q9, .inl (cy 0, 6, .inl zI)), (q10, .inl (cy 0, 6, .inl zI)), (q11, .inl (cy 0, 6, .inl zI)), (q12, .inl (cy 0, 8, .inl zI)), (q13, .inl (cy 0, 8, .inl zI)), (q14, .inl (cy 0, 8, .inl zI)), (q15, .inl (cy 1, 52, .inl zI)), (q16, .inl (cy 0, 16, .inl zI)), (q17, .inl (cy 0, 64, .inl zI)), (q18, .inl (cy 0, 4, .inl zI)), (q19, .inl (cy 0, 4, .inl zI)), (q20, .inl (cy 0, 64, .inl zI)), (q21, .inl (cy 0, 4, .inl zI)), (q22, .inl (cy 0, 6, .inl zI)), (q23, .inl (cy 0, 6, .inl zI)), (q24, .inl (cy 0, 6, .inl zI)), (q25, .inl (cy 0, 6, .inl zI)), (q26, .inl (cy 0, 6, .inl zI)), (q27, .inl (cy 0, 6, .inl zI)), (q28, .inl (cy 0, 6, .inl zI)), (q29, .inl (cy 0, 6, .inl zI)), (q30, .inl (cy 0, 8, .inl zI)), (q31, .inl (cy 0, 8, .inl zI))] := hD
  refine W.widen (k := 31) (n := 354) (Nat.le_of_ble_eq_true rfl) (Nat.le_of_ble_eq_true rfl) ?_
  refine lv_aload_n hx hb di_X7_245 rfl (lv_at hl 0 rfl) ?_
  refine lv_bipush (v := nI 8) hx hb di_X7_246 (by decide +kernel) ?_
  refine ini_arr (r := (RX7, TX7, 55)) (ci := 7) (f := 53) (idx := 104) (n := 8) (k := 0) hx hb hown hts hin hK hA rfl hP hD hS rfl (by decide) (Nat.le_of_ble_eq_true rfl) (Nat.le_of_ble_eq_true rfl) rfl rfl (by decide +kernel) gw_ac0 gl_7_104 (Nat.le_of_ble_eq_true rfl) (Nat.le_of_ble_eq_true rfl) (Nat.le_of_ble_eq_true rfl) di_X7_248 di_X7_250 (fun q32 H locs hP hD hS => ?_)
  have hP : va_P D vwCl [(h0, .inr (7, [.int 0, .int 0, .int 0, .ref q1, .ref q2, .ref q3, .ref q4, .ref q5, .ref q6, .ref q7, .ref q8, .ref q9, .int 0, .int 0, .int 0, .ref q10, .ref q11, .int 0, .ref q12, .ref q13, .ref q14, .int 0, .int 0, .ref q15, .int 0, .int 0, .int 0, .ref q16, .ref q17, .int 0, .int 0, .int 0, .ref q18, .ref q19, .ref q20, .ref q21, .ref q22, .long 0, .ref q23, .int 0, .int 0, .int 0, .int 0, .int 0, .int 0, .ref q24, .ref q25, .ref q26, .ref q27, .ref q28, .ref q29, .ref q30, .ref q31, .ref q32, .long 0])), (q1, .inl (cy 0, 4, .inl zI)), (q2, .inl (cy 0, 4, .inl zI)), (q3, .inl (cy 0, 4, .inl zI)), (q4, .inl (cy 0, 4, .inl zI)), (q5, .inl (cy 0, 6, .inl zI)), (q6, .inl (cy 0, 6, .inl zI)), (q7, .inl (cy 0, 6, .inl zI)), (q8, .inl (cy 0, 6, .inl zI)), (q9, .inl (cy 0, 6, .inl zI)), (q10, .inl (cy 0, 6, .inl zI)), (q11, .inl (cy 0, 6, .inl zI)), (q12, .inl (cy 0, 8, .inl zI)), (q13, .inl (cy 0, 8, .inl zI)), (q14, .inl (cy 0, 8, .inl zI)), (q15, .inl (cy 1, 52, .inl zI)), (q16, .inl (cy 0, 16, .inl zI)), (q17, .inl (cy 0, 64, .inl zI)), (q18, .inl (cy 0, 4, .inl zI)), (q19, .inl (cy 0, 4, .inl zI)), (q20, .inl (cy 0, 64, .inl zI)), (q21, .inl (cy 0, 4, .inl zI)), (q22, .inl (cy 0, 6, .inl zI)), (q23, .inl (cy 0, 6, .inl zI)), (q24, .inl (cy 0, 6, .inl zI)), (q25, .inl (cy 0, 6, .inl zI)), (q26, .inl (cy 0, 6, .inl zI)), (q27, .inl (cy 0, 6, .inl zI)), (q28, .inl (cy 0, 6, .inl zI)), (q29, .inl (cy 0, 6, .inl zI)), (q30, .inl (cy 0, 8, .inl zI)), (q31, .inl (cy 0, 8, .inl zI)), (q32, .inl (cy 0, 8, .inl zI))] H := hP
  have hD : va_D (aI h0 s.heap.size) [(h0, .inr (7, [.int 0, .int 0, .int 0, .ref q1, .ref q2, .ref q3, .ref q4, .ref q5, .ref q6, .ref q7, .ref q8, .ref q9, .int 0, .int 0, .int 0, .ref q10, .ref q11, .int 0, .ref q12, .ref q13, .ref q14, .int 0, .int 0, .ref q15, .int 0, .int 0, .int 0, .ref q16, .ref q17, .int 0, .int 0, .int 0, .ref q18, .ref q19, .ref q20, .ref q21, .ref q22, .long 0, .ref q23, .int 0, .int 0, .int 0, .int 0, .int 0, .int 0, .ref q24, .ref q25, .ref q26, .ref q27, .ref q28, .ref q29, .ref q30, .ref q31, .ref q32, .long 0])), (q1, .inl (cy 0, 4, .inl zI)), (q2, .inl (cy 0, 4, .inl zI)), (q3, .inl (cy 0, 4, .inl zI)), (q4, .inl (cy 0, 4, .inl zI)), (q5, .inl (cy 0, 6, .inl zI)), (q6, .inl (cy 0, 6, .inl zI)), (q7, .inl (cy 0, 6, .inl zI)), (q8, .inl (cy 0, 6, .inl zI)), (q9, .inl (cy 0, 6, .inl zI)), (q10, .inl (cy 0, 6, .inl zI)), (q11, .inl (cy 0, 6, .inl zI)), (q12, .inl (cy 0, 8, .inl zI)), (q13, .inl (cy 0, 8, .inl zI)), (q14, .inl (cy 0, 8, .inl zI)), (q15, .inl (cy 1, 52, .inl zI)), (q16, .inl (cy 0, 16, .inl zI)), (q17, .inl (cy 0, 64, .inl zI)), (q18, .inl (cy 0, 4, .inl zI)), (q19, .inl (cy 0, 4, .inl zI)), (q20, .inl (cy 0, 64, .inl zI)), (q21, .inl (cy 0, 4, .inl zI)), (q22, .inl (cy 0, 6, .inl zI)), (q23, .inl (cy 0, 6, .inl zI)), (q24, .inl (cy 0, 6, .inl zI)), (q25, .inl (cy 0, 6, .inl zI)), (q26, .inl (cy 0, 6, .inl zI)), (q27, .inl (cy 0, 6, .inl zI)), (q28, .inl (cy 0, 6, .inl zI)), (q29, .inl (cy 0, 6, .inl zI)), (q30, .inl (cy 0, 8, .inl zI)), (q31, .inl (cy 0, 8, .inl zI)), (q32, .inl (cy 0, 8, .inl zI))] := hD
  refine W.widen (k := 32) (n := 362) (Nat.le_of_ble_eq_true rfl) (Nat.le_of_ble_eq_true rfl) ?_
  exact W.vret hx hb hr (fun t ht hW => ⟨⟨[q1, q2, q3, q4, q5, q6, q7, q8, q9, q10, q11, q12, q13, q14, q15, q16, q17, q18, q19, q20, q21, q22, q23, q24, q25, q26, q27, q28, q29, q30, q31, q32], rfl, rfl, by rw [ht]; exact hP, hD⟩, hS.F ht⟩) hS.2.2 di_X7_253
