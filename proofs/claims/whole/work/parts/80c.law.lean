/-! the law: its world, its loads, its calls -/
def chkS (s : Shp) : Bool := match s with
  | .inl q => Nat.blt q.1 3
  | .inr q => match vwCl[q.1]? with
    | some (_, T, N) => Nat.beq q.2.length N && (List.range N).all (fun k => match nthF q.2 k with
      | some (0, _) => decide (parseFieldDescriptor (T k).2.2.1 = some .int)
      | some (1, _) => decide (parseFieldDescriptor (T k).2.2.1 = some .boolean)
      | some (2, _) => decide (parseFieldDescriptor (T k).2.2.1 = some .long)
      | _ => true)
    | none => false
theorem chk_shp : (List.range 79).all (fun i => match shp i with
  | some s => chkS s
  | none => true) = true := by decide +kernel
theorem okShp : okSh shp 79 := by
  have hlt : ∀ i s, shp i = some s → i < 79 := by
    intro i s h
    by_cases hi : i < 79
    · exact hi
    · rw [show shp i = none from bg i (by omega)] at h
      cases h
  have hck : ∀ i s, shp i = some s → chkS s = true := by
    intro i s h
    have h1 := List.all_eq_true.mp chk_shp i (List.mem_range.mpr (hlt i s h))
    rw [h] at h1
    exact h1
  refine ⟨by decide, hlt, fun i q h => Nat.blt_eq.mp (hck i _ h), fun i q h => ?_⟩
  have h1 := hck i _ h
  unfold chkS at h1
  dsimp only at h1
  split at h1
  · rename_i C T N hr
    simp only [Bool.and_eq_true] at h1
    have e := Nat.eq_of_beq_eq_true h1.1
    refine ⟨(C, T, N), hr, e, fun k f hf => ?_⟩
    have h2 := List.all_eq_true.mp h1.2 k (List.mem_range.mpr (by rw [← e]; exact nthF_lt _ _ _ hf))
    rw [hf] at h2
    obtain ⟨t, j⟩ := f
    refine ⟨fun z => ?_, fun z => ?_, fun z => ?_⟩ <;> (dsimp only at z; subst z; exact of_decide_eq_true h2)
  · cases h1
abbrev AL (s : State) : Nat → Prop := fun q => s.heap.size ≤ q
def LCx (p : Program) (s : State) (m : MethodId) (c : Code) (b L : Nat) (xs : Nat → Int32) (D : va_G) (ad cy : Nat → Nat) : Prop :=
  p.tables.exec = Jvm.exec ∧ c.code = code ∧ c.maxLocals = 4 ∧ s.vm.findClass R_law = some m.cls ∧ (∀ w ∈ gt, w.before #[Value.ref b] s = true) ∧ va_K D vwCl (tyL cy) s ∧ (∀ h, va_D (AL s) (wsH ad cy shp 79 h)) ∧ SF ad (AL s) s s.heap ∧ NW s ∧ vk_R "StockingLine$Page" 30 "klybr" (ad 110) s ∧ va_X b L xs s s.heap ∧ b < s.heap.size
section LAW
variable {p : Program} {l : Launch} {e : Env} {s : State} {m : MethodId} {below : List Frame} {meth : Method} {c : Code} {b L : Nat} {xs : Nat → Int32} {D : va_G} {ad cy : Nat → Nat} {Z : State → Prop}
theorem law_ld (C0 : LCx p s m c b L xs D ad cy) {H : Heap} {locs : List Loc} (hS : va_S (AL s) s.heap H locs) {ls : Array Slot} {i k : Nat} (h0 : ls[0]? = some (.val (.ref b))) (h3 : ls[3]? = some (.val (.int (nI i)))) (hi : i + k < L) (hL : L ≤ 256) (hk : k < 4) {pc : Nat} {rest : List Value} (d1 : decode code pc = .ok (.aload_n 0, 1)) (d2 : decode code (pc + 1) = .ok (.iload_n 3, 1)) (d3 : decode code (pc + 2) = .ok (.iconst (k : Int), 1)) (d4 : decode code (pc + 3) = .ok (.iadd, 1)) (d5 : decode code (pc + 4) = .ok (.iaload, 1))
    (kk : W p l e room_1 s m #[Value.ref b] below meth c H locs 100 2000 Z (F0 m (pc + 5) ls (.int (xs (i + k)) :: rest))) : W p l e room_1 s m #[Value.ref b] below meth c H locs 100 2000 Z (F0 m pc ls rest) := by
  obtain ⟨hx, hb, hml, hown, hts, hK, hD, hSF, hNW, hvR, hX, hbl⟩ := C0
  have hbA : ¬ (AL s) b := Nat.not_le.mpr hbl
  refine lv_aload_n hx hb d1 rfl h0 ?_
  refine lv_iload_n hx hb d2 rfl h3 ?_
  refine lv_iconst (v := nI k) hx hb d3 (by rcases (show k = 0 ∨ k = 1 ∨ k = 2 ∨ k = 3 by omega) with rfl | rfl | rfl | rfl <;> decide +kernel) ?_
  refine lv_iadd hx hb d4 ?_
  rw [nI_add]
  refine va_sld hx hb hX hbl hbA hS (vp_in_nI hi (by omega)) d5 ?_
  rw [nI_clamp (by omega)]
  exact kk
theorem law_run (C0 : LCx p s m c b L xs D ad cy) {y idx i : Nat} {q : (Nat → Option Ops) × Nat × Nat} {As rest : List Value} {h : Hp} {Q : Pst} {H : Heap} {locs : List Loc} {ls : Array Slot} {pc : Nat} (hm : mtb y = some q) (hlk : (.methodLink R_law idx (mnm y) : Jvm.Cond) ∈ gt) (hv : (mpl y).2.2.2.2.1 = 0) (hn : As.length = (mpl y).2.2.2.2.2) {ci : Nat} {fs : List (Nat × Nat)} (hs0 : shp i = some (.inr (ci, fs))) (hcl : cnm ci = (mnm y).cls) (hci : ci < 8) (hE : Ev mtb shp 16 y (.ref i :: As) h Q) (hP : va_P D vwCl (wsH ad cy shp 79 h) H) (hS : va_S (AL s) s.heap H locs) (hl : ls.size = 4) (hrest : ((rest.map (cv ad)).map fun v => v.category).sum ≤ 8) (hd : decode code pc = .ok (.invokevirtual idx, 3)) :
    va_Run p l e room_1 s m #[Value.ref b] below meth c H locs 100 2000 0 0 (F0 m pc ls ((As.map (cv ad)).reverse ++ .ref (ad i) :: rest.map (cv ad))) (rest.map (cv ad)) (qc q.2.2 Q (qB D ad cy shp 79) (aA ad 79 H.size) (Value.ref (ad i) :: As.map (cv ad)).toArray) (aA ad 79 H.size) := by
  obtain ⟨hx, hb, hml, hown, hts, hK, hD, hSF, hNW, hvR, hX, hbl⟩ := C0
  obtain ⟨o1, o2, o3, o4, o5, o6⟩ := okm_spec (mok hm).1
  rw [hv] at o3
  simp only [show Nat.beq 0 1 = false from rfl, cond_false, Bool.and_eq_true] at o3
  have hM := sim l D ad cy shp 79 okShp 16 y (.ref i :: As) h Q q H.size hm hE
  have hi := okShp.2.1 i _ hs0
  obtain ⟨r, hr1, -⟩ := okShp.2.2.2 i _ hs0
  obtain ⟨cell, g1, g2, g3⟩ := va_recv hK hP hr1 (ws_obj h hi hs0)
  have e1 : r.1 = (mnm y).cls := by
    rw [← hcl]
    unfold cnm
    rw [show Nat.beq ci 100 = false from by
      cases hb' : Nat.beq ci 100
      · rfl
      · have := Nat.eq_of_beq_eq_true hb'
        omega]
    simp only [cond_false]
    rw [hr1]
  have hsub : ∀ q, aA ad 79 H.size q → (AL s) q := fun x hx0 => hx0.elim (fun ⟨k, hk, ek⟩ => by
    rw [ek]
    exact (hD h).2 k _ (wsH_at h hk)) (fun z => Nat.le_trans hS.1 z)
  refine va_runV (As := As.map (cv ad)) (C := (mnm y).cls) (bytes := mbc y) (maxL := q.2.1) (ret := rty q.2.2) (n := (mpl y).2.2.2.2.2) (Ts := gt) (nL := 4) (own := R_law) ⟨hx, hb, hml, hown, hts⟩ hM (cwV _ hts (fun w hw => ?_) rfl rfl rfl ⟨rfl, o5⟩ ⟨Nat.le_of_ble_eq_true rfl, ?_⟩) ⟨blindP, ⟨cell, g1, g2, by rw [← e1]; exact g3⟩, fun U hU hW => ⟨rfl, by rw [hU], by rw [hU]; exact hP, va_K.moved hW.alike hK, wsH_DT (hD h) h, ?_, hNW.warm hW, hvR.warm hW⟩⟩ rfl (by rw [List.length_map, hn]) hl rfl (lv_room hrest) hd ⟨Nat.le_of_ble_eq_true rfl, Nat.le_of_ble_eq_true rfl⟩
  · rcases List.mem_append.mp hw with hw | hw
    · have : w ∈ gt := by
        simp only [List.mem_cons, List.not_mem_nil, or_false] at hw
        rcases hw with rfl | rfl | rfl | rfl
        · exact hlk
        · exact okw_mem o3.1
        · exact okw_mem o3.2
        · exact o2
      exact ⟨this, gt_good _ this⟩
    · exact good_cdw o1 w hw
  · show 8 + (q.2.1 + 11) + 64 * 16 ≤ 84000
    omega
  · rw [hU]
    exact ((hSF.kept hS.2.1).moved hW.alike).narrow hsub
theorem AL_sub (C0 : LCx p s m c b L xs D ad cy) {H : Heap} {locs : List Loc} (hS : va_S (AL s) s.heap H locs) (h : Hp) : ∀ q, aA ad 79 H.size q → (AL s) q := fun x hx0 => hx0.elim (fun ⟨k, hk, ek⟩ => by
  obtain ⟨hx, hb, hml, hown, hts, hK, hD, hSF, hNW, hvR, hX, hbl⟩ := C0
  rw [ek]
  exact (hD h).2 k _ (wsH_at h hk)) (fun z => Nat.le_trans hS.1 z)
theorem law_callI (C0 : LCx p s m c b L xs D ad cy) {y idx i nL : Nat} {C : Nat → Option Ops} {As rest : List Value} {h : Hp} {K : Int32 → Hp → Prop} {H : Heap} {locs : List Loc} {ls : Array Slot} {pc : Nat} (hm : mtb y = some (C, nL, 1)) (hlk : (.methodLink R_law idx (mnm y) : Jvm.Cond) ∈ gt) (hv : (mpl y).2.2.2.2.1 = 0) (hn : As.length = (mpl y).2.2.2.2.2) {ci : Nat} {fs : List (Nat × Nat)} (hs0 : shp i = some (.inr (ci, fs))) (hcl : cnm ci = (mnm y).cls) (hci : ci < 8) (hE : Ev mtb shp 16 y (.ref i :: As) h (qI K)) (hP : va_P D vwCl (wsH ad cy shp 79 h) H) (hS : va_S (AL s) s.heap H locs) (hl : ls.size = 4) (hrest : ((rest.map (cv ad)).map fun v => v.category).sum ≤ 8) (hd : decode code pc = .ok (.invokevirtual idx, 3))
    (kk : ∀ (v : Int32) (h' : Hp) (H : Heap) (locs : List Loc), K v h' → va_P D vwCl (wsH ad cy shp 79 h') H → va_S (AL s) s.heap H locs → W p l e room_1 s m #[Value.ref b] below meth c H locs 100 2000 Z (F0 m (pc + 3) ls (.int v :: rest.map (cv ad)))) : W p l e room_1 s m #[Value.ref b] below meth c H locs 100 2000 Z (F0 m pc ls ((As.map (cv ad)).reverse ++ .ref (ad i) :: rest.map (cv ad))) :=
  va_calli (a := (Value.ref (ad i) :: As.map (cv ad)).toArray) (law_run C0 hm hlk hv hn hs0 hcl hci hE hP hS hl hrest hd) hS (fun q _ z => AL_sub C0 hS h q z) (AL_sub C0 hS h) (fun r u t H1 locs1 ht hvm hq hB hz hk hS1 => kk r u H1 locs1 hq (by rw [← ht]; exact hB) hS1)
theorem law_callL (C0 : LCx p s m c b L xs D ad cy) {y idx i nL : Nat} {C : Nat → Option Ops} {As rest : List Value} {h : Hp} {K : Int64 → Hp → Prop} {H : Heap} {locs : List Loc} {ls : Array Slot} {pc : Nat} (hm : mtb y = some (C, nL, 3)) (hlk : (.methodLink R_law idx (mnm y) : Jvm.Cond) ∈ gt) (hv : (mpl y).2.2.2.2.1 = 0) (hn : As.length = (mpl y).2.2.2.2.2) {ci : Nat} {fs : List (Nat × Nat)} (hs0 : shp i = some (.inr (ci, fs))) (hcl : cnm ci = (mnm y).cls) (hci : ci < 8) (hE : Ev mtb shp 16 y (.ref i :: As) h (qL K)) (hP : va_P D vwCl (wsH ad cy shp 79 h) H) (hS : va_S (AL s) s.heap H locs) (hl : ls.size = 4) (hrest : ((rest.map (cv ad)).map fun v => v.category).sum ≤ 8) (hd : decode code pc = .ok (.invokevirtual idx, 3))
    (kk : ∀ (v : Int64) (h' : Hp) (H : Heap) (locs : List Loc), K v h' → va_P D vwCl (wsH ad cy shp 79 h') H → va_S (AL s) s.heap H locs → W p l e room_1 s m #[Value.ref b] below meth c H locs 100 2000 Z (F0 m (pc + 3) ls (.long v :: rest.map (cv ad)))) : W p l e room_1 s m #[Value.ref b] below meth c H locs 100 2000 Z (F0 m pc ls ((As.map (cv ad)).reverse ++ .ref (ad i) :: rest.map (cv ad))) :=
  va_calll (a := (Value.ref (ad i) :: As.map (cv ad)).toArray) (law_run C0 hm hlk hv hn hs0 hcl hci hE hP hS hl hrest hd) hS (fun q _ z => AL_sub C0 hS h q z) (AL_sub C0 hS h) (fun r u t H1 locs1 ht hvm hq hB hz hk hS1 => kk r u H1 locs1 hq (by rw [← ht]; exact hB) hS1)
end LAW
/-- class and reference, called alike: like answers, and K behind them -/
def op2 (yx ym : Nat) (As : List Value) (h : Hp) (K : Hp → Prop) : Prop := Ev mtb shp 16 yx (.ref 0 :: As) h (qI fun v h1 => Ev mtb shp 16 ym (.ref 46 :: As) h1 (qI fun w h2 => v = w ∧ K h2))
def op2L (yx ym : Nat) (As : List Value) (h : Hp) (K : Hp → Prop) : Prop := Ev mtb shp 16 yx (.ref 0 :: As) h (qL fun v h1 => Ev mtb shp 16 ym (.ref 46 :: As) h1 (qL fun w h2 => v = w ∧ K h2))
