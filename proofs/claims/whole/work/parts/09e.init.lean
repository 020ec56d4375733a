/-! the constructor of StockingLine; printed by program (wip/whole/gen_init.py) -/
theorem di_X6_0 : decode cX6_init 0 = .ok (.aload_n 0, 1) := by decide +kernel
theorem di_X6_1 : decode cX6_init 1 = .ok (.invokespecial 1, 3) := by decide +kernel
theorem di_X6_4 : decode cX6_init 4 = .ok (.aload_n 0, 1) := by decide +kernel
theorem di_X6_5 : decode cX6_init 5 = .ok (.new 7, 3) := by decide +kernel
theorem di_X6_8 : decode cX6_init 8 = .ok (.dup, 1) := by decide +kernel
theorem di_X6_9 : decode cX6_init 9 = .ok (.invokespecial 9, 3) := by decide +kernel
theorem di_X6_12 : decode cX6_init 12 = .ok (.putfield 10, 3) := by decide +kernel
theorem di_X6_15 : decode cX6_init 15 = .ok (.aload_n 0, 1) := by decide +kernel
theorem di_X6_16 : decode cX6_init 16 = .ok (.new 16, 3) := by decide +kernel
theorem di_X6_19 : decode cX6_init 19 = .ok (.dup, 1) := by decide +kernel
theorem di_X6_20 : decode cX6_init 20 = .ok (.invokespecial 18, 3) := by decide +kernel
theorem di_X6_23 : decode cX6_init 23 = .ok (.putfield 19, 3) := by decide +kernel
theorem di_X6_26 : decode cX6_init 26 = .ok (.aload_n 0, 1) := by decide +kernel
theorem di_X6_27 : decode cX6_init 27 = .ok (.new 23, 3) := by decide +kernel
theorem di_X6_30 : decode cX6_init 30 = .ok (.dup, 1) := by decide +kernel
theorem di_X6_31 : decode cX6_init 31 = .ok (.invokespecial 25, 3) := by decide +kernel
theorem di_X6_34 : decode cX6_init 34 = .ok (.putfield 26, 3) := by decide +kernel
theorem di_X6_37 : decode cX6_init 37 = .ok (.aload_n 0, 1) := by decide +kernel
theorem di_X6_38 : decode cX6_init 38 = .ok (.new 23, 3) := by decide +kernel
theorem di_X6_41 : decode cX6_init 41 = .ok (.dup, 1) := by decide +kernel
theorem di_X6_42 : decode cX6_init 42 = .ok (.invokespecial 25, 3) := by decide +kernel
theorem di_X6_45 : decode cX6_init 45 = .ok (.putfield 30, 3) := by decide +kernel
theorem di_X6_48 : decode cX6_init 48 = .ok (.aload_n 0, 1) := by decide +kernel
theorem di_X6_49 : decode cX6_init 49 = .ok (.new 23, 3) := by decide +kernel
theorem di_X6_52 : decode cX6_init 52 = .ok (.dup, 1) := by decide +kernel
theorem di_X6_53 : decode cX6_init 53 = .ok (.invokespecial 25, 3) := by decide +kernel
theorem di_X6_56 : decode cX6_init 56 = .ok (.putfield 33, 3) := by decide +kernel
theorem di_X6_59 : decode cX6_init 59 = .ok (.aload_n 0, 1) := by decide +kernel
theorem di_X6_60 : decode cX6_init 60 = .ok (.new 36, 3) := by decide +kernel
theorem di_X6_63 : decode cX6_init 63 = .ok (.dup, 1) := by decide +kernel
theorem di_X6_64 : decode cX6_init 64 = .ok (.invokespecial 38, 3) := by decide +kernel
theorem di_X6_67 : decode cX6_init 67 = .ok (.putfield 39, 3) := by decide +kernel
theorem di_X6_70 : decode cX6_init 70 = .ok (.aload_n 0, 1) := by decide +kernel
theorem di_X6_71 : decode cX6_init 71 = .ok (.new 36, 3) := by decide +kernel
theorem di_X6_74 : decode cX6_init 74 = .ok (.dup, 1) := by decide +kernel
theorem di_X6_75 : decode cX6_init 75 = .ok (.invokespecial 38, 3) := by decide +kernel
theorem di_X6_78 : decode cX6_init 78 = .ok (.putfield 43, 3) := by decide +kernel
theorem di_X6_81 : decode cX6_init 81 = .ok (.aload_n 0, 1) := by decide +kernel
theorem di_X6_82 : decode cX6_init 82 = .ok (.new 46, 3) := by decide +kernel
theorem di_X6_85 : decode cX6_init 85 = .ok (.dup, 1) := by decide +kernel
theorem di_X6_86 : decode cX6_init 86 = .ok (.invokespecial 48, 3) := by decide +kernel
theorem di_X6_89 : decode cX6_init 89 = .ok (.putfield 49, 3) := by decide +kernel
theorem di_X6_92 : decode cX6_init 92 = .ok (.aload_n 0, 1) := by decide +kernel
theorem di_X6_93 : decode cX6_init 93 = .ok (.new 53, 3) := by decide +kernel
theorem di_X6_96 : decode cX6_init 96 = .ok (.dup, 1) := by decide +kernel
theorem di_X6_97 : decode cX6_init 97 = .ok (.invokespecial 55, 3) := by decide +kernel
theorem di_X6_100 : decode cX6_init 100 = .ok (.putfield 56, 3) := by decide +kernel
theorem di_X6_103 : decode cX6_init 103 = .ok (.aload_n 0, 1) := by decide +kernel
theorem di_X6_104 : decode cX6_init 104 = .ok (.bipush 6, 2) := by decide +kernel
theorem di_X6_106 : decode cX6_init 106 = .ok (.newarray .int, 2) := by decide +kernel
theorem di_X6_108 : decode cX6_init 108 = .ok (.putfield 60, 3) := by decide +kernel
theorem di_X6_111 : decode cX6_init 111 = .ok (.return_, 1) := by decide +kernel
theorem go_6 : (.methodLink RX6 1 objectInit : Jvm.Cond) ∈ gt := okw_mem (pl := 107) (by decide +kernel)
def nestI : List Jvm.Cond := [.methodLinkNest "StockingLine" 9 ⟨"StockingLine$Page", "<init>", "()V"⟩ "StockingLine", .methodLinkNest "StockingLine" 18 ⟨"StockingLine$Court", "<init>", "()V"⟩ "StockingLine", .methodLinkNest "StockingLine" 38 ⟨"StockingLine$Notes", "<init>", "()V"⟩ "StockingLine", .methodLinkNest "StockingLine" 48 ⟨"StockingLine$Wedding", "<init>", "()V"⟩ "StockingLine", .methodLinkNest "StockingLine" 55 ⟨"StockingLine$Kennel", "<init>", "()V"⟩ "StockingLine"]
def NWI (U : State) : Prop := ∀ w ∈ nestI, va_Nw w U
theorem NWI.warm {s U : State} (hW : s.WarmedH U.vm) (h : NWI s) : NWI U := by
  intro w hw
  have h1 := h w hw
  simp only [nestI, List.mem_cons, List.not_mem_nil, or_false] at hw
  rcases hw with rfl | rfl | rfl | rfl | rfl <;> exact va_Nw.warmM hW h1
theorem NWI.same {u U : State} (hv : u.vm = U.vm) (h : NWI u) : NWI U := by
  intro w hw
  have h1 := h w hw
  simp only [nestI, List.mem_cons, List.not_mem_nil, or_false] at hw
  rcases hw with rfl | rfl | rfl | rfl | rfl <;> exact va_Nw.same rfl hv h1
theorem gc_3 : (.classLink "StockingLine" 7 RX3 : Jvm.Cond) ∈ gt := okw_mem (pl := 110) (by decide +kernel)
theorem gi_3 : (.instantiable RX3 2 : Jvm.Cond) ∈ gt := okw_mem (pl := 111) (by decide +kernel)
theorem gn_3 : (.initialized RX3 : Jvm.Cond) ∈ gt := okw_mem (pl := 86) (by decide +kernel)
theorem gk_3 : (.code ⟨RX3, "<init>", "()V"⟩ cX3_init 1 none : Jvm.Cond) ∈ gt := okw_mem (pl := 114) (by decide +kernel)
theorem gj_3 : (.instanceMethod ⟨RX3, "<init>", "()V"⟩ : Jvm.Cond) ∈ gt := okw_mem (pl := 113) (by decide +kernel)
theorem gc_0 : (.classLink "StockingLine" 16 RX0 : Jvm.Cond) ∈ gt := okw_mem (pl := 126) (by decide +kernel)
theorem gi_0 : (.instantiable RX0 5 : Jvm.Cond) ∈ gt := okw_mem (pl := 127) (by decide +kernel)
theorem gn_0 : (.initialized RX0 : Jvm.Cond) ∈ gt := okw_mem (pl := 87) (by decide +kernel)
theorem gk_0 : (.code ⟨RX0, "<init>", "()V"⟩ cX0_init 1 none : Jvm.Cond) ∈ gt := okw_mem (pl := 130) (by decide +kernel)
theorem gj_0 : (.instanceMethod ⟨RX0, "<init>", "()V"⟩ : Jvm.Cond) ∈ gt := okw_mem (pl := 129) (by decide +kernel)
theorem gc_4 : (.classLink "StockingLine" 23 RX4 : Jvm.Cond) ∈ gt := okw_mem (pl := 155) (by decide +kernel)
theorem gi_4 : (.instantiable RX4 6 : Jvm.Cond) ∈ gt := okw_mem (pl := 156) (by decide +kernel)
theorem gn_4 : (.initialized RX4 : Jvm.Cond) ∈ gt := okw_mem (pl := 88) (by decide +kernel)
theorem gk_4 : (.code ⟨RX4, "<init>", "()V"⟩ cX4_init 1 none : Jvm.Cond) ∈ gt := okw_mem (pl := 159) (by decide +kernel)
theorem gj_4 : (.instanceMethod ⟨RX4, "<init>", "()V"⟩ : Jvm.Cond) ∈ gt := okw_mem (pl := 158) (by decide +kernel)
theorem gl4 : (.methodLink "StockingLine" 25 ⟨RX4, "<init>", "()V"⟩ : Jvm.Cond) ∈ gt := okw_mem (pl := 157) (by decide +kernel)
theorem gc_2 : (.classLink "StockingLine" 36 RX2 : Jvm.Cond) ∈ gt := okw_mem (pl := 195) (by decide +kernel)
theorem gi_2 : (.instantiable RX2 9 : Jvm.Cond) ∈ gt := okw_mem (pl := 196) (by decide +kernel)
theorem gn_2 : (.initialized RX2 : Jvm.Cond) ∈ gt := okw_mem (pl := 90) (by decide +kernel)
theorem gk_2 : (.code ⟨RX2, "<init>", "()V"⟩ cX2_init 1 none : Jvm.Cond) ∈ gt := okw_mem (pl := 199) (by decide +kernel)
theorem gj_2 : (.instanceMethod ⟨RX2, "<init>", "()V"⟩ : Jvm.Cond) ∈ gt := okw_mem (pl := 198) (by decide +kernel)
theorem gc_5 : (.classLink "StockingLine" 46 RX5 : Jvm.Cond) ∈ gt := okw_mem (pl := 239) (by decide +kernel)
theorem gi_5 : (.instantiable RX5 6 : Jvm.Cond) ∈ gt := okw_mem (pl := 240) (by decide +kernel)
theorem gn_5 : (.initialized RX5 : Jvm.Cond) ∈ gt := okw_mem (pl := 91) (by decide +kernel)
theorem gk_5 : (.code ⟨RX5, "<init>", "()V"⟩ cX5_init 1 none : Jvm.Cond) ∈ gt := okw_mem (pl := 243) (by decide +kernel)
theorem gj_5 : (.instanceMethod ⟨RX5, "<init>", "()V"⟩ : Jvm.Cond) ∈ gt := okw_mem (pl := 242) (by decide +kernel)
theorem gc_1 : (.classLink "StockingLine" 53 RX1 : Jvm.Cond) ∈ gt := okw_mem (pl := 269) (by decide +kernel)
theorem gi_1 : (.instantiable RX1 3 : Jvm.Cond) ∈ gt := okw_mem (pl := 270) (by decide +kernel)
theorem gn_1 : (.initialized RX1 : Jvm.Cond) ∈ gt := okw_mem (pl := 92) (by decide +kernel)
theorem gk_1 : (.code ⟨RX1, "<init>", "()V"⟩ cX1_init 1 none : Jvm.Cond) ∈ gt := okw_mem (pl := 273) (by decide +kernel)
theorem gj_1 : (.instanceMethod ⟨RX1, "<init>", "()V"⟩ : Jvm.Cond) ∈ gt := okw_mem (pl := 272) (by decide +kernel)
theorem gl_6_10 : (.fieldLink "StockingLine" 10 "StockingLine" "page" "LStockingLine$Page;" : Jvm.Cond) ∈ gt := okw_mem (pl := 286) (by decide +kernel)
theorem gl_6_19 : (.fieldLink "StockingLine" 19 "StockingLine" "court" "LStockingLine$Court;" : Jvm.Cond) ∈ gt := okw_mem (pl := 287) (by decide +kernel)
theorem gl_6_26 : (.fieldLink "StockingLine" 26 "StockingLine" "rope" "LStockingLine$Rope;" : Jvm.Cond) ∈ gt := okw_mem (pl := 288) (by decide +kernel)
theorem gl_6_30 : (.fieldLink "StockingLine" 30 "StockingLine" "keptRope" "LStockingLine$Rope;" : Jvm.Cond) ∈ gt := okw_mem (pl := 289) (by decide +kernel)
theorem gl_6_33 : (.fieldLink "StockingLine" 33 "StockingLine" "supposed" "LStockingLine$Rope;" : Jvm.Cond) ∈ gt := okw_mem (pl := 290) (by decide +kernel)
theorem gl_6_39 : (.fieldLink "StockingLine" 39 "StockingLine" "notes" "LStockingLine$Notes;" : Jvm.Cond) ∈ gt := okw_mem (pl := 291) (by decide +kernel)
theorem gl_6_43 : (.fieldLink "StockingLine" 43 "StockingLine" "keptNotes" "LStockingLine$Notes;" : Jvm.Cond) ∈ gt := okw_mem (pl := 292) (by decide +kernel)
theorem gl_6_49 : (.fieldLink "StockingLine" 49 "StockingLine" "wedding" "LStockingLine$Wedding;" : Jvm.Cond) ∈ gt := okw_mem (pl := 293) (by decide +kernel)
theorem gl_6_56 : (.fieldLink "StockingLine" 56 "StockingLine" "kennel" "LStockingLine$Kennel;" : Jvm.Cond) ∈ gt := okw_mem (pl := 294) (by decide +kernel)
theorem gl_6_60 : (.fieldLink "StockingLine" 60 "StockingLine" "partners" "[I" : Jvm.Cond) ∈ gt := okw_mem (pl := 295) (by decide +kernel)
def bw6 (cy : Nat → Nat) (h0 : Nat) (v : List Nat) : va_W := [(h0, .inr (6, [.ref (v.getD 0 0), .ref (v.getD 2 0), .ref (v.getD 7 0), .ref (v.getD 13 0), .ref (v.getD 19 0), .ref (v.getD 25 0), .ref (v.getD 31 0), .ref (v.getD 37 0), .ref (v.getD 41 0), .ref (v.getD 44 0), .int 0, .int 0, .int 0]))] ++ bw3 cy (v.getD 0 0) [v.getD 1 0] ++ bw0 cy (v.getD 2 0) [v.getD 3 0, v.getD 4 0, v.getD 5 0, v.getD 6 0] ++ bw4 cy (v.getD 7 0) [v.getD 8 0, v.getD 9 0, v.getD 10 0, v.getD 11 0, v.getD 12 0] ++ bw4 cy (v.getD 13 0) [v.getD 14 0, v.getD 15 0, v.getD 16 0, v.getD 17 0, v.getD 18 0] ++ bw4 cy (v.getD 19 0) [v.getD 20 0, v.getD 21 0, v.getD 22 0, v.getD 23 0, v.getD 24 0] ++ bw2 cy (v.getD 25 0) [v.getD 26 0, v.getD 27 0, v.getD 28 0, v.getD 29 0, v.getD 30 0] ++ bw2 cy (v.getD 31 0) [v.getD 32 0, v.getD 33 0, v.getD 34 0, v.getD 35 0, v.getD 36 0] ++ bw5 cy (v.getD 37 0) [v.getD 38 0, v.getD 39 0, v.getD 40 0] ++ bw1 cy (v.getD 41 0) [v.getD 42 0, v.getD 43 0] ++ [(v.getD 44 0, .inl (cy 0, 6, .inl zI))]
theorem len1 {α : Type} {u : List α} (h : u.length = 1) : ∃ a0 : α, u = [a0] := by
  match u, h with
  | [a0], _ => exact ⟨a0, rfl⟩
theorem len2 {α : Type} {u : List α} (h : u.length = 2) : ∃ a0 a1 : α, u = [a0, a1] := by
  match u, h with
  | [a0, a1], _ => exact ⟨a0, a1, rfl⟩
theorem len3 {α : Type} {u : List α} (h : u.length = 3) : ∃ a0 a1 a2 : α, u = [a0, a1, a2] := by
  match u, h with
  | [a0, a1, a2], _ => exact ⟨a0, a1, a2, rfl⟩
theorem len4 {α : Type} {u : List α} (h : u.length = 4) : ∃ a0 a1 a2 a3 : α, u = [a0, a1, a2, a3] := by
  match u, h with
  | [a0, a1, a2, a3], _ => exact ⟨a0, a1, a2, a3, rfl⟩
theorem len5 {α : Type} {u : List α} (h : u.length = 5) : ∃ a0 a1 a2 a3 a4 : α, u = [a0, a1, a2, a3, a4] := by
  match u, h with
  | [a0, a1, a2, a3, a4], _ => exact ⟨a0, a1, a2, a3, a4, rfl⟩
set_option maxHeartbeats 4000000 in
set_option maxRecDepth 100000 in
theorem ci_X6 (l : Launch) (D : va_G) (ad cy : Nat → Nat) (h0 sz : Nat) : Met l yX6_init (.code yX6_init cX6_init 1 none :: gt) (iR0 45 424) (va_Pc [.ref h0] (fun U => U.heap.size = sz ∧ va_P D vwCl [(h0, .inr (6, [.null, .null, .null, .null, .null, .null, .null, .null, .null, .null, .int 0, .int 0, .int 0]))] U.heap ∧ va_K D vwCl (tyL cy) U ∧ SF ad (aI h0 sz) U U.heap ∧ NW U ∧ vk_R "StockingLine$Page" 30 "klybr" (ad 110) U ∧ NWI U)) (va_Qv (fun u : List Nat => u.length = 45) (fun u t => va_P D vwCl (bw6 cy h0 u) t.heap ∧ va_D (aI h0 sz) (bw6 cy h0 u)) (aI h0 sz)) 45 424 (aI h0 sz) := by
  refine Met.ofW (cc := cX6_init) (maxL := 1) (ret := none) (by decide +kernel) rfl ?_
  intro p e s m args below meth c s₁ B hml hv
  obtain ⟨rfl, hsz, hP, hK, hSF, hNW, hvR, hNI⟩ := hv
  subst hsz
  have hx := B.exec
  have hb := B.bytes
  have hr := B.returns
  have hts0 := atoms_spec (ws := .code yX6_init cX6_init 1 none :: gt) B.pre
  have hts : ∀ w ∈ gt, w.before [Value.ref h0].toArray s = true := fun w hw => hts0 w (List.mem_cons_of_mem _ hw)
  have hown : s.vm.findClass RX6 = some m.cls := findClass_of_methodNamed B.named
  have hlocks := B.notSynchronized
  have hin : meth.name = "<init>" := (name_of_methodNamed B.named B.method).1
  have hA : ∀ q : Nat, s.heap.size ≤ q → aI h0 s.heap.size q := fun q h => Or.inr h
  have hD : va_D (aI h0 s.heap.size) [(h0, .inr (6, [.null, .null, .null, .null, .null, .null, .null, .null, .null, .null, .int 0, .int 0, .int 0]))] := va_D1 (Or.inl rfl)
  have hS : va_S (aI h0 s.heap.size) s.heap s.heap [] := va_S.rf
  have hl := lv_entry ([.ref h0]) (n := 1) (Nat.le_of_ble_eq_true rfl)
  rw [lg_entry_eq]
  generalize (lg_sl ([.ref h0]) ++ List.replicate (1 - (lg_sl ([.ref h0])).length) Slot.unset).toArray = ls at hl ⊢
  have hl : lv_has ls 1 [(0, .ref h0)] := hl
  refine lv_aload_n hx hb di_X6_0 rfl (lv_at hl 0 rfl) ?_
  refine W.objInit hx hb hown (hts _ go_6) (hts _ gw_oin) (hts _ gw_oco) rfl (by rw [hml]; exact hl.1) rfl di_X6_1 (Nat.le_of_ble_eq_true rfl) (Nat.le_of_ble_eq_true rfl) ?_
  refine W.eq (g2 := F0 m 4 ls []) rfl ?_
  refine lv_aload_n hx hb di_X6_4 rfl (lv_at hl 0 rfl) ?_
  refine new_blk (ad := ad) (cj := 3) (C := RX3) (T := TX3) (N := 2) (ty := tyX3) (zs := [.null, .int 0]) (bw := bw3 cy) (fx := fun u => u) (EX := fun _ => True) (mc := 1) (ms := 52) (rl := 1) (i1 := 7) (i2 := 9) hx hb hml hown hts hK hA hSF hNW hvR hP hD hS rfl tyX3_ok (by decide) (fun _ _ _ => trivial) (fun _ _ _ _ _ => trivial) (fun q sz => by simp only [and_true]; exact ci_X3 l D ad cy q sz) rfl rfl gc_3 gi_3 gn_3 gk_3 gj_3 (Or.inr (hNI _ (List.mem_of_getElem? (i := 0) rfl))) ⟨by decide, by decide⟩ ⟨Nat.le_of_ble_eq_true rfl, Nat.le_of_ble_eq_true rfl⟩ (Nat.le_of_ble_eq_true rfl) (Nat.le_of_ble_eq_true rfl) hl.1 (Nat.le_of_ble_eq_true rfl) di_X6_5 di_X6_8 di_X6_9 (fun q1 u1 H locs e1 hP hD hS => ?_)
  refine put_ref (r := (RX6, TX6, 13)) (ci := 6) (f := 0) (idx := 10) (q := q1) (w0 := [(h0, .inr (6, [.null, .null, .null, .null, .null, .null, .null, .null, .null, .null, .int 0, .int 0, .int 0]))]) (ty := .object RX3) hx hb hown hts hin hK rfl hP hD hS rfl (Nat.le_of_ble_eq_true rfl) (Nat.le_of_ble_eq_true rfl) rfl rfl (by decide +kernel) rfl rfl gl_6_10 di_X6_12 (fun H locs hP hD hS => ?_)
  have hP : va_P D vwCl ([(h0, .inr (6, [.ref q1, .null, .null, .null, .null, .null, .null, .null, .null, .null, .int 0, .int 0, .int 0]))] ++ bw3 cy q1 u1) H := hP
  have hD : va_D (aI h0 s.heap.size) ([(h0, .inr (6, [.ref q1, .null, .null, .null, .null, .null, .null, .null, .null, .null, .int 0, .int 0, .int 0]))] ++ bw3 cy q1 u1) := hD
  refine W.widen (k := 2) (n := 54) (Nat.le_of_ble_eq_true rfl) (Nat.le_of_ble_eq_true rfl) ?_
  refine lv_aload_n hx hb di_X6_15 rfl (lv_at hl 0 rfl) ?_
  refine new_blk (ad := ad) (cj := 0) (C := RX0) (T := TX0) (N := 5) (ty := tyX0) (zs := [.null, .null, .null, .null, .int 0]) (bw := bw0 cy) (fx := fun u => u) (EX := fun _ => True) (mc := 4) (ms := 16) (rl := 4) (i1 := 16) (i2 := 18) hx hb hml hown hts hK hA hSF hNW hvR hP hD hS rfl tyX0_ok (by decide) (fun _ _ _ => trivial) (fun _ _ _ _ _ => trivial) (fun q sz => by simp only [and_true]; exact ci_X0 l D ad cy q sz) rfl rfl gc_0 gi_0 gn_0 gk_0 gj_0 (Or.inr (hNI _ (List.mem_of_getElem? (i := 1) rfl))) ⟨by decide, by decide⟩ ⟨Nat.le_of_ble_eq_true rfl, Nat.le_of_ble_eq_true rfl⟩ (Nat.le_of_ble_eq_true rfl) (Nat.le_of_ble_eq_true rfl) hl.1 (Nat.le_of_ble_eq_true rfl) di_X6_16 di_X6_19 di_X6_20 (fun q2 u2 H locs e2 hP hD hS => ?_)
  refine put_ref (r := (RX6, TX6, 13)) (ci := 6) (f := 1) (idx := 19) (q := q2) (w0 := [(h0, .inr (6, [.ref q1, .null, .null, .null, .null, .null, .null, .null, .null, .null, .int 0, .int 0, .int 0]))] ++ bw3 cy q1 u1) (ty := .object RX0) hx hb hown hts hin hK rfl hP hD hS rfl (Nat.le_of_ble_eq_true rfl) (Nat.le_of_ble_eq_true rfl) rfl rfl (by decide +kernel) rfl rfl gl_6_19 di_X6_23 (fun H locs hP hD hS => ?_)
  have hP : va_P D vwCl ([(h0, .inr (6, [.ref q1, .ref q2, .null, .null, .null, .null, .null, .null, .null, .null, .int 0, .int 0, .int 0]))] ++ bw3 cy q1 u1 ++ bw0 cy q2 u2) H := hP
  have hD : va_D (aI h0 s.heap.size) ([(h0, .inr (6, [.ref q1, .ref q2, .null, .null, .null, .null, .null, .null, .null, .null, .int 0, .int 0, .int 0]))] ++ bw3 cy q1 u1 ++ bw0 cy q2 u2) := hD
  refine W.widen (k := 7) (n := 75) (Nat.le_of_ble_eq_true rfl) (Nat.le_of_ble_eq_true rfl) ?_
  refine lv_aload_n hx hb di_X6_26 rfl (lv_at hl 0 rfl) ?_
  refine new_blk (ad := ad) (cj := 4) (C := RX4) (T := TX4) (N := 6) (ty := tyX4) (zs := [.null, .null, .null, .null, .null, .int 0]) (bw := bw4 cy) (fx := fun u => u) (EX := fun _ => True) (mc := 5) (ms := 30) (rl := 5) (i1 := 23) (i2 := 25) hx hb hml hown hts hK hA hSF hNW hvR hP hD hS rfl tyX4_ok (by decide) (fun _ _ _ => trivial) (fun _ _ _ _ _ => trivial) (fun q sz => by simp only [and_true]; exact ci_X4 l D ad cy q sz) rfl rfl gc_4 gi_4 gn_4 gk_4 gj_4 (Or.inl gl4) ⟨by decide, by decide⟩ ⟨Nat.le_of_ble_eq_true rfl, Nat.le_of_ble_eq_true rfl⟩ (Nat.le_of_ble_eq_true rfl) (Nat.le_of_ble_eq_true rfl) hl.1 (Nat.le_of_ble_eq_true rfl) di_X6_27 di_X6_30 di_X6_31 (fun q3 u3 H locs e3 hP hD hS => ?_)
  refine put_ref (r := (RX6, TX6, 13)) (ci := 6) (f := 2) (idx := 26) (q := q3) (w0 := [(h0, .inr (6, [.ref q1, .ref q2, .null, .null, .null, .null, .null, .null, .null, .null, .int 0, .int 0, .int 0]))] ++ bw3 cy q1 u1 ++ bw0 cy q2 u2) (ty := .object RX4) hx hb hown hts hin hK rfl hP hD hS rfl (Nat.le_of_ble_eq_true rfl) (Nat.le_of_ble_eq_true rfl) rfl rfl (by decide +kernel) rfl rfl gl_6_26 di_X6_34 (fun H locs hP hD hS => ?_)
  have hP : va_P D vwCl ([(h0, .inr (6, [.ref q1, .ref q2, .ref q3, .null, .null, .null, .null, .null, .null, .null, .int 0, .int 0, .int 0]))] ++ bw3 cy q1 u1 ++ bw0 cy q2 u2 ++ bw4 cy q3 u3) H := hP
  have hD : va_D (aI h0 s.heap.size) ([(h0, .inr (6, [.ref q1, .ref q2, .ref q3, .null, .null, .null, .null, .null, .null, .null, .int 0, .int 0, .int 0]))] ++ bw3 cy q1 u1 ++ bw0 cy q2 u2 ++ bw4 cy q3 u3) := hD
  refine W.widen (k := 13) (n := 111) (Nat.le_of_ble_eq_true rfl) (Nat.le_of_ble_eq_true rfl) ?_
  refine lv_aload_n hx hb di_X6_37 rfl (lv_at hl 0 rfl) ?_
  refine new_blk (ad := ad) (cj := 4) (C := RX4) (T := TX4) (N := 6) (ty := tyX4) (zs := [.null, .null, .null, .null, .null, .int 0]) (bw := bw4 cy) (fx := fun u => u) (EX := fun _ => True) (mc := 5) (ms := 30) (rl := 5) (i1 := 23) (i2 := 25) hx hb hml hown hts hK hA hSF hNW hvR hP hD hS rfl tyX4_ok (by decide) (fun _ _ _ => trivial) (fun _ _ _ _ _ => trivial) (fun q sz => by simp only [and_true]; exact ci_X4 l D ad cy q sz) rfl rfl gc_4 gi_4 gn_4 gk_4 gj_4 (Or.inl gl4) ⟨by decide, by decide⟩ ⟨Nat.le_of_ble_eq_true rfl, Nat.le_of_ble_eq_true rfl⟩ (Nat.le_of_ble_eq_true rfl) (Nat.le_of_ble_eq_true rfl) hl.1 (Nat.le_of_ble_eq_true rfl) di_X6_38 di_X6_41 di_X6_42 (fun q4 u4 H locs e4 hP hD hS => ?_)
  refine put_ref (r := (RX6, TX6, 13)) (ci := 6) (f := 3) (idx := 30) (q := q4) (w0 := [(h0, .inr (6, [.ref q1, .ref q2, .ref q3, .null, .null, .null, .null, .null, .null, .null, .int 0, .int 0, .int 0]))] ++ bw3 cy q1 u1 ++ bw0 cy q2 u2 ++ bw4 cy q3 u3) (ty := .object RX4) hx hb hown hts hin hK rfl hP hD hS rfl (Nat.le_of_ble_eq_true rfl) (Nat.le_of_ble_eq_true rfl) rfl rfl (by decide +kernel) rfl rfl gl_6_30 di_X6_45 (fun H locs hP hD hS => ?_)
  have hP : va_P D vwCl ([(h0, .inr (6, [.ref q1, .ref q2, .ref q3, .ref q4, .null, .null, .null, .null, .null, .null, .int 0, .int 0, .int 0]))] ++ bw3 cy q1 u1 ++ bw0 cy q2 u2 ++ bw4 cy q3 u3 ++ bw4 cy q4 u4) H := hP
  have hD : va_D (aI h0 s.heap.size) ([(h0, .inr (6, [.ref q1, .ref q2, .ref q3, .ref q4, .null, .null, .null, .null, .null, .null, .int 0, .int 0, .int 0]))] ++ bw3 cy q1 u1 ++ bw0 cy q2 u2 ++ bw4 cy q3 u3 ++ bw4 cy q4 u4) := hD
  refine W.widen (k := 19) (n := 147) (Nat.le_of_ble_eq_true rfl) (Nat.le_of_ble_eq_true rfl) ?_
  refine lv_aload_n hx hb di_X6_48 rfl (lv_at hl 0 rfl) ?_
  refine new_blk (ad := ad) (cj := 4) (C := RX4) (T := TX4) (N := 6) (ty := tyX4) (zs := [.null, .null, .null, .null, .null, .int 0]) (bw := bw4 cy) (fx := fun u => u) (EX := fun _ => True) (mc := 5) (ms := 30) (rl := 5) (i1 := 23) (i2 := 25) hx hb hml hown hts hK hA hSF hNW hvR hP hD hS rfl tyX4_ok (by decide) (fun _ _ _ => trivial) (fun _ _ _ _ _ => trivial) (fun q sz => by simp only [and_true]; exact ci_X4 l D ad cy q sz) rfl rfl gc_4 gi_4 gn_4 gk_4 gj_4 (Or.inl gl4) ⟨by decide, by decide⟩ ⟨Nat.le_of_ble_eq_true rfl, Nat.le_of_ble_eq_true rfl⟩ (Nat.le_of_ble_eq_true rfl) (Nat.le_of_ble_eq_true rfl) hl.1 (Nat.le_of_ble_eq_true rfl) di_X6_49 di_X6_52 di_X6_53 (fun q5 u5 H locs e5 hP hD hS => ?_)
  refine put_ref (r := (RX6, TX6, 13)) (ci := 6) (f := 4) (idx := 33) (q := q5) (w0 := [(h0, .inr (6, [.ref q1, .ref q2, .ref q3, .ref q4, .null, .null, .null, .null, .null, .null, .int 0, .int 0, .int 0]))] ++ bw3 cy q1 u1 ++ bw0 cy q2 u2 ++ bw4 cy q3 u3 ++ bw4 cy q4 u4) (ty := .object RX4) hx hb hown hts hin hK rfl hP hD hS rfl (Nat.le_of_ble_eq_true rfl) (Nat.le_of_ble_eq_true rfl) rfl rfl (by decide +kernel) rfl rfl gl_6_33 di_X6_56 (fun H locs hP hD hS => ?_)
  have hP : va_P D vwCl ([(h0, .inr (6, [.ref q1, .ref q2, .ref q3, .ref q4, .ref q5, .null, .null, .null, .null, .null, .int 0, .int 0, .int 0]))] ++ bw3 cy q1 u1 ++ bw0 cy q2 u2 ++ bw4 cy q3 u3 ++ bw4 cy q4 u4 ++ bw4 cy q5 u5) H := hP
  have hD : va_D (aI h0 s.heap.size) ([(h0, .inr (6, [.ref q1, .ref q2, .ref q3, .ref q4, .ref q5, .null, .null, .null, .null, .null, .int 0, .int 0, .int 0]))] ++ bw3 cy q1 u1 ++ bw0 cy q2 u2 ++ bw4 cy q3 u3 ++ bw4 cy q4 u4 ++ bw4 cy q5 u5) := hD
  refine W.widen (k := 25) (n := 183) (Nat.le_of_ble_eq_true rfl) (Nat.le_of_ble_eq_true rfl) ?_
  refine lv_aload_n hx hb di_X6_59 rfl (lv_at hl 0 rfl) ?_
  refine new_blk (ad := ad) (cj := 2) (C := RX2) (T := TX2) (N := 9) (ty := tyX2) (zs := [.null, .null, .null, .null, .null, .int 0, .int 0, .int 0, .int 0]) (bw := bw2 cy) (fx := fun u => u) (EX := fun _ => True) (mc := 5) (ms := 36) (rl := 5) (i1 := 36) (i2 := 38) hx hb hml hown hts hK hA hSF hNW hvR hP hD hS rfl tyX2_ok (by decide) (fun _ _ _ => trivial) (fun _ _ _ _ _ => trivial) (fun q sz => by simp only [and_true]; exact ci_X2 l D ad cy q sz) rfl rfl gc_2 gi_2 gn_2 gk_2 gj_2 (Or.inr (hNI _ (List.mem_of_getElem? (i := 2) rfl))) ⟨by decide, by decide⟩ ⟨Nat.le_of_ble_eq_true rfl, Nat.le_of_ble_eq_true rfl⟩ (Nat.le_of_ble_eq_true rfl) (Nat.le_of_ble_eq_true rfl) hl.1 (Nat.le_of_ble_eq_true rfl) di_X6_60 di_X6_63 di_X6_64 (fun q6 u6 H locs e6 hP hD hS => ?_)
  refine put_ref (r := (RX6, TX6, 13)) (ci := 6) (f := 5) (idx := 39) (q := q6) (w0 := [(h0, .inr (6, [.ref q1, .ref q2, .ref q3, .ref q4, .ref q5, .null, .null, .null, .null, .null, .int 0, .int 0, .int 0]))] ++ bw3 cy q1 u1 ++ bw0 cy q2 u2 ++ bw4 cy q3 u3 ++ bw4 cy q4 u4 ++ bw4 cy q5 u5) (ty := .object RX2) hx hb hown hts hin hK rfl hP hD hS rfl (Nat.le_of_ble_eq_true rfl) (Nat.le_of_ble_eq_true rfl) rfl rfl (by decide +kernel) rfl rfl gl_6_39 di_X6_67 (fun H locs hP hD hS => ?_)
  have hP : va_P D vwCl ([(h0, .inr (6, [.ref q1, .ref q2, .ref q3, .ref q4, .ref q5, .ref q6, .null, .null, .null, .null, .int 0, .int 0, .int 0]))] ++ bw3 cy q1 u1 ++ bw0 cy q2 u2 ++ bw4 cy q3 u3 ++ bw4 cy q4 u4 ++ bw4 cy q5 u5 ++ bw2 cy q6 u6) H := hP
  have hD : va_D (aI h0 s.heap.size) ([(h0, .inr (6, [.ref q1, .ref q2, .ref q3, .ref q4, .ref q5, .ref q6, .null, .null, .null, .null, .int 0, .int 0, .int 0]))] ++ bw3 cy q1 u1 ++ bw0 cy q2 u2 ++ bw4 cy q3 u3 ++ bw4 cy q4 u4 ++ bw4 cy q5 u5 ++ bw2 cy q6 u6) := hD
  refine W.widen (k := 31) (n := 228) (Nat.le_of_ble_eq_true rfl) (Nat.le_of_ble_eq_true rfl) ?_
  refine lv_aload_n hx hb di_X6_70 rfl (lv_at hl 0 rfl) ?_
  refine new_blk (ad := ad) (cj := 2) (C := RX2) (T := TX2) (N := 9) (ty := tyX2) (zs := [.null, .null, .null, .null, .null, .int 0, .int 0, .int 0, .int 0]) (bw := bw2 cy) (fx := fun u => u) (EX := fun _ => True) (mc := 5) (ms := 36) (rl := 5) (i1 := 36) (i2 := 38) hx hb hml hown hts hK hA hSF hNW hvR hP hD hS rfl tyX2_ok (by decide) (fun _ _ _ => trivial) (fun _ _ _ _ _ => trivial) (fun q sz => by simp only [and_true]; exact ci_X2 l D ad cy q sz) rfl rfl gc_2 gi_2 gn_2 gk_2 gj_2 (Or.inr (hNI _ (List.mem_of_getElem? (i := 2) rfl))) ⟨by decide, by decide⟩ ⟨Nat.le_of_ble_eq_true rfl, Nat.le_of_ble_eq_true rfl⟩ (Nat.le_of_ble_eq_true rfl) (Nat.le_of_ble_eq_true rfl) hl.1 (Nat.le_of_ble_eq_true rfl) di_X6_71 di_X6_74 di_X6_75 (fun q7 u7 H locs e7 hP hD hS => ?_)
  refine put_ref (r := (RX6, TX6, 13)) (ci := 6) (f := 6) (idx := 43) (q := q7) (w0 := [(h0, .inr (6, [.ref q1, .ref q2, .ref q3, .ref q4, .ref q5, .ref q6, .null, .null, .null, .null, .int 0, .int 0, .int 0]))] ++ bw3 cy q1 u1 ++ bw0 cy q2 u2 ++ bw4 cy q3 u3 ++ bw4 cy q4 u4 ++ bw4 cy q5 u5 ++ bw2 cy q6 u6) (ty := .object RX2) hx hb hown hts hin hK rfl hP hD hS rfl (Nat.le_of_ble_eq_true rfl) (Nat.le_of_ble_eq_true rfl) rfl rfl (by decide +kernel) rfl rfl gl_6_43 di_X6_78 (fun H locs hP hD hS => ?_)
  have hP : va_P D vwCl ([(h0, .inr (6, [.ref q1, .ref q2, .ref q3, .ref q4, .ref q5, .ref q6, .ref q7, .null, .null, .null, .int 0, .int 0, .int 0]))] ++ bw3 cy q1 u1 ++ bw0 cy q2 u2 ++ bw4 cy q3 u3 ++ bw4 cy q4 u4 ++ bw4 cy q5 u5 ++ bw2 cy q6 u6 ++ bw2 cy q7 u7) H := hP
  have hD : va_D (aI h0 s.heap.size) ([(h0, .inr (6, [.ref q1, .ref q2, .ref q3, .ref q4, .ref q5, .ref q6, .ref q7, .null, .null, .null, .int 0, .int 0, .int 0]))] ++ bw3 cy q1 u1 ++ bw0 cy q2 u2 ++ bw4 cy q3 u3 ++ bw4 cy q4 u4 ++ bw4 cy q5 u5 ++ bw2 cy q6 u6 ++ bw2 cy q7 u7) := hD
  refine W.widen (k := 37) (n := 273) (Nat.le_of_ble_eq_true rfl) (Nat.le_of_ble_eq_true rfl) ?_
  refine lv_aload_n hx hb di_X6_81 rfl (lv_at hl 0 rfl) ?_
  refine new_blk (ad := ad) (cj := 5) (C := RX5) (T := TX5) (N := 6) (ty := tyX5) (zs := [.null, .int 0, .int 0, .null, .null, .int 0]) (bw := bw5 cy) (fx := fun u => u) (EX := fun _ => True) (mc := 3) (ms := 68) (rl := 3) (i1 := 46) (i2 := 48) hx hb hml hown hts hK hA hSF hNW hvR hP hD hS rfl tyX5_ok (by decide) (fun _ _ _ => trivial) (fun _ _ _ _ _ => trivial) (fun q sz => by simp only [and_true]; exact ci_X5 l D ad cy q sz) rfl rfl gc_5 gi_5 gn_5 gk_5 gj_5 (Or.inr (hNI _ (List.mem_of_getElem? (i := 3) rfl))) ⟨by decide, by decide⟩ ⟨Nat.le_of_ble_eq_true rfl, Nat.le_of_ble_eq_true rfl⟩ (Nat.le_of_ble_eq_true rfl) (Nat.le_of_ble_eq_true rfl) hl.1 (Nat.le_of_ble_eq_true rfl) di_X6_82 di_X6_85 di_X6_86 (fun q8 u8 H locs e8 hP hD hS => ?_)
  refine put_ref (r := (RX6, TX6, 13)) (ci := 6) (f := 7) (idx := 49) (q := q8) (w0 := [(h0, .inr (6, [.ref q1, .ref q2, .ref q3, .ref q4, .ref q5, .ref q6, .ref q7, .null, .null, .null, .int 0, .int 0, .int 0]))] ++ bw3 cy q1 u1 ++ bw0 cy q2 u2 ++ bw4 cy q3 u3 ++ bw4 cy q4 u4 ++ bw4 cy q5 u5 ++ bw2 cy q6 u6 ++ bw2 cy q7 u7) (ty := .object RX5) hx hb hown hts hin hK rfl hP hD hS rfl (Nat.le_of_ble_eq_true rfl) (Nat.le_of_ble_eq_true rfl) rfl rfl (by decide +kernel) rfl rfl gl_6_49 di_X6_89 (fun H locs hP hD hS => ?_)
  have hP : va_P D vwCl ([(h0, .inr (6, [.ref q1, .ref q2, .ref q3, .ref q4, .ref q5, .ref q6, .ref q7, .ref q8, .null, .null, .int 0, .int 0, .int 0]))] ++ bw3 cy q1 u1 ++ bw0 cy q2 u2 ++ bw4 cy q3 u3 ++ bw4 cy q4 u4 ++ bw4 cy q5 u5 ++ bw2 cy q6 u6 ++ bw2 cy q7 u7 ++ bw5 cy q8 u8) H := hP
  have hD : va_D (aI h0 s.heap.size) ([(h0, .inr (6, [.ref q1, .ref q2, .ref q3, .ref q4, .ref q5, .ref q6, .ref q7, .ref q8, .null, .null, .int 0, .int 0, .int 0]))] ++ bw3 cy q1 u1 ++ bw0 cy q2 u2 ++ bw4 cy q3 u3 ++ bw4 cy q4 u4 ++ bw4 cy q5 u5 ++ bw2 cy q6 u6 ++ bw2 cy q7 u7 ++ bw5 cy q8 u8) := hD
  refine W.widen (k := 41) (n := 347) (Nat.le_of_ble_eq_true rfl) (Nat.le_of_ble_eq_true rfl) ?_
  refine lv_aload_n hx hb di_X6_92 rfl (lv_at hl 0 rfl) ?_
  refine new_blk (ad := ad) (cj := 1) (C := RX1) (T := TX1) (N := 3) (ty := tyX1) (zs := [.null, .null, .int 0]) (bw := bw1 cy) (fx := fun u => u) (EX := fun _ => True) (mc := 2) (ms := 68) (rl := 2) (i1 := 53) (i2 := 55) hx hb hml hown hts hK hA hSF hNW hvR hP hD hS rfl tyX1_ok (by decide) (fun _ _ _ => trivial) (fun _ _ _ _ _ => trivial) (fun q sz => by simp only [and_true]; exact ci_X1 l D ad cy q sz) rfl rfl gc_1 gi_1 gn_1 gk_1 gj_1 (Or.inr (hNI _ (List.mem_of_getElem? (i := 4) rfl))) ⟨by decide, by decide⟩ ⟨Nat.le_of_ble_eq_true rfl, Nat.le_of_ble_eq_true rfl⟩ (Nat.le_of_ble_eq_true rfl) (Nat.le_of_ble_eq_true rfl) hl.1 (Nat.le_of_ble_eq_true rfl) di_X6_93 di_X6_96 di_X6_97 (fun q9 u9 H locs e9 hP hD hS => ?_)
  refine put_ref (r := (RX6, TX6, 13)) (ci := 6) (f := 8) (idx := 56) (q := q9) (w0 := [(h0, .inr (6, [.ref q1, .ref q2, .ref q3, .ref q4, .ref q5, .ref q6, .ref q7, .ref q8, .null, .null, .int 0, .int 0, .int 0]))] ++ bw3 cy q1 u1 ++ bw0 cy q2 u2 ++ bw4 cy q3 u3 ++ bw4 cy q4 u4 ++ bw4 cy q5 u5 ++ bw2 cy q6 u6 ++ bw2 cy q7 u7 ++ bw5 cy q8 u8) (ty := .object RX1) hx hb hown hts hin hK rfl hP hD hS rfl (Nat.le_of_ble_eq_true rfl) (Nat.le_of_ble_eq_true rfl) rfl rfl (by decide +kernel) rfl rfl gl_6_56 di_X6_100 (fun H locs hP hD hS => ?_)
  have hP : va_P D vwCl ([(h0, .inr (6, [.ref q1, .ref q2, .ref q3, .ref q4, .ref q5, .ref q6, .ref q7, .ref q8, .ref q9, .null, .int 0, .int 0, .int 0]))] ++ bw3 cy q1 u1 ++ bw0 cy q2 u2 ++ bw4 cy q3 u3 ++ bw4 cy q4 u4 ++ bw4 cy q5 u5 ++ bw2 cy q6 u6 ++ bw2 cy q7 u7 ++ bw5 cy q8 u8 ++ bw1 cy q9 u9) H := hP
  have hD : va_D (aI h0 s.heap.size) ([(h0, .inr (6, [.ref q1, .ref q2, .ref q3, .ref q4, .ref q5, .ref q6, .ref q7, .ref q8, .ref q9, .null, .int 0, .int 0, .int 0]))] ++ bw3 cy q1 u1 ++ bw0 cy q2 u2 ++ bw4 cy q3 u3 ++ bw4 cy q4 u4 ++ bw4 cy q5 u5 ++ bw2 cy q6 u6 ++ bw2 cy q7 u7 ++ bw5 cy q8 u8 ++ bw1 cy q9 u9) := hD
  refine W.widen (k := 44) (n := 418) (Nat.le_of_ble_eq_true rfl) (Nat.le_of_ble_eq_true rfl) ?_
  refine lv_aload_n hx hb di_X6_103 rfl (lv_at hl 0 rfl) ?_
  refine lv_bipush (v := nI 6) hx hb di_X6_104 (by decide +kernel) ?_
  refine ini_arr (r := (RX6, TX6, 13)) (ci := 6) (f := 9) (idx := 60) (n := 6) (k := 0) hx hb hown hts hin hK hA rfl hP hD hS rfl (by decide) (Nat.le_of_ble_eq_true rfl) (Nat.le_of_ble_eq_true rfl) rfl rfl (by decide +kernel) gw_ac0 gl_6_60 (Nat.le_of_ble_eq_true rfl) (Nat.le_of_ble_eq_true rfl) (Nat.le_of_ble_eq_true rfl) di_X6_106 di_X6_108 (fun q10 H locs hP hD hS => ?_)
  have hP : va_P D vwCl ([(h0, .inr (6, [.ref q1, .ref q2, .ref q3, .ref q4, .ref q5, .ref q6, .ref q7, .ref q8, .ref q9, .ref q10, .int 0, .int 0, .int 0]))] ++ bw3 cy q1 u1 ++ bw0 cy q2 u2 ++ bw4 cy q3 u3 ++ bw4 cy q4 u4 ++ bw4 cy q5 u5 ++ bw2 cy q6 u6 ++ bw2 cy q7 u7 ++ bw5 cy q8 u8 ++ bw1 cy q9 u9 ++ [(q10, .inl (cy 0, 6, .inl zI))]) H := hP
  have hD : va_D (aI h0 s.heap.size) ([(h0, .inr (6, [.ref q1, .ref q2, .ref q3, .ref q4, .ref q5, .ref q6, .ref q7, .ref q8, .ref q9, .ref q10, .int 0, .int 0, .int 0]))] ++ bw3 cy q1 u1 ++ bw0 cy q2 u2 ++ bw4 cy q3 u3 ++ bw4 cy q4 u4 ++ bw4 cy q5 u5 ++ bw2 cy q6 u6 ++ bw2 cy q7 u7 ++ bw5 cy q8 u8 ++ bw1 cy q9 u9 ++ [(q10, .inl (cy 0, 6, .inl zI))]) := hD
  refine W.widen (k := 45) (n := 424) (Nat.le_of_ble_eq_true rfl) (Nat.le_of_ble_eq_true rfl) ?_
  obtain ⟨z1_0, rfl⟩ := len1 e1
  obtain ⟨z2_0, z2_1, z2_2, z2_3, rfl⟩ := len4 e2
  obtain ⟨z3_0, z3_1, z3_2, z3_3, z3_4, rfl⟩ := len5 e3
  obtain ⟨z4_0, z4_1, z4_2, z4_3, z4_4, rfl⟩ := len5 e4
  obtain ⟨z5_0, z5_1, z5_2, z5_3, z5_4, rfl⟩ := len5 e5
  obtain ⟨z6_0, z6_1, z6_2, z6_3, z6_4, rfl⟩ := len5 e6
  obtain ⟨z7_0, z7_1, z7_2, z7_3, z7_4, rfl⟩ := len5 e7
  obtain ⟨z8_0, z8_1, z8_2, rfl⟩ := len3 e8
  obtain ⟨z9_0, z9_1, rfl⟩ := len2 e9
  exact W.vret hx hb hr (fun t ht hW => ⟨⟨[q1, z1_0, q2, z2_0, z2_1, z2_2, z2_3, q3, z3_0, z3_1, z3_2, z3_3, z3_4, q4, z4_0, z4_1, z4_2, z4_3, z4_4, q5, z5_0, z5_1, z5_2, z5_3, z5_4, q6, z6_0, z6_1, z6_2, z6_3, z6_4, q7, z7_0, z7_1, z7_2, z7_3, z7_4, q8, z8_0, z8_1, z8_2, q9, z9_0, z9_1, q10], rfl, rfl, by rw [ht]; exact hP, hD⟩, hS.F ht⟩) hS.2.2 di_X6_111
