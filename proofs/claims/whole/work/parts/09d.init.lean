/-! an object made and kept in a field of this -/
section NEWO
variable {p : Program} {l : Launch} {e : Env} {R : Room} {s : State} {m : MethodId} {args : Array Value} {below : List Frame} {meth : Method} {c : Code} {Q : State → Prop} {D : va_G} {ad cy : Nat → Nat} {A : Nat → Prop} {cc : ByteArray} {own : String}
/-- new, dup, <init>, in any method: the object stands on the stack, its block behind the world -/
theorem new_blk (hx : p.tables.exec = Jvm.exec) (hb : c.code = cc) {nL : Nat} (hml : c.maxLocals = nL) (hown : s.vm.findClass own = some m.cls) (hts : ∀ w ∈ gt, w.before args s = true) (hK : va_K D vwCl (tyL cy) s) (hA : ∀ q, s.heap.size ≤ q → A q) (hSF : SF ad A s s.heap) (hNW : NW s) (hvR : vk_R "StockingLine$Page" 30 "klybr" (ad 110) s) {ws : va_W} {H : Heap} {locs : List Loc} {cells slots : Nat} {rest : List Value} (hP : va_P D vwCl ws H) (hD : va_D A ws) (hS : va_S A s.heap H locs)
    {cj : Nat} {C : String} {T : u_T} {N : Nat} (hrj : vwCl[cj]? = some (C, T, N)) {ty : Nat → FieldType} (hty : ∀ k, k < N → parseFieldDescriptor (T k).2.2.1 = some (ty k)) {zs : List Value} (hzs : ∀ j, j < N → defaultValue (ty j) = vp_V zs j) {bj : ByteArray} {mc ms rl i1 i2 : Nat} {bw : Nat → List Nat → va_W} {rm : Room} {Sx : Type} {fx : Sx → List Nat} {EX : State → Prop}
    (hEX : ∀ U : State, U.heap = U.heap → s.WarmedH U.vm → EX U) (hEb : ∀ (U : State) (g : JFrame) (mk : MethodId) (a : Array Value), EX U → EX (U.calling g mk a))
    (hM : ∀ q sz, Met l ⟨C, "<init>", "()V"⟩ (.code ⟨C, "<init>", "()V"⟩ bj 1 none :: gt) rm (va_Pc [.ref q] (fun U => U.heap.size = sz ∧ va_P D vwCl [(q, .inr (cj, zs))] U.heap ∧ va_K D vwCl (tyL cy) U ∧ SF ad (aI q sz) U U.heap ∧ NW U ∧ vk_R "StockingLine$Page" 30 "klybr" (ad 110) U ∧ EX U)) (va_Qv (fun u : Sx => (fx u).length = rl) (fun u t => va_P D vwCl (bw q (fx u)) t.heap ∧ va_D (aI q sz) (bw q (fx u))) (aI q sz)) mc ms (aI q sz))
    (hrc : rm.cells = mc) (hrs : rm.slots = ms) (hcl : (.classLink own i1 C : Jvm.Cond) ∈ gt) (hinst : (.instantiable C N : Jvm.Cond) ∈ gt) (hini : (.initialized C : Jvm.Cond) ∈ gt) (hcode : (.code ⟨C, "<init>", "()V"⟩ bj 1 none : Jvm.Cond) ∈ gt) (him : (.instanceMethod ⟨C, "<init>", "()V"⟩ : Jvm.Cond) ∈ gt) (hlink : (.methodLink own i2 ⟨C, "<init>", "()V"⟩ : Jvm.Cond) ∈ gt ∨ va_Nw (.methodLinkNest own i2 ⟨C, "<init>", "()V"⟩ "StockingLine") s) (hne : C ≠ "java/lang/invoke/MethodHandle" ∧ C ≠ "java/lang/invoke/VarHandle")
    (hRm : rm.frames + 1 ≤ R.frames ∧ 8 + (1 + 11) + rm.locals ≤ R.locals) (hc : cells + 1 + mc ≤ R.cells) (hs : slots + N + ms ≤ R.slots) {pc : Nat} {ls : Array Slot} (hls : ls.size = nL) (hrest : (rest.map fun v => v.category).sum ≤ 7) (d1 : decode cc pc = .ok (.new i1, 3)) (d2 : decode cc (pc + 3) = .ok (.dup, 1)) (d3 : decode cc (pc + 4) = .ok (.invokespecial i2, 3))
    (kk : ∀ (q : Nat) (u : Sx) (H : Heap) (locs : List Loc), (fx u).length = rl → va_P D vwCl (ws ++ bw q (fx u)) H → va_D A (ws ++ bw q (fx u)) → va_S A s.heap H locs → W p l e R s m args below meth c H locs (cells + 1 + mc) (slots + N + ms) Q (F0 m (pc + 7) ls (.ref q :: rest))) : W p l e R s m args below meth c H locs cells slots Q (F0 m pc ls rest) := by
  refine va_new (ci := cj) (fs := zs) (C := C) (T := T) (N := N) hx hb hts (cls_ok hrj).1 ty hty hown (hts _ hcl) (hts _ hinst) (hts _ hini) hK hP hD hS hA hrj hzs (by omega) (by omega) d1 (fun q H hP hD hS => ?_)
  refine lv_dup hx hb d2 rfl ?_
  have hlen : (ws ++ [(q, .inr (cj, zs))])[ws.length]? = some (q, (.inr (cj, zs) : va_E)) := by simp
  have hqA : A q := hD.2 ws.length _ hlen
  have hPc : va_P D vwCl [(q, .inr (cj, zs))] H := fun k x hk => by
    match k, hk with
    | 0, hk =>
      cases hk
      exact hP ws.length _ hlen
    | k + 1, hk => cases hk
  have hFc : ∀ x, aI q H.size x → A x := fun x hx0 => hx0.elim (fun z => z ▸ hqA) (fun z => hA x (Nat.le_trans hS.1 z))
  have hpre : PreS s H (va_Pc [.ref q] (fun U => U.heap.size = H.size ∧ va_P D vwCl [(q, .inr (cj, zs))] U.heap ∧ va_K D vwCl (tyL cy) U ∧ SF ad (aI q H.size) U U.heap ∧ NW U ∧ vk_R "StockingLine$Page" 30 "klybr" (ad 110) U ∧ EX U)) [.ref q] := by
    refine ⟨fun a U g mk z => ?_, fun U hU hW => ⟨rfl, by rw [hU], by rw [hU]; exact hPc, va_K.moved hW.alike hK, ?_, hNW.warm hW, hvR.warm hW, hEX U rfl hW⟩⟩
    · obtain ⟨z0, z1, zP, zK, zS, zN, zR, zE⟩ := z
      exact ⟨z0, z1, zP, va_K.moved (u := U) (U := U.calling g mk a) (Vm.Alike.refl U.vm) zK, SF.moved (u := U) (U := U.calling g mk a) (Vm.Alike.refl U.vm) zS, NW.same (u := U) (U := U.calling g mk a) rfl zN, vk_R.same (u := U) (U := U.calling g mk a) rfl zR, hEb U g mk a zE⟩
    · rw [hU]
      exact ((hSF.kept hS.2.1).moved hW.alike).narrow hFc
  have hgood : GoodIn gt (.code ⟨C, "<init>", "()V"⟩ bj 1 none :: gt) := fun w hw => by
    rcases List.mem_cons.mp hw with rfl | hw
    · exact ⟨hcode, gt_good _ hcode⟩
    · exact ⟨hw, gt_good _ hw⟩
  have hroom := lv_room (m := m) (pc := pc + 3 + 1) (ls := ls) (rest := .ref q :: .ref q :: rest) (st := .ref q :: rest) (by rw [List.map_cons, List.sum_cons]; show 1 + _ ≤ 8; omega)
  have hrun : va_Run p l e R s m args below meth c H locs (cells + 1) (slots + N) mc ms (F0 m (pc + 3 + 1) ls (.ref q :: .ref q :: rest)) (.ref q :: rest) (va_Qv (fun u : Sx => (fx u).length = rl) (fun u t => va_P D vwCl (bw q (fx u)) t.heap ∧ va_D (aI q H.size) (bw q (fx u))) (aI q H.size) (Value.ref q :: ([] : List Value)).toArray) (aI q H.size) := by
    rcases hlink with hlink | hlink
    · exact va_runI (As := []) (bytes := bj) (maxL := 1) (n := 0) (Ts := gt) (nL := nL) ⟨hx, hb, hml, hown, hts⟩ (hM q H.size) (cwI 0 hts hgood rfl hrc hrs (hts _ hini) (hts _ hlink) (hts _ him) rfl ⟨hne.1, hne.2, show (parseMethodDescriptor "()V").map (fun d => d.parameters.length) = some 0 by decide +kernel⟩ hRm) hpre rfl rfl hls rfl hroom d3 ⟨by omega, by omega⟩
    · exact va_runIN (As := []) (bytes := bj) (maxL := 1) (n := 0) (Ts := gt) (nL := nL) (host := "StockingLine") ⟨hx, hb, hml, hown, hts⟩ (hM q H.size) ⟨va_cnB 0 hts hgood rfl hrc hrs hlink (hts _ hini) ⟨hne.1, hne.2, show (parseMethodDescriptor "()V").map (fun d => d.parameters.length) = some 0 by decide +kernel⟩ hRm, rfl, hts _ him⟩ hpre rfl rfl hls rfl hroom d3 ⟨by omega, by omega⟩
  refine va_callv hrun hS (fun x _ z => hFc x z) hFc (fun u t H1 locs1 ht hvm hq hB hz1 hk1 hS1 => ?_)
  obtain ⟨hP1, hD1⟩ := hB
  rw [ht] at hP1
  have hap : ∀ (k : Nat) (x : Nat × va_E), ws[k]? = some x → x.1 < H.size ∧ ¬ aI q H.size x.1 := by
    intro k x hk
    have hk' : (ws ++ [(q, .inr (cj, zs))])[k]? = some x := by rw [List.getElem?_append_left (List.getElem?_eq_some_iff.mp hk).1]; exact hk
    have hl1 := (hP k x hk').lt
    refine ⟨hl1, fun z => ?_⟩
    rcases z with z | z
    · have := hD.1 k ws.length x (q, .inr (cj, zs)) hk' hlen z
      have := (List.getElem?_eq_some_iff.mp hk).1
      omega
    · omega
  refine kk q u H1 locs1 hq (va_P.app (fun k x hk => ?_) hP1) (va_D.app ?_ (hD1.weaken (fun k x _ z => hFc x.1 z)) (fun i j x y hxi hyj hxy => ?_)) hS1
  · have hk' : (ws ++ [(q, .inr (cj, zs))])[k]? = some x := by rw [List.getElem?_append_left (List.getElem?_eq_some_iff.mp hk).1]; exact hk
    exact (hP k x hk').kept (hk1 x.1 (hap k x hk).1 (hap k x hk).2)
  · refine ⟨fun i j x y hi hj hxy => ?_, fun k x hk => ?_⟩
    · exact hD.1 i j x y (by rw [List.getElem?_append_left (List.getElem?_eq_some_iff.mp hi).1]; exact hi) (by rw [List.getElem?_append_left (List.getElem?_eq_some_iff.mp hj).1]; exact hj) hxy
    · exact hD.2 k x (by rw [List.getElem?_append_left (List.getElem?_eq_some_iff.mp hk).1]; exact hk)
  · exact (hap i x hxi).2 (by rw [hxy]; exact hD1.2 j y hyj)
/-- and kept in field f of this, in a constructor -/
theorem put_ref (hx : p.tables.exec = Jvm.exec) (hb : c.code = cc) (hown : s.vm.findClass own = some m.cls) (hts : ∀ w ∈ gt, w.before args s = true) (hinit : meth.name = "<init>") (hK : va_K D vwCl (tyL cy) s) {ci : Nat} {r : vw_C} (hr : vwCl[ci]? = some r) {w0 w1 : va_W} {H : Heap} {locs : List Loc} {cells slots h0 q : Nat} {fs : List Value} (hP : va_P D vwCl (w0 ++ w1) H) (hD : va_D A (w0 ++ w1)) (hS : va_S A s.heap H locs) (he : w0[0]? = some (h0, .inr (ci, fs))) {f idx : Nat} {ty : FieldType} (hf : f < r.2.2) (hfl : f < fs.length) (hfin : (r.2.1 f).2.2.2 = true) (hdecl : (r.2.1 f).1 = own) (hpd : parseFieldDescriptor (r.2.1 f).2.2.1 = some ty) (hnr : narrow ty (.ref q) = .ref q) (hft : fits ty (.ref q) = true) (hlk : (.fieldLink own idx (r.2.1 f).1 (r.2.1 f).2.1 (r.2.1 f).2.2.1 : Jvm.Cond) ∈ gt) {pc : Nat} {ls : Array Slot} (d1 : decode cc pc = .ok (.putfield idx, 3))
    (kk : ∀ (H : Heap) (locs : List Loc), va_P D vwCl (w0.set 0 (h0, .inr (ci, fs.set f (.ref q))) ++ w1) H → va_D A (w0.set 0 (h0, .inr (ci, fs.set f (.ref q))) ++ w1) → va_S A s.heap H locs → W p l e R s m args below meth c H locs cells slots Q (F0 m (pc + 3) ls [])) : W p l e R s m args below meth c H locs cells slots Q (F0 m pc ls [.ref q, .ref h0]) := by
  obtain ⟨hin, ty0, hty, hnm⟩ := cls_ok hr
  have h0l : 0 < w0.length := (List.getElem?_eq_some_iff.mp he).1
  obtain ⟨C, T, N'⟩ := r
  have he1 : (w0 ++ w1)[0]? = some (h0, .inr (ci, fs)) := by rw [List.getElem?_append_left h0l]; exact he
  refine va_putF (C := C) (T := T) (N := N') (ref := (T f).1) (v := .ref q) (ty := ty) hx hb hts hin ty0 hty hnm hown hK hP hD hS 0 he1 hr f hf (hts _ hlk) (fun _ z => z) hfin hinit hdecl hpd hnr hft hfl d1 (fun H2 locs2 hP2 hD2 hS2 => ?_)
  rw [List.set_append_left _ _ h0l] at hP2 hD2
  exact kk H2 locs2 hP2 hD2 hS2
end NEWO
