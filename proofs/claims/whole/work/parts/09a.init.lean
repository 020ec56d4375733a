/-! constructors: a step that makes a row and keeps it in a field; a step that makes an object and keeps it -/
def aI (h0 sz : Nat) : Nat → Prop := fun q => q = h0 ∨ sz ≤ q
def iR (mc ms : Nat) : Room := { frames := 4, cells := mc, slots := ms, locals := 256 }
def iR0 (mc ms : Nat) : Room := { frames := 8, cells := mc, slots := ms, locals := 512 }
section INI
variable {p : Program} {l : Launch} {e : Env} {R : Room} {s : State} {m : MethodId} {args : Array Value} {below : List Frame} {meth : Method} {c : Code} {Q : State → Prop} {D : va_G} {cy : Nat → Nat} {A : Nat → Prop} {cc : ByteArray} {own : String}
theorem K_cls (hK : va_K D vwCl (tyL cy) s) {cA : ClassId} {k : Nat} (hk : k < 3) (hK2 : va_K D vwCl (tyL cy ++ [(cA, aty k)]) s) : cA = cy k := by
  have h1 := (hK2.2 3 (cA, aty k) rfl).2
  have h2 := (hK.2 k (cy k, aty k) (tyL_at hk)).2
  rcases (show k = 0 ∨ k = 1 ∨ k = 2 by omega) with rfl | rfl | rfl <;> exact Option.some.inj (h1.symm.trans h2)
def atk : Nat → ArrayType
  | 0 => .int
  | 1 => .byte
  | _ => .boolean
/-- newarray of n, of kind k, then putfield into field f of this -/
theorem ini_arr (hx : p.tables.exec = Jvm.exec) (hb : c.code = cc) (hown : s.vm.findClass own = some m.cls) (hts : ∀ w ∈ gt, w.before args s = true) (hinit : meth.name = "<init>") (hK : va_K D vwCl (tyL cy) s) (hA : ∀ q, s.heap.size ≤ q → A q) {ci : Nat} {r : vw_C} (hr : vwCl[ci]? = some r) {ws : va_W} {H : Heap} {locs : List Loc} {cells slots h0 : Nat} {fs : List Value} (hP : va_P D vwCl ws H) (hD : va_D A ws) (hS : va_S A s.heap H locs) (he : ws[0]? = some (h0, .inr (ci, fs))) {f idx n k : Nat} (hk : k < 3) (hf : f < r.2.2) (hfl : f < fs.length) (hfin : (r.2.1 f).2.2.2 = true) (hdecl : (r.2.1 f).1 = own) (hpd : parseFieldDescriptor (r.2.1 f).2.2.1 = some (.array (aty k))) (hac : (.arrayClass (aty k) : Jvm.Cond) ∈ gt) (hlk : (.fieldLink own idx (r.2.1 f).1 (r.2.1 f).2.1 (r.2.1 f).2.2.1 : Jvm.Cond) ∈ gt) (hn : n < 1000) (hc : cells + 1 ≤ R.cells) (hs : slots + n ≤ R.slots) {pc : Nat} {ls : Array Slot} (d1 : decode cc pc = .ok (.newarray (atk k), 2)) (d2 : decode cc (pc + 2) = .ok (.putfield idx, 3))
    (kk : ∀ (q : Nat) (H : Heap) (locs : List Loc), va_P D vwCl (ws.set 0 (h0, .inr (ci, fs.set f (.ref q))) ++ [(q, .inl (cy k, n, .inl (fun _ => 0)))]) H → va_D A (ws.set 0 (h0, .inr (ci, fs.set f (.ref q))) ++ [(q, .inl (cy k, n, .inl (fun _ => 0)))]) → va_S A s.heap H locs → W p l e R s m args below meth c H locs (cells + 1) (slots + n) Q (F0 m (pc + 5) ls [])) : W p l e R s m args below meth c H locs cells slots Q (F0 m pc ls [.int (nI n), .ref h0]) := by
  obtain ⟨hin, ty0, hty, hnm⟩ := cls_ok hr
  have h0l : 0 < ws.length := (List.getElem?_eq_some_iff.mp he).1
  have key : ∀ (at' : ArrayType) (ty : FieldType), newarray.typeOf at' = ty → ty = aty k → at' = atk k → (∀ cA : ClassId, vp_cell cA (n, .inl (fun _ => 0)) = arrV cA n (fun _ => defaultValue ty)) → componentBytes ty ≤ 4 → W p l e R s m args below meth c H locs cells slots Q (F0 m pc ls [.int (nI n), .ref h0]) := by
    intro at' ty e1 e2 e3 e4 e5
    subst e3
    have hcb : n * componentBytes ty ≤ 536870912 := by
      have h1 : n * componentBytes ty ≤ 1000 * 4 := Nat.mul_le_mul (by omega) e5
      omega
    refine va_newa (a0 := (n, .inl (fun _ => 0))) (atype := atk k) hx hb (hts _ (by rw [e1, e2]; exact hac)) e1 hK hP hD hS hA e4 (nI_pos (by omega)) (nI_clamp (by omega)) hcb hc hs d1 (fun q cA H1 hK1 hP1 hD1 hS1 => ?_)
    have ecA : cA = cy k := K_cls hK hk (by rw [← e2]; exact hK1)
    subst ecA
    obtain ⟨C, T, N'⟩ := r
    have he1 : (ws ++ [(q, .inl (cy k, n, .inl (fun _ => 0)))])[0]? = some (h0, .inr (ci, fs)) := by rw [List.getElem?_append_left h0l]; exact he
    refine va_putF (C := C) (T := T) (N := N') (ref := (T f).1) (v := .ref q) (ty := .array (aty k)) hx hb hts hin ty0 hty hnm hown hK hP1 hD1 hS1 0 he1 hr f hf (hts _ hlk) (fun _ z => z) hfin hinit hdecl hpd rfl rfl hfl d2 (fun H2 locs2 hP2 hD2 hS2 => ?_)
    rw [List.set_append_left _ _ h0l] at hP2 hD2
    exact kk q H2 locs2 hP2 hD2 hS2
  rcases (show k = 0 ∨ k = 1 ∨ k = 2 by omega) with rfl | rfl | rfl
  · exact key .int .int rfl rfl rfl (fun _ => rfl) (by decide)
  · exact key .byte .byte rfl rfl rfl (fun _ => rfl) (by decide)
  · exact key .boolean .boolean rfl rfl rfl (fun _ => rfl) (by decide)
end INI
theorem gw_ac0 : (.arrayClass .int : Jvm.Cond) ∈ gt := okw_mem (pl := 125) (by decide +kernel)
theorem gw_ac1 : (.arrayClass .byte : Jvm.Cond) ∈ gt := okw_mem (pl := 447) (by decide +kernel)
theorem gw_ac2 : (.arrayClass .boolean : Jvm.Cond) ∈ gt := okw_mem (pl := 238) (by decide +kernel)
theorem gw_oin : (.instanceMethod objectInit : Jvm.Cond) ∈ gt := okw_mem (pl := 108) (by decide +kernel)
theorem gw_oco : (.code objectInit ⟨#[0xb1]⟩ 1 none : Jvm.Cond) ∈ gt := okw_mem (pl := 109) (by decide +kernel)
