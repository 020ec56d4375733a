/-! one instruction of the small machine is one of the real one -/
def Cx (p : Program) (s : State) (m : MethodId) (args : Array Value) (meth : Method) (c : Code) (y nL rt : Nat) (D : va_G) (ad cy : Nat → Nat) (sh : Nat → Option Shp) (N : Nat) : Prop :=
  p.tables.exec = Jvm.exec ∧ c.code = mbc y ∧ c.maxLocals = nL ∧ meth.sig.returnType = rty rt ∧ meth.locks = false ∧ s.vm.findClass (mnm y).cls = some m.cls ∧ (∀ w ∈ gt, w.before args s = true) ∧ va_K D vwCl (tyL cy) s ∧ (∀ h, va_D (aA ad N s.heap.size) (wsH ad cy sh N h)) ∧ SF ad (aA ad N s.heap.size) s s.heap ∧ NW s ∧ vk_R "StockingLine$Page" 30 "klybr" (ad 110) s ∧ okSh sh N
def XX (p : Program) (l : Launch) (e : Env) (d : Nat) (s : State) (m : MethodId) (args : Array Value) (below : List Frame) (meth : Method) (c : Code) (nL : Nat) (D : va_G) (ad cy : Nat → Nat) (sh : Nat → Option Shp) (N : Nat) (Z : State → Prop) : Kon := fun pc L S h => ∀ (ls : Array Slot) (H : Heap) (locs : List Loc), lr ad ls nL L → va_P D vwCl (wsH ad cy sh N h) H → va_S (aA ad N s.heap.size) s.heap H locs → W p l e (rmd (d + 1)) s m args below meth c H locs 0 0 Z (F0 m pc ls (S.map (cv ad)))
section SIM
variable {p : Program} {l : Launch} {e : Env} {d : Nat} {s : State} {m : MethodId} {args : Array Value} {below : List Frame} {meth : Method} {c : Code} {y nL rt : Nat} {D : va_G} {ad cy : Nat → Nat} {sh : Nat → Option Shp} {N : Nat} {Z : State → Prop} {pc : Nat} {L S : List Value} {h : Hp}
theorem x_iLd {k : Nat} {i : Nat} (hw : ∀ (x : Int32) (ls : Array Slot) (H : Heap) (locs : List Loc) (rest : List Value), ls[i]? = some (.val (.int x)) → W p l e (rmd (d + 1)) s m args below meth c H locs 0 0 Z (F0 m (pc + k) ls (.int x :: rest)) → W p l e (rmd (d + 1)) s m args below meth c H locs 0 0 Z (F0 m pc ls rest)) (hst : iLd (XX p l e d s m args below meth c nL D ad cy sh N Z) pc k L S h i) : XX p l e d s m args below meth c nL D ad cy sh N Z pc L S h := by
  unfold iLd at hst
  split at hst
  · rename_i x hx
    intro ls H locs hl hP hS
    exact hw x ls H locs _ (hl.get (by unfold clm; rw [hx])) (hst ls H locs hl hP hS)
  · exact hst.elim
theorem x_aLd {k : Nat} {i : Nat} (hw : ∀ (x : Nat) (ls : Array Slot) (H : Heap) (locs : List Loc) (rest : List Value), ls[i]? = some (.val (.ref x)) → W p l e (rmd (d + 1)) s m args below meth c H locs 0 0 Z (F0 m (pc + k) ls (.ref x :: rest)) → W p l e (rmd (d + 1)) s m args below meth c H locs 0 0 Z (F0 m pc ls rest)) (hst : aLd (XX p l e d s m args below meth c nL D ad cy sh N Z) pc k L S h i) : XX p l e d s m args below meth c nL D ad cy sh N Z pc L S h := by
  unfold aLd at hst
  split at hst
  · rename_i x hx
    intro ls H locs hl hP hS
    exact hw (ad x) ls H locs _ (hl.get (v := .ref x) (by unfold clm; rw [hx])) (hst ls H locs hl hP hS)
  · exact hst.elim
theorem x_lLd {k : Nat} {i : Nat} (hw : ∀ (x : Int64) (ls : Array Slot) (H : Heap) (locs : List Loc) (rest : List Value), ls[i]? = some (.val (.long x)) → W p l e (rmd (d + 1)) s m args below meth c H locs 0 0 Z (F0 m (pc + k) ls (.long x :: rest)) → W p l e (rmd (d + 1)) s m args below meth c H locs 0 0 Z (F0 m pc ls rest)) (hst : lLd (XX p l e d s m args below meth c nL D ad cy sh N Z) pc k L S h i) : XX p l e d s m args below meth c nL D ad cy sh N Z pc L S h := by
  unfold lLd at hst
  split at hst
  · rename_i x v hx hv
    cases hs : issec v
    · rw [hs] at hst; exact hst.elim
    · rw [hs] at hst
      intro ls H locs hl hP hS
      exact hw x ls H locs _ (hl.get (v := .long x) (by unfold clm; rw [hx]; dsimp only; rw [hv]; dsimp only; rw [hs]; rfl)) (hst ls H locs hl hP hS)
  · exact hst.elim
theorem x_iSt {k : Nat} {i : Nat} (hw : ∀ (x : Int32) (ls : Array Slot) (H : Heap) (locs : List Loc) (rest : List Value) (lv : List (Nat × Value)), lv_has ls nL lv → i < nL → (∀ ls' : Array Slot, lv_has ls' nL ((i, Value.int x) :: lv.filter (fun q => !(q.1 == i) && !(q.1 + 1 == i && q.2.category == 2))) → W p l e (rmd (d + 1)) s m args below meth c H locs 0 0 Z (F0 m (pc + k) ls' rest)) → W p l e (rmd (d + 1)) s m args below meth c H locs 0 0 Z (F0 m pc ls (.int x :: rest))) (hst : iSt (XX p l e d s m args below meth c nL D ad cy sh N Z) pc k L S h i) : XX p l e d s m args below meth c nL D ad cy sh N Z pc L S h := by
  unfold iSt at hst
  split at hst
  · rename_i x S' v hv
    intro ls H locs hl hP hS
    have hi : i < nL := by rw [← hl.2]; exact nthV_lt hv
    exact hw x ls H locs _ _ hl.1 hi (fun ls' hl' => hst ls' H locs (lr_put1 hl hi (Or.inl ⟨x, rfl⟩) hl') hP hS)
  · exact hst.elim
theorem x_aSt {k : Nat} {i : Nat} (hw : ∀ (x : Nat) (ls : Array Slot) (H : Heap) (locs : List Loc) (rest : List Value) (lv : List (Nat × Value)), lv_has ls nL lv → i < nL → (∀ ls' : Array Slot, lv_has ls' nL ((i, Value.ref x) :: lv.filter (fun q => !(q.1 == i) && !(q.1 + 1 == i && q.2.category == 2))) → W p l e (rmd (d + 1)) s m args below meth c H locs 0 0 Z (F0 m (pc + k) ls' rest)) → W p l e (rmd (d + 1)) s m args below meth c H locs 0 0 Z (F0 m pc ls (.ref x :: rest))) (hst : aSt (XX p l e d s m args below meth c nL D ad cy sh N Z) pc k L S h i) : XX p l e d s m args below meth c nL D ad cy sh N Z pc L S h := by
  unfold aSt at hst
  split at hst
  · rename_i x S' v hv
    intro ls H locs hl hP hS
    have hi : i < nL := by rw [← hl.2]; exact nthV_lt hv
    exact hw (ad x) ls H locs _ _ hl.1 hi (fun ls' hl' => hst ls' H locs (lr_put1 (x := .ref x) hl hi (Or.inr ⟨x, rfl⟩) hl') hP hS)
  · exact hst.elim
theorem x_lSt {k : Nat} {i : Nat} (hw : ∀ (x : Int64) (ls : Array Slot) (H : Heap) (locs : List Loc) (rest : List Value) (lv : List (Nat × Value)), lv_has ls nL lv → i + 1 < nL → (∀ ls' : Array Slot, lv_has ls' nL ((i, Value.long x) :: lv.filter (fun q => !(q.1 == i) && (!(q.1 == i + 1) && !(q.1 + 1 == i && q.2.category == 2)))) → W p l e (rmd (d + 1)) s m args below meth c H locs 0 0 Z (F0 m (pc + k) ls' rest)) → W p l e (rmd (d + 1)) s m args below meth c H locs 0 0 Z (F0 m pc ls (.long x :: rest))) (hst : lSt (XX p l e d s m args below meth c nL D ad cy sh N Z) pc k L S h i) : XX p l e d s m args below meth c nL D ad cy sh N Z pc L S h := by
  unfold lSt at hst
  split at hst
  · rename_i x S' v hv
    intro ls H locs hl hP hS
    have hi : i + 1 < nL := by rw [← hl.2]; exact nthV_lt hv
    exact hw x ls H locs _ _ hl.1 hi (fun ls' hl' => hst ls' H locs (lr_put2 hl hi hl') hP hS)
  · exact hst.elim
theorem x_bI {f : Int32 → Int32 → Int32} (hw : ∀ (x z : Int32) (ls : Array Slot) (H : Heap) (locs : List Loc) (rest : List Value), W p l e (rmd (d + 1)) s m args below meth c H locs 0 0 Z (F0 m (pc + 1) ls (.int (f x z) :: rest)) → W p l e (rmd (d + 1)) s m args below meth c H locs 0 0 Z (F0 m pc ls (.int z :: .int x :: rest))) (hst : bI f (XX p l e d s m args below meth c nL D ad cy sh N Z) pc L S h) : XX p l e d s m args below meth c nL D ad cy sh N Z pc L S h := by
  unfold bI at hst
  split at hst
  · intro ls H locs hl hP hS
    exact hw _ _ ls H locs _ (hst ls H locs hl hP hS)
  · exact hst.elim
theorem x_bD {f : Int32 → Int32 → Int32} (hw : ∀ (x z : Int32) (ls : Array Slot) (H : Heap) (locs : List Loc) (rest : List Value), ¬ z = 0 → W p l e (rmd (d + 1)) s m args below meth c H locs 0 0 Z (F0 m (pc + 1) ls (.int (f x z) :: rest)) → W p l e (rmd (d + 1)) s m args below meth c H locs 0 0 Z (F0 m pc ls (.int z :: .int x :: rest))) (hst : bD f (XX p l e d s m args below meth c nL D ad cy sh N Z) pc L S h) : XX p l e d s m args below meth c nL D ad cy sh N Z pc L S h := by
  unfold bD at hst
  split at hst
  · intro ls H locs hl hP hS
    exact hw _ _ ls H locs _ hst.1 (hst.2 ls H locs hl hP hS)
  · exact hst.elim
theorem x_bL {f : Int64 → Int64 → Int64} (hw : ∀ (x z : Int64) (ls : Array Slot) (H : Heap) (locs : List Loc) (rest : List Value), W p l e (rmd (d + 1)) s m args below meth c H locs 0 0 Z (F0 m (pc + 1) ls (.long (f x z) :: rest)) → W p l e (rmd (d + 1)) s m args below meth c H locs 0 0 Z (F0 m pc ls (.long z :: .long x :: rest))) (hst : bL f (XX p l e d s m args below meth c nL D ad cy sh N Z) pc L S h) : XX p l e d s m args below meth c nL D ad cy sh N Z pc L S h := by
  unfold bL at hst
  split at hst
  · intro ls H locs hl hP hS
    exact hw _ _ ls H locs _ (hst ls H locs hl hP hS)
  · exact hst.elim
theorem x_bLD {f : Int64 → Int64 → Int64} (hw : ∀ (x z : Int64) (ls : Array Slot) (H : Heap) (locs : List Loc) (rest : List Value), ¬ z = 0 → W p l e (rmd (d + 1)) s m args below meth c H locs 0 0 Z (F0 m (pc + 1) ls (.long (f x z) :: rest)) → W p l e (rmd (d + 1)) s m args below meth c H locs 0 0 Z (F0 m pc ls (.long z :: .long x :: rest))) (hst : bLD f (XX p l e d s m args below meth c nL D ad cy sh N Z) pc L S h) : XX p l e d s m args below meth c nL D ad cy sh N Z pc L S h := by
  unfold bLD at hst
  split at hst
  · intro ls H locs hl hP hS
    exact hw _ _ ls H locs _ hst.1 (hst.2 ls H locs hl hP hS)
  · exact hst.elim
theorem x_uI {f : Int32 → Int32} (hw : ∀ (x : Int32) (ls : Array Slot) (H : Heap) (locs : List Loc) (rest : List Value), W p l e (rmd (d + 1)) s m args below meth c H locs 0 0 Z (F0 m (pc + 1) ls (.int (f x) :: rest)) → W p l e (rmd (d + 1)) s m args below meth c H locs 0 0 Z (F0 m pc ls (.int x :: rest))) (hst : uI f (XX p l e d s m args below meth c nL D ad cy sh N Z) pc L S h) : XX p l e d s m args below meth c nL D ad cy sh N Z pc L S h := by
  unfold uI at hst
  split at hst
  · intro ls H locs hl hP hS
    exact hw _ ls H locs _ (hst ls H locs hl hP hS)
  · exact hst.elim
theorem x_brZ {a : Nat} {k : ClassFile.Cond} {off : Int} (hx : p.tables.exec = Jvm.exec) (hb : c.code = mbc y) (hd : decode (mbc y) pc = .ok (.ifCond k off, 3)) (ht : (pc : Int) + off = (a : Int)) (hst : brZ k (XX p l e d s m args below meth c nL D ad cy sh N Z) pc a L S h) : XX p l e d s m args below meth c nL D ad cy sh N Z pc L S h := by
  unfold brZ at hst
  split at hst
  · intro ls H locs hl hP hS
    cases k
    · exact lv_if_eq hx hb hd ht (fun q => hst.1 q ls H locs hl hP hS) (fun q => hst.2 q ls H locs hl hP hS)
    · exact lv_if_ne hx hb hd ht (fun q => hst.1 q ls H locs hl hP hS) (fun q => hst.2 q ls H locs hl hP hS)
    · exact lv_if_lt hx hb hd ht (fun q => hst.1 q ls H locs hl hP hS) (fun q => hst.2 q ls H locs hl hP hS)
    · exact lv_if_ge hx hb hd ht (fun q => hst.1 q ls H locs hl hP hS) (fun q => hst.2 q ls H locs hl hP hS)
    · exact lv_if_gt hx hb hd ht (fun q => hst.1 q ls H locs hl hP hS) (fun q => hst.2 q ls H locs hl hP hS)
    · exact lv_if_le hx hb hd ht (fun q => hst.1 q ls H locs hl hP hS) (fun q => hst.2 q ls H locs hl hP hS)
  · exact hst.elim
theorem x_brI {a : Nat} {k : ClassFile.Cond} {off : Int} (hx : p.tables.exec = Jvm.exec) (hb : c.code = mbc y) (hd : decode (mbc y) pc = .ok (.if_icmp k off, 3)) (ht : (pc : Int) + off = (a : Int)) (hst : brI k (XX p l e d s m args below meth c nL D ad cy sh N Z) pc a L S h) : XX p l e d s m args below meth c nL D ad cy sh N Z pc L S h := by
  unfold brI at hst
  split at hst
  · intro ls H locs hl hP hS
    cases k
    · exact lv_icmp_eq hx hb hd ht (fun q => hst.1 q ls H locs hl hP hS) (fun q => hst.2 q ls H locs hl hP hS)
    · exact lv_icmp_ne hx hb hd ht (fun q => hst.1 q ls H locs hl hP hS) (fun q => hst.2 q ls H locs hl hP hS)
    · exact lv_icmp_lt hx hb hd ht (fun q => hst.1 q ls H locs hl hP hS) (fun q => hst.2 q ls H locs hl hP hS)
    · exact lv_icmp_ge hx hb hd ht (fun q => hst.1 q ls H locs hl hP hS) (fun q => hst.2 q ls H locs hl hP hS)
    · exact lv_icmp_gt hx hb hd ht (fun q => hst.1 q ls H locs hl hP hS) (fun q => hst.2 q ls H locs hl hP hS)
    · exact lv_icmp_le hx hb hd ht (fun q => hst.1 q ls H locs hl hP hS) (fun q => hst.2 q ls H locs hl hP hS)
  · exact hst.elim
theorem x_iinc {i : Nat} {n : Int} (hx : p.tables.exec = Jvm.exec) (hb : c.code = mbc y) (hd : decode (mbc y) pc = .ok (.iinc i n, 3)) (hn : Int32.ofInt n = cI n) (hst : iinC (XX p l e d s m args below meth c nL D ad cy sh N Z) pc L S h i n) : XX p l e d s m args below meth c nL D ad cy sh N Z pc L S h := by
  unfold iinC at hst
  split at hst
  · rename_i x hxv
    intro ls H locs hl hP hS
    have hi : i < nL := by rw [← hl.2]; exact nthV_lt hxv
    obtain ⟨k, hk⟩ := List.getElem?_of_mem (lvL_mem (ad := ad) (nL := nL) (L := L) (q := (i, .int x)) |>.mpr ⟨hi, .int x, by unfold clm; rw [hxv], rfl⟩)
    exact lv_iinc (v := x + cI n) hx hb hd hl.1 hk (by rw [hn]) hi rfl (fun ls' hl' => hst ls' H locs (lr_put1 hl hi (Or.inl ⟨_, rfl⟩) hl') hP hS)
  · exact hst.elim
theorem x_tsw {df lo hi : Int} {offs : Array Int} {n : Nat} (hx : p.tables.exec = Jvm.exec) (hb : c.code = mbc y) (hd : decode (mbc y) pc = .ok (.tableswitch df lo hi offs, n)) (h1 : 0 ≤ lo ∧ hi = lo + (offs.toList.length : Int) - 1 ∧ hi < 1000 ∧ 0 ≤ (pc : Int) + df) (h2 : offs.toList.all (fun o => decide (0 ≤ (pc : Int) + o)) = true) (hst : swi (XX p l e d s m args below meth c nL D ad cy sh N Z) pc L S h df (keysFrom lo offs.toList)) : XX p l e d s m args below meth c nL D ad cy sh N Z pc L S h := by
  unfold swi at hst
  split at hst
  · rename_i x S'
    intro ls H locs hl hP hS
    rcases swt_tab offs.toList lo h1.1 (by omega) hst with ⟨g1, g2⟩ | ⟨g1, o, g2, g3⟩
    · exact lv_tableOut hx hb hd (by omega) (show (pc : Int) + df = (((pc : Int) + df).toNat : Int) by omega) (g2 ls H locs hl hP hS)
    · have ho : 0 ≤ (pc : Int) + o := by
        have := List.all_eq_true.mp h2 o (List.mem_of_getElem? g2)
        simpa using this
      have hlt := (List.getElem?_eq_some_iff.mp g2).1
      exact lv_tableIn hx hb hd g1 (by omega) (by rw [← Array.getElem?_toList]; exact g2) (show (pc : Int) + o = (((pc : Int) + o).toNat : Int) by omega) (g3 ls H locs hl hP hS)
  · exact hst.elim
theorem x_lsw {df : Int} {ps : Array (Int × Int)} {n : Nat} (hx : p.tables.exec = Jvm.exec) (hb : c.code = mbc y) (hd : decode (mbc y) pc = .ok (.lookupswitch df ps, n)) (h0 : (ps.toList.zip (ps.toList.drop 1)).all (fun (a, next) => a.1 < next.1) = true) (h1 : 0 ≤ (pc : Int) + df) (h2 : ps.toList.all (fun q => decide (0 ≤ (pc : Int) + q.2 ∧ 0 ≤ q.1 ∧ q.1 < 1000)) = true) (hst : swi (XX p l e d s m args below meth c nL D ad cy sh N Z) pc L S h df ps.toList) : XX p l e d s m args below meth c nL D ad cy sh N Z pc L S h := by
  unfold swi at hst
  split at hst
  · rename_i x S'
    intro ls H locs hl hP hS
    have g0 : ∀ q ∈ ps.toList, 0 ≤ (pc : Int) + q.2 ∧ 0 ≤ q.1 ∧ q.1 < 1000 := fun q hq => by
      have := List.all_eq_true.mp h2 q hq
      simpa using this
    have g := swt_look ps.toList (fun q hq => (g0 q hq).2) hst
    have ho : 0 ≤ (pc : Int) + Op.lookupswitch.offset ps.toList df x.toInt := by
      rcases look_mem (d := df) (k := x.toInt) ps.toList with z | ⟨q, hq, z⟩
      · rw [z]; exact h1
      · rw [z]; exact (g0 q hq).1
    exact lv_lookup hx hb hd h0 rfl (show (pc : Int) + _ = (((pc : Int) + Op.lookupswitch.offset ps.toList df x.toInt).toNat : Int) by omega) (g ls H locs hl hP hS)
  · exact hst.elim
theorem x_aL (C0 : Cx p s m args meth c y nL rt D ad cy sh N) {kd : Nat} (hk : kd < 3) (hd : (kd = 0 ∧ decode (mbc y) pc = .ok (.iaload, 1)) ∨ (kd ≠ 0 ∧ decode (mbc y) pc = .ok (.baload, 1))) (hst : aL (XX p l e d s m args below meth c nL D ad cy sh N Z) pc L S h sh kd) : XX p l e d s m args below meth c nL D ad cy sh N Z pc L S h := by
  obtain ⟨hx, hb, hml, hr, hlocks, hown, hts, hK, hD, hSF, hNW, hvR, hsh⟩ := C0
  unfold aL at hst
  split at hst
  · rename_i j i S'
    split at hst
    · rename_i n f hf
      intro ls H locs hl hP hS
      have hg := hst.2 ls H locs hl hP hS
      rcases arr_spec hf with ⟨q1, q2⟩ | ⟨k, q1, q2, q3, q4, q5⟩ | ⟨q1, q2, q3, q4⟩
      · subst q2
        have hi := hsh.2.1 i _ q1
        rcases hd with ⟨rfl, hd⟩ | ⟨hk0, hd⟩
        · exact va_iald hx hb hK hP i 0 (ws_arr h hi q1) rfl hst.1 hd hg
        · rcases (show kd = 1 ∨ kd = 2 by omega) with rfl | rfl
          · exact va_bald hx hb hK hP i 1 (ws_arr h hi q1) rfl hst.1 hd hg
          · exact va_zald hx hb hK hP i 2 (ws_arr h hi q1) rfl hst.1 hd hg
      · subst q2 q3 q4 q5
        rcases hd with ⟨-, hd⟩ | ⟨hk0, -⟩
        · exact va_ti hx hb (hSF.1 k q1).2 hS hst.1 rfl hd hg
        · exact absurd rfl hk0
      · subst q1 q2 q3 q4
        rcases hd with ⟨hk0, -⟩ | ⟨-, hd⟩
        · exact absurd hk0 (by decide)
        · exact va_tb hx hb (hSF.2.2.1 0 (by decide)).2.2.2 hS hst.1 rfl hd hg
    · exact hst.elim
  · exact hst.elim
theorem x_aS (C0 : Cx p s m args meth c y nL rt D ad cy sh N) {kd : Nat} (hk : kd < 3) {nr : Int32 → Int32} (hd : (kd = 0 ∧ nr = (fun x => x) ∧ decode (mbc y) pc = .ok (.iastore, 1)) ∨ (kd = 1 ∧ nr = vp_nar .byte ∧ decode (mbc y) pc = .ok (.bastore, 1)) ∨ (kd = 2 ∧ nr = vp_nar .boolean ∧ decode (mbc y) pc = .ok (.bastore, 1))) (hst : aS nr (XX p l e d s m args below meth c nL D ad cy sh N Z) pc L S h sh kd) : XX p l e d s m args below meth c nL D ad cy sh N Z pc L S h := by
  obtain ⟨hx, hb, hml, hr, hlocks, hown, hts, hK, hD, hSF, hNW, hvR, hsh⟩ := C0
  unfold aS at hst
  split at hst
  · rename_i x j i S'
    split at hst
    · rename_i n hf
      intro ls H locs hl hP hS
      have q1 := arn_spec hf
      have hi := hsh.2.1 i _ q1
      rcases hd with ⟨rfl, rfl, hd⟩ | ⟨rfl, rfl, hd⟩ | ⟨rfl, rfl, hd⟩
      · exact va_iast hx hb hK hP (hD h) hS i 0 (ws_arr h hi q1) rfl hst.1 hd (fun H1 locs1 hP1 _ hS1 => hst.2 ls H1 locs1 hl (by rw [← ws_setA hi q1]; exact hP1) hS1)
      · exact va_bast hx hb hK hP (hD h) hS i 1 (ws_arr h hi q1) rfl hst.1 hd (fun H1 locs1 hP1 _ hS1 => hst.2 ls H1 locs1 hl (by rw [← ws_setA hi q1]; exact hP1) hS1)
      · exact va_zast hx hb hK hP (hD h) hS i 2 (ws_arr h hi q1) rfl hst.1 hd (fun H1 locs1 hP1 _ hS1 => hst.2 ls H1 locs1 hl (by rw [← ws_setA hi q1]; exact hP1) hS1)
    · exact hst.elim
  · exact hst.elim
theorem x_aLn (C0 : Cx p s m args meth c y nL rt D ad cy sh N) (hd : decode (mbc y) pc = .ok (.arraylength, 1)) (hst : aLn (XX p l e d s m args below meth c nL D ad cy sh N Z) pc L S h sh) : XX p l e d s m args below meth c nL D ad cy sh N Z pc L S h := by
  obtain ⟨hx, hb, hml, hr, hlocks, hown, hts, hK, hD, hSF, hNW, hvR, hsh⟩ := C0
  unfold aLn at hst
  split at hst
  · rename_i i S'
    split at hst
    · rename_i n f hf
      intro ls H locs hl hP hS
      have hg := hst ls H locs hl hP hS
      rcases arr_spec hf with ⟨q1, q2⟩ | ⟨k, q1, q2, q3, q4, q5⟩ | ⟨q1, q2, q3, q4⟩
      · have hi := hsh.2.1 i _ q1
        exact va_alen hx hb hK hP i _ (ws_arr h hi q1) (tyL_at (hsh.2.2.1 i _ q1)) rfl hd hg
      · subst q2 q4
        exact va_tlen hx hb (hSF.1 k q1).2 hS rfl hd hg
      · subst q1 q3
        exact va_tlen hx hb (hSF.2.2.1 0 (by decide)).2.2.2 hS rfl hd hg
    · exact hst.elim
  · exact hst.elim
theorem okF_spec {own : String} {idx ci k pl : Nat} (hf : okF own idx ci k pl = true) : ∃ r : vw_C, vwCl[ci]? = some r ∧ k < r.2.2 ∧ (.fieldLink own idx (r.2.1 k).1 (r.2.1 k).2.1 (r.2.1 k).2.2.1 : Jvm.Cond) ∈ gt := by
  unfold okF at hf
  split at hf
  · rename_i C T N' hc
    simp only [Bool.and_eq_true] at hf
    exact ⟨(C, T, N'), hc, Nat.blt_eq.mp hf.1, okw_mem hf.2⟩
  · cases hf
theorem x_gF (C0 : Cx p s m args meth c y nL rt D ad cy sh N) {idx ci k pl : Nat} (hd : decode (mbc y) pc = .ok (.getfield idx, 3)) (hok : (bif Nat.beq ci 100 then (match k with
        | 0 => okw (.fieldLink (mnm y).cls idx "java/lang/String" "value" "[B") pl
        | _ => okw (.fieldLink (mnm y).cls idx "java/lang/String" "coder" "B") pl)
      else okF (mnm y).cls idx ci k pl) = true) (hst : gF (XX p l e d s m args below meth c nL D ad cy sh N Z) pc L S h sh ci k) : XX p l e d s m args below meth c nL D ad cy sh N Z pc L S h := by
  obtain ⟨hx, hb, hml, hr, hlocks, hown, hts, hK, hD, hSF, hNW, hvR, hsh⟩ := C0
  unfold gF at hst
  split at hst
  · rename_i i S'
    cases h1 : Nat.beq ci 100
    · rw [h1] at hst hok
      simp only [cond_false] at hst hok
      cases h2 : Nat.blt i 100
      · rw [h2] at hst; exact hst.elim
      · rw [h2] at hst
        simp only [cond_true] at hst
        split at hst
        · rename_i c' fs hs0
          cases h3 : Nat.beq c' ci
          · rw [h3] at hst; exact hst.elim
          · rw [h3] at hst
            simp only [cond_true] at hst
            have e3 := Nat.eq_of_beq_eq_true h3
            subst e3
            obtain ⟨r, hr1, hr2, hr3⟩ := okF_spec hok
            have hi := hsh.2.1 i _ hs0
            have hin := (cls_ok hr1).1
            have key : ∀ (v : Value) (q : Nat × Nat), nthF fs k = some q → fv ad q.1 q.2 (h.1 i k) (h.2 i k) = v → (∀ (ls : Array Slot) (H : Heap) (locs : List Loc), lr ad ls nL L → va_P D vwCl (wsH ad cy sh N h) H → va_S (aA ad N s.heap.size) s.heap H locs → W p l e (rmd (d + 1)) s m args below meth c H locs 0 0 Z (F0 m (pc + 3) ls (v :: S'.map (cv ad)))) → XX p l e d s m args below meth c nL D ad cy sh N Z pc L (.ref i :: S') h := by
              intro v q hq hv hg ls H locs hl hP hS
              have hfs := fvs_at (ad := ad) (f := h.1 i) (g := h.2 i) fs 0 k q hq
              rw [Nat.zero_add, hv] at hfs
              obtain ⟨C, T, N'⟩ := r
              exact va_get (C := C) (T := T) (N := N') (ref := (T k).1) hx hb hts hin hown hK hP i (ws_obj h hi hs0) hr1 k hr2 (hts _ hr3) (fun _ z => z) hfs hd (hg ls H locs hl hP hS)
            split at hst
            · rename_i j hq
              exact key (.ref (ad j)) _ hq rfl (fun ls H locs hl hP hS => hst ls H locs hl hP hS)
            · rename_i j hq
              exact key (.long (h.2 i k)) _ hq rfl (fun ls H locs hl hP hS => hst ls H locs hl hP hS)
            · rename_i t j n3 n2 hq
              refine key (.int (h.1 i k)) _ hq ?_ (fun ls H locs hl hP hS => hst ls H locs hl hP hS)
              dsimp only
              unfold fv
              split
              · exact (n2 rfl).elim
              · exact (n3 rfl).elim
              · rfl
            · exact hst.elim
        · exact hst.elim
    · rw [h1] at hst hok
      simp only [cond_true] at hst hok
      cases h2 : Nat.beq i 110
      · rw [h2] at hst; exact hst.elim
      · rw [h2] at hst
        simp only [cond_true] at hst
        have e2 := Nat.eq_of_beq_eq_true h2
        subst e2
        intro ls H locs hl hP hS
        have hT := hSF.2.2.1 0 (by decide)
        split at hst
        · exact vk_getf (ref := "java/lang/String") hx hb hT.2.2.1 hS hown (hts _ (okw_mem hok)) (fun _ z => z) hd (hst ls H locs hl hP hS)
        · rename_i hk0
          have hok' : okw (.fieldLink (mnm y).cls idx "java/lang/String" "coder" "B") pl = true := by
            split at hok
            · exact absurd rfl hk0
            · exact hok
          exact vk_getf (ref := "java/lang/String") hx hb hT.2.1 hS hown (hts _ (okw_mem hok')) (fun _ z => z) hd (hst ls H locs hl hP hS)
  · exact hst.elim
theorem x_pF (C0 : Cx p s m args meth c y nL rt D ad cy sh N) {idx ci k pl : Nat} (hd : decode (mbc y) pc = .ok (.putfield idx, 3)) (hok : okF (mnm y).cls idx ci k pl = true) (hok2 : okP ci k = true) (hst : pF (XX p l e d s m args below meth c nL D ad cy sh N Z) pc L S h sh ci k) : XX p l e d s m args below meth c nL D ad cy sh N Z pc L S h := by
  obtain ⟨hx, hb, hml, hr, hlocks, hown, hts, hK, hD, hSF, hNW, hvR, hsh⟩ := C0
  obtain ⟨r, hr1, hr2, hr3⟩ := okF_spec hok
  have hfin : (r.2.1 k).2.2.2 = false := by
    unfold okP at hok2
    rw [hr1] at hok2
    simpa using hok2
  obtain ⟨hin, ty0, hty, hnm⟩ := cls_ok hr1
  have key : ∀ (v : Value) (i : Nat) (S' : List Value) (fs : List (Nat × Nat)) (q : Nat × Nat) (h' : Hp) (ty : FieldType), sh i = some (.inr (ci, fs)) → nthF fs k = some q → parseFieldDescriptor (r.2.1 k).2.2.1 = some ty → narrow ty v = v → fits ty v = true → ((wsH ad cy sh N h).set i (ad i, .inr (ci, (fvs ad (h.1 i) (h.2 i) fs 0).set k v)) = wsH ad cy sh N h') → XX p l e d s m args below meth c nL D ad cy sh N Z (pc + 3) L S' h' → ∀ (ls : Array Slot) (H : Heap) (locs : List Loc), lr ad ls nL L → va_P D vwCl (wsH ad cy sh N h) H → va_S (aA ad N s.heap.size) s.heap H locs → W p l e (rmd (d + 1)) s m args below meth c H locs 0 0 Z (F0 m pc ls (v :: .ref (ad i) :: S'.map (cv ad))) := by
    intro v i S' fs q h' ty hs0 hq hpd hnr hft heq hg ls H locs hl hP hS
    have hi := hsh.2.1 i _ hs0
    obtain ⟨C, T, N'⟩ := r
    exact va_put (C := C) (T := T) (N := N') (ref := (T k).1) hx hb hts hin ty0 hty hnm hown hK hP (hD h) hS i (ws_obj h hi hs0) hr1 k hr2 (hts _ hr3) (fun _ z => z) hfin hpd hnr hft (by rw [fvs_len]; exact nthF_lt _ _ _ hq) hd (fun H1 locs1 hP1 _ hS1 => hg ls H1 locs1 hl (by rw [← heq]; exact hP1) hS1)
  unfold pF at hst
  split at hst
  · rename_i x i S'
    cases h2 : Nat.blt i 100
    · rw [h2] at hst; exact hst.elim
    · rw [h2] at hst
      simp only [cond_true] at hst
      split at hst
      · rename_i c' fs hs0
        cases h3 : Nat.beq c' ci
        · rw [h3] at hst; exact hst.elim
        · rw [h3] at hst
          simp only [cond_true] at hst
          have e3 := Nat.eq_of_beq_eq_true h3
          subst e3
          have hi := hsh.2.1 i _ hs0
          obtain ⟨r', hr1', -, hpd⟩ := hsh.2.2.2 i _ hs0
          have er : r' = r := Option.some.inj (hr1'.symm.trans hr1)
          subst er
          split at hst
          · rename_i j hq
            exact key (.int x) i S' fs _ _ .int hs0 hq ((hpd k _ hq).1 rfl) rfl rfl (ws_setO (q := (c', fs)) hi hs0 hq ⟨show (0 : Nat) ≠ 2 by decide, show (0 : Nat) ≠ 3 by decide⟩ x) hst
          · rename_i j hq
            exact key (.int x) i S' fs _ _ .boolean hs0 hq ((hpd k _ hq).2.1 rfl) hst.1 (bool_narrow hst.1) (ws_setO (q := (c', fs)) hi hs0 hq ⟨show (1 : Nat) ≠ 2 by decide, show (1 : Nat) ≠ 3 by decide⟩ x) hst.2
          · exact hst.elim
      · exact hst.elim
  · rename_i x i S'
    cases h2 : Nat.blt i 100
    · rw [h2] at hst; exact hst.elim
    · rw [h2] at hst
      simp only [cond_true] at hst
      split at hst
      · rename_i c' fs hs0
        cases h3 : Nat.beq c' ci
        · rw [h3] at hst; exact hst.elim
        · rw [h3] at hst
          simp only [cond_true] at hst
          have e3 := Nat.eq_of_beq_eq_true h3
          subst e3
          have hi := hsh.2.1 i _ hs0
          obtain ⟨r', hr1', -, hpd⟩ := hsh.2.2.2 i _ hs0
          have er : r' = r := Option.some.inj (hr1'.symm.trans hr1)
          subst er
          split at hst
          · rename_i j hq
            exact key (.long x) i S' fs _ _ .long hs0 hq ((hpd k _ hq).2.2 rfl) rfl rfl (ws_setL (q := (c', fs)) hi hs0 hq x) hst
          · exact hst.elim
      · exact hst.elim
  · exact hst.elim
end SIM
