/-! the law: its start, its words, what it owes at each call -/
/-! THE CLAIM OUT OF ONE WALK OF THE LAW'S BODY. Your part is whole_start (and what it stands on); all else here is the same for every law, but numbers. -/
def R_law : String := "StockingLineLaw"
def lw_P (b : Addr) (xs : List Int32) (args : Array Value) (s : State) : Prop := args = #[.ref b] ∧ s.IntsAt b xs ∧ xs.length ≤ 256 ∧ (Jvm.Cond.and given_1 narrow_1).before args s = true
def lw_Q (_ : Array Value) (s : State) (o : Outcome) (t : State) : Prop := o = .returned (some (.int 1)) ∧ Framed s o t [] 600000 7302250
def lw_Z (below : List Frame) (a : Array Value) (s : State) : State → Prop := fun t => ∃ o, t.status = .running ∧ Ended t below o ∧ lw_Q a s o t
/-- the law's own end, with 1 on the stack, nothing written that was there before, its room as the claim has it -/
theorem lw_ret {p : Program} {l : Launch} {e : Env} {s : State} {m : MethodId} {below : List Frame} {meth : Method} {c : Code} {b : Nat} (hx : p.tables.exec = Jvm.exec) (hb : c.code = code) (hr : meth.sig.returnType = ret) (hlocks : meth.locks = false) {pc : Nat} {H : Heap} {ls : Array Slot} (hdg : decode code pc = .ok (.ireturn, 1)) : W p l e room_1 s m #[Value.ref b] below meth c H [] 600000 7302250 (lw_Z below #[Value.ref b] s) (F0 m pc ls [.int 1]) := by
  intro T hT X
  obtain ⟨fs, hret, hrun, hended, hW, hframe⟩ := X.leave (v := some (.int 1)) (hlocks := hlocks) (fun h => by rw [hr] at h; cases h)
  have hmeth' : T.vm.method? m = some meth := X.method'
  refine ⟨T.setFrames fs, ?_, .returned (some (.int 1)), hrun, hended, rfl, ⟨_, rfl⟩, hW, hframe⟩
  jvm_step X.here [X.here.top, hx, hb, hdg, hmeth', hr, ret, narrow_b1]
  (try refine ⟨rfl, ?_⟩); (try refine ⟨rfl, ?_⟩)
  first | (intro acts; rw [hret _ acts rfl rfl rfl]) | rw [hret _ _ rfl rfl rfl]
  exact Steps.refl _
/-- what holds at the law's entry: the machine, the code, the tables' words (any of lw_tbl by 'hts w (by decide +kernel)'), the script of L ints xs at the cell b, what the Statement gives of the start (any of its parts by flat_of_before) -/
def lw_At (p : Program) (s : State) (m : MethodId) (meth : Method) (c : Code) (b L : Nat) (xs : Nat → Int32) : Prop :=
  p.tables.exec = Jvm.exec ∧ c.code = code ∧ meth.sig.returnType = ret ∧ c.maxLocals = 4 ∧ s.vm.findClass R_law = some m.cls ∧ (∀ w ∈ lw_tbl, w.before #[Value.ref b] s = true) ∧ va_X b L xs s s.heap ∧ b < s.heap.size ∧ meth.locks = false ∧ (Jvm.Cond.and given_1 narrow_1).before #[Value.ref b] s = true
theorem law_gt {a : Array Value} {s : State} (h : ∀ w ∈ lw_tbl, w.before a s = true) : ∀ w ∈ gt, w.before a s = true := fun w hw => h w (List.mem_filter.mp hw).1
def slp : List Nat := [246, 751, 503, 508, 510, 514, 512]
theorem st_lays : ∀ k, k < 7 → (.laysStatic "StockingLine" (snm k) "[I" : Jvm.Cond) ∈ lw_tbl := by
  intro k hk
  refine List.mem_of_getElem? (i := slp.getD k 0) ?_
  revert k
  decide +kernel
theorem st_arr : ∀ k, k < 7 → (.arrayOf (.static "StockingLine" (snm k) "[I") .int : Jvm.Cond) ∈ flatC (Jvm.Cond.and given_1 narrow_1) := by decide +kernel
theorem st_len : ∀ k, k < 7 → (.eq (.length (.static "StockingLine" (snm k) "[I")) (.int (Int32.ofNat (sta k).length)) : Jvm.Cond) ∈ flatC (Jvm.Cond.and given_1 narrow_1) := by decide +kernel
theorem st_el : ∀ k, k < 7 → ∀ j, j < (sta k).length → (.eq (.elem (.static "StockingLine" (snm k) "[I") (.int (Int32.ofNat j))) (.int ((sta k).getD j 0)) : Jvm.Cond) ∈ flatC (Jvm.Cond.and given_1 narrow_1) := by decide +kernel
theorem st_small : ∀ k, k < 7 → (sta k).length < 2 ^ 31 := by decide +kernel
theorem tx_el : ∀ j, j < 5 → (.eq (.elem (.field (.string "StockingLine$Page" 30) "java/lang/String" "value" "[B") (.int (Int32.ofNat j))) (.int ((sta 7).getD j 0)) : Jvm.Cond) ∈ flatC (Jvm.Cond.and given_1 narrow_1) := by decide +kernel
theorem in_line : (.initialized "StockingLine" : Jvm.Cond) ∈ lw_tbl := List.mem_of_getElem? (i := 85) (by decide +kernel)
theorem in_str : (.initialized "java/lang/String" : Jvm.Cond) ∈ lw_tbl := List.mem_of_getElem? (i := 94) (by decide +kernel)
theorem ls_cs : (.laysStatic "java/lang/String" "COMPACT_STRINGS" "Z" : Jvm.Cond) ∈ lw_tbl := List.mem_of_getElem? (i := 368) (by decide +kernel)
theorem sr_pg : (.stringRef "StockingLine$Page" 30 "klybr" : Jvm.Cond) ∈ lw_tbl := List.mem_of_getElem? (i := 354) (by decide +kernel)
theorem nest_in : ∀ w ∈ nestL, w ∈ lw_tbl ∧ w.onTables = true := by
  intro w hw
  have h : nestL.all (fun w => lw_tbl.any (fun v => decide (v = w)) && w.onTables) = true := by decide +kernel
  have h1 := List.all_eq_true.mp h w hw
  simp only [Bool.and_eq_true, List.any_eq_true, decide_eq_true_eq] at h1
  obtain ⟨⟨v, hv, rfl⟩, h2⟩ := h1
  exact ⟨hv, h2⟩
theorem nestI_in : ∀ w ∈ nestI, w ∈ lw_tbl ∧ w.onTables = true := by
  intro w hw
  have h : nestI.all (fun w => lw_tbl.any (fun v => decide (v = w)) && w.onTables) = true := by decide +kernel
  have h1 := List.all_eq_true.mp h w hw
  simp only [Bool.and_eq_true, List.any_eq_true, decide_eq_true_eq] at h1
  obtain ⟨⟨v, hv, rfl⟩, h2⟩ := h1
  exact ⟨hv, h2⟩
/-- the statics, the text, the private links, at the law's start -/
theorem SF_start {b : Nat} {s : State} (hts : ∀ w ∈ lw_tbl, w.before #[Value.ref b] s = true) (hgv : (Jvm.Cond.and given_1 narrow_1).before #[Value.ref b] s = true) : ∃ ad : Nat → Nat, SF ad (fun q => s.heap.size ≤ q) s s.heap ∧ NW s ∧ NWI s ∧ vk_R "StockingLine$Page" 30 "klybr" (ad 110) s := by
  have hs := flat_of_before _ hgv
  have hA : ∀ a : Nat, a < s.heap.size → ¬ (fun q => s.heap.size ≤ q) a := fun a h z => Nat.lt_irrefl _ (Nat.lt_of_lt_of_le h z)
  have hT : ∀ k, ∃ t : Nat, k < 7 → va_Z "StockingLine" (snm k) "[I" (.ref t) (fun q => s.heap.size ≤ q) s s.heap ∧ va_T .int t (sta k).length (fun j => .int ((sta k).getD j 0)) (fun q => s.heap.size ≤ q) s s.heap := by
    intro k
    by_cases hk : k < 7
    · obtain ⟨t, ht, hT⟩ := va_Tof (f := fun j => .int ((sta k).getD j 0)) (st_small k hk) (hs _ (st_arr k hk)) (va_eqt (hs _ (st_len k hk))) (fun j hj => va_eqt (hs _ (st_el k hk j hj))) hA
      exact ⟨t, fun _ => ⟨va_Zref (hts _ (st_lays k hk)) (hts _ in_line) ht hA, hT⟩⟩
    · exact ⟨0, fun h => absurd h hk⟩
  obtain ⟨tt, htt⟩ := Classical.axiomOfChoice hT
  have hC := va_Zof (v := .int 1) (hts _ ls_cs) (hts _ in_str) (va_eqt (hs (.eq (.static "java/lang/String" "COMPACT_STRINGS" "Z") (.int 1)) (by decide +kernel))) hA
  obtain ⟨adK, adV, hvS, hvE⟩ := vk_Sof (N := 1) (tm := fun _ => .string "StockingLine$Page" 30) (len := [5]) (byt := [sta 7]) (args := #[Value.ref b]) (s := s) (A := fun q => s.heap.size ≤ q) (fun i hi => by
      obtain rfl : i = 0 := by omega
      decide) (fun i hi => hs _ (by decide +kernel)) (fun i hi => hs _ (by decide +kernel)) (fun i hi => hs _ (by decide +kernel)) (fun i hi => by
      obtain rfl : i = 0 := by omega
      exact hs _ (by decide +kernel)) (fun i hi j hj => by
      obtain rfl : i = 0 := by omega
      exact hs _ (tx_el j hj)) (fun i j hi hj hne => absurd (show i = j by omega) hne) hA
  refine ⟨fun i => if i = 110 then adK 0 else if i = 107 then adV 0 else tt (i - 100), ⟨fun k hk => ?_, hC, ?_⟩, fun w hw => va_Nw.of (nest_in w hw).2 (hts w (nest_in w hw).1), fun w hw => va_Nw.of (nestI_in w hw).2 (hts w (nestI_in w hw).1), ?_⟩
  · have e : (if 100 + k = 110 then adK 0 else if 100 + k = 107 then adV 0 else tt (100 + k - 100)) = tt k := by
      rw [if_neg (by omega), if_neg (by omega), Nat.add_sub_cancel_left]
    dsimp only
    rw [e]
    exact htt k hk
  · refine ⟨fun i hi => ?_, fun i j hi hj _ => by omega⟩
    obtain rfl : i = 0 := by omega
    exact hvS.1 0 (by decide)
  · exact vk_R.of (hts _ sr_pg) (hvE 0 (by decide))
