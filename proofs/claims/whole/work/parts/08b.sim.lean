/-! what stands beside the cells; what the shapes must be; the room -/
def aA (ad : Nat → Nat) (N sz : Nat) : Nat → Prop := fun q => (∃ k, k < N ∧ q = ad k) ∨ sz ≤ q
def tyL (cy : Nat → Nat) : List (ClassId × FieldType) := [(cy 0, .int), (cy 1, .byte), (cy 2, .boolean)]
theorem tyL_at {cy : Nat → Nat} : ∀ {k : Nat}, k < 3 → (tyL cy)[k]? = some (cy k, aty k)
  | 0, _ => rfl
  | 1, _ => rfl
  | 2, _ => rfl
  | n + 3, h => absurd h (by omega)
def SF (ad : Nat → Nat) (A : Nat → Prop) (U : State) (H : Heap) : Prop :=
  (∀ k, k < 7 → va_Z "StockingLine" (snm k) "[I" (.ref (ad (100 + k))) A U H ∧ va_T .int (ad (100 + k)) (sta k).length (fun j => .int ((sta k).getD j 0)) A U H) ∧
  va_Z "java/lang/String" "COMPACT_STRINGS" "Z" (.int 1) A U H ∧
  vk_S 1 [5] [sta 7] (fun _ => ad 110) (fun _ => ad 107) A U H
theorem SF.moved {ad : Nat → Nat} {A : Nat → Prop} {u U : State} {H : Heap} (hvm : u.vm.Alike U.vm) (h : SF ad A u H) : SF ad A U H :=
  ⟨fun k hk => ⟨va_Z.moved hvm (h.1 k hk).1, va_T.moved hvm (h.1 k hk).2⟩, va_Z.moved hvm h.2.1, vk_S.moved hvm h.2.2⟩
theorem SF.kept {ad : Nat → Nat} {A : Nat → Prop} {U : State} {H H1 : Heap} (h : SF ad A U H) (hq : ∀ a : Nat, a < H.size → ¬ A a → H1[a]? = H[a]?) : SF ad A U H1 :=
  ⟨fun k hk => ⟨(h.1 k hk).1.kept hq, (h.1 k hk).2.kept hq⟩, h.2.1.kept hq, h.2.2.kept hq⟩
theorem SF.narrow {ad : Nat → Nat} {A B : Nat → Prop} {U : State} {H : Heap} (h : SF ad A U H) (hAB : ∀ q, B q → A q) : SF ad B U H :=
  ⟨fun k hk => ⟨(h.1 k hk).1.narrow hAB, (h.1 k hk).2.narrow hAB⟩, h.2.1.narrow hAB, h.2.2.narrow hAB⟩
def NW (U : State) : Prop := ∀ w ∈ nestL, va_Nw w U
theorem NW.warm {s U : State} (hW : s.WarmedH U.vm) (h : NW s) : NW U := by
  intro w hw
  have h1 := h w hw
  simp only [nestL, List.mem_cons, List.not_mem_nil, or_false] at hw
  rcases hw with rfl | rfl | rfl | rfl | rfl | rfl | rfl | rfl | rfl | rfl <;> first | exact va_Nw.warmF hW h1 | exact va_Nw.warmM hW h1
theorem NW.same {u U : State} (hv : u.vm = U.vm) (h : NW u) : NW U := by
  intro w hw
  have h1 := h w hw
  simp only [nestL, List.mem_cons, List.not_mem_nil, or_false] at hw
  rcases hw with rfl | rfl | rfl | rfl | rfl | rfl | rfl | rfl | rfl | rfl <;> exact va_Nw.same rfl hv h1
def okSh (sh : Nat → Option Shp) (N : Nat) : Prop := N ≤ 100 ∧ (∀ i s, sh i = some s → i < N) ∧ (∀ i q, sh i = some (.inl q) → q.1 < 3) ∧
  ∀ i q, sh i = some (.inr q) → ∃ r, vwCl[q.1]? = some r ∧ q.2.length = r.2.2 ∧ ∀ k f, nthF q.2 k = some f → (f.1 = 0 → parseFieldDescriptor (r.2.1 k).2.2.1 = some .int) ∧ (f.1 = 1 → parseFieldDescriptor (r.2.1 k).2.2.1 = some .boolean) ∧ (f.1 = 2 → parseFieldDescriptor (r.2.1 k).2.2.1 = some .long)
def rmd (d : Nat) : Room := { frames := d, cells := 0, slots := 0, locals := 64 * d }
def WO (D : va_G) (ad cy : Nat → Nat) (sh : Nat → Option Shp) (N : Nat) (h : Hp) (U : State) : Prop :=
  va_P D vwCl (wsH ad cy sh N h) U.heap ∧ va_K D vwCl (tyL cy) U ∧ va_D (fun _ => True) (wsH ad cy sh N h) ∧ SF ad (aA ad N U.heap.size) U U.heap ∧ NW U ∧ vk_R "StockingLine$Page" 30 "klybr" (ad 110) U
def Pcx (D : va_G) (ad cy : Nat → Nat) (sh : Nat → Option Shp) (N : Nat) (As : List Value) (h : Hp) (sz : Nat) : Array Value → State → Prop := va_Pc (As.map (cv ad)) (fun U => U.heap.size = sz ∧ WO D ad cy sh N h U)
def qB (D : va_G) (ad cy : Nat → Nat) (sh : Nat → Option Shp) (N : Nat) : Hp → State → Prop := fun h t => va_P D vwCl (wsH ad cy sh N h) t.heap
def qc (rt : Nat) (Q : Pst) (B : Hp → State → Prop) (A : Nat → Prop) : Array Value → State → Outcome → State → Prop := match rt with
  | 0 => va_Qv (fun h => Q none h) B A
  | 3 => va_Ql (fun v h => Q (some (.long v)) h) B A
  | _ => va_Qi (fun v h => Q (some (.int v)) h) B A
def cdw (y nL rt : Nat) : List Jvm.Cond := .code (mnm y) (mbc y) nL (rty rt) :: gt
theorem aA_mono {ad : Nat → Nat} {N a b : Nat} (h : a ≤ b) : ∀ q, aA ad N b q → aA ad N a q := fun q hq => hq.elim Or.inl (fun z => Or.inr (Nat.le_trans h z))
theorem wsH_D {A : Nat → Prop} {ad cy : Nat → Nat} {sh : Nat → Option Shp} {N sz : Nat} {h : Hp} (hD : va_D A (wsH ad cy sh N h)) (h' : Hp) : va_D (aA ad N sz) (wsH ad cy sh N h') := by
  refine ⟨fun i j p q hp hq e => ?_, fun k q hq => ?_⟩
  · obtain ⟨hi, rfl⟩ := wsH_in hp
    obtain ⟨hj, rfl⟩ := wsH_in hq
    exact hD.1 i j _ _ (wsH_at h hi) (wsH_at h hj) e
  · obtain ⟨hk, rfl⟩ := wsH_in hq
    exact Or.inl ⟨k, hk, rfl⟩
theorem wsH_DT {A : Nat → Prop} {ad cy : Nat → Nat} {sh : Nat → Option Shp} {N : Nat} {h : Hp} (hD : va_D A (wsH ad cy sh N h)) (h' : Hp) : va_D (fun _ => True) (wsH ad cy sh N h') :=
  (wsH_D (sz := 0) hD h').weaken (fun _ _ _ _ => trivial)
theorem blindP {D : va_G} {ad cy : Nat → Nat} {sh : Nat → Option Shp} {N sz : Nat} {As : List Value} {h : Hp} : FrameBlind (Pcx D ad cy sh N As h sz) := by
  intro a U g mk q
  obtain ⟨q0, q1, qP, qK, qD, qS, qN, qR⟩ := q
  exact ⟨q0, q1, qP, va_K.moved (u := U) (U := U.calling g mk a) (Vm.Alike.refl U.vm) qK, qD, SF.moved (u := U) (U := U.calling g mk a) (Vm.Alike.refl U.vm) qS, NW.same (u := U) (U := U.calling g mk a) rfl qN, vk_R.same (u := U) (U := U.calling g mk a) rfl qR⟩
theorem ws_arr {ad cy : Nat → Nat} {sh : Nat → Option Shp} {N i : Nat} {q : Nat × Nat} (h : Hp) (hi : i < N) (hs : sh i = some (.inl q)) : (wsH ad cy sh N h)[i]? = some (ad i, .inl (cy q.1, q.2, .inl (h.1 i))) := by
  rw [wsH_at h hi, hs]
  rfl
theorem ws_obj {ad cy : Nat → Nat} {sh : Nat → Option Shp} {N i : Nat} {q : Nat × List (Nat × Nat)} (h : Hp) (hi : i < N) (hs : sh i = some (.inr q)) : (wsH ad cy sh N h)[i]? = some (ad i, .inr (q.1, fvs ad (h.1 i) (h.2 i) q.2 0)) := by
  rw [wsH_at h hi, hs]
  rfl
theorem ws_setA {ad cy : Nat → Nat} {sh : Nat → Option Shp} {N i : Nat} {q : Nat × Nat} {h : Hp} (hi : i < N) (hs0 : sh i = some (.inl q)) (f : Nat → Int32) : (wsH ad cy sh N h).set i (ad i, .inl (cy q.1, q.2, .inl f)) = wsH ad cy sh N (hs h i f) := by
  rw [← wsH_set (h := h) (h' := hs h i f) hi (fun a ha => hs_ne ha) (fun a ha => rfl), hs0, hs_self]
  rfl
theorem ws_setO {ad cy : Nat → Nat} {sh : Nat → Option Shp} {N i k : Nat} {q : Nat × List (Nat × Nat)} {t : Nat × Nat} {h : Hp} (hi : i < N) (hs0 : sh i = some (.inr q)) (hk : nthF q.2 k = some t) (ht : t.1 ≠ 2 ∧ t.1 ≠ 3) (x : Int32) : (wsH ad cy sh N h).set i (ad i, .inr (q.1, (fvs ad (h.1 i) (h.2 i) q.2 0).set k (.int x))) = wsH ad cy sh N (hs h i (upd (h.1 i) k x)) := by
  rw [← wsH_set (h := h) (h' := hs h i (upd (h.1 i) k x)) hi (fun a ha => hs_ne ha) (fun a ha => rfl), hs0, hs_self]
  have e := fvs_set (ad := ad) (f := h.1 i) (f' := upd (h.1 i) k x) (g := h.2 i) (g' := h.2 i) q.2 0 k t hk (fun j hj => by rw [upd, if_neg (by omega)]) (fun j hj => rfl)
  have e2 : fv ad t.1 t.2 (upd (h.1 i) k x (0 + k)) (h.2 i (0 + k)) = .int x := by
    obtain ⟨t1, t2⟩ := t
    dsimp only at ht ⊢
    rw [Nat.zero_add, upd, if_pos rfl]
    unfold fv
    split
    · exact absurd rfl ht.1
    · exact absurd rfl ht.2
    · rfl
  rw [e2] at e
  rw [e]
  rfl
theorem ws_setL {ad cy : Nat → Nat} {sh : Nat → Option Shp} {N i k : Nat} {q : Nat × List (Nat × Nat)} {j : Nat} {h : Hp} (hi : i < N) (hs0 : sh i = some (.inr q)) (hk : nthF q.2 k = some (2, j)) (x : Int64) : (wsH ad cy sh N h).set i (ad i, .inr (q.1, (fvs ad (h.1 i) (h.2 i) q.2 0).set k (.long x))) = wsH ad cy sh N (hsL h i k x) := by
  rw [← wsH_set (h := h) (h' := hsL h i k x) hi (fun a ha => rfl) (fun a ha => funext fun b => hsL_ne (Or.inl ha)), hs0]
  have e := fvs_set (ad := ad) (f := h.1 i) (f' := h.1 i) (g := h.2 i) (g' := (hsL h i k x).2 i) q.2 0 k (2, j) hk (fun j hj => rfl) (fun b hb => hsL_ne (Or.inr (by omega)))
  have e2 : fv ad 2 j (h.1 i (0 + k)) ((hsL h i k x).2 i (0 + k)) = .long x := by
    rw [Nat.zero_add, hsL_self]
    rfl
  dsimp only at e
  rw [e2] at e
  rw [e]
  rfl
theorem arr_spec {sh : Nat → Option Shp} {h : Hp} {i kd n : Nat} {f : Nat → Int32} (e : arr sh h i kd = some (n, f)) : (sh i = some (.inl (kd, n)) ∧ f = h.1 i) ∨ (∃ k, k < 7 ∧ i = 100 + k ∧ kd = 0 ∧ n = (sta k).length ∧ f = fun j => (sta k).getD j 0) ∨ (i = 107 ∧ kd = 1 ∧ n = 5 ∧ f = fun j => (sta 7).getD j 0) := by
  unfold arr at e
  cases h1 : Nat.blt i 100
  · rw [h1] at e
    have g1 : ¬ i < 100 := fun z => by rw [Nat.blt_eq.mpr z] at h1; cases h1
    simp only [cond_false] at e
    cases h2 : Nat.blt i 107
    · rw [h2] at e
      simp only [cond_false] at e
      cases h3 : Nat.beq i 107 && Nat.beq kd 1
      · rw [h3] at e; cases e
      · rw [h3] at e
        simp only [Bool.and_eq_true] at h3
        cases e
        exact Or.inr (Or.inr ⟨Nat.eq_of_beq_eq_true h3.1, Nat.eq_of_beq_eq_true h3.2, rfl, rfl⟩)
    · rw [h2] at e
      simp only [cond_true] at e
      have g2 := Nat.blt_eq.mp h2
      cases h3 : Nat.beq kd 0
      · rw [h3] at e; cases e
      · rw [h3] at e
        cases e
        exact Or.inr (Or.inl ⟨i - 100, by omega, by omega, Nat.eq_of_beq_eq_true h3, rfl, rfl⟩)
  · rw [h1] at e
    simp only [cond_true] at e
    split at e
    · rename_i k n' hs0
      cases h3 : Nat.beq k kd
      · rw [h3] at e; cases e
      · rw [h3] at e
        cases e
        rw [← Nat.eq_of_beq_eq_true h3]
        exact Or.inl ⟨hs0, rfl⟩
    · cases e
theorem arn_spec {sh : Nat → Option Shp} {i kd n : Nat} (e : arn sh i kd = some n) : sh i = some (.inl (kd, n)) := by
  unfold arn at e
  cases h1 : Nat.blt i 100
  · rw [h1] at e; cases e
  · rw [h1] at e
    simp only [cond_true] at e
    split at e
    · rename_i k n' hs0
      cases h3 : Nat.beq k kd
      · rw [h3] at e; cases e
      · rw [h3] at e
        cases e
        rw [← Nat.eq_of_beq_eq_true h3]
        exact hs0
    · cases e
theorem catS_sum {ad : Nat → Nat} : ∀ S : List Value, ((S.map (cv ad)).map fun v => v.category).sum = catS S
  | [] => rfl
  | v :: S => by
    have := catS_sum (ad := ad) S
    cases v <;> simp [catS, cv, Value.category] at this ⊢ <;> omega
theorem popn_spec : ∀ (n : Nat) (acc S As S' : List Value), popn n acc S = some (As, S') → ∃ B, As = B ++ acc ∧ B.length = n ∧ S = B.reverse ++ S'
  | 0, acc, S, As, S', h => by
    cases h
    exact ⟨[], rfl, rfl, rfl⟩
  | n + 1, acc, v :: S, As, S', h => by
    obtain ⟨B, h1, h2, h3⟩ := popn_spec n (v :: acc) S As S' h
    refine ⟨B ++ [v], by simp [h1], by simp [h2], by simp [h3]⟩
  | n + 1, _, [], _, _, h => by cases h
theorem bool_narrow {x : Int32} (h : narrow .boolean (.int x) = .int x) : fits .boolean (.int x) = true := by
  have h1 : x &&& 1 = x := by injection h
  obtain ⟨j, hj, e⟩ := pk_andE x (m := 1) 1 (by decide)
  have : x = nI j := h1.symm.trans e
  rw [this]
  rcases (show j = 0 ∨ j = 1 by omega) with rfl | rfl <;> decide
theorem cI_small {c : Int} (h0 : 0 ≤ c) (h1 : c < 1000) : (cI c).toInt = c := by
  obtain ⟨k, rfl⟩ := Int.eq_ofNat_of_zero_le h0
  show (nI k).toInt = _
  rw [nI_toInt (by omega)]
theorem swt_tab {x : Int32} {G : Int → Prop} {d : Int} : ∀ (l : List Int) (lo : Int), 0 ≤ lo → lo + l.length ≤ 1000 → swt x G d (keysFrom lo l) → (x.toInt < lo ∨ lo + l.length ≤ x.toInt) ∧ G d ∨ (¬ x.toInt < lo ∧ ∃ o, l[(x.toInt - lo).toNat]? = some o ∧ G o)
  | [], lo, _, _, H => by
    left
    refine ⟨?_, H⟩
    simp only [List.length_nil]
    omega
  | o :: l, lo, h0, h1, H => by
    simp only [List.length_cons] at h1
    by_cases hx : x = cI lo
    · right
      have e : x.toInt = lo := by rw [hx]; exact cI_small h0 (by omega)
      refine ⟨by omega, o, ?_, H.1 hx⟩
      rw [e, Int.sub_self]
      rfl
    · have e : x.toInt ≠ lo := fun z => hx (Int32.toInt_inj.mp (by rw [z, cI_small h0 (by omega)]))
      rcases swt_tab l (lo + 1) (by omega) (by omega) (H.2 hx) with ⟨g1, g2⟩ | ⟨g1, o', g2, g3⟩
      · left
        refine ⟨?_, g2⟩
        simp only [List.length_cons]
        omega
      · right
        refine ⟨by omega, o', ?_, g3⟩
        rw [show (x.toInt - lo).toNat = (x.toInt - (lo + 1)).toNat + 1 by omega]
        exact g2
theorem swt_look {x : Int32} {G : Int → Prop} {d : Int} : ∀ (l : List (Int × Int)), (∀ q ∈ l, 0 ≤ q.1 ∧ q.1 < 1000) → swt x G d l → G (Op.lookupswitch.offset l d x.toInt)
  | [], _, H => H
  | (a, o) :: l, h, H => by
    have ha := h (a, o) List.mem_cons_self
    show G (if a = x.toInt then o else Op.lookupswitch.offset l d x.toInt)
    by_cases hx : x = cI a
    · rw [if_pos (by rw [hx]; exact (cI_small ha.1 ha.2).symm)]
      exact H.1 hx
    · rw [if_neg (fun z => hx (Int32.toInt_inj.mp (by rw [← z, cI_small ha.1 ha.2])))]
      exact swt_look l (fun q hq => h q (List.mem_cons_of_mem _ hq)) (H.2 hx)
theorem look_mem {d k : Int} : ∀ (l : List (Int × Int)), Op.lookupswitch.offset l d k = d ∨ ∃ q ∈ l, Op.lookupswitch.offset l d k = q.2
  | [] => Or.inl rfl
  | (a, o) :: l => by
    show (if a = k then o else Op.lookupswitch.offset l d k) = d ∨ _
    by_cases hx : a = k
    · right
      refine ⟨(a, o), List.mem_cons_self, ?_⟩
      show (if a = k then o else Op.lookupswitch.offset l d k) = o
      rw [if_pos hx]
    · rw [if_neg hx]
      rcases look_mem (d := d) (k := k) l with h | ⟨q, hq, h⟩
      · exact Or.inl h
      · right
        refine ⟨q, List.mem_cons_of_mem _ hq, ?_⟩
        show (if a = k then o else Op.lookupswitch.offset l d k) = q.2
        rw [if_neg hx]
        exact h
