/-! calls, and all instructions together: what the small machine comes to, the real one comes to -/
section SIM2
variable {p : Program} {l : Launch} {e : Env} {d : Nat} {s : State} {m : MethodId} {args : Array Value} {below : List Frame} {meth : Method} {c : Code} {y nL rt : Nat} {D : va_G} {ad cy : Nat → Nat} {sh : Nat → Option Shp} {N : Nat} {Z : State → Prop} {pc : Nat} {L S : List Value} {h : Hp}
theorem bif_t {b : Bool} {A : Prop} (H : bif b then A else False) : b = true ∧ A := by
  cases b
  · exact H.elim
  · exact ⟨rfl, H⟩
/-- what is known of every method, d calls deep -/
def IH (l : Launch) (D : va_G) (ad cy : Nat → Nat) (sh : Nat → Option Shp) (N d : Nat) : Prop := ∀ (y : Nat) (As : List Value) (h : Hp) (Q : Pst) (q : (Nat → Option Ops) × Nat × Nat) (sz : Nat), mtb y = some q → Ev mtb sh d y As h Q → Met l (mnm y) (cdw y q.2.1 q.2.2) (rmd d) (Pcx D ad cy sh N As h sz) (qc q.2.2 Q (qB D ad cy sh N) (aA ad N sz)) 0 0 (aA ad N sz)
theorem okm_spec {a nL rt : Nat} (hm : okm a nL rt = true) : (.code (mnm a) (mbc a) nL (rty rt) : Jvm.Cond) ∈ gt ∧ (.initialized (mnm a).cls : Jvm.Cond) ∈ gt ∧ (bif Nat.beq (mpl a).2.2.2.2.1 1 then okw (.static (mnm a)) (mpl a).2.2.1 else okw (.instanceMethod (mnm a)) (mpl a).2.2.1 && okw (.selects (mnm a).cls (mnm a) (mnm a)) (mpl a).2.2.2.1) = true ∧ plainName (mnm a).cls = true ∧ ((mnm a).cls ≠ "java/lang/invoke/MethodHandle" ∧ (mnm a).cls ≠ "java/lang/invoke/VarHandle" ∧ (parseMethodDescriptor (mnm a).desc).map (fun d => d.parameters.length) = some (mpl a).2.2.2.2.2) ∧ nL ≤ 40 := by
  unfold okm at hm
  simp only [Bool.and_eq_true, decide_eq_true_eq] at hm
  obtain ⟨⟨⟨⟨⟨h1, h2⟩, h3⟩, h4⟩, h5⟩, h6⟩ := hm
  exact ⟨okw_mem h1, okw_mem h2, h3, h4, h5, Nat.le_of_ble_eq_true h6⟩
theorem good_cdw {a nL rt : Nat} (h : (.code (mnm a) (mbc a) nL (rty rt) : Jvm.Cond) ∈ gt) : GoodIn gt (cdw a nL rt) := fun w hw => by
  rcases List.mem_cons.mp hw with rfl | hw
  · exact ⟨h, gt_good _ h⟩
  · exact ⟨hw, gt_good _ hw⟩
theorem WO_next (C0 : Cx p s m args meth c y nL rt D ad cy sh N) {H : Heap} {locs : List Loc} (hP : va_P D vwCl (wsH ad cy sh N h) H) (hS : va_S (aA ad N s.heap.size) s.heap H locs) {U : State} (hU : U.heap = H) (hW : s.WarmedH U.vm) : U.heap.size = H.size ∧ WO D ad cy sh N h U := by
  obtain ⟨hx, hb, hml, hr, hlocks, hown, hts, hK, hD, hSF, hNW, hvR, hsh⟩ := C0
  refine ⟨by rw [hU], by rw [hU]; exact hP, va_K.moved hW.alike hK, wsH_DT (hD h) h, ?_, hNW.warm hW, hvR.warm hW⟩
  rw [hU]
  exact ((hSF.kept hS.2.1).moved hW.alike).narrow (aA_mono hS.1)
/-- behind a call: by the answer's type -/
theorem x_after (C0 : Cx p s m args meth c y nL rt D ad cy sh N) {rt' : Nat} {ls : Array Slot} {H : Heap} {locs : List Loc} {S' st0 : List Value} {a : Array Value} (hl : lr ad ls nL L) (hS : va_S (aA ad N s.heap.size) s.heap H locs) (hr : va_Run p l e (rmd (d + 1)) s m args below meth c H locs 0 0 0 0 (F0 m pc ls st0) (S'.map (cv ad)) (qc rt' (rK rt' (XX p l e d s m args below meth c nL D ad cy sh N Z) pc L S') (qB D ad cy sh N) (aA ad N H.size) a) (aA ad N H.size)) : W p l e (rmd (d + 1)) s m args below meth c H locs 0 0 Z (F0 m pc ls st0) := by
  have hA := aA_mono (ad := ad) (N := N) hS.1
  rcases rt' with _ | _ | _ | _ | n
  · exact va_callv (a := a) hr hS (fun q _ z => hA q z) hA (fun u t H1 locs1 ht hvm hq hB hz hk hS1 => hq ls H1 locs1 hl (by rw [← ht]; exact hB) hS1)
  · exact va_calli (a := a) hr hS (fun q _ z => hA q z) hA (fun r u t H1 locs1 ht hvm hq hB hz hk hS1 => hq ls H1 locs1 hl (by rw [← ht]; exact hB) hS1)
  · exact va_calli (a := a) hr hS (fun q _ z => hA q z) hA (fun r u t H1 locs1 ht hvm hq hB hz hk hS1 => hq ls H1 locs1 hl (by rw [← ht]; exact hB) hS1)
  · exact va_calll (a := a) hr hS (fun q _ z => hA q z) hA (fun r u t H1 locs1 ht hvm hq hB hz hk hS1 => hq ls H1 locs1 hl (by rw [← ht]; exact hB) hS1)
  · exact va_calli (a := a) hr hS (fun q _ z => hA q z) hA (fun r u t H1 locs1 ht hvm hq hB hz hk hS1 => hq ls H1 locs1 hl (by rw [← ht]; exact hB) hS1)
theorem okC_spec {a k st ci : Nat} (h : okC a k st ci = true) : (mpl a).2.2.2.2.1 = st ∧ k % 16 = (mpl a).2.2.2.2.2 ∧ (∃ C nL', mtb a = some (C, nL', k / 16)) ∧ (st ≠ 1 → (mnm a).cls = cnm ci) := by
  unfold okC at h
  simp only [Bool.and_eq_true] at h
  obtain ⟨⟨⟨h1, h2⟩, h3⟩, h4⟩ := h
  refine ⟨Nat.eq_of_beq_eq_true h1, Nat.eq_of_beq_eq_true h2, ?_, fun hst => ?_⟩
  · split at h3
    · rename_i C nL' rt' hm
      exact ⟨C, nL', by rw [hm, Nat.eq_of_beq_eq_true h3]⟩
    · cases h3
  · cases hb : Nat.beq st 1
    · rw [hb] at h4
      simpa using h4
    · exact absurd (Nat.eq_of_beq_eq_true hb) hst
theorem x_cV (C0 : Cx p s m args meth c y nL rt D ad cy sh N) (ih : IH l D ad cy sh N d) {idx a pl k ci : Nat} (hd : decode (mbc y) pc = .ok (.invokevirtual idx, 3)) (hok : okw (.methodLink (mnm y).cls idx (mnm a)) pl = true) (hokc : okC a k 0 ci = true) (hst : cV (Ev mtb sh d) (XX p l e d s m args below meth c nL D ad cy sh N Z) pc L S h sh a (k % 16) (k / 16) ci) : XX p l e d s m args below meth c nL D ad cy sh N Z pc L S h := by
  have C1 := C0
  obtain ⟨hx, hb, hml, hr, hlocks, hown, hts, hK, hD, hSF, hNW, hvR, hsh⟩ := C0
  obtain ⟨c1, c2, ⟨C, nL', hm⟩, c4⟩ := okC_spec hokc
  obtain ⟨o1, o2, o3, o4, o5, o6⟩ := okm_spec (mok hm).1
  rw [c1] at o3
  simp only [show Nat.beq 0 1 = false from rfl, cond_false, Bool.and_eq_true] at o3
  unfold cV at hst
  split at hst
  · rename_i As i S' hpop
    obtain ⟨B, hB1, hB2, hB3⟩ := popn_spec _ _ _ _ _ hpop
    rw [List.append_nil] at hB1
    subst hB1
    obtain ⟨hc, hst⟩ := bif_t hst
    · simp only [Bool.and_eq_true] at hc
      intro ls H locs hl hP hS
      have hrec : ∃ cellB : Cell, H[ad i]? = some cellB ∧ cellB.vm.isStatics = false ∧ s.vm.findClass (mnm a).cls = some cellB.cls := by
        rw [c4 (by decide)]
        cases h1 : Nat.beq ci 100
        · rw [h1] at hc
          simp only [cond_false, Bool.and_eq_true] at hc
          have h2 := hc.2.2
          split at h2
          · rename_i c' fs hs0
            have e3 := Nat.eq_of_beq_eq_true h2
            subst e3
            obtain ⟨r, hr1, -⟩ := hsh.2.2.2 i _ hs0
            obtain ⟨cell, g1, g2, g3⟩ := va_recv hK hP hr1 (ws_obj h (hsh.2.1 i _ hs0) hs0)
            refine ⟨cell, g1, g2, ?_⟩
            unfold cnm
            rw [h1]
            simp only [cond_false]
            rw [hr1]
            exact g3
          · cases h2
        · rw [h1] at hc
          simp only [cond_true] at hc
          have e2 := Nat.eq_of_beq_eq_true hc.2
          subst e2
          obtain ⟨cell, g1, g2, g3⟩ := vk_recv hSF.2.2 (show 0 < 1 by decide) hS
          refine ⟨cell, g1, g2, ?_⟩
          unfold cnm
          rw [h1]
          exact g3
      refine x_after C1 (a := (Value.ref (ad i) :: As.map (cv ad)).toArray) (L := L) (S' := S') (rt' := k / 16) hl hS ?_
      have hM := ih a (.ref i :: As) h _ _ H.size hm hst
      have o6' : nL' ≤ 40 := o6
      have hR : (rmd d).frames + 1 ≤ (rmd (d + 1)).frames ∧ 8 + (nL' + 11) + (rmd d).locals ≤ (rmd (d + 1)).locals := ⟨Nat.le_refl _, by show 8 + (nL' + 11) + 64 * d ≤ 64 * (d + 1); omega⟩
      refine va_runV (As := As.map (cv ad)) (C := (mnm a).cls) (bytes := mbc a) (maxL := nL') (ret := rty (k / 16)) (n := (mpl a).2.2.2.2.2) (Ts := gt) (nL := nL) ⟨hx, hb, hml, hown, hts⟩ hM (cwV _ hts (fun w hw => ?_) rfl rfl rfl ⟨rfl, o5⟩ hR) ⟨blindP, hrec, fun U hU hW => ⟨rfl, WO_next C1 hP hS hU hW⟩⟩ rfl (by rw [List.length_map, hB2, c2]) hl.1.1 ?_ (lv_room (by rw [catS_sum]; exact Nat.le_of_ble_eq_true hc.1)) hd ⟨Nat.le_refl _, Nat.le_refl _⟩
      · rcases List.mem_append.mp hw with hw | hw
        · have : w ∈ gt := by
            simp only [List.mem_cons, List.not_mem_nil, or_false] at hw
            rcases hw with rfl | rfl | rfl | rfl
            · exact okw_mem hok
            · exact okw_mem o3.1
            · exact okw_mem o3.2
            · exact o2
          exact ⟨this, gt_good _ this⟩
        · exact good_cdw o1 w hw
      · rw [hB3]
        simp [cv]
  · exact hst.elim
theorem x_cS (C0 : Cx p s m args meth c y nL rt D ad cy sh N) (ih : IH l D ad cy sh N d) {idx a k : Nat} (hd : decode (mbc y) pc = .ok (.invokestatic idx, 3)) (hok : (.methodLink (mnm y).cls idx (mnm a) : Jvm.Cond) ∈ gt ∨ (.methodLinkNest (mnm y).cls idx (mnm a) "StockingLine" : Jvm.Cond) ∈ nestL) (hokc : okC a k 1 0 = true) (hst : cS (Ev mtb sh d) (XX p l e d s m args below meth c nL D ad cy sh N Z) pc L S h a (k % 16) (k / 16)) : XX p l e d s m args below meth c nL D ad cy sh N Z pc L S h := by
  have C1 := C0
  obtain ⟨hx, hb, hml, hr, hlocks, hown, hts, hK, hD, hSF, hNW, hvR, hsh⟩ := C0
  obtain ⟨c1, c2, ⟨C, nL', hm⟩, c4⟩ := okC_spec hokc
  obtain ⟨o1, o2, o3, o4, o5, o6⟩ := okm_spec (mok hm).1
  rw [c1] at o3
  simp only [show Nat.beq 1 1 = true from rfl, cond_true] at o3
  unfold cS at hst
  split at hst
  · rename_i As S' hpop
    obtain ⟨B, hB1, hB2, hB3⟩ := popn_spec _ _ _ _ _ hpop
    rw [List.append_nil] at hB1
    subst hB1
    cases hc : Nat.ble (catS S') 8
    · rw [hc] at hst; exact hst.elim
    · rw [hc] at hst
      intro ls H locs hl hP hS
      refine x_after C1 (a := (As.map (cv ad)).toArray) (L := L) (S' := S') (rt' := k / 16) hl hS ?_
      have hM := ih a As h _ _ H.size hm hst
      have o6' : nL' ≤ 40 := o6
      have hR : (rmd d).frames + 1 ≤ (rmd (d + 1)).frames ∧ 8 + (nL' + 11) + (rmd d).locals ≤ (rmd (d + 1)).locals := ⟨Nat.le_refl _, by show 8 + (nL' + 11) + 64 * d ≤ 64 * (d + 1); omega⟩
      have hstk : (F0 m pc ls (S.map (cv ad))).stack = (As.map (cv ad)).reverse ++ S'.map (cv ad) := by
        show S.map (cv ad) = _
        rw [hB3]
        simp
      have hpre : PreS s H (Pcx D ad cy sh N As h H.size) (As.map (cv ad)) := ⟨blindP, fun U hU hW => ⟨rfl, WO_next C1 hP hS hU hW⟩⟩
      have hroom := lv_room (m := m) (pc := pc) (ls := ls) (rest := S.map (cv ad)) (st := S'.map (cv ad)) (by rw [catS_sum]; exact Nat.le_of_ble_eq_true hc)
      rcases hok with hok | hok
      · refine va_runS (As := As.map (cv ad)) (bytes := mbc a) (maxL := nL') (ret := rty (k / 16)) (n := (mpl a).2.2.2.2.2) (Ts := gt) (nL := nL) ⟨hx, hb, hml, hown, hts⟩ hM (va_cwS _ hts (fun w hw => ?_) rfl rfl rfl o5 hR) hpre rfl (by rw [List.length_map, hB2, c2]) hl.1.1 hstk hroom hd ⟨Nat.le_refl _, Nat.le_refl _⟩
        rcases List.mem_append.mp hw with hw | hw
        · have : w ∈ gt := by
            simp only [List.mem_cons, List.not_mem_nil, or_false] at hw
            rcases hw with rfl | rfl | rfl
            · exact hok
            · exact okw_mem o3
            · exact o2
          exact ⟨this, gt_good _ this⟩
        · exact good_cdw o1 w hw
      · exact va_runSN (As := As.map (cv ad)) (bytes := mbc a) (maxL := nL') (ret := rty (k / 16)) (n := (mpl a).2.2.2.2.2) (Ts := gt) (nL := nL) (host := "StockingLine") ⟨hx, hb, hml, hown, hts⟩ hM ⟨va_cnB _ hts (good_cdw o1) rfl rfl rfl (hNW _ hok) (hts _ o2) o5 hR, hts _ (okw_mem o3), trivial⟩ hpre rfl (by rw [List.length_map, hB2, c2]) hl.1.1 hstk hroom hd ⟨Nat.le_refl _, Nat.le_refl _⟩
  · exact hst.elim
theorem x_m2 (C0 : Cx p s m args meth c y nL rt D ad cy sh N) {idx pl : Nat} (hd : decode (mbc y) pc = .ok (.invokestatic idx, 3)) {f : Int32 → Int32 → Int32} (hok : (f = mx ∧ okw (.methodLink (mnm y).cls idx Lib.Math.max.name) pl = true) ∨ (f = mn ∧ okw (.methodLink (mnm y).cls idx Lib.Math.min.name) pl = true)) (hst : m2 f (XX p l e d s m args below meth c nL D ad cy sh N Z) pc L S h) : XX p l e d s m args below meth c nL D ad cy sh N Z pc L S h := by
  obtain ⟨hx, hb, hml, hr, hlocks, hown, hts, hK, hD, hSF, hNW, hvR, hsh⟩ := C0
  unfold m2 at hst
  split at hst
  · rename_i b a S'
    cases hc : Nat.ble (catS S') 8
    · rw [hc] at hst; exact hst.elim
    · rw [hc] at hst
      intro ls H locs hl hP hS
      have hg := hst ls H locs hl hP hS
      have hsm : ((S'.map (cv ad)).map fun v => v.category).sum + 13 ≤ (rmd (d + 1)).locals := by
        rw [catS_sum]
        have := Nat.le_of_ble_eq_true hc
        show _ ≤ 64 * (d + 1)
        omega
      rcases hok with ⟨rfl, hok⟩ | ⟨rfl, hok⟩
      · exact va_mmax hx hb (hml.trans hl.1.1.symm) hown (hts _ (okw_mem hok)) (hts _ gw_st_max) (hts _ gw_in_math) (hts _ gw_cd_max) (Nat.succ_le_succ (Nat.zero_le _)) hsm (Nat.le_refl _) (Nat.le_refl _) hd hg
      · exact va_mmin hx hb (hml.trans hl.1.1.symm) hown (hts _ (okw_mem hok)) (hts _ gw_st_min) (hts _ gw_in_math) (hts _ gw_cd_min) (Nat.succ_le_succ (Nat.zero_le _)) hsm (Nat.le_refl _) (Nat.le_refl _) hd hg
  · exact hst.elim
theorem x_m1 (C0 : Cx p s m args meth c y nL rt D ad cy sh N) {idx pl : Nat} (hd : decode (mbc y) pc = .ok (.invokestatic idx, 3)) (hok : okw (.methodLink (mnm y).cls idx Lib.Math.abs.name) pl = true) (hst : m1 ab (XX p l e d s m args below meth c nL D ad cy sh N Z) pc L S h) : XX p l e d s m args below meth c nL D ad cy sh N Z pc L S h := by
  obtain ⟨hx, hb, hml, hr, hlocks, hown, hts, hK, hD, hSF, hNW, hvR, hsh⟩ := C0
  unfold m1 at hst
  split at hst
  · rename_i a S'
    cases hc : Nat.ble (catS S') 8
    · rw [hc] at hst; exact hst.elim
    · rw [hc] at hst
      intro ls H locs hl hP hS
      have hg := hst ls H locs hl hP hS
      have hsm : ((S'.map (cv ad)).map fun v => v.category).sum + 13 ≤ (rmd (d + 1)).locals := by
        rw [catS_sum]
        have := Nat.le_of_ble_eq_true hc
        show _ ≤ 64 * (d + 1)
        omega
      exact va_mabs hx hb (hml.trans hl.1.1.symm) hown (hts _ (okw_mem hok)) (hts _ gw_st_abs) (hts _ gw_in_math) (hts _ gw_cd_abs) (Nat.succ_le_succ (Nat.zero_le _)) hsm (Nat.le_refl _) (Nat.le_refl _) hd hg
  · exact hst.elim
theorem x_acp (C0 : Cx p s m args meth c y nL rt D ad cy sh N) {idx pl : Nat} (hd : decode (mbc y) pc = .ok (.invokestatic idx, 3)) (hok : okw (.methodLink (mnm y).cls idx arraycopyName) pl = true) (hst : acp (XX p l e d s m args below meth c nL D ad cy sh N Z) pc L S h sh) : XX p l e d s m args below meth c nL D ad cy sh N Z pc L S h := by
  obtain ⟨hx, hb, hml, hr, hlocks, hown, hts, hK, hD, hSF, hNW, hvR, hsh⟩ := C0
  unfold acp at hst
  split at hst
  · rename_i n dp i sp j S'
    cases hc : Nat.ble (catS S') 8
    · rw [hc] at hst; exact hst.elim
    · rw [hc] at hst
      simp only [cond_true] at hst
      split at hst
      · rename_i n0 n1 e0 e1
        obtain ⟨h1, h2, h3, h4, h5, h6, h7⟩ := hst
        intro ls H locs hl hP hS
        have q0 := arn_spec e0
        have q1 := arn_spec e1
        have hk := hsh.2.2.1 i _ q1
        have hsm : ((S'.map (cv ad)).map fun v => v.category).sum + (nativeFrameWords "java/lang/System" "arraycopy" 5 + 11) ≤ (rmd (d + 1)).locals := by
          rw [catS_sum]
          have := Nat.le_of_ble_eq_true hc
          have e : nativeFrameWords "java/lang/System" "arraycopy" 5 = 7 := by decide +kernel
          rw [e]
          show _ ≤ 64 * (d + 1)
          omega
        have hpr : refKind (aty (akd sh i)) = false := by
          have hk' : akd sh i < 3 := hk
          rcases (show akd sh i = 0 ∨ akd sh i = 1 ∨ akd sh i = 2 by omega) with z | z | z <;> rw [z] <;> rfl
        exact va_copyi hx hb (hml.trans hl.1.1.symm) hown (hts _ (okw_mem hok)) (hts _ gw_nat_ac) (hts _ gw_st_ac) (hts _ gw_in_sys) hK hP (hD h) hS j i _ _ (ws_arr h (hsh.2.1 j _ q0) q0) (ws_arr h (hsh.2.1 i _ q1) q1) (tyL_at hk) (tyL_at hk) hpr h1 h2 h3 h4 h5 h6 (Nat.succ_le_succ (Nat.zero_le _)) hsm hd (fun H1 locs1 hP1 _ hS1 => h7 ls H1 locs1 hl (by rw [← ws_setA (hsh.2.1 i _ q1) q1]; exact hP1) hS1)
      · exact hst.elim
  · exact hst.elim
end SIM2
