/-! the small machine's runs are the real one's -/
set_option maxHeartbeats 4000000 in
theorem sim_st1 {p : Program} {l : Launch} {e : Env} {d : Nat} {s : State} {m : MethodId} {args : Array Value} {below : List Frame} {meth : Method} {c : Code} {y nL rt : Nat} {D : va_G} {ad cy : Nat → Nat} {sh : Nat → Option Shp} {N : Nat} {pc : Nat} {L S : List Value} {h : Hp} {Q : Pst} {o : Ops} (C0 : Cx p s m args meth c y nL rt D ad cy sh N) (ih : IH l D ad cy sh N d) (hok : okop (mnm y).cls (mbc y) pc o = true)
    (hst : st1 (Ev mtb sh d) sh rt o (XX p l e d s m args below meth c nL D ad cy sh N (MQ below (qc rt Q (qB D ad cy sh N) (aA ad N s.heap.size)) args s 0 0 (aA ad N s.heap.size))) Q pc L S h) : XX p l e d s m args below meth c nL D ad cy sh N (MQ below (qc rt Q (qB D ad cy sh N) (aA ad N s.heap.size)) args s 0 0 (aA ad N s.heap.size)) pc L S h := by
  have C1 := C0
  obtain ⟨hx, hb, hml, hr, hlocks, hown, hts, hK, hD, hSF, hNW, hvR, hsh⟩ := C0
  unfold okop at hok
  simp only [Bool.and_eq_true, decide_eq_true_eq] at hok
  obtain ⟨hd, ha⟩ := hok
  obtain ⟨i, a, b, k, d'⟩ := o
  dsimp only at hd
  cases i
  case iconst n =>
    intro ls H locs hl hP hS
    exact lv_iconst hx hb hd (of_decide_eq_true ha) (hst ls H locs hl hP hS)
  case bipush n =>
    intro ls H locs hl hP hS
    exact lv_bipush hx hb hd (of_decide_eq_true ha) (hst ls H locs hl hP hS)
  case sipush n =>
    intro ls H locs hl hP hS
    exact lv_sipush hx hb hd (of_decide_eq_true ha) (hst ls H locs hl hP hS)
  case ldc idx =>
    intro ls H locs hl hP hS
    unfold st1 at hst
    unfold okA at ha
    dsimp only at hst ha
    rcases a with _ | a
    · exact lv_ldc hx hb hown (hts _ (okw_mem ha)) hd (hst ls H locs hl hP hS)
    · have hz := of_decide_eq_true ha
      refine va_ldcS (own := (mnm y).cls) (tx := "klybr") (index := idx) hx hb hown ?_ hd (hst ls H locs hl hP hS)
      rw [hz.1, hz.2]
      exact hvR
  case ldc_w idx =>
    intro ls H locs hl hP hS
    exact lv_ldcw hx hb hown (hts _ (okw_mem ha)) hd (hst ls H locs hl hP hS)
  case ldc2_w idx =>
    intro ls H locs hl hP hS
    exact lv_ldc2 hx hb hown (hts _ (okw_mem ha)) hd (hst ls H locs hl hP hS)
  case iload_n => exact x_iLd (fun x ls H locs rest hv kk => lv_iload_n hx hb hd rfl hv kk) hst
  case iload => exact x_iLd (fun x ls H locs rest hv kk => lv_iload hx hb hd hv kk) hst
  case aload_n => exact x_aLd (fun x ls H locs rest hv kk => lv_aload_n hx hb hd rfl hv kk) hst
  case aload => exact x_aLd (fun x ls H locs rest hv kk => lv_aload hx hb hd hv kk) hst
  case lload_n => exact x_lLd (fun x ls H locs rest hv kk => lv_lload_n hx hb hd rfl hv kk) hst
  case lload => exact x_lLd (fun x ls H locs rest hv kk => lv_lload hx hb hd hv kk) hst
  case istore_n => exact x_iSt (fun x ls H locs rest lv hl hi kk => lv_istore_n hx hb hd rfl hl hi rfl kk) hst
  case istore => exact x_iSt (fun x ls H locs rest lv hl hi kk => lv_istore hx hb hd hl hi rfl kk) hst
  case astore_n => exact x_aSt (fun x ls H locs rest lv hl hi kk => lv_astore_n hx hb hd rfl hl hi rfl kk) hst
  case astore => exact x_aSt (fun x ls H locs rest lv hl hi kk => lv_astore hx hb hd hl hi rfl kk) hst
  case lstore_n => exact x_lSt (fun x ls H locs rest lv hl hi kk => lv_lstore_n hx hb hd rfl hl hi rfl kk) hst
  case lstore => exact x_lSt (fun x ls H locs rest lv hl hi kk => lv_lstore hx hb hd hl hi rfl kk) hst
  case iinc k' n => exact x_iinc hx hb hd (of_decide_eq_true ha) hst
  case iadd => exact x_bI (fun x z ls H locs rest kk => lv_iadd hx hb hd kk) hst
  case isub => exact x_bI (fun x z ls H locs rest kk => lv_isub hx hb hd kk) hst
  case imul => exact x_bI (fun x z ls H locs rest kk => lv_imul hx hb hd kk) hst
  case iand => exact x_bI (fun x z ls H locs rest kk => lv_iand hx hb hd kk) hst
  case ior => exact x_bI (fun x z ls H locs rest kk => lv_ior hx hb hd kk) hst
  case ixor => exact x_bI (fun x z ls H locs rest kk => lv_ixor hx hb hd kk) hst
  case ishl => exact x_bI (fun x z ls H locs rest kk => lv_ishl hx hb hd kk) hst
  case ishr => exact x_bI (fun x z ls H locs rest kk => lv_ishr hx hb hd kk) hst
  case iushr => exact x_bI (fun x z ls H locs rest kk => lv_iushr hx hb hd rfl kk) hst
  case idiv => exact x_bD (fun x z ls H locs rest hz kk => lv_idiv hx hb hd hz kk) hst
  case irem => exact x_bD (fun x z ls H locs rest hz kk => lv_irem hx hb hd hz kk) hst
  case ladd => exact x_bL (fun x z ls H locs rest kk => lv_ladd hx hb hd kk) hst
  case lmul => exact x_bL (fun x z ls H locs rest kk => lv_lmul hx hb hd kk) hst
  case land => exact x_bL (fun x z ls H locs rest kk => lv_land hx hb hd kk) hst
  case ldiv => exact x_bLD (fun x z ls H locs rest hz kk => lv_ldiv hx hb hd hz kk) hst
  case lrem => exact x_bLD (fun x z ls H locs rest hz kk => lv_lrem hx hb hd hz kk) hst
  case i2l =>
    have hst : i2lC _ _ _ _ _ := hst
    unfold i2lC at hst
    split at hst
    · intro ls H locs hl hP hS
      exact lv_i2l hx hb hd rfl (hst ls H locs hl hP hS)
    · exact hst.elim
  case l2i =>
    have hst : l2iC _ _ _ _ _ := hst
    unfold l2iC at hst
    split at hst
    · intro ls H locs hl hP hS
      exact lv_l2i hx hb hd rfl (hst ls H locs hl hP hS)
    · exact hst.elim
  case i2b => exact x_uI (fun x ls H locs rest kk => lv_i2b hx hb hd rfl kk) hst
  case i2c => exact x_uI (fun x ls H locs rest kk => lv_i2c hx hb hd rfl kk) hst
  case dup =>
    have hst : dup1 _ _ _ _ _ := hst
    unfold dup1 at hst
    split at hst
    · intro ls H locs hl hP hS
      exact lv_dup hx hb hd rfl (hst ls H locs hl hP hS)
    · intro ls H locs hl hP hS
      exact lv_dup hx hb hd rfl (hst ls H locs hl hP hS)
    · exact hst.elim
  case dup2 =>
    have hst : dup22 _ _ _ _ _ := hst
    unfold dup22 at hst
    split at hst
    · intro ls H locs hl hP hS
      exact lv_dup2_11 hx hb hd rfl rfl (hst ls H locs hl hP hS)
    · exact hst.elim
  case pop =>
    have hst : pop1 _ _ _ _ _ := hst
    unfold pop1 at hst
    split at hst
    · intro ls H locs hl hP hS
      exact lv_pop hx hb hd rfl (hst ls H locs hl hP hS)
    · exact hst.elim
  case goto off =>
    intro ls H locs hl hP hS
    exact lv_goto hx hb hd (of_decide_eq_true ha) (hst ls H locs hl hP hS)
  case ifCond q off => exact x_brZ hx hb hd (of_decide_eq_true ha) hst
  case if_icmp q off => exact x_brI hx hb hd (of_decide_eq_true ha) hst
  case tableswitch df lo hi offs =>
    unfold okA at ha
    simp only [Bool.and_eq_true, decide_eq_true_eq] at ha
    exact x_tsw hx hb hd ha.1 ha.2 hst
  case lookupswitch df ps =>
    unfold okA at ha
    simp only [Bool.and_eq_true, decide_eq_true_eq] at ha
    exact x_lsw hx hb hd ha.1.1 ha.1.2 ha.2 hst
  case iaload => exact x_aL C1 (by decide) (Or.inl ⟨rfl, hd⟩) hst
  case baload =>
    have hst : bLo _ _ _ _ _ _ := hst
    unfold bLo at hst
    split at hst
    · split at hst
      · exact x_aL C1 (by decide) (Or.inr ⟨by decide, hd⟩) hst
      · exact x_aL C1 (by decide) (Or.inr ⟨by decide, hd⟩) hst
      · exact hst.elim
    · exact hst.elim
  case iastore => exact x_aS C1 (by decide) (Or.inl ⟨rfl, rfl, hd⟩) hst
  case bastore =>
    have hst : bSt _ _ _ _ _ _ := hst
    unfold bSt at hst
    split at hst
    · split at hst
      · exact x_aS C1 (by decide) (Or.inr (Or.inl ⟨rfl, rfl, hd⟩)) hst
      · exact x_aS C1 (by decide) (Or.inr (Or.inr ⟨rfl, rfl, hd⟩)) hst
      · exact hst.elim
    · exact hst.elim
  case arraylength => exact x_aLn C1 hd hst
  case getfield idx => exact x_gF C1 hd ha hst
  case putfield idx =>
    have ha : (okF (mnm y).cls idx a b k && okP a b) = true := ha
    simp only [Bool.and_eq_true] at ha
    exact x_pF C1 hd ha.1 ha.2 hst
  case getstatic idx =>
    have hst : gS _ _ _ _ _ _ := hst
    unfold gS at hst
    unfold okA at ha
    dsimp only at ha
    intro ls H locs hl hP hS
    cases h1 : Nat.beq a 200
    · rw [h1] at hst ha
      simp only [cond_false] at hst ha
      obtain ⟨h2, hst⟩ := bif_t hst
      simp only [Bool.and_eq_true] at h2
      have g1 := Nat.le_of_ble_eq_true h2.1
      have g2 := Nat.blt_eq.mp h2.2
      have hZ := (hSF.1 (a - 100) (by omega)).1
      rw [show 100 + (a - 100) = a by omega] at hZ
      cases h3 : Nat.beq k 1
      · rw [h3] at ha
        exact va_gets (ref := "StockingLine") hx hb hZ hS hown (hts _ (okw_mem ha)) (fun _ z => z) hd (hst ls H locs hl hP hS)
      · rw [h3] at ha
        have hw := hNW _ (List.mem_of_getElem? (of_decide_eq_true ha))
        exact va_getsN (ref := "StockingLine") hx hb hZ hS hown (va_Nw.use rfl hw) (fun _ z => z) hd (hst ls H locs hl hP hS)
    · rw [h1] at hst ha
      exact va_gets (ref := "java/lang/String") hx hb hSF.2.1 hS hown (hts _ (okw_mem ha)) (fun _ z => z) hd (hst ls H locs hl hP hS)
  case invokevirtual idx =>
    have ha : (okw (.methodLink (mnm y).cls idx (mnm a)) b && okC a k 0 d') = true := ha
    simp only [Bool.and_eq_true] at ha
    exact x_cV C1 ih hd ha.1 ha.2 hst
  case invokestatic idx =>
    unfold st1 at hst
    unfold okA at ha
    dsimp only at hst ha
    rcases d' with _ | _ | _ | _ | _ | _ | d'
    · simp only [Bool.and_eq_true] at ha
      exact x_cS C1 ih hd (Or.inl (okw_mem ha.1)) ha.2 hst
    · exact x_m2 C1 hd (Or.inl ⟨rfl, ha⟩) hst
    · exact x_m2 C1 hd (Or.inr ⟨rfl, ha⟩) hst
    · exact x_m1 C1 hd ha hst
    · exact x_acp C1 hd ha hst
    · have ha : (decide (nestL[b]? = some (.methodLinkNest (mnm y).cls idx (mnm a) "StockingLine")) && okC a k 1 0) = true := ha
      simp only [Bool.and_eq_true] at ha
      exact x_cS C1 ih hd (Or.inr (List.mem_of_getElem? (of_decide_eq_true ha.1))) ha.2 hst
    · have ha : (okw (.methodLink (mnm y).cls idx (mnm a)) b && okC a k 1 0) = true := ha
      simp only [Bool.and_eq_true] at ha
      exact x_cS C1 ih hd (Or.inl (okw_mem ha.1)) ha.2 hst
  case ireturn =>
    have hst : iRet _ _ _ _ := hst
    unfold iRet at hst
    split at hst
    · rename_i v hst0
      intro ls H locs hl hP hS
      split at hst
      · exact W.iret (v := v) hx hb hr (fun t ht hW => ⟨⟨v, h, rfl, hst, by show va_P _ _ _ t.heap; rw [ht]; exact hP⟩, hS.F ht⟩) hS.2.2 hd
      · exact W.zret (v := v) hx hb hr hst.1 (fun t ht hW => ⟨⟨v, h, rfl, hst.2, by show va_P _ _ _ t.heap; rw [ht]; exact hP⟩, hS.F ht⟩) hS.2.2 hd
      · exact W.zret (v := v) hx hb hr hst.1 (fun t ht hW => ⟨⟨v, h, rfl, hst.2, by show va_P _ _ _ t.heap; rw [ht]; exact hP⟩, hS.F ht⟩) hS.2.2 hd
      · exact hst.elim
    · exact hst.elim
  case lreturn =>
    have hst : lRet _ _ _ _ := hst
    unfold lRet at hst
    split at hst
    · rename_i v hst0
      intro ls H locs hl hP hS
      split at hst
      · exact W.lret (v := v) hx hb hr (fun t ht hW => ⟨⟨v, h, rfl, hst, by show va_P _ _ _ t.heap; rw [ht]; exact hP⟩, hS.F ht⟩) hS.2.2 hd
      · exact hst.elim
    · exact hst.elim
  case return_ =>
    have hst : vRet _ _ _ _ := hst
    unfold vRet at hst
    split at hst
    · intro ls H locs hl hP hS
      split at hst
      · exact W.vret hx hb hr (fun t ht hW => ⟨⟨h, rfl, hst, by show va_P _ _ _ t.heap; rw [ht]; exact hP⟩, hS.F ht⟩) hS.2.2 hd
      · exact hst.elim
    · exact hst.elim
  all_goals exact False.elim hst
set_option maxHeartbeats 4000000 in
theorem sim (l : Launch) (D : va_G) (ad cy : Nat → Nat) (sh : Nat → Option Shp) (N : Nat) (hsh : okSh sh N) : ∀ d, IH l D ad cy sh N d
  | 0 => fun _ _ _ _ _ _ _ hE => False.elim hE
  | d + 1 => fun y As h Q q sz hm hE => by
    have ih := sim l D ad cy sh N hsh d
    obtain ⟨C, nL, rt⟩ := q
    obtain ⟨k1, k2⟩ := mok hm
    obtain ⟨o1, o2, o3, o4, o5, o6⟩ := okm_spec k1
    unfold Ev at hE
    rw [hm] at hE
    dsimp only at hE
    obtain ⟨hc, hE⟩ := bif_t hE
    simp only [Bool.and_eq_true] at hc
    refine Met.ofW (cc := mbc y) (maxL := nL) (ret := rty rt) o4 rfl ?_
    intro p e s m args below meth c s₁ B hml hv
    obtain ⟨rfl, hsz, hP, hK, hD0, hSF, hNW, hvR⟩ := hv
    subst hsz
    have hts := atoms_spec (ws := cdw y nL rt) B.pre
    have C0 : Cx p s m (As.map (cv ad)).toArray meth c y nL rt D ad cy sh N := ⟨B.exec, B.bytes, hml, B.returns, B.notSynchronized, findClass_of_methodNamed B.named, fun w hw => hts w (List.mem_cons_of_mem _ hw), hK, fun h' => wsH_D hD0 h', hSF, hNW, hvR, hsh⟩
    have hl := lv_entry (As.map (cv ad)) (n := nL) (by rw [okvs_cat hc.2]; exact Nat.le_of_ble_eq_true hc.1)
    rw [lg_entry_eq]
    generalize (lg_sl (As.map (cv ad)) ++ List.replicate (nL - (lg_sl (As.map (cv ad))).length) Slot.unset).toArray = ls at hl ⊢
    have hX := hE (XX p l e d s m (As.map (cv ad)).toArray below meth c nL D ad cy sh N (MQ below (qc rt Q (qB D ad cy sh N) (aA ad N s.heap.size)) (As.map (cv ad)).toArray s 0 0 (aA ad N s.heap.size))) (fun pc L S h' hst => by
      unfold stp at hst
      split at hst
      · rename_i o ho
        exact sim_st1 C0 ih (k2 pc o ho) hst
      · exact hst.elim)
    exact hX ls s.heap [] (lr_entry hc.2 (Nat.le_of_ble_eq_true hc.1) hl) hP va_S.rf
