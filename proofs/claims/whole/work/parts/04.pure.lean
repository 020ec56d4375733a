/-! the small machine's laws: bigger continuations, one step, runs to given places, calls by depth -/
section MONO
variable {E : Evt} {sh : Nat → Option Shp} {K K' : Kon} {pc n rt a b y ci : Nat} {L S : List Value} {h : Hp} {Q Q' : Pst}
theorem qI_mono {k k' : Int32 → Hp → Prop} (H : ∀ v h, k v h → k' v h) : ∀ r h, qI k r h → qI k' r h := by
  intro r h hq
  unfold qI at hq ⊢
  split at hq
  · exact H _ _ hq
  · exact hq.elim
theorem qL_mono {k k' : Int64 → Hp → Prop} (H : ∀ v h, k v h → k' v h) : ∀ r h, qL k r h → qL k' r h := by
  intro r h hq
  unfold qL at hq ⊢
  split at hq
  · exact H _ _ hq
  · exact hq.elim
theorem qV_mono {k k' : Hp → Prop} (H : ∀ h, k h → k' h) : ∀ r h, qV k r h → qV k' r h := by
  intro r h hq
  unfold qV at hq ⊢
  split at hq
  · exact H _ hq
  · exact hq.elim
theorem rK_mono (hK : ∀ pc L S h, K pc L S h → K' pc L S h) : ∀ r h, rK rt K pc L S r h → rK rt K' pc L S r h := by
  intro r h hq
  rcases rt with _ | _ | _ | _ | n
  · exact qV_mono (fun h => hK _ _ _ h) r h hq
  · exact qI_mono (fun v h => hK _ _ _ h) r h hq
  · exact qI_mono (fun v h => hK _ _ _ h) r h hq
  · exact qL_mono (fun v h => hK _ _ _ h) r h hq
  · exact qI_mono (fun v h => hK _ _ _ h) r h hq
theorem iLd_mono (hK : ∀ pc L S h, K pc L S h → K' pc L S h) (H : iLd K pc n L S h a) : iLd K' pc n L S h a := by
  unfold iLd at H ⊢
  split at H
  · exact hK _ _ _ _ H
  · exact H.elim
theorem aLd_mono (hK : ∀ pc L S h, K pc L S h → K' pc L S h) (H : aLd K pc n L S h a) : aLd K' pc n L S h a := by
  unfold aLd at H ⊢
  split at H
  · exact hK _ _ _ _ H
  · exact H.elim
theorem bif_mono {c : Bool} {A B : Prop} (hAB : A → B) (H : bif c then A else False) : bif c then B else False := by
  cases c
  · exact H
  · exact hAB H
theorem lLd_mono (hK : ∀ pc L S h, K pc L S h → K' pc L S h) (H : lLd K pc n L S h a) : lLd K' pc n L S h a := by
  unfold lLd at H ⊢
  split at H
  · exact bif_mono (hK _ _ _ _) H
  · exact H.elim
theorem iSt_mono (hK : ∀ pc L S h, K pc L S h → K' pc L S h) (H : iSt K pc n L S h a) : iSt K' pc n L S h a := by
  unfold iSt at H ⊢
  split at H
  · exact hK _ _ _ _ H
  · exact H.elim
theorem aSt_mono (hK : ∀ pc L S h, K pc L S h → K' pc L S h) (H : aSt K pc n L S h a) : aSt K' pc n L S h a := by
  unfold aSt at H ⊢
  split at H
  · exact hK _ _ _ _ H
  · exact H.elim
theorem lSt_mono (hK : ∀ pc L S h, K pc L S h → K' pc L S h) (H : lSt K pc n L S h a) : lSt K' pc n L S h a := by
  unfold lSt at H ⊢
  split at H
  · exact hK _ _ _ _ H
  · exact H.elim
theorem bI_mono {f : Int32 → Int32 → Int32} (hK : ∀ pc L S h, K pc L S h → K' pc L S h) (H : bI f K pc L S h) : bI f K' pc L S h := by
  unfold bI at H ⊢
  split at H
  · exact hK _ _ _ _ H
  · exact H.elim
theorem bD_mono {f : Int32 → Int32 → Int32} (hK : ∀ pc L S h, K pc L S h → K' pc L S h) (H : bD f K pc L S h) : bD f K' pc L S h := by
  unfold bD at H ⊢
  split at H
  · exact ⟨H.1, hK _ _ _ _ H.2⟩
  · exact H.elim
theorem bL_mono {f : Int64 → Int64 → Int64} (hK : ∀ pc L S h, K pc L S h → K' pc L S h) (H : bL f K pc L S h) : bL f K' pc L S h := by
  unfold bL at H ⊢
  split at H
  · exact hK _ _ _ _ H
  · exact H.elim
theorem bLD_mono {f : Int64 → Int64 → Int64} (hK : ∀ pc L S h, K pc L S h → K' pc L S h) (H : bLD f K pc L S h) : bLD f K' pc L S h := by
  unfold bLD at H ⊢
  split at H
  · exact ⟨H.1, hK _ _ _ _ H.2⟩
  · exact H.elim
theorem uI_mono {f : Int32 → Int32} (hK : ∀ pc L S h, K pc L S h → K' pc L S h) (H : uI f K pc L S h) : uI f K' pc L S h := by
  unfold uI at H ⊢
  split at H
  · exact hK _ _ _ _ H
  · exact H.elim
theorem brZ_mono {c : ClassFile.Cond} (hK : ∀ pc L S h, K pc L S h → K' pc L S h) (H : brZ c K pc a L S h) : brZ c K' pc a L S h := by
  unfold brZ at H ⊢
  split at H
  · cases c <;> exact ⟨fun q => hK _ _ _ _ (H.1 q), fun q => hK _ _ _ _ (H.2 q)⟩
  · exact H.elim
theorem brI_mono {c : ClassFile.Cond} (hK : ∀ pc L S h, K pc L S h → K' pc L S h) (H : brI c K pc a L S h) : brI c K' pc a L S h := by
  unfold brI at H ⊢
  split at H
  · cases c <;> exact ⟨fun q => hK _ _ _ _ (H.1 q), fun q => hK _ _ _ _ (H.2 q)⟩
  · exact H.elim
theorem swt_mono {x : Int32} {G G' : Int → Prop} {d : Int} (hG : ∀ o, G o → G' o) : ∀ l : List (Int × Int), swt x G d l → swt x G' d l
  | [], H => hG _ H
  | (_, _) :: l, H => ⟨fun q => hG _ (H.1 q), fun q => swt_mono hG l (H.2 q)⟩
theorem swi_mono {d : Int} {l : List (Int × Int)} (hK : ∀ pc L S h, K pc L S h → K' pc L S h) (H : swi K pc L S h d l) : swi K' pc L S h d l := by
  unfold swi at H ⊢
  split at H
  · exact swt_mono (fun o => hK _ _ _ _) l H
  · exact H.elim
theorem aL_mono (hK : ∀ pc L S h, K pc L S h → K' pc L S h) (H : aL K pc L S h sh a) : aL K' pc L S h sh a := by
  unfold aL at H ⊢
  split at H
  · split at H
    · exact ⟨H.1, hK _ _ _ _ H.2⟩
    · exact H.elim
  · exact H.elim
theorem bLo_mono (hK : ∀ pc L S h, K pc L S h → K' pc L S h) (H : bLo K pc L S h sh) : bLo K' pc L S h sh := by
  unfold bLo at H ⊢
  split at H
  · split at H
    · exact aL_mono hK H
    · exact aL_mono hK H
    · exact H.elim
  · exact H.elim
theorem aS_mono {f : Int32 → Int32} (hK : ∀ pc L S h, K pc L S h → K' pc L S h) (H : aS f K pc L S h sh a) : aS f K' pc L S h sh a := by
  unfold aS at H ⊢
  split at H
  · split at H
    · exact ⟨H.1, hK _ _ _ _ H.2⟩
    · exact H.elim
  · exact H.elim
theorem bSt_mono (hK : ∀ pc L S h, K pc L S h → K' pc L S h) (H : bSt K pc L S h sh) : bSt K' pc L S h sh := by
  unfold bSt at H ⊢
  split at H
  · split at H
    · exact aS_mono hK H
    · exact aS_mono hK H
    · exact H.elim
  · exact H.elim
theorem aLn_mono (hK : ∀ pc L S h, K pc L S h → K' pc L S h) (H : aLn K pc L S h sh) : aLn K' pc L S h sh := by
  unfold aLn at H ⊢
  split at H
  · split at H
    · exact hK _ _ _ _ H
    · exact H.elim
  · exact H.elim
theorem gF_mono (hK : ∀ pc L S h, K pc L S h → K' pc L S h) (H : gF K pc L S h sh a b) : gF K' pc L S h sh a b := by
  unfold gF at H ⊢
  split at H
  · rename_i i S1
    cases hc : Nat.beq a 100
    · simp only [hc, cond_false] at H ⊢
      refine bif_mono (fun H => ?_) H
      split at H
      · refine bif_mono (fun H => ?_) H
        split at H <;> first | exact hK _ _ _ _ H | exact H.elim
      · exact H.elim
    · simp only [hc, cond_true] at H ⊢
      refine bif_mono (fun H => ?_) H
      split at H <;> exact hK _ _ _ _ H
  · exact H.elim
theorem pF_mono (hK : ∀ pc L S h, K pc L S h → K' pc L S h) (H : pF K pc L S h sh a b) : pF K' pc L S h sh a b := by
  unfold pF at H ⊢
  split at H
  · refine bif_mono (fun H => ?_) H
    split at H
    · refine bif_mono (fun H => ?_) H
      split at H
      · exact hK _ _ _ _ H
      · exact ⟨H.1, hK _ _ _ _ H.2⟩
      · exact H.elim
    · exact H.elim
  · refine bif_mono (fun H => ?_) H
    split at H
    · refine bif_mono (fun H => ?_) H
      split at H
      · exact hK _ _ _ _ H
      · exact H.elim
    · exact H.elim
  · exact H.elim
theorem gS_mono (hK : ∀ pc L S h, K pc L S h → K' pc L S h) (H : gS K pc L S h a) : gS K' pc L S h a := by
  unfold gS at H ⊢
  cases hc : Nat.beq a 200
  · simp only [hc, cond_false] at H ⊢
    exact bif_mono (hK _ _ _ _) H
  · simp only [hc, cond_true] at H ⊢
    exact hK _ _ _ _ H
theorem cV_mono (hE : ∀ y As h Q Q', (∀ r h, Q r h → Q' r h) → E y As h Q → E y As h Q') (hK : ∀ pc L S h, K pc L S h → K' pc L S h) (H : cV E K pc L S h sh y n rt ci) : cV E K' pc L S h sh y n rt ci := by
  unfold cV at H ⊢
  split at H
  · exact bif_mono (hE _ _ _ _ _ (rK_mono hK)) H
  · exact H.elim
theorem cS_mono (hE : ∀ y As h Q Q', (∀ r h, Q r h → Q' r h) → E y As h Q → E y As h Q') (hK : ∀ pc L S h, K pc L S h → K' pc L S h) (H : cS E K pc L S h y n rt) : cS E K' pc L S h y n rt := by
  unfold cS at H ⊢
  split at H
  · exact bif_mono (hE _ _ _ _ _ (rK_mono hK)) H
  · exact H.elim
theorem acp_mono (hK : ∀ pc L S h, K pc L S h → K' pc L S h) (H : acp K pc L S h sh) : acp K' pc L S h sh := by
  unfold acp at H ⊢
  split at H
  · refine bif_mono (fun H => ?_) H
    split at H
    · obtain ⟨h1, h2, h3, h4, h5, h6, h7⟩ := H
      exact ⟨h1, h2, h3, h4, h5, h6, hK _ _ _ _ h7⟩
    · exact H.elim
  · exact H.elim
theorem m2_mono {f : Int32 → Int32 → Int32} (hK : ∀ pc L S h, K pc L S h → K' pc L S h) (H : m2 f K pc L S h) : m2 f K' pc L S h := by
  unfold m2 at H ⊢
  split at H
  · exact bif_mono (hK _ _ _ _) H
  · exact H.elim
theorem m1_mono {f : Int32 → Int32} (hK : ∀ pc L S h, K pc L S h → K' pc L S h) (H : m1 f K pc L S h) : m1 f K' pc L S h := by
  unfold m1 at H ⊢
  split at H
  · exact bif_mono (hK _ _ _ _) H
  · exact H.elim
theorem iRet_mono (hQ : ∀ r h, Q r h → Q' r h) (H : iRet rt Q S h) : iRet rt Q' S h := by
  unfold iRet at H ⊢
  split at H
  · split at H
    · exact hQ _ _ H
    · exact ⟨H.1, hQ _ _ H.2⟩
    · exact ⟨H.1, hQ _ _ H.2⟩
    · exact H.elim
  · exact H.elim
theorem lRet_mono (hQ : ∀ r h, Q r h → Q' r h) (H : lRet rt Q S h) : lRet rt Q' S h := by
  unfold lRet at H ⊢
  split at H
  · split at H
    · exact hQ _ _ H
    · exact H.elim
  · exact H.elim
theorem vRet_mono (hQ : ∀ r h, Q r h → Q' r h) (H : vRet rt Q S h) : vRet rt Q' S h := by
  unfold vRet at H ⊢
  split at H
  · split at H
    · exact hQ _ _ H
    · exact H.elim
  · exact H.elim
theorem dup1_mono (hK : ∀ pc L S h, K pc L S h → K' pc L S h) (H : dup1 K pc L S h) : dup1 K' pc L S h := by
  unfold dup1 at H ⊢
  split at H
  · exact hK _ _ _ _ H
  · exact hK _ _ _ _ H
  · exact H.elim
theorem dup22_mono (hK : ∀ pc L S h, K pc L S h → K' pc L S h) (H : dup22 K pc L S h) : dup22 K' pc L S h := by
  unfold dup22 at H ⊢
  split at H
  · exact hK _ _ _ _ H
  · exact H.elim
theorem pop1_mono (hK : ∀ pc L S h, K pc L S h → K' pc L S h) (H : pop1 K pc L S h) : pop1 K' pc L S h := by
  unfold pop1 at H ⊢
  split at H
  · exact hK _ _ _ _ H
  · exact H.elim
theorem iinC_mono {k : Int} (hK : ∀ pc L S h, K pc L S h → K' pc L S h) (H : iinC K pc L S h a k) : iinC K' pc L S h a k := by
  unfold iinC at H ⊢
  split at H
  · exact hK _ _ _ _ H
  · exact H.elim
theorem i2lC_mono (hK : ∀ pc L S h, K pc L S h → K' pc L S h) (H : i2lC K pc L S h) : i2lC K' pc L S h := by
  unfold i2lC at H ⊢
  split at H
  · exact hK _ _ _ _ H
  · exact H.elim
theorem l2iC_mono (hK : ∀ pc L S h, K pc L S h → K' pc L S h) (H : l2iC K pc L S h) : l2iC K' pc L S h := by
  unfold l2iC at H ⊢
  split at H
  · exact hK _ _ _ _ H
  · exact H.elim
set_option maxHeartbeats 4000000 in
theorem st1_mono {o : Ops} (hE : ∀ y As h Q Q', (∀ r h, Q r h → Q' r h) → E y As h Q → E y As h Q') (hK : ∀ pc L S h, K pc L S h → K' pc L S h) (hQ : ∀ r h, Q r h → Q' r h) (H : st1 E sh rt o K Q pc L S h) : st1 E sh rt o K' Q' pc L S h := by
  obtain ⟨i, a, b, c, d⟩ := o
  cases i
  case ldc => 
    unfold st1 at H ⊢
    dsimp only at H ⊢
    split at H <;> exact hK _ _ _ _ H
  case invokestatic =>
    unfold st1 at H ⊢
    dsimp only at H ⊢
    split at H
    · exact m2_mono hK H
    · exact m2_mono hK H
    · exact m1_mono hK H
    · exact acp_mono hK H
    · exact cS_mono hE hK H
  case invokevirtual => exact cV_mono hE hK H
  case ireturn => exact iRet_mono hQ H
  case lreturn => exact lRet_mono hQ H
  case return_ => exact vRet_mono hQ H
  case iload_n => exact iLd_mono hK H
  case iload => exact iLd_mono hK H
  case aload_n => exact aLd_mono hK H
  case aload => exact aLd_mono hK H
  case lload_n => exact lLd_mono hK H
  case lload => exact lLd_mono hK H
  case istore_n => exact iSt_mono hK H
  case istore => exact iSt_mono hK H
  case astore_n => exact aSt_mono hK H
  case astore => exact aSt_mono hK H
  case lstore_n => exact lSt_mono hK H
  case lstore => exact lSt_mono hK H
  case iinc => exact iinC_mono hK H
  case iadd => exact bI_mono hK H
  case isub => exact bI_mono hK H
  case imul => exact bI_mono hK H
  case iand => exact bI_mono hK H
  case ior => exact bI_mono hK H
  case ixor => exact bI_mono hK H
  case ishl => exact bI_mono hK H
  case ishr => exact bI_mono hK H
  case iushr => exact bI_mono hK H
  case idiv => exact bD_mono hK H
  case irem => exact bD_mono hK H
  case ladd => exact bL_mono hK H
  case lmul => exact bL_mono hK H
  case land => exact bL_mono hK H
  case ldiv => exact bLD_mono hK H
  case lrem => exact bLD_mono hK H
  case i2l => exact i2lC_mono hK H
  case l2i => exact l2iC_mono hK H
  case i2b => exact uI_mono hK H
  case i2c => exact uI_mono hK H
  case dup => exact dup1_mono hK H
  case dup2 => exact dup22_mono hK H
  case pop => exact pop1_mono hK H
  case ifCond => exact brZ_mono hK H
  case if_icmp => exact brI_mono hK H
  case tableswitch => exact swi_mono hK H
  case lookupswitch => exact swi_mono hK H
  case iaload => exact aL_mono hK H
  case baload => exact bLo_mono hK H
  case iastore => exact aS_mono hK H
  case bastore => exact bSt_mono hK H
  case arraylength => exact aLn_mono hK H
  case getfield => exact gF_mono hK H
  case putfield => exact pF_mono hK H
  case getstatic => exact gS_mono hK H
  all_goals first | exact hK _ _ _ _ H | exact False.elim H
theorem stp_mono {C : Nat → Option Ops} (hE : ∀ y As h Q Q', (∀ r h, Q r h → Q' r h) → E y As h Q → E y As h Q') (hK : ∀ pc L S h, K pc L S h → K' pc L S h) (hQ : ∀ r h, Q r h → Q' r h) (H : stp E sh C rt K Q pc L S h) : stp E sh C rt K' Q' pc L S h := by
  unfold stp at H ⊢
  split at H
  · exact st1_mono hE hK hQ H
  · exact H.elim
theorem PP.step {C : Nat → Option Ops} (hE : ∀ y As h Q Q', (∀ r h, Q r h → Q' r h) → E y As h Q → E y As h Q') (H : stp E sh C rt (PP E sh C rt Q) Q pc L S h) : PP E sh C rt Q pc L S h := by
  intro X hX
  exact hX _ _ _ _ (stp_mono hE (fun pc L S h HP => HP X hX) (fun _ _ q => q) H)
theorem PP.mono {C : Nat → Option Ops} (hE : ∀ y As h Q Q', (∀ r h, Q r h → Q' r h) → E y As h Q → E y As h Q') (hQ : ∀ r h, Q r h → Q' r h) (H : PP E sh C rt Q pc L S h) : PP E sh C rt Q' pc L S h :=
  H (PP E sh C rt Q') (fun _ _ _ _ HX => PP.step hE (stp_mono hE (fun _ _ _ _ q => q) hQ HX))
end MONO
def elemN (x : Nat) : List Nat → Bool
  | [] => false
  | a :: l => bif Nat.beq a x then true else elemN x l
/-- up to n instructions on, but not past the places in 'st' -/
def wps (E : Evt) (sh : Nat → Option Shp) (C : Nat → Option Ops) (rt : Nat) (Q : Pst) (st : List Nat) : Nat → Kon
  | 0, pc, L, S, h => PP E sh C rt Q pc L S h
  | n + 1, pc, L, S, h => bif elemN pc st then PP E sh C rt Q pc L S h else stp E sh C rt (wps E sh C rt Q st n) Q pc L S h
theorem wps_sound {E : Evt} {sh : Nat → Option Shp} {C : Nat → Option Ops} {rt : Nat} {Q : Pst} {st : List Nat} (hE : ∀ y As h Q Q', (∀ r h, Q r h → Q' r h) → E y As h Q → E y As h Q') : ∀ (n pc : Nat) (L S : List Value) (h : Hp), wps E sh C rt Q st n pc L S h → PP E sh C rt Q pc L S h
  | 0, _, _, _, _, H => H
  | n + 1, pc, L, S, h, H => by
    unfold wps at H
    cases hc : elemN pc st
    · rw [hc] at H
      exact PP.step hE (stp_mono hE (wps_sound hE n) (fun _ _ q => q) H)
    · rw [hc] at H
      exact H
theorem wpb_sound {E : Evt} {sh : Nat → Option Shp} {C : Nat → Option Ops} {rt : Nat} {Q : Pst} (st : List Nat) (n : Nat) {pc : Nat} {L S : List Value} {h : Hp} (hE : ∀ y As h Q Q', (∀ r h, Q r h → Q' r h) → E y As h Q → E y As h Q') (H : stp E sh C rt (wps E sh C rt Q st n) Q pc L S h) : PP E sh C rt Q pc L S h :=
  PP.step hE (stp_mono hE (wps_sound hE n) (fun _ _ q => q) H)
/-- a method's first locals: its arguments, a long takes two -/
def entA : List Value → List Value
  | [] => []
  | .long x :: l => .long x :: sec :: entA l
  | v :: l => v :: entA l
def ent (As : List Value) (n : Nat) : List Value := entA As ++ List.replicate (n - (entA As).length) unv
def okvs : List Value → Bool
  | [] => true
  | .int _ :: l => okvs l
  | .ref _ :: l => okvs l
  | .long _ :: l => okvs l
  | _ => false
abbrev Mtb : Type := Nat → Option ((Nat → Option Ops) × Nat × Nat)
/-- a call of method y, no more than d calls deep, comes to Q -/
def Ev (mt : Mtb) (sh : Nat → Option Shp) : Nat → Evt
  | 0, _, _, _, _ => False
  | d + 1, y, As, h, Q => match mt y with
    | some (C, nL, rt) => bif Nat.ble (entA As).length nL && okvs As then PP (Ev mt sh d) sh C rt Q 0 (ent As nL) [] h else False
    | none => False
theorem Ev_mono {mt : Mtb} {sh : Nat → Option Shp} : ∀ (d y : Nat) (As : List Value) (h : Hp) (Q Q' : Pst), (∀ r h, Q r h → Q' r h) → Ev mt sh d y As h Q → Ev mt sh d y As h Q'
  | 0, _, _, _, _, _, _, H => H
  | d + 1, y, As, h, Q, Q', hQ, H => by
    unfold Ev at H ⊢
    split at H
    · exact bif_mono (PP.mono (Ev_mono d) hQ) H
    · exact H.elim
