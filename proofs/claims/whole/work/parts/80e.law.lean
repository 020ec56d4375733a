/-! the law: what is owed of the calls; its loop; its start; printed by program (wip/whole/gen_law2.py) -/
def OPC (Inv : Nat → Hp → Prop) (k : Nat) (h : Hp) (a1 a2 a3 : Int32) : Nat → Prop := fun c => match c with
  | 0 => op2 m_X_letter m_M_letter [.int a1] h (Inv (k + 1))
  | 1 => op2 m_X_blank m_M_blank [] h (Inv (k + 1))
  | 2 => op2 m_X_fault m_M_fault [] h (Inv (k + 1))
  | 3 => op2 m_X_line m_M_line [] h (Inv (k + 1))
  | 4 => op2 m_X_king m_M_king [.int a1, .int a2] h (Inv (k + 1))
  | 5 => op2 m_X_as m_M_as [.int a1, .int a2] h (Inv (k + 1))
  | 6 => op2 m_X_stocking m_M_stocking [.int a1, .int a2] h (Inv (k + 1))
  | 7 => op2 m_X_wrong m_M_wrong [.int a1, .int a2] h (Inv (k + 1))
  | 8 => op2 m_X_peg m_M_peg [.int a1] h (Inv (k + 1))
  | 9 => op2 m_X_wash m_M_wash [] h (Inv (k + 1))
  | 10 => op2 m_X_starch m_M_starch [.int a1, .int a2] h (Inv (k + 1))
  | 11 => op2 m_X_darn m_M_darn [.int a1] h (Inv (k + 1))
  | 12 => op2 m_X_wind m_M_wind [.int a1] h (Inv (k + 1))
  | 13 => op2 m_X_pin m_M_pin [.int a1, .int a2] h (Inv (k + 1))
  | 14 => op2 m_X_drop m_M_drop [.int a1] h (Inv (k + 1))
  | 15 => op2 m_X_throne m_M_throne [.int a1] h (Inv (k + 1))
  | 16 => op2 m_X_match m_M_match [.int a1] h (Inv (k + 1))
  | 17 => op2 m_X_chance m_M_chance [.int a1, .int a2] h (Inv (k + 1))
  | 18 => op2 m_X_dog m_M_dog [.int a1] h (Inv (k + 1))
  | 19 => op2 m_X_coup m_M_coup [.int a1] h (Inv (k + 1))
  | 20 => op2 m_X_fold m_M_fold [] h (Inv (k + 1))
  | 21 => op2 m_X_lies m_M_lies [.int a1, .int a2] h (Inv (k + 1))
  | 22 => op2 m_X_sweep m_M_sweep [] h (Inv (k + 1))
  | 23 => op2 m_X_winds m_M_winds [.int a1] h (Inv (k + 1))
  | 24 => op2 m_X_tryOn m_M_tryOn [.int a1, .int a2, .int (if a3 = 0 then 0 else 1)] h (Inv (k + 1))
  | 25 => op2 m_X_forget m_M_forget [] h (Inv (k + 1))
  | 26 => op2 m_X_years m_M_years [.int a1, .int a2, .int a3] h (Inv (k + 1))
  | 27 => op2 m_X_image m_M_image [] h (Inv (k + 1))
  | 28 => op2 m_X_restore m_M_restore [] h (Inv (k + 1))
  | 29 => op2 m_X_count m_M_count [.int a1] h (Inv (k + 1))
  | 30 => op2L m_X_digest m_M_digest [] h (Inv (k + 1))
  | _ => Inv (k + 1) h
def OPS (Inv : Nat → Hp → Prop) : Prop := ∀ (k : Nat) (h : Hp), k < 64 → Inv k h → ∀ (a1 a2 a3 : Int32) (c : Nat), c < 32 → OPC Inv k h a1 a2 a3 c
set_option maxHeartbeats 4000000 in
set_option maxRecDepth 20000 in
theorem law_loop {p : Program} {l : Launch} {e : Env} {s : State} {m : MethodId} {below : List Frame} {meth : Method} {c : Code} {b L : Nat} {xs : Nat → Int32} {D : va_G} {ad cy : Nat → Nat} {Inv : Nat → Hp → Prop} (hop : OPS Inv) (C0 : LCx p s m c b L xs D ad cy) (hr : meth.sig.returnType = ret) (hlocks : meth.locks = false) (hL : L ≤ 256) :
    ∀ (n k : Nat) (h : Hp) (H : Heap) (locs : List Loc) (ls : Array Slot), L < 4 * (k + n) → k ≤ 65 → Inv k h → lv_has ls 4 [(0, .ref b), (1, .ref (ad 0)), (2, .ref (ad 46)), (3, .int (nI (4 * k)))] → va_P D vwCl (wsH ad cy shp 79 h) H → va_S (AL s) s.heap H locs → W p l e room_1 s m #[Value.ref b] below meth c H locs 100 2000 (lw_Z below #[Value.ref b] s) (F0 m 18 ls []) := by
  obtain ⟨hx, hb, hml, hown, hts, hK, hD, hSF, hNW, hvR, hX, hbl⟩ := id C0
  have hbA : ¬ (AL s) b := Nat.not_le.mpr hbl
  intro n
  induction n with
  | zero =>
    intro k h H locs ls hn hk65 hI hl hP hS
    refine lv_iload_n hx hb dl_18 rfl (lv_at hl 3 rfl) ?_
    refine lv_aload_n hx hb dl_19 rfl (lv_at hl 0 rfl) ?_
    refine va_slen hx hb hX hbl hbA hS dl_20 ?_
    refine lv_iconst (v := nI 4) hx hb dl_21 (by decide +kernel) ?_
    refine lv_isub hx hb dl_22 ?_
    refine lv_icmp_gt (tgt := 928) hx hb dl_23 (by decide) (fun _ => ?_) (fun z => ?_)
    · refine lv_iconst (v := 1) hx hb dl_928 (by decide +kernel) ?_
      refine va_forget (fun q hq => hS.2.2 q hq) ?_
      refine W.widen (k := 600000) (n := 7302250) (Nat.le_of_ble_eq_true rfl) (Nat.le_of_ble_eq_true rfl) ?_
      exact lw_ret hx hb hr hlocks dl_929
    · refine absurd ?_ z
      rw [Int32.lt_iff_toInt_lt]
      show (nI L - nI 4).toInt < (nI (4 * k)).toInt
      rw [pk_sub_toInt (by omega) (by omega), nI_toInt (by omega)]
      omega
  | succ n ih =>
    intro k h H locs ls hn hk65 hI hl hP hS
    refine lv_iload_n hx hb dl_18 rfl (lv_at hl 3 rfl) ?_
    refine lv_aload_n hx hb dl_19 rfl (lv_at hl 0 rfl) ?_
    refine va_slen hx hb hX hbl hbA hS dl_20 ?_
    refine lv_iconst (v := nI 4) hx hb dl_21 (by decide +kernel) ?_
    refine lv_isub hx hb dl_22 ?_
    refine lv_icmp_gt (tgt := 928) hx hb dl_23 (by decide) (fun _ => ?_) (fun z => ?_)
    · refine lv_iconst (v := 1) hx hb dl_928 (by decide +kernel) ?_
      refine va_forget (fun q hq => hS.2.2 q hq) ?_
      refine W.widen (k := 600000) (n := 7302250) (Nat.le_of_ble_eq_true rfl) (Nat.le_of_ble_eq_true rfl) ?_
      exact lw_ret hx hb hr hlocks dl_929
    · have hi : 4 * k + 4 ≤ L := by
        rw [Int32.lt_iff_toInt_lt] at z
        have z2 : ¬ (nI L - nI 4).toInt < (nI (4 * k)).toInt := z
        rw [pk_sub_toInt (by omega) (by omega), nI_toInt (by omega)] at z2
        omega
      have ho := hop k h (by omega) hI (xs (4 * k + 1)) (xs (4 * k + 2)) (xs (4 * k + 3))
      refine lv_aload_n hx hb dl_26 rfl (lv_at hl 0 rfl) ?_
      refine lv_iload_n hx hb dl_27 rfl (lv_at hl 3 rfl) ?_
      refine va_sld hx hb hX hbl hbA hS (vp_in_nI (by omega) (by omega)) dl_28 ?_
      refine lv_bipush (v := 31) hx hb dl_29 (by decide +kernel) ?_
      refine lv_iand hx hb dl_31 ?_
      obtain ⟨j, hj, ej⟩ := pk_andE (xs (nI (4 * k)).toNatClampNeg) (m := 31) 5 (by decide +kernel)
      rw [ej]
      have hk : ∀ (h : Hp) (H : Heap) (locs : List Loc), Inv (k + 1) h → va_P D vwCl (wsH ad cy shp 79 h) H → va_S (AL s) s.heap H locs → W p l e room_1 s m #[Value.ref b] below meth c H locs 100 2000 (lw_Z below #[Value.ref b] s) (F0 m 922 ls []) := by
        intro h' H' locs' hI' hP' hS'
        refine lv_iinc (v := nI (4 * (k + 1))) (lv' := [(3, .int (nI (4 * (k + 1)))), (0, .ref b), (1, .ref (ad 0)), (2, .ref (ad 46))]) hx hb dl_922 hl (k := 3) rfl (by show nI (4 * k) + Int32.ofInt 4 = _; rw [show Int32.ofInt 4 = nI 4 by decide +kernel, nI_add]; rfl) (by decide) rfl (fun ls hl => ?_)
        refine lv_goto (tgt := 18) hx hb dl_925 (by decide) ?_
        exact ih (k + 1) h' H' locs' ls (by omega) (by omega) hI' (lv_sub hl [1, 2, 3, 0] rfl) hP' hS'
      match j, hj with
      | 0, _ => exact lv_tableIn (off := 140) (tgt := 172) hx hb dl_32 (by decide +kernel) (by decide +kernel) (by decide +kernel) (by decide) (law_c0 C0 hi hL hl hP hS (ho 0 (by decide)) hk)
      | 1, _ => exact lv_tableIn (off := 163) (tgt := 195) hx hb dl_32 (by decide +kernel) (by decide +kernel) (by decide +kernel) (by decide) (law_c1 C0 hi hL hl hP hS (ho 1 (by decide)) hk)
      | 2, _ => exact lv_tableIn (off := 176) (tgt := 208) hx hb dl_32 (by decide +kernel) (by decide +kernel) (by decide +kernel) (by decide) (law_c2 C0 hi hL hl hP hS (ho 2 (by decide)) hk)
      | 3, _ => exact lv_tableIn (off := 189) (tgt := 221) hx hb dl_32 (by decide +kernel) (by decide +kernel) (by decide +kernel) (by decide) (law_c3 C0 hi hL hl hP hS (ho 3 (by decide)) hk)
      | 4, _ => exact lv_tableIn (off := 202) (tgt := 234) hx hb dl_32 (by decide +kernel) (by decide +kernel) (by decide +kernel) (by decide) (law_c4 C0 hi hL hl hP hS (ho 4 (by decide)) hk)
      | 5, _ => exact lv_tableIn (off := 235) (tgt := 267) hx hb dl_32 (by decide +kernel) (by decide +kernel) (by decide +kernel) (by decide) (law_c5 C0 hi hL hl hP hS (ho 5 (by decide)) hk)
      | 6, _ => exact lv_tableIn (off := 268) (tgt := 300) hx hb dl_32 (by decide +kernel) (by decide +kernel) (by decide +kernel) (by decide) (law_c6 C0 hi hL hl hP hS (ho 6 (by decide)) hk)
      | 7, _ => exact lv_tableIn (off := 301) (tgt := 333) hx hb dl_32 (by decide +kernel) (by decide +kernel) (by decide +kernel) (by decide) (law_c7 C0 hi hL hl hP hS (ho 7 (by decide)) hk)
      | 8, _ => exact lv_tableIn (off := 334) (tgt := 366) hx hb dl_32 (by decide +kernel) (by decide +kernel) (by decide +kernel) (by decide) (law_c8 C0 hi hL hl hP hS (ho 8 (by decide)) hk)
      | 9, _ => exact lv_tableIn (off := 357) (tgt := 389) hx hb dl_32 (by decide +kernel) (by decide +kernel) (by decide +kernel) (by decide) (law_c9 C0 hi hL hl hP hS (ho 9 (by decide)) hk)
      | 10, _ => exact lv_tableIn (off := 370) (tgt := 402) hx hb dl_32 (by decide +kernel) (by decide +kernel) (by decide +kernel) (by decide) (law_c10 C0 hi hL hl hP hS (ho 10 (by decide)) hk)
      | 11, _ => exact lv_tableIn (off := 403) (tgt := 435) hx hb dl_32 (by decide +kernel) (by decide +kernel) (by decide +kernel) (by decide) (law_c11 C0 hi hL hl hP hS (ho 11 (by decide)) hk)
      | 12, _ => exact lv_tableIn (off := 426) (tgt := 458) hx hb dl_32 (by decide +kernel) (by decide +kernel) (by decide +kernel) (by decide) (law_c12 C0 hi hL hl hP hS (ho 12 (by decide)) hk)
      | 13, _ => exact lv_tableIn (off := 449) (tgt := 481) hx hb dl_32 (by decide +kernel) (by decide +kernel) (by decide +kernel) (by decide) (law_c13 C0 hi hL hl hP hS (ho 13 (by decide)) hk)
      | 14, _ => exact lv_tableIn (off := 482) (tgt := 514) hx hb dl_32 (by decide +kernel) (by decide +kernel) (by decide +kernel) (by decide) (law_c14 C0 hi hL hl hP hS (ho 14 (by decide)) hk)
      | 15, _ => exact lv_tableIn (off := 505) (tgt := 537) hx hb dl_32 (by decide +kernel) (by decide +kernel) (by decide +kernel) (by decide) (law_c15 C0 hi hL hl hP hS (ho 15 (by decide)) hk)
      | 16, _ => exact lv_tableIn (off := 528) (tgt := 560) hx hb dl_32 (by decide +kernel) (by decide +kernel) (by decide +kernel) (by decide) (law_c16 C0 hi hL hl hP hS (ho 16 (by decide)) hk)
      | 17, _ => exact lv_tableIn (off := 551) (tgt := 583) hx hb dl_32 (by decide +kernel) (by decide +kernel) (by decide +kernel) (by decide) (law_c17 C0 hi hL hl hP hS (ho 17 (by decide)) hk)
      | 18, _ => exact lv_tableIn (off := 584) (tgt := 616) hx hb dl_32 (by decide +kernel) (by decide +kernel) (by decide +kernel) (by decide) (law_c18 C0 hi hL hl hP hS (ho 18 (by decide)) hk)
      | 19, _ => exact lv_tableIn (off := 607) (tgt := 639) hx hb dl_32 (by decide +kernel) (by decide +kernel) (by decide +kernel) (by decide) (law_c19 C0 hi hL hl hP hS (ho 19 (by decide)) hk)
      | 20, _ => exact lv_tableIn (off := 630) (tgt := 662) hx hb dl_32 (by decide +kernel) (by decide +kernel) (by decide +kernel) (by decide) (law_c20 C0 hi hL hl hP hS (ho 20 (by decide)) hk)
      | 21, _ => exact lv_tableIn (off := 643) (tgt := 675) hx hb dl_32 (by decide +kernel) (by decide +kernel) (by decide +kernel) (by decide) (law_c21 C0 hi hL hl hP hS (ho 21 (by decide)) hk)
      | 22, _ => exact lv_tableIn (off := 676) (tgt := 708) hx hb dl_32 (by decide +kernel) (by decide +kernel) (by decide +kernel) (by decide) (law_c22 C0 hi hL hl hP hS (ho 22 (by decide)) hk)
      | 23, _ => exact lv_tableIn (off := 689) (tgt := 721) hx hb dl_32 (by decide +kernel) (by decide +kernel) (by decide +kernel) (by decide) (law_c23 C0 hi hL hl hP hS (ho 23 (by decide)) hk)
      | 24, _ => exact lv_tableIn (off := 712) (tgt := 744) hx hb dl_32 (by decide +kernel) (by decide +kernel) (by decide +kernel) (by decide) (law_c24 C0 hi hL hl hP hS (ho 24 (by decide)) hk)
      | 25, _ => exact lv_tableIn (off := 771) (tgt := 803) hx hb dl_32 (by decide +kernel) (by decide +kernel) (by decide +kernel) (by decide) (law_c25 C0 hi hL hl hP hS (ho 25 (by decide)) hk)
      | 26, _ => exact lv_tableIn (off := 784) (tgt := 816) hx hb dl_32 (by decide +kernel) (by decide +kernel) (by decide +kernel) (by decide) (law_c26 C0 hi hL hl hP hS (ho 26 (by decide)) hk)
      | 27, _ => exact lv_tableIn (off := 827) (tgt := 859) hx hb dl_32 (by decide +kernel) (by decide +kernel) (by decide +kernel) (by decide) (law_c27 C0 hi hL hl hP hS (ho 27 (by decide)) hk)
      | 28, _ => exact lv_tableIn (off := 840) (tgt := 872) hx hb dl_32 (by decide +kernel) (by decide +kernel) (by decide +kernel) (by decide) (law_c28 C0 hi hL hl hP hS (ho 28 (by decide)) hk)
      | 29, _ => exact lv_tableIn (off := 853) (tgt := 885) hx hb dl_32 (by decide +kernel) (by decide +kernel) (by decide +kernel) (by decide) (law_c29 C0 hi hL hl hP hS (ho 29 (by decide)) hk)
      | 30, _ => exact lv_tableIn (off := 876) (tgt := 908) hx hb dl_32 (by decide +kernel) (by decide +kernel) (by decide +kernel) (by decide) (law_c30 C0 hi hL hl hP hS (ho 30 (by decide)) hk)
      | 31, _ => exact lv_tableOut (tgt := 922) hx hb dl_32 (by decide +kernel) (by decide) (hk h H locs (ho 31 (by decide)) hP hS)
      | j + 32, hj => exact absurd hj (by omega)
theorem lc_6 : (.classLink R_law 7 RX6 : Jvm.Cond) ∈ gt := okw_mem (pl := 102) (by decide +kernel)
theorem li_6 : (.instantiable RX6 13 : Jvm.Cond) ∈ gt := okw_mem (pl := 103) (by decide +kernel)
theorem ln_6 : (.initialized RX6 : Jvm.Cond) ∈ gt := okw_mem (pl := 85) (by decide +kernel)
theorem lk_6 : (.code ⟨RX6, "<init>", "()V"⟩ cX6_init 1 none : Jvm.Cond) ∈ gt := okw_mem (pl := 106) (by decide +kernel)
theorem lj_6 : (.instanceMethod ⟨RX6, "<init>", "()V"⟩ : Jvm.Cond) ∈ gt := okw_mem (pl := 105) (by decide +kernel)
theorem lm_6 : (.methodLink R_law 9 ⟨RX6, "<init>", "()V"⟩ : Jvm.Cond) ∈ gt := okw_mem (pl := 104) (by decide +kernel)
theorem lc_7 : (.classLink R_law 10 RX7 : Jvm.Cond) ∈ gt := okw_mem (pl := 878) (by decide +kernel)
theorem li_7 : (.instantiable RX7 55 : Jvm.Cond) ∈ gt := okw_mem (pl := 879) (by decide +kernel)
theorem ln_7 : (.initialized RX7 : Jvm.Cond) ∈ gt := okw_mem (pl := 93) (by decide +kernel)
theorem lk_7 : (.code ⟨RX7, "<init>", "()V"⟩ cX7_init 1 none : Jvm.Cond) ∈ gt := okw_mem (pl := 882) (by decide +kernel)
theorem lj_7 : (.instanceMethod ⟨RX7, "<init>", "()V"⟩ : Jvm.Cond) ∈ gt := okw_mem (pl := 881) (by decide +kernel)
theorem lm_7 : (.methodLink R_law 12 ⟨RX7, "<init>", "()V"⟩ : Jvm.Cond) ∈ gt := okw_mem (pl := 880) (by decide +kernel)
/-- the heap that both constructors leave -/
def hini : Hp := (fun i => bif Nat.beq i 13 || (Nat.beq i 19 || Nat.beq i 25) then pegs0 else zI, fun _ _ => 0)
def adF (q0 : Nat) (v : List Nat) (q1 : Nat) (u : List Nat) (ad : Nat → Nat) : Nat → Nat := fun i => bif Nat.blt i 46 then (bif Nat.beq i 0 then q0 else v.getD (i - 1) 0) else bif Nat.blt i 79 then (bif Nat.beq i 46 then q1 else u.getD (i - 47) 0) else ad i
theorem adF_hi {q0 q1 : Nat} {v u : List Nat} {ad : Nat → Nat} {i : Nat} (h : 100 ≤ i) : adF q0 v q1 u ad i = ad i := by
  unfold adF
  have h1 : Nat.blt i 46 = false := by
    cases hb : Nat.blt i 46
    · rfl
    · have := Nat.blt_eq.mp hb
      omega
  have h2 : Nat.blt i 79 = false := by
    cases hb : Nat.blt i 79
    · rfl
    · have := Nat.blt_eq.mp hb
      omega
  rw [h1, h2]
  rfl
set_option maxRecDepth 100000 in
set_option maxHeartbeats 4000000 in
theorem world_eq (cy ad : Nat → Nat) (q0 q1 : Nat) (v u : List Nat) : bw6 cy q0 v ++ bw7 cy q1 u = wsH (adF q0 v q1 u ad) cy shp 79 hini := rfl
theorem arr_start {a : Array Value} {s : State} {ty : FieldType} (h : (Jvm.Cond.arrayClass ty).before a s = true) (hp : ∀ C, ty ≠ .object C) : ∃ cA : ClassId, ArrOfT s cA ty ∧ va_RA s cA ty := by
  obtain ⟨cA, kA, comp, h1, h2, h3⟩ := Cond.arrayClass_spec h
  refine ⟨cA, fun n z => ⟨fun k h => (by cases h), kA, h2, comp, h3⟩, ?_⟩
  cases ty <;> first | exact h1 | exact absurd rfl (hp _)
set_option maxHeartbeats 8000000 in
set_option maxRecDepth 100000 in
theorem start_from {Inv : Nat → Hp → Prop} (hop : OPS Inv) (hI0 : Inv 0 hini) {p : Program} {e : Env} {s : State} {m : MethodId} {below : List Frame} {meth : Method} {c : Code} (l : Launch) {b L : Nat} {xs : Nat → Int32} (hL : L ≤ 256) (C0 : lw_At p s m meth c b L xs) : W p l e room_1 s m #[Value.ref b] below meth c s.heap [] 0 0 (lw_Z below #[Value.ref b] s) (entryFrame m ([Value.ref b] : List Value).toArray 4) := by
  obtain ⟨hx, hb, hr, hml, hown, hts, hX, hbl, hlocks, hgv⟩ := id C0
  have htg := law_gt hts
  obtain ⟨ad0, hSF, hNW, hNI, hvR⟩ := SF_start hts hgv
  obtain ⟨c0, iS0, hKn0⟩ := u_known (C := RX0) (T := TX0) (N := 5) (n := 5) hts (fun w hw => (List.mem_filter.mp (uok0 w hw)).1) (hts _ (List.mem_of_getElem? (i := 127) (by decide +kernel)))
  obtain ⟨c1, iS1, hKn1⟩ := u_known (C := RX1) (T := TX1) (N := 3) (n := 3) hts (fun w hw => (List.mem_filter.mp (uok1 w hw)).1) (hts _ (List.mem_of_getElem? (i := 270) (by decide +kernel)))
  obtain ⟨c2, iS2, hKn2⟩ := u_known (C := RX2) (T := TX2) (N := 9) (n := 9) hts (fun w hw => (List.mem_filter.mp (uok2 w hw)).1) (hts _ (List.mem_of_getElem? (i := 196) (by decide +kernel)))
  obtain ⟨c3, iS3, hKn3⟩ := u_known (C := RX3) (T := TX3) (N := 2) (n := 2) hts (fun w hw => (List.mem_filter.mp (uok3 w hw)).1) (hts _ (List.mem_of_getElem? (i := 111) (by decide +kernel)))
  obtain ⟨c4, iS4, hKn4⟩ := u_known (C := RX4) (T := TX4) (N := 6) (n := 6) hts (fun w hw => (List.mem_filter.mp (uok4 w hw)).1) (hts _ (List.mem_of_getElem? (i := 156) (by decide +kernel)))
  obtain ⟨c5, iS5, hKn5⟩ := u_known (C := RX5) (T := TX5) (N := 6) (n := 6) hts (fun w hw => (List.mem_filter.mp (uok5 w hw)).1) (hts _ (List.mem_of_getElem? (i := 240) (by decide +kernel)))
  obtain ⟨c6, iS6, hKn6⟩ := u_known (C := RX6) (T := TX6) (N := 13) (n := 13) hts (fun w hw => (List.mem_filter.mp (uok6 w hw)).1) (hts _ (List.mem_of_getElem? (i := 103) (by decide +kernel)))
  obtain ⟨c7, iS7, hKn7⟩ := u_known (C := RX7) (T := TX7) (N := 55) (n := 55) hts (fun w hw => (List.mem_filter.mp (uok7 w hw)).1) (hts _ (List.mem_of_getElem? (i := 879) (by decide +kernel)))
  obtain ⟨dC, dI, hKc⟩ : ∃ (dC : Nat → ClassId) (dI : Nat → Nat → Nat), ∀ (k : Nat) (q : vw_C), vwCl[k]? = some q → u_Kn s q.1 q.2.1 q.2.2 (dC k) (dI k) := by
    refine ⟨fun k => if k = 0 then c0 else if k = 1 then c1 else if k = 2 then c2 else if k = 3 then c3 else if k = 4 then c4 else if k = 5 then c5 else if k = 6 then c6 else c7, fun k => if k = 0 then iS0 else if k = 1 then iS1 else if k = 2 then iS2 else if k = 3 then iS3 else if k = 4 then iS4 else if k = 5 then iS5 else if k = 6 then iS6 else iS7, ?_⟩
    intro k q hq
    match k, hq with
    | 0, hq => cases hq; exact hKn0
    | 1, hq => cases hq; exact hKn1
    | 2, hq => cases hq; exact hKn2
    | 3, hq => cases hq; exact hKn3
    | 4, hq => cases hq; exact hKn4
    | 5, hq => cases hq; exact hKn5
    | 6, hq => cases hq; exact hKn6
    | 7, hq => cases hq; exact hKn7
    | k + 8, hq => cases hq
  obtain ⟨y0, g0⟩ := arr_start (htg _ gw_ac0) (by intro C z; cases z)
  obtain ⟨y1, g1⟩ := arr_start (htg _ gw_ac1) (by intro C z; cases z)
  obtain ⟨y2, g2⟩ := arr_start (htg _ gw_ac2) (by intro C z; cases z)
  obtain ⟨cy, hcy0, hcy1, hcy2⟩ : ∃ cy : Nat → Nat, cy 0 = y0 ∧ cy 1 = y1 ∧ cy 2 = y2 := ⟨fun k => if k = 0 then y0 else if k = 1 then y1 else y2, rfl, rfl, rfl⟩
  have hK : va_K (dC, dI) vwCl (tyL cy) s := ⟨hKc, fun k q h => by
    match k, h with
    | 0, h => cases h; rw [hcy0]; exact g0
    | 1, h => cases h; rw [hcy1]; exact g1
    | 2, h => cases h; rw [hcy2]; exact g2
    | k + 3, h => cases h⟩
  have hA : ∀ q : Nat, s.heap.size ≤ q → (AL s) q := fun _ h => h
  have hS : va_S (AL s) s.heap s.heap [] := va_S.rf
  have hP : va_P (dC, dI) vwCl [] s.heap := fun k q h => by simp at h
  have hD : va_D (AL s) [] := ⟨fun i j p q h => by simp at h, fun k q h => by simp at h⟩
  have hl := lv_entry ([.ref b]) (n := 4) (Nat.le_of_ble_eq_true rfl)
  rw [lg_entry_eq]
  generalize (lg_sl ([.ref b]) ++ List.replicate (4 - (lg_sl ([.ref b])).length) Slot.unset).toArray = ls at hl ⊢
  have hl : lv_has ls 4 [(0, .ref b)] := hl
  refine new_blk (ad := ad0) (own := R_law) (cj := 6) (C := RX6) (T := TX6) (N := 13) (ty := tyX6) (zs := [.null, .null, .null, .null, .null, .null, .null, .null, .null, .null, .int 0, .int 0, .int 0]) (bw := bw6 cy) (fx := fun u => u) (EX := NWI) (mc := 45) (ms := 424) (rl := 45) (i1 := 7) (i2 := 9) (rest := []) hx hb hml hown htg hK hA hSF hNW hvR hP hD hS rfl tyX6_ok (by decide) (fun U _ hW => hNI.warm hW) (fun U g mk a z => NWI.same (u := U) rfl z) (fun q sz => ci_X6 l (dC, dI) ad0 cy q sz) rfl rfl lc_6 li_6 ln_6 lk_6 lj_6 (Or.inl lm_6) ⟨by decide, by decide⟩ ⟨Nat.le_of_ble_eq_true rfl, Nat.le_of_ble_eq_true rfl⟩ (Nat.le_of_ble_eq_true rfl) (Nat.le_of_ble_eq_true rfl) hl.1 (Nat.le_of_ble_eq_true rfl) dl_0 dl_3 dl_4 (fun q0 v H locs e1 hP hD hS => ?_)
  refine lv_astore_n (lv' := [(1, .ref q0), (0, .ref b)]) hx hb dl_7 rfl hl (by decide) rfl (fun ls hl => ?_)
  refine W.widen (k := 46) (n := 437) (Nat.le_of_ble_eq_true rfl) (Nat.le_of_ble_eq_true rfl) ?_
  refine new_blk (ad := ad0) (own := R_law) (cj := 7) (C := RX7) (T := TX7) (N := 55) (ty := tyX7) (zs := [.int 0, .int 0, .int 0, .null, .null, .null, .null, .null, .null, .null, .null, .null, .int 0, .int 0, .int 0, .null, .null, .int 0, .null, .null, .null, .int 0, .int 0, .null, .int 0, .int 0, .int 0, .null, .null, .int 0, .int 0, .int 0, .null, .null, .null, .null, .null, .long 0, .null, .int 0, .int 0, .int 0, .int 0, .int 0, .int 0, .null, .null, .null, .null, .null, .null, .null, .null, .null, .long 0]) (bw := bw7 cy) (fx := fun u => u) (EX := fun _ => True) (mc := 32) (ms := 362) (rl := 32) (i1 := 10) (i2 := 12) (rest := []) hx hb hml hown htg hK hA hSF hNW hvR hP hD hS rfl tyX7_ok (by decide) (fun _ _ _ => trivial) (fun _ _ _ _ _ => trivial) (fun q sz => by simp only [and_true]; exact ci_X7 l (dC, dI) ad0 cy q sz) rfl rfl lc_7 li_7 ln_7 lk_7 lj_7 (Or.inl lm_7) ⟨by decide, by decide⟩ ⟨Nat.le_of_ble_eq_true rfl, Nat.le_of_ble_eq_true rfl⟩ (Nat.le_of_ble_eq_true rfl) (Nat.le_of_ble_eq_true rfl) hl.1 (Nat.le_of_ble_eq_true rfl) dl_8 dl_11 dl_12 (fun q1 u H locs e2 hP hD hS => ?_)
  refine lv_astore_n (lv' := [(2, .ref q1), (1, .ref q0), (0, .ref b)]) hx hb dl_15 rfl hl (by decide) rfl (fun ls hl => ?_)
  refine lv_iconst (v := 0) hx hb dl_16 (by decide +kernel) ?_
  refine lv_istore_n (lv' := [(3, .int 0), (2, .ref q1), (1, .ref q0), (0, .ref b)]) hx hb dl_17 rfl hl (by decide) rfl (fun ls hl => ?_)
  refine W.widen (k := 100) (n := 2000) (Nat.le_of_ble_eq_true rfl) (Nat.le_of_ble_eq_true rfl) ?_
  rw [List.nil_append, world_eq cy ad0 q0 q1 v u] at hP hD
  refine law_loop (ad := adF q0 v q1 u ad0) (xs := xs) hop ⟨hx, hb, hml, hown, htg, hK, fun h => ?_, hSF.congr (fun i hi => adF_hi hi), hNW, ?_, hX, hbl⟩ hr hlocks hL 65 0 hini H locs ls (by omega) (by decide) hI0 (lv_sub hl [3, 2, 1, 0] rfl) hP hS
  · refine ⟨fun i j x y hi hj hxy => ?_, fun k x hk => ?_⟩
    · exact (wsH_D (sz := 0) hD h).1 i j x y hi hj hxy
    · obtain ⟨hk1, rfl⟩ := wsH_in hk
      have hz := hD.2 k _ (wsH_at hini hk1)
      exact hz
  · rw [adF_hi (by decide)]
    exact hvR
