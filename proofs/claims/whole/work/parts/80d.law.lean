/-! the law: its cases; printed by program (wip/whole/gen_law.py) -/
theorem ll_13 : (.methodLink R_law 13 (mnm m_X_letter) : Jvm.Cond) ∈ gt := okw_mem (pl := 326) (by decide +kernel)
theorem ll_17 : (.methodLink R_law 17 (mnm m_M_letter) : Jvm.Cond) ∈ gt := okw_mem (pl := 1050) (by decide +kernel)
theorem ll_18 : (.methodLink R_law 18 (mnm m_X_blank) : Jvm.Cond) ∈ gt := okw_mem (pl := 330) (by decide +kernel)
theorem ll_22 : (.methodLink R_law 22 (mnm m_M_blank) : Jvm.Cond) ∈ gt := okw_mem (pl := 1057) (by decide +kernel)
theorem ll_23 : (.methodLink R_law 23 (mnm m_X_fault) : Jvm.Cond) ∈ gt := okw_mem (pl := 334) (by decide +kernel)
theorem ll_26 : (.methodLink R_law 26 (mnm m_M_fault) : Jvm.Cond) ∈ gt := okw_mem (pl := 1061) (by decide +kernel)
theorem ll_27 : (.methodLink R_law 27 (mnm m_X_line) : Jvm.Cond) ∈ gt := okw_mem (pl := 448) (by decide +kernel)
theorem ll_30 : (.methodLink R_law 30 (mnm m_M_line) : Jvm.Cond) ∈ gt := okw_mem (pl := 1088) (by decide +kernel)
theorem ll_31 : (.methodLink R_law 31 (mnm m_X_king) : Jvm.Cond) ∈ gt := okw_mem (pl := 486) (by decide +kernel)
theorem ll_35 : (.methodLink R_law 35 (mnm m_M_king) : Jvm.Cond) ∈ gt := okw_mem (pl := 1092) (by decide +kernel)
theorem ll_36 : (.methodLink R_law 36 (mnm m_X_as) : Jvm.Cond) ∈ gt := okw_mem (pl := 567) (by decide +kernel)
theorem ll_39 : (.methodLink R_law 39 (mnm m_M_as) : Jvm.Cond) ∈ gt := okw_mem (pl := 1166) (by decide +kernel)
theorem ll_40 : (.methodLink R_law 40 (mnm m_X_stocking) : Jvm.Cond) ∈ gt := okw_mem (pl := 571) (by decide +kernel)
theorem ll_43 : (.methodLink R_law 43 (mnm m_M_stocking) : Jvm.Cond) ∈ gt := okw_mem (pl := 1170) (by decide +kernel)
theorem ll_44 : (.methodLink R_law 44 (mnm m_X_wrong) : Jvm.Cond) ∈ gt := okw_mem (pl := 596) (by decide +kernel)
theorem ll_47 : (.methodLink R_law 47 (mnm m_M_wrong) : Jvm.Cond) ∈ gt := okw_mem (pl := 1194) (by decide +kernel)
theorem ll_48 : (.methodLink R_law 48 (mnm m_X_peg) : Jvm.Cond) ∈ gt := okw_mem (pl := 601) (by decide +kernel)
theorem ll_51 : (.methodLink R_law 51 (mnm m_M_peg) : Jvm.Cond) ∈ gt := okw_mem (pl := 1198) (by decide +kernel)
theorem ll_52 : (.methodLink R_law 52 (mnm m_X_wash) : Jvm.Cond) ∈ gt := okw_mem (pl := 616) (by decide +kernel)
theorem ll_55 : (.methodLink R_law 55 (mnm m_M_wash) : Jvm.Cond) ∈ gt := okw_mem (pl := 1209) (by decide +kernel)
theorem ll_56 : (.methodLink R_law 56 (mnm m_X_starch) : Jvm.Cond) ∈ gt := okw_mem (pl := 629) (by decide +kernel)
theorem ll_59 : (.methodLink R_law 59 (mnm m_M_starch) : Jvm.Cond) ∈ gt := okw_mem (pl := 1221) (by decide +kernel)
theorem ll_60 : (.methodLink R_law 60 (mnm m_X_darn) : Jvm.Cond) ∈ gt := okw_mem (pl := 633) (by decide +kernel)
theorem ll_63 : (.methodLink R_law 63 (mnm m_M_darn) : Jvm.Cond) ∈ gt := okw_mem (pl := 1225) (by decide +kernel)
theorem ll_64 : (.methodLink R_law 64 (mnm m_X_wind) : Jvm.Cond) ∈ gt := okw_mem (pl := 637) (by decide +kernel)
theorem ll_67 : (.methodLink R_law 67 (mnm m_M_wind) : Jvm.Cond) ∈ gt := okw_mem (pl := 1229) (by decide +kernel)
theorem ll_68 : (.methodLink R_law 68 (mnm m_X_pin) : Jvm.Cond) ∈ gt := okw_mem (pl := 650) (by decide +kernel)
theorem ll_71 : (.methodLink R_law 71 (mnm m_M_pin) : Jvm.Cond) ∈ gt := okw_mem (pl := 1240) (by decide +kernel)
theorem ll_72 : (.methodLink R_law 72 (mnm m_X_drop) : Jvm.Cond) ∈ gt := okw_mem (pl := 654) (by decide +kernel)
theorem ll_75 : (.methodLink R_law 75 (mnm m_M_drop) : Jvm.Cond) ∈ gt := okw_mem (pl := 1244) (by decide +kernel)
theorem ll_76 : (.methodLink R_law 76 (mnm m_X_throne) : Jvm.Cond) ∈ gt := okw_mem (pl := 658) (by decide +kernel)
theorem ll_79 : (.methodLink R_law 79 (mnm m_M_throne) : Jvm.Cond) ∈ gt := okw_mem (pl := 1248) (by decide +kernel)
theorem ll_80 : (.methodLink R_law 80 (mnm m_X_match) : Jvm.Cond) ∈ gt := okw_mem (pl := 675) (by decide +kernel)
theorem ll_83 : (.methodLink R_law 83 (mnm m_M_match) : Jvm.Cond) ∈ gt := okw_mem (pl := 1268) (by decide +kernel)
theorem ll_84 : (.methodLink R_law 84 (mnm m_X_chance) : Jvm.Cond) ∈ gt := okw_mem (pl := 702) (by decide +kernel)
theorem ll_87 : (.methodLink R_law 87 (mnm m_M_chance) : Jvm.Cond) ∈ gt := okw_mem (pl := 1292) (by decide +kernel)
theorem ll_88 : (.methodLink R_law 88 (mnm m_X_dog) : Jvm.Cond) ∈ gt := okw_mem (pl := 709) (by decide +kernel)
theorem ll_91 : (.methodLink R_law 91 (mnm m_M_dog) : Jvm.Cond) ∈ gt := okw_mem (pl := 1303) (by decide +kernel)
theorem ll_92 : (.methodLink R_law 92 (mnm m_X_coup) : Jvm.Cond) ∈ gt := okw_mem (pl := 732) (by decide +kernel)
theorem ll_95 : (.methodLink R_law 95 (mnm m_M_coup) : Jvm.Cond) ∈ gt := okw_mem (pl := 1319) (by decide +kernel)
theorem ll_96 : (.methodLink R_law 96 (mnm m_X_fold) : Jvm.Cond) ∈ gt := okw_mem (pl := 752) (by decide +kernel)
theorem ll_99 : (.methodLink R_law 99 (mnm m_M_fold) : Jvm.Cond) ∈ gt := okw_mem (pl := 1335) (by decide +kernel)
theorem ll_100 : (.methodLink R_law 100 (mnm m_X_lies) : Jvm.Cond) ∈ gt := okw_mem (pl := 768) (by decide +kernel)
theorem ll_103 : (.methodLink R_law 103 (mnm m_M_lies) : Jvm.Cond) ∈ gt := okw_mem (pl := 1355) (by decide +kernel)
theorem ll_104 : (.methodLink R_law 104 (mnm m_X_sweep) : Jvm.Cond) ∈ gt := okw_mem (pl := 776) (by decide +kernel)
theorem ll_107 : (.methodLink R_law 107 (mnm m_M_sweep) : Jvm.Cond) ∈ gt := okw_mem (pl := 1359) (by decide +kernel)
theorem ll_108 : (.methodLink R_law 108 (mnm m_X_winds) : Jvm.Cond) ∈ gt := okw_mem (pl := 780) (by decide +kernel)
theorem ll_111 : (.methodLink R_law 111 (mnm m_M_winds) : Jvm.Cond) ∈ gt := okw_mem (pl := 1363) (by decide +kernel)
theorem ll_112 : (.methodLink R_law 112 (mnm m_X_tryOn) : Jvm.Cond) ∈ gt := okw_mem (pl := 809) (by decide +kernel)
theorem ll_116 : (.methodLink R_law 116 (mnm m_M_tryOn) : Jvm.Cond) ∈ gt := okw_mem (pl := 1383) (by decide +kernel)
theorem ll_117 : (.methodLink R_law 117 (mnm m_X_forget) : Jvm.Cond) ∈ gt := okw_mem (pl := 817) (by decide +kernel)
theorem ll_120 : (.methodLink R_law 120 (mnm m_M_forget) : Jvm.Cond) ∈ gt := okw_mem (pl := 1387) (by decide +kernel)
theorem ll_121 : (.methodLink R_law 121 (mnm m_X_years) : Jvm.Cond) ∈ gt := okw_mem (pl := 821) (by decide +kernel)
theorem ll_125 : (.methodLink R_law 125 (mnm m_M_years) : Jvm.Cond) ∈ gt := okw_mem (pl := 1391) (by decide +kernel)
theorem ll_126 : (.methodLink R_law 126 (mnm m_X_image) : Jvm.Cond) ∈ gt := okw_mem (pl := 832) (by decide +kernel)
theorem ll_129 : (.methodLink R_law 129 (mnm m_M_image) : Jvm.Cond) ∈ gt := okw_mem (pl := 1407) (by decide +kernel)
theorem ll_130 : (.methodLink R_law 130 (mnm m_X_restore) : Jvm.Cond) ∈ gt := okw_mem (pl := 841) (by decide +kernel)
theorem ll_133 : (.methodLink R_law 133 (mnm m_M_restore) : Jvm.Cond) ∈ gt := okw_mem (pl := 1411) (by decide +kernel)
theorem ll_134 : (.methodLink R_law 134 (mnm m_X_count) : Jvm.Cond) ∈ gt := okw_mem (pl := 845) (by decide +kernel)
theorem ll_137 : (.methodLink R_law 137 (mnm m_M_count) : Jvm.Cond) ∈ gt := okw_mem (pl := 1415) (by decide +kernel)
theorem ll_138 : (.methodLink R_law 138 (mnm m_X_digest) : Jvm.Cond) ∈ gt := okw_mem (pl := 858) (by decide +kernel)
theorem ll_142 : (.methodLink R_law 142 (mnm m_M_digest) : Jvm.Cond) ∈ gt := okw_mem (pl := 1431) (by decide +kernel)
section LAWC
variable {p : Program} {l : Launch} {e : Env} {s : State} {m : MethodId} {below : List Frame} {meth : Method} {c : Code} {b L : Nat} {xs : Nat → Int32} {D : va_G} {ad cy : Nat → Nat} {Z : State → Prop}
set_option maxRecDepth 20000 in
theorem law_c0 (C0 : LCx p s m c b L xs D ad cy) {H : Heap} {locs : List Loc} {ls : Array Slot} {k : Nat} (hi : 4 * k + 4 ≤ L) (hL : L ≤ 256) (hl : lv_has ls 4 [(0, .ref b), (1, .ref (ad 0)), (2, .ref (ad 46)), (3, .int (nI (4 * k)))]) {h : Hp} {K : Hp → Prop} (hP : va_P D vwCl (wsH ad cy shp 79 h) H) (hS : va_S (AL s) s.heap H locs) (hE : op2 m_X_letter m_M_letter [.int (xs (4 * k + 1))] h K) (kk : ∀ (h : Hp) (H : Heap) (locs : List Loc), K h → va_P D vwCl (wsH ad cy shp 79 h) H → va_S (AL s) s.heap H locs → W p l e room_1 s m #[Value.ref b] below meth c H locs 100 2000 Z (F0 m 922 ls [])) : W p l e room_1 s m #[Value.ref b] below meth c H locs 100 2000 Z (F0 m 172 ls []) := by
  obtain ⟨hx, hb, -⟩ := id C0
  refine lv_aload_n hx hb dl_172 rfl (lv_at hl 1 rfl) ?_
  refine law_ld C0 hS (lv_at hl 0 rfl) (lv_at hl 3 rfl) (k := 1) (by omega) hL (by decide) dl_173 dl_174 dl_175 dl_176 dl_177 ?_
  refine law_callI C0 (y := m_X_letter) (i := 0) (idx := 13) (As := [.int (xs (4 * k + 1))]) (rest := []) (C := cd_X_letter) (nL := 2) rfl ll_13 rfl rfl (ci := 6) rfl (by decide +kernel) (by decide) hE hP hS hl.1 (by simp [Value.category, cv]) dl_178 (fun v h1 H locs hq hP hS => ?_)
  refine lv_aload_n hx hb dl_181 rfl (lv_at hl 2 rfl) ?_
  refine law_ld C0 hS (lv_at hl 0 rfl) (lv_at hl 3 rfl) (k := 1) (by omega) hL (by decide) dl_182 dl_183 dl_184 dl_185 dl_186 ?_
  refine law_callI C0 (y := m_M_letter) (i := 46) (idx := 17) (As := [.int (xs (4 * k + 1))]) (rest := [.int v]) (C := cd_M_letter) (nL := 2) rfl ll_17 rfl rfl (ci := 7) rfl (by decide +kernel) (by decide) hq hP hS hl.1 (by simp [Value.category, cv]) dl_187 (fun w h2 H locs hq2 hP hS => ?_)
  refine lv_icmp_eq (tgt := 922) hx hb dl_190 (by decide) (fun _ => kk h2 H locs hq2.2 hP hS) (fun z => absurd hq2.1 z)
set_option maxRecDepth 20000 in
theorem law_c1 (C0 : LCx p s m c b L xs D ad cy) {H : Heap} {locs : List Loc} {ls : Array Slot} {k : Nat} (hi : 4 * k + 4 ≤ L) (hL : L ≤ 256) (hl : lv_has ls 4 [(0, .ref b), (1, .ref (ad 0)), (2, .ref (ad 46)), (3, .int (nI (4 * k)))]) {h : Hp} {K : Hp → Prop} (hP : va_P D vwCl (wsH ad cy shp 79 h) H) (hS : va_S (AL s) s.heap H locs) (hE : op2 m_X_blank m_M_blank [] h K) (kk : ∀ (h : Hp) (H : Heap) (locs : List Loc), K h → va_P D vwCl (wsH ad cy shp 79 h) H → va_S (AL s) s.heap H locs → W p l e room_1 s m #[Value.ref b] below meth c H locs 100 2000 Z (F0 m 922 ls [])) : W p l e room_1 s m #[Value.ref b] below meth c H locs 100 2000 Z (F0 m 195 ls []) := by
  obtain ⟨hx, hb, -⟩ := id C0
  refine lv_aload_n hx hb dl_195 rfl (lv_at hl 1 rfl) ?_
  refine law_callI C0 (y := m_X_blank) (i := 0) (idx := 18) (As := []) (rest := []) (C := cd_X_blank) (nL := 2) rfl ll_18 rfl rfl (ci := 6) rfl (by decide +kernel) (by decide) hE hP hS hl.1 (by simp [Value.category, cv]) dl_196 (fun v h1 H locs hq hP hS => ?_)
  refine lv_aload_n hx hb dl_199 rfl (lv_at hl 2 rfl) ?_
  refine law_callI C0 (y := m_M_blank) (i := 46) (idx := 22) (As := []) (rest := [.int v]) (C := cd_M_blank) (nL := 2) rfl ll_22 rfl rfl (ci := 7) rfl (by decide +kernel) (by decide) hq hP hS hl.1 (by simp [Value.category, cv]) dl_200 (fun w h2 H locs hq2 hP hS => ?_)
  refine lv_icmp_eq (tgt := 922) hx hb dl_203 (by decide) (fun _ => kk h2 H locs hq2.2 hP hS) (fun z => absurd hq2.1 z)
set_option maxRecDepth 20000 in
theorem law_c2 (C0 : LCx p s m c b L xs D ad cy) {H : Heap} {locs : List Loc} {ls : Array Slot} {k : Nat} (hi : 4 * k + 4 ≤ L) (hL : L ≤ 256) (hl : lv_has ls 4 [(0, .ref b), (1, .ref (ad 0)), (2, .ref (ad 46)), (3, .int (nI (4 * k)))]) {h : Hp} {K : Hp → Prop} (hP : va_P D vwCl (wsH ad cy shp 79 h) H) (hS : va_S (AL s) s.heap H locs) (hE : op2 m_X_fault m_M_fault [] h K) (kk : ∀ (h : Hp) (H : Heap) (locs : List Loc), K h → va_P D vwCl (wsH ad cy shp 79 h) H → va_S (AL s) s.heap H locs → W p l e room_1 s m #[Value.ref b] below meth c H locs 100 2000 Z (F0 m 922 ls [])) : W p l e room_1 s m #[Value.ref b] below meth c H locs 100 2000 Z (F0 m 208 ls []) := by
  obtain ⟨hx, hb, -⟩ := id C0
  refine lv_aload_n hx hb dl_208 rfl (lv_at hl 1 rfl) ?_
  refine law_callI C0 (y := m_X_fault) (i := 0) (idx := 23) (As := []) (rest := []) (C := cd_X_fault) (nL := 1) rfl ll_23 rfl rfl (ci := 6) rfl (by decide +kernel) (by decide) hE hP hS hl.1 (by simp [Value.category, cv]) dl_209 (fun v h1 H locs hq hP hS => ?_)
  refine lv_aload_n hx hb dl_212 rfl (lv_at hl 2 rfl) ?_
  refine law_callI C0 (y := m_M_fault) (i := 46) (idx := 26) (As := []) (rest := [.int v]) (C := cd_M_fault) (nL := 1) rfl ll_26 rfl rfl (ci := 7) rfl (by decide +kernel) (by decide) hq hP hS hl.1 (by simp [Value.category, cv]) dl_213 (fun w h2 H locs hq2 hP hS => ?_)
  refine lv_icmp_eq (tgt := 922) hx hb dl_216 (by decide) (fun _ => kk h2 H locs hq2.2 hP hS) (fun z => absurd hq2.1 z)
set_option maxRecDepth 20000 in
theorem law_c3 (C0 : LCx p s m c b L xs D ad cy) {H : Heap} {locs : List Loc} {ls : Array Slot} {k : Nat} (hi : 4 * k + 4 ≤ L) (hL : L ≤ 256) (hl : lv_has ls 4 [(0, .ref b), (1, .ref (ad 0)), (2, .ref (ad 46)), (3, .int (nI (4 * k)))]) {h : Hp} {K : Hp → Prop} (hP : va_P D vwCl (wsH ad cy shp 79 h) H) (hS : va_S (AL s) s.heap H locs) (hE : op2 m_X_line m_M_line [] h K) (kk : ∀ (h : Hp) (H : Heap) (locs : List Loc), K h → va_P D vwCl (wsH ad cy shp 79 h) H → va_S (AL s) s.heap H locs → W p l e room_1 s m #[Value.ref b] below meth c H locs 100 2000 Z (F0 m 922 ls [])) : W p l e room_1 s m #[Value.ref b] below meth c H locs 100 2000 Z (F0 m 221 ls []) := by
  obtain ⟨hx, hb, -⟩ := id C0
  refine lv_aload_n hx hb dl_221 rfl (lv_at hl 1 rfl) ?_
  refine law_callI C0 (y := m_X_line) (i := 0) (idx := 27) (As := []) (rest := []) (C := cd_X_line) (nL := 2) rfl ll_27 rfl rfl (ci := 6) rfl (by decide +kernel) (by decide) hE hP hS hl.1 (by simp [Value.category, cv]) dl_222 (fun v h1 H locs hq hP hS => ?_)
  refine lv_aload_n hx hb dl_225 rfl (lv_at hl 2 rfl) ?_
  refine law_callI C0 (y := m_M_line) (i := 46) (idx := 30) (As := []) (rest := [.int v]) (C := cd_M_line) (nL := 3) rfl ll_30 rfl rfl (ci := 7) rfl (by decide +kernel) (by decide) hq hP hS hl.1 (by simp [Value.category, cv]) dl_226 (fun w h2 H locs hq2 hP hS => ?_)
  refine lv_icmp_eq (tgt := 922) hx hb dl_229 (by decide) (fun _ => kk h2 H locs hq2.2 hP hS) (fun z => absurd hq2.1 z)
set_option maxRecDepth 20000 in
theorem law_c4 (C0 : LCx p s m c b L xs D ad cy) {H : Heap} {locs : List Loc} {ls : Array Slot} {k : Nat} (hi : 4 * k + 4 ≤ L) (hL : L ≤ 256) (hl : lv_has ls 4 [(0, .ref b), (1, .ref (ad 0)), (2, .ref (ad 46)), (3, .int (nI (4 * k)))]) {h : Hp} {K : Hp → Prop} (hP : va_P D vwCl (wsH ad cy shp 79 h) H) (hS : va_S (AL s) s.heap H locs) (hE : op2 m_X_king m_M_king [.int (xs (4 * k + 1)), .int (xs (4 * k + 2))] h K) (kk : ∀ (h : Hp) (H : Heap) (locs : List Loc), K h → va_P D vwCl (wsH ad cy shp 79 h) H → va_S (AL s) s.heap H locs → W p l e room_1 s m #[Value.ref b] below meth c H locs 100 2000 Z (F0 m 922 ls [])) : W p l e room_1 s m #[Value.ref b] below meth c H locs 100 2000 Z (F0 m 234 ls []) := by
  obtain ⟨hx, hb, -⟩ := id C0
  refine lv_aload_n hx hb dl_234 rfl (lv_at hl 1 rfl) ?_
  refine law_ld C0 hS (lv_at hl 0 rfl) (lv_at hl 3 rfl) (k := 1) (by omega) hL (by decide) dl_235 dl_236 dl_237 dl_238 dl_239 ?_
  refine law_ld C0 hS (lv_at hl 0 rfl) (lv_at hl 3 rfl) (k := 2) (by omega) hL (by decide) dl_240 dl_241 dl_242 dl_243 dl_244 ?_
  refine law_callI C0 (y := m_X_king) (i := 0) (idx := 31) (As := [.int (xs (4 * k + 1)), .int (xs (4 * k + 2))]) (rest := []) (C := cd_X_king) (nL := 3) rfl ll_31 rfl rfl (ci := 6) rfl (by decide +kernel) (by decide) hE hP hS hl.1 (by simp [Value.category, cv]) dl_245 (fun v h1 H locs hq hP hS => ?_)
  refine lv_aload_n hx hb dl_248 rfl (lv_at hl 2 rfl) ?_
  refine law_ld C0 hS (lv_at hl 0 rfl) (lv_at hl 3 rfl) (k := 1) (by omega) hL (by decide) dl_249 dl_250 dl_251 dl_252 dl_253 ?_
  refine law_ld C0 hS (lv_at hl 0 rfl) (lv_at hl 3 rfl) (k := 2) (by omega) hL (by decide) dl_254 dl_255 dl_256 dl_257 dl_258 ?_
  refine law_callI C0 (y := m_M_king) (i := 46) (idx := 35) (As := [.int (xs (4 * k + 1)), .int (xs (4 * k + 2))]) (rest := [.int v]) (C := cd_M_king) (nL := 3) rfl ll_35 rfl rfl (ci := 7) rfl (by decide +kernel) (by decide) hq hP hS hl.1 (by simp [Value.category, cv]) dl_259 (fun w h2 H locs hq2 hP hS => ?_)
  refine lv_icmp_eq (tgt := 922) hx hb dl_262 (by decide) (fun _ => kk h2 H locs hq2.2 hP hS) (fun z => absurd hq2.1 z)
set_option maxRecDepth 20000 in
theorem law_c5 (C0 : LCx p s m c b L xs D ad cy) {H : Heap} {locs : List Loc} {ls : Array Slot} {k : Nat} (hi : 4 * k + 4 ≤ L) (hL : L ≤ 256) (hl : lv_has ls 4 [(0, .ref b), (1, .ref (ad 0)), (2, .ref (ad 46)), (3, .int (nI (4 * k)))]) {h : Hp} {K : Hp → Prop} (hP : va_P D vwCl (wsH ad cy shp 79 h) H) (hS : va_S (AL s) s.heap H locs) (hE : op2 m_X_as m_M_as [.int (xs (4 * k + 1)), .int (xs (4 * k + 2))] h K) (kk : ∀ (h : Hp) (H : Heap) (locs : List Loc), K h → va_P D vwCl (wsH ad cy shp 79 h) H → va_S (AL s) s.heap H locs → W p l e room_1 s m #[Value.ref b] below meth c H locs 100 2000 Z (F0 m 922 ls [])) : W p l e room_1 s m #[Value.ref b] below meth c H locs 100 2000 Z (F0 m 267 ls []) := by
  obtain ⟨hx, hb, -⟩ := id C0
  refine lv_aload_n hx hb dl_267 rfl (lv_at hl 1 rfl) ?_
  refine law_ld C0 hS (lv_at hl 0 rfl) (lv_at hl 3 rfl) (k := 1) (by omega) hL (by decide) dl_268 dl_269 dl_270 dl_271 dl_272 ?_
  refine law_ld C0 hS (lv_at hl 0 rfl) (lv_at hl 3 rfl) (k := 2) (by omega) hL (by decide) dl_273 dl_274 dl_275 dl_276 dl_277 ?_
  refine law_callI C0 (y := m_X_as) (i := 0) (idx := 36) (As := [.int (xs (4 * k + 1)), .int (xs (4 * k + 2))]) (rest := []) (C := cd_X_as) (nL := 5) rfl ll_36 rfl rfl (ci := 6) rfl (by decide +kernel) (by decide) hE hP hS hl.1 (by simp [Value.category, cv]) dl_278 (fun v h1 H locs hq hP hS => ?_)
  refine lv_aload_n hx hb dl_281 rfl (lv_at hl 2 rfl) ?_
  refine law_ld C0 hS (lv_at hl 0 rfl) (lv_at hl 3 rfl) (k := 1) (by omega) hL (by decide) dl_282 dl_283 dl_284 dl_285 dl_286 ?_
  refine law_ld C0 hS (lv_at hl 0 rfl) (lv_at hl 3 rfl) (k := 2) (by omega) hL (by decide) dl_287 dl_288 dl_289 dl_290 dl_291 ?_
  refine law_callI C0 (y := m_M_as) (i := 46) (idx := 39) (As := [.int (xs (4 * k + 1)), .int (xs (4 * k + 2))]) (rest := [.int v]) (C := cd_M_as) (nL := 4) rfl ll_39 rfl rfl (ci := 7) rfl (by decide +kernel) (by decide) hq hP hS hl.1 (by simp [Value.category, cv]) dl_292 (fun w h2 H locs hq2 hP hS => ?_)
  refine lv_icmp_eq (tgt := 922) hx hb dl_295 (by decide) (fun _ => kk h2 H locs hq2.2 hP hS) (fun z => absurd hq2.1 z)
set_option maxRecDepth 20000 in
theorem law_c6 (C0 : LCx p s m c b L xs D ad cy) {H : Heap} {locs : List Loc} {ls : Array Slot} {k : Nat} (hi : 4 * k + 4 ≤ L) (hL : L ≤ 256) (hl : lv_has ls 4 [(0, .ref b), (1, .ref (ad 0)), (2, .ref (ad 46)), (3, .int (nI (4 * k)))]) {h : Hp} {K : Hp → Prop} (hP : va_P D vwCl (wsH ad cy shp 79 h) H) (hS : va_S (AL s) s.heap H locs) (hE : op2 m_X_stocking m_M_stocking [.int (xs (4 * k + 1)), .int (xs (4 * k + 2))] h K) (kk : ∀ (h : Hp) (H : Heap) (locs : List Loc), K h → va_P D vwCl (wsH ad cy shp 79 h) H → va_S (AL s) s.heap H locs → W p l e room_1 s m #[Value.ref b] below meth c H locs 100 2000 Z (F0 m 922 ls [])) : W p l e room_1 s m #[Value.ref b] below meth c H locs 100 2000 Z (F0 m 300 ls []) := by
  obtain ⟨hx, hb, -⟩ := id C0
  refine lv_aload_n hx hb dl_300 rfl (lv_at hl 1 rfl) ?_
  refine law_ld C0 hS (lv_at hl 0 rfl) (lv_at hl 3 rfl) (k := 1) (by omega) hL (by decide) dl_301 dl_302 dl_303 dl_304 dl_305 ?_
  refine law_ld C0 hS (lv_at hl 0 rfl) (lv_at hl 3 rfl) (k := 2) (by omega) hL (by decide) dl_306 dl_307 dl_308 dl_309 dl_310 ?_
  refine law_callI C0 (y := m_X_stocking) (i := 0) (idx := 40) (As := [.int (xs (4 * k + 1)), .int (xs (4 * k + 2))]) (rest := []) (C := cd_X_stocking) (nL := 3) rfl ll_40 rfl rfl (ci := 6) rfl (by decide +kernel) (by decide) hE hP hS hl.1 (by simp [Value.category, cv]) dl_311 (fun v h1 H locs hq hP hS => ?_)
  refine lv_aload_n hx hb dl_314 rfl (lv_at hl 2 rfl) ?_
  refine law_ld C0 hS (lv_at hl 0 rfl) (lv_at hl 3 rfl) (k := 1) (by omega) hL (by decide) dl_315 dl_316 dl_317 dl_318 dl_319 ?_
  refine law_ld C0 hS (lv_at hl 0 rfl) (lv_at hl 3 rfl) (k := 2) (by omega) hL (by decide) dl_320 dl_321 dl_322 dl_323 dl_324 ?_
  refine law_callI C0 (y := m_M_stocking) (i := 46) (idx := 43) (As := [.int (xs (4 * k + 1)), .int (xs (4 * k + 2))]) (rest := [.int v]) (C := cd_M_stocking) (nL := 3) rfl ll_43 rfl rfl (ci := 7) rfl (by decide +kernel) (by decide) hq hP hS hl.1 (by simp [Value.category, cv]) dl_325 (fun w h2 H locs hq2 hP hS => ?_)
  refine lv_icmp_eq (tgt := 922) hx hb dl_328 (by decide) (fun _ => kk h2 H locs hq2.2 hP hS) (fun z => absurd hq2.1 z)
set_option maxRecDepth 20000 in
theorem law_c7 (C0 : LCx p s m c b L xs D ad cy) {H : Heap} {locs : List Loc} {ls : Array Slot} {k : Nat} (hi : 4 * k + 4 ≤ L) (hL : L ≤ 256) (hl : lv_has ls 4 [(0, .ref b), (1, .ref (ad 0)), (2, .ref (ad 46)), (3, .int (nI (4 * k)))]) {h : Hp} {K : Hp → Prop} (hP : va_P D vwCl (wsH ad cy shp 79 h) H) (hS : va_S (AL s) s.heap H locs) (hE : op2 m_X_wrong m_M_wrong [.int (xs (4 * k + 1)), .int (xs (4 * k + 2))] h K) (kk : ∀ (h : Hp) (H : Heap) (locs : List Loc), K h → va_P D vwCl (wsH ad cy shp 79 h) H → va_S (AL s) s.heap H locs → W p l e room_1 s m #[Value.ref b] below meth c H locs 100 2000 Z (F0 m 922 ls [])) : W p l e room_1 s m #[Value.ref b] below meth c H locs 100 2000 Z (F0 m 333 ls []) := by
  obtain ⟨hx, hb, -⟩ := id C0
  refine lv_aload_n hx hb dl_333 rfl (lv_at hl 1 rfl) ?_
  refine law_ld C0 hS (lv_at hl 0 rfl) (lv_at hl 3 rfl) (k := 1) (by omega) hL (by decide) dl_334 dl_335 dl_336 dl_337 dl_338 ?_
  refine law_ld C0 hS (lv_at hl 0 rfl) (lv_at hl 3 rfl) (k := 2) (by omega) hL (by decide) dl_339 dl_340 dl_341 dl_342 dl_343 ?_
  refine law_callI C0 (y := m_X_wrong) (i := 0) (idx := 44) (As := [.int (xs (4 * k + 1)), .int (xs (4 * k + 2))]) (rest := []) (C := cd_X_wrong) (nL := 3) rfl ll_44 rfl rfl (ci := 6) rfl (by decide +kernel) (by decide) hE hP hS hl.1 (by simp [Value.category, cv]) dl_344 (fun v h1 H locs hq hP hS => ?_)
  refine lv_aload_n hx hb dl_347 rfl (lv_at hl 2 rfl) ?_
  refine law_ld C0 hS (lv_at hl 0 rfl) (lv_at hl 3 rfl) (k := 1) (by omega) hL (by decide) dl_348 dl_349 dl_350 dl_351 dl_352 ?_
  refine law_ld C0 hS (lv_at hl 0 rfl) (lv_at hl 3 rfl) (k := 2) (by omega) hL (by decide) dl_353 dl_354 dl_355 dl_356 dl_357 ?_
  refine law_callI C0 (y := m_M_wrong) (i := 46) (idx := 47) (As := [.int (xs (4 * k + 1)), .int (xs (4 * k + 2))]) (rest := [.int v]) (C := cd_M_wrong) (nL := 3) rfl ll_47 rfl rfl (ci := 7) rfl (by decide +kernel) (by decide) hq hP hS hl.1 (by simp [Value.category, cv]) dl_358 (fun w h2 H locs hq2 hP hS => ?_)
  refine lv_icmp_eq (tgt := 922) hx hb dl_361 (by decide) (fun _ => kk h2 H locs hq2.2 hP hS) (fun z => absurd hq2.1 z)
set_option maxRecDepth 20000 in
theorem law_c8 (C0 : LCx p s m c b L xs D ad cy) {H : Heap} {locs : List Loc} {ls : Array Slot} {k : Nat} (hi : 4 * k + 4 ≤ L) (hL : L ≤ 256) (hl : lv_has ls 4 [(0, .ref b), (1, .ref (ad 0)), (2, .ref (ad 46)), (3, .int (nI (4 * k)))]) {h : Hp} {K : Hp → Prop} (hP : va_P D vwCl (wsH ad cy shp 79 h) H) (hS : va_S (AL s) s.heap H locs) (hE : op2 m_X_peg m_M_peg [.int (xs (4 * k + 1))] h K) (kk : ∀ (h : Hp) (H : Heap) (locs : List Loc), K h → va_P D vwCl (wsH ad cy shp 79 h) H → va_S (AL s) s.heap H locs → W p l e room_1 s m #[Value.ref b] below meth c H locs 100 2000 Z (F0 m 922 ls [])) : W p l e room_1 s m #[Value.ref b] below meth c H locs 100 2000 Z (F0 m 366 ls []) := by
  obtain ⟨hx, hb, -⟩ := id C0
  refine lv_aload_n hx hb dl_366 rfl (lv_at hl 1 rfl) ?_
  refine law_ld C0 hS (lv_at hl 0 rfl) (lv_at hl 3 rfl) (k := 1) (by omega) hL (by decide) dl_367 dl_368 dl_369 dl_370 dl_371 ?_
  refine law_callI C0 (y := m_X_peg) (i := 0) (idx := 48) (As := [.int (xs (4 * k + 1))]) (rest := []) (C := cd_X_peg) (nL := 2) rfl ll_48 rfl rfl (ci := 6) rfl (by decide +kernel) (by decide) hE hP hS hl.1 (by simp [Value.category, cv]) dl_372 (fun v h1 H locs hq hP hS => ?_)
  refine lv_aload_n hx hb dl_375 rfl (lv_at hl 2 rfl) ?_
  refine law_ld C0 hS (lv_at hl 0 rfl) (lv_at hl 3 rfl) (k := 1) (by omega) hL (by decide) dl_376 dl_377 dl_378 dl_379 dl_380 ?_
  refine law_callI C0 (y := m_M_peg) (i := 46) (idx := 51) (As := [.int (xs (4 * k + 1))]) (rest := [.int v]) (C := cd_M_peg) (nL := 2) rfl ll_51 rfl rfl (ci := 7) rfl (by decide +kernel) (by decide) hq hP hS hl.1 (by simp [Value.category, cv]) dl_381 (fun w h2 H locs hq2 hP hS => ?_)
  refine lv_icmp_eq (tgt := 922) hx hb dl_384 (by decide) (fun _ => kk h2 H locs hq2.2 hP hS) (fun z => absurd hq2.1 z)
set_option maxRecDepth 20000 in
theorem law_c9 (C0 : LCx p s m c b L xs D ad cy) {H : Heap} {locs : List Loc} {ls : Array Slot} {k : Nat} (hi : 4 * k + 4 ≤ L) (hL : L ≤ 256) (hl : lv_has ls 4 [(0, .ref b), (1, .ref (ad 0)), (2, .ref (ad 46)), (3, .int (nI (4 * k)))]) {h : Hp} {K : Hp → Prop} (hP : va_P D vwCl (wsH ad cy shp 79 h) H) (hS : va_S (AL s) s.heap H locs) (hE : op2 m_X_wash m_M_wash [] h K) (kk : ∀ (h : Hp) (H : Heap) (locs : List Loc), K h → va_P D vwCl (wsH ad cy shp 79 h) H → va_S (AL s) s.heap H locs → W p l e room_1 s m #[Value.ref b] below meth c H locs 100 2000 Z (F0 m 922 ls [])) : W p l e room_1 s m #[Value.ref b] below meth c H locs 100 2000 Z (F0 m 389 ls []) := by
  obtain ⟨hx, hb, -⟩ := id C0
  refine lv_aload_n hx hb dl_389 rfl (lv_at hl 1 rfl) ?_
  refine law_callI C0 (y := m_X_wash) (i := 0) (idx := 52) (As := []) (rest := []) (C := cd_X_wash) (nL := 1) rfl ll_52 rfl rfl (ci := 6) rfl (by decide +kernel) (by decide) hE hP hS hl.1 (by simp [Value.category, cv]) dl_390 (fun v h1 H locs hq hP hS => ?_)
  refine lv_aload_n hx hb dl_393 rfl (lv_at hl 2 rfl) ?_
  refine law_callI C0 (y := m_M_wash) (i := 46) (idx := 55) (As := []) (rest := [.int v]) (C := cd_M_wash) (nL := 1) rfl ll_55 rfl rfl (ci := 7) rfl (by decide +kernel) (by decide) hq hP hS hl.1 (by simp [Value.category, cv]) dl_394 (fun w h2 H locs hq2 hP hS => ?_)
  refine lv_icmp_eq (tgt := 922) hx hb dl_397 (by decide) (fun _ => kk h2 H locs hq2.2 hP hS) (fun z => absurd hq2.1 z)
set_option maxRecDepth 20000 in
theorem law_c10 (C0 : LCx p s m c b L xs D ad cy) {H : Heap} {locs : List Loc} {ls : Array Slot} {k : Nat} (hi : 4 * k + 4 ≤ L) (hL : L ≤ 256) (hl : lv_has ls 4 [(0, .ref b), (1, .ref (ad 0)), (2, .ref (ad 46)), (3, .int (nI (4 * k)))]) {h : Hp} {K : Hp → Prop} (hP : va_P D vwCl (wsH ad cy shp 79 h) H) (hS : va_S (AL s) s.heap H locs) (hE : op2 m_X_starch m_M_starch [.int (xs (4 * k + 1)), .int (xs (4 * k + 2))] h K) (kk : ∀ (h : Hp) (H : Heap) (locs : List Loc), K h → va_P D vwCl (wsH ad cy shp 79 h) H → va_S (AL s) s.heap H locs → W p l e room_1 s m #[Value.ref b] below meth c H locs 100 2000 Z (F0 m 922 ls [])) : W p l e room_1 s m #[Value.ref b] below meth c H locs 100 2000 Z (F0 m 402 ls []) := by
  obtain ⟨hx, hb, -⟩ := id C0
  refine lv_aload_n hx hb dl_402 rfl (lv_at hl 1 rfl) ?_
  refine law_ld C0 hS (lv_at hl 0 rfl) (lv_at hl 3 rfl) (k := 1) (by omega) hL (by decide) dl_403 dl_404 dl_405 dl_406 dl_407 ?_
  refine law_ld C0 hS (lv_at hl 0 rfl) (lv_at hl 3 rfl) (k := 2) (by omega) hL (by decide) dl_408 dl_409 dl_410 dl_411 dl_412 ?_
  refine law_callI C0 (y := m_X_starch) (i := 0) (idx := 56) (As := [.int (xs (4 * k + 1)), .int (xs (4 * k + 2))]) (rest := []) (C := cd_X_starch) (nL := 4) rfl ll_56 rfl rfl (ci := 6) rfl (by decide +kernel) (by decide) hE hP hS hl.1 (by simp [Value.category, cv]) dl_413 (fun v h1 H locs hq hP hS => ?_)
  refine lv_aload_n hx hb dl_416 rfl (lv_at hl 2 rfl) ?_
  refine law_ld C0 hS (lv_at hl 0 rfl) (lv_at hl 3 rfl) (k := 1) (by omega) hL (by decide) dl_417 dl_418 dl_419 dl_420 dl_421 ?_
  refine law_ld C0 hS (lv_at hl 0 rfl) (lv_at hl 3 rfl) (k := 2) (by omega) hL (by decide) dl_422 dl_423 dl_424 dl_425 dl_426 ?_
  refine law_callI C0 (y := m_M_starch) (i := 46) (idx := 59) (As := [.int (xs (4 * k + 1)), .int (xs (4 * k + 2))]) (rest := [.int v]) (C := cd_M_starch) (nL := 4) rfl ll_59 rfl rfl (ci := 7) rfl (by decide +kernel) (by decide) hq hP hS hl.1 (by simp [Value.category, cv]) dl_427 (fun w h2 H locs hq2 hP hS => ?_)
  refine lv_icmp_eq (tgt := 922) hx hb dl_430 (by decide) (fun _ => kk h2 H locs hq2.2 hP hS) (fun z => absurd hq2.1 z)
set_option maxRecDepth 20000 in
theorem law_c11 (C0 : LCx p s m c b L xs D ad cy) {H : Heap} {locs : List Loc} {ls : Array Slot} {k : Nat} (hi : 4 * k + 4 ≤ L) (hL : L ≤ 256) (hl : lv_has ls 4 [(0, .ref b), (1, .ref (ad 0)), (2, .ref (ad 46)), (3, .int (nI (4 * k)))]) {h : Hp} {K : Hp → Prop} (hP : va_P D vwCl (wsH ad cy shp 79 h) H) (hS : va_S (AL s) s.heap H locs) (hE : op2 m_X_darn m_M_darn [.int (xs (4 * k + 1))] h K) (kk : ∀ (h : Hp) (H : Heap) (locs : List Loc), K h → va_P D vwCl (wsH ad cy shp 79 h) H → va_S (AL s) s.heap H locs → W p l e room_1 s m #[Value.ref b] below meth c H locs 100 2000 Z (F0 m 922 ls [])) : W p l e room_1 s m #[Value.ref b] below meth c H locs 100 2000 Z (F0 m 435 ls []) := by
  obtain ⟨hx, hb, -⟩ := id C0
  refine lv_aload_n hx hb dl_435 rfl (lv_at hl 1 rfl) ?_
  refine law_ld C0 hS (lv_at hl 0 rfl) (lv_at hl 3 rfl) (k := 1) (by omega) hL (by decide) dl_436 dl_437 dl_438 dl_439 dl_440 ?_
  refine law_callI C0 (y := m_X_darn) (i := 0) (idx := 60) (As := [.int (xs (4 * k + 1))]) (rest := []) (C := cd_X_darn) (nL := 3) rfl ll_60 rfl rfl (ci := 6) rfl (by decide +kernel) (by decide) hE hP hS hl.1 (by simp [Value.category, cv]) dl_441 (fun v h1 H locs hq hP hS => ?_)
  refine lv_aload_n hx hb dl_444 rfl (lv_at hl 2 rfl) ?_
  refine law_ld C0 hS (lv_at hl 0 rfl) (lv_at hl 3 rfl) (k := 1) (by omega) hL (by decide) dl_445 dl_446 dl_447 dl_448 dl_449 ?_
  refine law_callI C0 (y := m_M_darn) (i := 46) (idx := 63) (As := [.int (xs (4 * k + 1))]) (rest := [.int v]) (C := cd_M_darn) (nL := 3) rfl ll_63 rfl rfl (ci := 7) rfl (by decide +kernel) (by decide) hq hP hS hl.1 (by simp [Value.category, cv]) dl_450 (fun w h2 H locs hq2 hP hS => ?_)
  refine lv_icmp_eq (tgt := 922) hx hb dl_453 (by decide) (fun _ => kk h2 H locs hq2.2 hP hS) (fun z => absurd hq2.1 z)
set_option maxRecDepth 20000 in
theorem law_c12 (C0 : LCx p s m c b L xs D ad cy) {H : Heap} {locs : List Loc} {ls : Array Slot} {k : Nat} (hi : 4 * k + 4 ≤ L) (hL : L ≤ 256) (hl : lv_has ls 4 [(0, .ref b), (1, .ref (ad 0)), (2, .ref (ad 46)), (3, .int (nI (4 * k)))]) {h : Hp} {K : Hp → Prop} (hP : va_P D vwCl (wsH ad cy shp 79 h) H) (hS : va_S (AL s) s.heap H locs) (hE : op2 m_X_wind m_M_wind [.int (xs (4 * k + 1))] h K) (kk : ∀ (h : Hp) (H : Heap) (locs : List Loc), K h → va_P D vwCl (wsH ad cy shp 79 h) H → va_S (AL s) s.heap H locs → W p l e room_1 s m #[Value.ref b] below meth c H locs 100 2000 Z (F0 m 922 ls [])) : W p l e room_1 s m #[Value.ref b] below meth c H locs 100 2000 Z (F0 m 458 ls []) := by
  obtain ⟨hx, hb, -⟩ := id C0
  refine lv_aload_n hx hb dl_458 rfl (lv_at hl 1 rfl) ?_
  refine law_ld C0 hS (lv_at hl 0 rfl) (lv_at hl 3 rfl) (k := 1) (by omega) hL (by decide) dl_459 dl_460 dl_461 dl_462 dl_463 ?_
  refine law_callI C0 (y := m_X_wind) (i := 0) (idx := 64) (As := [.int (xs (4 * k + 1))]) (rest := []) (C := cd_X_wind) (nL := 3) rfl ll_64 rfl rfl (ci := 6) rfl (by decide +kernel) (by decide) hE hP hS hl.1 (by simp [Value.category, cv]) dl_464 (fun v h1 H locs hq hP hS => ?_)
  refine lv_aload_n hx hb dl_467 rfl (lv_at hl 2 rfl) ?_
  refine law_ld C0 hS (lv_at hl 0 rfl) (lv_at hl 3 rfl) (k := 1) (by omega) hL (by decide) dl_468 dl_469 dl_470 dl_471 dl_472 ?_
  refine law_callI C0 (y := m_M_wind) (i := 46) (idx := 67) (As := [.int (xs (4 * k + 1))]) (rest := [.int v]) (C := cd_M_wind) (nL := 3) rfl ll_67 rfl rfl (ci := 7) rfl (by decide +kernel) (by decide) hq hP hS hl.1 (by simp [Value.category, cv]) dl_473 (fun w h2 H locs hq2 hP hS => ?_)
  refine lv_icmp_eq (tgt := 922) hx hb dl_476 (by decide) (fun _ => kk h2 H locs hq2.2 hP hS) (fun z => absurd hq2.1 z)
set_option maxRecDepth 20000 in
theorem law_c13 (C0 : LCx p s m c b L xs D ad cy) {H : Heap} {locs : List Loc} {ls : Array Slot} {k : Nat} (hi : 4 * k + 4 ≤ L) (hL : L ≤ 256) (hl : lv_has ls 4 [(0, .ref b), (1, .ref (ad 0)), (2, .ref (ad 46)), (3, .int (nI (4 * k)))]) {h : Hp} {K : Hp → Prop} (hP : va_P D vwCl (wsH ad cy shp 79 h) H) (hS : va_S (AL s) s.heap H locs) (hE : op2 m_X_pin m_M_pin [.int (xs (4 * k + 1)), .int (xs (4 * k + 2))] h K) (kk : ∀ (h : Hp) (H : Heap) (locs : List Loc), K h → va_P D vwCl (wsH ad cy shp 79 h) H → va_S (AL s) s.heap H locs → W p l e room_1 s m #[Value.ref b] below meth c H locs 100 2000 Z (F0 m 922 ls [])) : W p l e room_1 s m #[Value.ref b] below meth c H locs 100 2000 Z (F0 m 481 ls []) := by
  obtain ⟨hx, hb, -⟩ := id C0
  refine lv_aload_n hx hb dl_481 rfl (lv_at hl 1 rfl) ?_
  refine law_ld C0 hS (lv_at hl 0 rfl) (lv_at hl 3 rfl) (k := 1) (by omega) hL (by decide) dl_482 dl_483 dl_484 dl_485 dl_486 ?_
  refine law_ld C0 hS (lv_at hl 0 rfl) (lv_at hl 3 rfl) (k := 2) (by omega) hL (by decide) dl_487 dl_488 dl_489 dl_490 dl_491 ?_
  refine law_callI C0 (y := m_X_pin) (i := 0) (idx := 68) (As := [.int (xs (4 * k + 1)), .int (xs (4 * k + 2))]) (rest := []) (C := cd_X_pin) (nL := 4) rfl ll_68 rfl rfl (ci := 6) rfl (by decide +kernel) (by decide) hE hP hS hl.1 (by simp [Value.category, cv]) dl_492 (fun v h1 H locs hq hP hS => ?_)
  refine lv_aload_n hx hb dl_495 rfl (lv_at hl 2 rfl) ?_
  refine law_ld C0 hS (lv_at hl 0 rfl) (lv_at hl 3 rfl) (k := 1) (by omega) hL (by decide) dl_496 dl_497 dl_498 dl_499 dl_500 ?_
  refine law_ld C0 hS (lv_at hl 0 rfl) (lv_at hl 3 rfl) (k := 2) (by omega) hL (by decide) dl_501 dl_502 dl_503 dl_504 dl_505 ?_
  refine law_callI C0 (y := m_M_pin) (i := 46) (idx := 71) (As := [.int (xs (4 * k + 1)), .int (xs (4 * k + 2))]) (rest := [.int v]) (C := cd_M_pin) (nL := 4) rfl ll_71 rfl rfl (ci := 7) rfl (by decide +kernel) (by decide) hq hP hS hl.1 (by simp [Value.category, cv]) dl_506 (fun w h2 H locs hq2 hP hS => ?_)
  refine lv_icmp_eq (tgt := 922) hx hb dl_509 (by decide) (fun _ => kk h2 H locs hq2.2 hP hS) (fun z => absurd hq2.1 z)
set_option maxRecDepth 20000 in
theorem law_c14 (C0 : LCx p s m c b L xs D ad cy) {H : Heap} {locs : List Loc} {ls : Array Slot} {k : Nat} (hi : 4 * k + 4 ≤ L) (hL : L ≤ 256) (hl : lv_has ls 4 [(0, .ref b), (1, .ref (ad 0)), (2, .ref (ad 46)), (3, .int (nI (4 * k)))]) {h : Hp} {K : Hp → Prop} (hP : va_P D vwCl (wsH ad cy shp 79 h) H) (hS : va_S (AL s) s.heap H locs) (hE : op2 m_X_drop m_M_drop [.int (xs (4 * k + 1))] h K) (kk : ∀ (h : Hp) (H : Heap) (locs : List Loc), K h → va_P D vwCl (wsH ad cy shp 79 h) H → va_S (AL s) s.heap H locs → W p l e room_1 s m #[Value.ref b] below meth c H locs 100 2000 Z (F0 m 922 ls [])) : W p l e room_1 s m #[Value.ref b] below meth c H locs 100 2000 Z (F0 m 514 ls []) := by
  obtain ⟨hx, hb, -⟩ := id C0
  refine lv_aload_n hx hb dl_514 rfl (lv_at hl 1 rfl) ?_
  refine law_ld C0 hS (lv_at hl 0 rfl) (lv_at hl 3 rfl) (k := 1) (by omega) hL (by decide) dl_515 dl_516 dl_517 dl_518 dl_519 ?_
  refine law_callI C0 (y := m_X_drop) (i := 0) (idx := 72) (As := [.int (xs (4 * k + 1))]) (rest := []) (C := cd_X_drop) (nL := 3) rfl ll_72 rfl rfl (ci := 6) rfl (by decide +kernel) (by decide) hE hP hS hl.1 (by simp [Value.category, cv]) dl_520 (fun v h1 H locs hq hP hS => ?_)
  refine lv_aload_n hx hb dl_523 rfl (lv_at hl 2 rfl) ?_
  refine law_ld C0 hS (lv_at hl 0 rfl) (lv_at hl 3 rfl) (k := 1) (by omega) hL (by decide) dl_524 dl_525 dl_526 dl_527 dl_528 ?_
  refine law_callI C0 (y := m_M_drop) (i := 46) (idx := 75) (As := [.int (xs (4 * k + 1))]) (rest := [.int v]) (C := cd_M_drop) (nL := 3) rfl ll_75 rfl rfl (ci := 7) rfl (by decide +kernel) (by decide) hq hP hS hl.1 (by simp [Value.category, cv]) dl_529 (fun w h2 H locs hq2 hP hS => ?_)
  refine lv_icmp_eq (tgt := 922) hx hb dl_532 (by decide) (fun _ => kk h2 H locs hq2.2 hP hS) (fun z => absurd hq2.1 z)
set_option maxRecDepth 20000 in
theorem law_c15 (C0 : LCx p s m c b L xs D ad cy) {H : Heap} {locs : List Loc} {ls : Array Slot} {k : Nat} (hi : 4 * k + 4 ≤ L) (hL : L ≤ 256) (hl : lv_has ls 4 [(0, .ref b), (1, .ref (ad 0)), (2, .ref (ad 46)), (3, .int (nI (4 * k)))]) {h : Hp} {K : Hp → Prop} (hP : va_P D vwCl (wsH ad cy shp 79 h) H) (hS : va_S (AL s) s.heap H locs) (hE : op2 m_X_throne m_M_throne [.int (xs (4 * k + 1))] h K) (kk : ∀ (h : Hp) (H : Heap) (locs : List Loc), K h → va_P D vwCl (wsH ad cy shp 79 h) H → va_S (AL s) s.heap H locs → W p l e room_1 s m #[Value.ref b] below meth c H locs 100 2000 Z (F0 m 922 ls [])) : W p l e room_1 s m #[Value.ref b] below meth c H locs 100 2000 Z (F0 m 537 ls []) := by
  obtain ⟨hx, hb, -⟩ := id C0
  refine lv_aload_n hx hb dl_537 rfl (lv_at hl 1 rfl) ?_
  refine law_ld C0 hS (lv_at hl 0 rfl) (lv_at hl 3 rfl) (k := 1) (by omega) hL (by decide) dl_538 dl_539 dl_540 dl_541 dl_542 ?_
  refine law_callI C0 (y := m_X_throne) (i := 0) (idx := 76) (As := [.int (xs (4 * k + 1))]) (rest := []) (C := cd_X_throne) (nL := 4) rfl ll_76 rfl rfl (ci := 6) rfl (by decide +kernel) (by decide) hE hP hS hl.1 (by simp [Value.category, cv]) dl_543 (fun v h1 H locs hq hP hS => ?_)
  refine lv_aload_n hx hb dl_546 rfl (lv_at hl 2 rfl) ?_
  refine law_ld C0 hS (lv_at hl 0 rfl) (lv_at hl 3 rfl) (k := 1) (by omega) hL (by decide) dl_547 dl_548 dl_549 dl_550 dl_551 ?_
  refine law_callI C0 (y := m_M_throne) (i := 46) (idx := 79) (As := [.int (xs (4 * k + 1))]) (rest := [.int v]) (C := cd_M_throne) (nL := 2) rfl ll_79 rfl rfl (ci := 7) rfl (by decide +kernel) (by decide) hq hP hS hl.1 (by simp [Value.category, cv]) dl_552 (fun w h2 H locs hq2 hP hS => ?_)
  refine lv_icmp_eq (tgt := 922) hx hb dl_555 (by decide) (fun _ => kk h2 H locs hq2.2 hP hS) (fun z => absurd hq2.1 z)
set_option maxRecDepth 20000 in
theorem law_c16 (C0 : LCx p s m c b L xs D ad cy) {H : Heap} {locs : List Loc} {ls : Array Slot} {k : Nat} (hi : 4 * k + 4 ≤ L) (hL : L ≤ 256) (hl : lv_has ls 4 [(0, .ref b), (1, .ref (ad 0)), (2, .ref (ad 46)), (3, .int (nI (4 * k)))]) {h : Hp} {K : Hp → Prop} (hP : va_P D vwCl (wsH ad cy shp 79 h) H) (hS : va_S (AL s) s.heap H locs) (hE : op2 m_X_match m_M_match [.int (xs (4 * k + 1))] h K) (kk : ∀ (h : Hp) (H : Heap) (locs : List Loc), K h → va_P D vwCl (wsH ad cy shp 79 h) H → va_S (AL s) s.heap H locs → W p l e room_1 s m #[Value.ref b] below meth c H locs 100 2000 Z (F0 m 922 ls [])) : W p l e room_1 s m #[Value.ref b] below meth c H locs 100 2000 Z (F0 m 560 ls []) := by
  obtain ⟨hx, hb, -⟩ := id C0
  refine lv_aload_n hx hb dl_560 rfl (lv_at hl 1 rfl) ?_
  refine law_ld C0 hS (lv_at hl 0 rfl) (lv_at hl 3 rfl) (k := 1) (by omega) hL (by decide) dl_561 dl_562 dl_563 dl_564 dl_565 ?_
  refine law_callI C0 (y := m_X_match) (i := 0) (idx := 80) (As := [.int (xs (4 * k + 1))]) (rest := []) (C := cd_X_match) (nL := 3) rfl ll_80 rfl rfl (ci := 6) rfl (by decide +kernel) (by decide) hE hP hS hl.1 (by simp [Value.category, cv]) dl_566 (fun v h1 H locs hq hP hS => ?_)
  refine lv_aload_n hx hb dl_569 rfl (lv_at hl 2 rfl) ?_
  refine law_ld C0 hS (lv_at hl 0 rfl) (lv_at hl 3 rfl) (k := 1) (by omega) hL (by decide) dl_570 dl_571 dl_572 dl_573 dl_574 ?_
  refine law_callI C0 (y := m_M_match) (i := 46) (idx := 83) (As := [.int (xs (4 * k + 1))]) (rest := [.int v]) (C := cd_M_match) (nL := 2) rfl ll_83 rfl rfl (ci := 7) rfl (by decide +kernel) (by decide) hq hP hS hl.1 (by simp [Value.category, cv]) dl_575 (fun w h2 H locs hq2 hP hS => ?_)
  refine lv_icmp_eq (tgt := 922) hx hb dl_578 (by decide) (fun _ => kk h2 H locs hq2.2 hP hS) (fun z => absurd hq2.1 z)
set_option maxRecDepth 20000 in
theorem law_c17 (C0 : LCx p s m c b L xs D ad cy) {H : Heap} {locs : List Loc} {ls : Array Slot} {k : Nat} (hi : 4 * k + 4 ≤ L) (hL : L ≤ 256) (hl : lv_has ls 4 [(0, .ref b), (1, .ref (ad 0)), (2, .ref (ad 46)), (3, .int (nI (4 * k)))]) {h : Hp} {K : Hp → Prop} (hP : va_P D vwCl (wsH ad cy shp 79 h) H) (hS : va_S (AL s) s.heap H locs) (hE : op2 m_X_chance m_M_chance [.int (xs (4 * k + 1)), .int (xs (4 * k + 2))] h K) (kk : ∀ (h : Hp) (H : Heap) (locs : List Loc), K h → va_P D vwCl (wsH ad cy shp 79 h) H → va_S (AL s) s.heap H locs → W p l e room_1 s m #[Value.ref b] below meth c H locs 100 2000 Z (F0 m 922 ls [])) : W p l e room_1 s m #[Value.ref b] below meth c H locs 100 2000 Z (F0 m 583 ls []) := by
  obtain ⟨hx, hb, -⟩ := id C0
  refine lv_aload_n hx hb dl_583 rfl (lv_at hl 1 rfl) ?_
  refine law_ld C0 hS (lv_at hl 0 rfl) (lv_at hl 3 rfl) (k := 1) (by omega) hL (by decide) dl_584 dl_585 dl_586 dl_587 dl_588 ?_
  refine law_ld C0 hS (lv_at hl 0 rfl) (lv_at hl 3 rfl) (k := 2) (by omega) hL (by decide) dl_589 dl_590 dl_591 dl_592 dl_593 ?_
  refine law_callI C0 (y := m_X_chance) (i := 0) (idx := 84) (As := [.int (xs (4 * k + 1)), .int (xs (4 * k + 2))]) (rest := []) (C := cd_X_chance) (nL := 6) rfl ll_84 rfl rfl (ci := 6) rfl (by decide +kernel) (by decide) hE hP hS hl.1 (by simp [Value.category, cv]) dl_594 (fun v h1 H locs hq hP hS => ?_)
  refine lv_aload_n hx hb dl_597 rfl (lv_at hl 2 rfl) ?_
  refine law_ld C0 hS (lv_at hl 0 rfl) (lv_at hl 3 rfl) (k := 1) (by omega) hL (by decide) dl_598 dl_599 dl_600 dl_601 dl_602 ?_
  refine law_ld C0 hS (lv_at hl 0 rfl) (lv_at hl 3 rfl) (k := 2) (by omega) hL (by decide) dl_603 dl_604 dl_605 dl_606 dl_607 ?_
  refine law_callI C0 (y := m_M_chance) (i := 46) (idx := 87) (As := [.int (xs (4 * k + 1)), .int (xs (4 * k + 2))]) (rest := [.int v]) (C := cd_M_chance) (nL := 3) rfl ll_87 rfl rfl (ci := 7) rfl (by decide +kernel) (by decide) hq hP hS hl.1 (by simp [Value.category, cv]) dl_608 (fun w h2 H locs hq2 hP hS => ?_)
  refine lv_icmp_eq (tgt := 922) hx hb dl_611 (by decide) (fun _ => kk h2 H locs hq2.2 hP hS) (fun z => absurd hq2.1 z)
set_option maxRecDepth 20000 in
theorem law_c18 (C0 : LCx p s m c b L xs D ad cy) {H : Heap} {locs : List Loc} {ls : Array Slot} {k : Nat} (hi : 4 * k + 4 ≤ L) (hL : L ≤ 256) (hl : lv_has ls 4 [(0, .ref b), (1, .ref (ad 0)), (2, .ref (ad 46)), (3, .int (nI (4 * k)))]) {h : Hp} {K : Hp → Prop} (hP : va_P D vwCl (wsH ad cy shp 79 h) H) (hS : va_S (AL s) s.heap H locs) (hE : op2 m_X_dog m_M_dog [.int (xs (4 * k + 1))] h K) (kk : ∀ (h : Hp) (H : Heap) (locs : List Loc), K h → va_P D vwCl (wsH ad cy shp 79 h) H → va_S (AL s) s.heap H locs → W p l e room_1 s m #[Value.ref b] below meth c H locs 100 2000 Z (F0 m 922 ls [])) : W p l e room_1 s m #[Value.ref b] below meth c H locs 100 2000 Z (F0 m 616 ls []) := by
  obtain ⟨hx, hb, -⟩ := id C0
  refine lv_aload_n hx hb dl_616 rfl (lv_at hl 1 rfl) ?_
  refine law_ld C0 hS (lv_at hl 0 rfl) (lv_at hl 3 rfl) (k := 1) (by omega) hL (by decide) dl_617 dl_618 dl_619 dl_620 dl_621 ?_
  refine law_callI C0 (y := m_X_dog) (i := 0) (idx := 88) (As := [.int (xs (4 * k + 1))]) (rest := []) (C := cd_X_dog) (nL := 3) rfl ll_88 rfl rfl (ci := 6) rfl (by decide +kernel) (by decide) hE hP hS hl.1 (by simp [Value.category, cv]) dl_622 (fun v h1 H locs hq hP hS => ?_)
  refine lv_aload_n hx hb dl_625 rfl (lv_at hl 2 rfl) ?_
  refine law_ld C0 hS (lv_at hl 0 rfl) (lv_at hl 3 rfl) (k := 1) (by omega) hL (by decide) dl_626 dl_627 dl_628 dl_629 dl_630 ?_
  refine law_callI C0 (y := m_M_dog) (i := 46) (idx := 91) (As := [.int (xs (4 * k + 1))]) (rest := [.int v]) (C := cd_M_dog) (nL := 2) rfl ll_91 rfl rfl (ci := 7) rfl (by decide +kernel) (by decide) hq hP hS hl.1 (by simp [Value.category, cv]) dl_631 (fun w h2 H locs hq2 hP hS => ?_)
  refine lv_icmp_eq (tgt := 922) hx hb dl_634 (by decide) (fun _ => kk h2 H locs hq2.2 hP hS) (fun z => absurd hq2.1 z)
set_option maxRecDepth 20000 in
theorem law_c19 (C0 : LCx p s m c b L xs D ad cy) {H : Heap} {locs : List Loc} {ls : Array Slot} {k : Nat} (hi : 4 * k + 4 ≤ L) (hL : L ≤ 256) (hl : lv_has ls 4 [(0, .ref b), (1, .ref (ad 0)), (2, .ref (ad 46)), (3, .int (nI (4 * k)))]) {h : Hp} {K : Hp → Prop} (hP : va_P D vwCl (wsH ad cy shp 79 h) H) (hS : va_S (AL s) s.heap H locs) (hE : op2 m_X_coup m_M_coup [.int (xs (4 * k + 1))] h K) (kk : ∀ (h : Hp) (H : Heap) (locs : List Loc), K h → va_P D vwCl (wsH ad cy shp 79 h) H → va_S (AL s) s.heap H locs → W p l e room_1 s m #[Value.ref b] below meth c H locs 100 2000 Z (F0 m 922 ls [])) : W p l e room_1 s m #[Value.ref b] below meth c H locs 100 2000 Z (F0 m 639 ls []) := by
  obtain ⟨hx, hb, -⟩ := id C0
  refine lv_aload_n hx hb dl_639 rfl (lv_at hl 1 rfl) ?_
  refine law_ld C0 hS (lv_at hl 0 rfl) (lv_at hl 3 rfl) (k := 1) (by omega) hL (by decide) dl_640 dl_641 dl_642 dl_643 dl_644 ?_
  refine law_callI C0 (y := m_X_coup) (i := 0) (idx := 92) (As := [.int (xs (4 * k + 1))]) (rest := []) (C := cd_X_coup) (nL := 4) rfl ll_92 rfl rfl (ci := 6) rfl (by decide +kernel) (by decide) hE hP hS hl.1 (by simp [Value.category, cv]) dl_645 (fun v h1 H locs hq hP hS => ?_)
  refine lv_aload_n hx hb dl_648 rfl (lv_at hl 2 rfl) ?_
  refine law_ld C0 hS (lv_at hl 0 rfl) (lv_at hl 3 rfl) (k := 1) (by omega) hL (by decide) dl_649 dl_650 dl_651 dl_652 dl_653 ?_
  refine law_callI C0 (y := m_M_coup) (i := 46) (idx := 95) (As := [.int (xs (4 * k + 1))]) (rest := [.int v]) (C := cd_M_coup) (nL := 2) rfl ll_95 rfl rfl (ci := 7) rfl (by decide +kernel) (by decide) hq hP hS hl.1 (by simp [Value.category, cv]) dl_654 (fun w h2 H locs hq2 hP hS => ?_)
  refine lv_icmp_eq (tgt := 922) hx hb dl_657 (by decide) (fun _ => kk h2 H locs hq2.2 hP hS) (fun z => absurd hq2.1 z)
set_option maxRecDepth 20000 in
theorem law_c20 (C0 : LCx p s m c b L xs D ad cy) {H : Heap} {locs : List Loc} {ls : Array Slot} {k : Nat} (hi : 4 * k + 4 ≤ L) (hL : L ≤ 256) (hl : lv_has ls 4 [(0, .ref b), (1, .ref (ad 0)), (2, .ref (ad 46)), (3, .int (nI (4 * k)))]) {h : Hp} {K : Hp → Prop} (hP : va_P D vwCl (wsH ad cy shp 79 h) H) (hS : va_S (AL s) s.heap H locs) (hE : op2 m_X_fold m_M_fold [] h K) (kk : ∀ (h : Hp) (H : Heap) (locs : List Loc), K h → va_P D vwCl (wsH ad cy shp 79 h) H → va_S (AL s) s.heap H locs → W p l e room_1 s m #[Value.ref b] below meth c H locs 100 2000 Z (F0 m 922 ls [])) : W p l e room_1 s m #[Value.ref b] below meth c H locs 100 2000 Z (F0 m 662 ls []) := by
  obtain ⟨hx, hb, -⟩ := id C0
  refine lv_aload_n hx hb dl_662 rfl (lv_at hl 1 rfl) ?_
  refine law_callI C0 (y := m_X_fold) (i := 0) (idx := 96) (As := []) (rest := []) (C := cd_X_fold) (nL := 5) rfl ll_96 rfl rfl (ci := 6) rfl (by decide +kernel) (by decide) hE hP hS hl.1 (by simp [Value.category, cv]) dl_663 (fun v h1 H locs hq hP hS => ?_)
  refine lv_aload_n hx hb dl_666 rfl (lv_at hl 2 rfl) ?_
  refine law_callI C0 (y := m_M_fold) (i := 46) (idx := 99) (As := []) (rest := [.int v]) (C := cd_M_fold) (nL := 1) rfl ll_99 rfl rfl (ci := 7) rfl (by decide +kernel) (by decide) hq hP hS hl.1 (by simp [Value.category, cv]) dl_667 (fun w h2 H locs hq2 hP hS => ?_)
  refine lv_icmp_eq (tgt := 922) hx hb dl_670 (by decide) (fun _ => kk h2 H locs hq2.2 hP hS) (fun z => absurd hq2.1 z)
set_option maxRecDepth 20000 in
theorem law_c21 (C0 : LCx p s m c b L xs D ad cy) {H : Heap} {locs : List Loc} {ls : Array Slot} {k : Nat} (hi : 4 * k + 4 ≤ L) (hL : L ≤ 256) (hl : lv_has ls 4 [(0, .ref b), (1, .ref (ad 0)), (2, .ref (ad 46)), (3, .int (nI (4 * k)))]) {h : Hp} {K : Hp → Prop} (hP : va_P D vwCl (wsH ad cy shp 79 h) H) (hS : va_S (AL s) s.heap H locs) (hE : op2 m_X_lies m_M_lies [.int (xs (4 * k + 1)), .int (xs (4 * k + 2))] h K) (kk : ∀ (h : Hp) (H : Heap) (locs : List Loc), K h → va_P D vwCl (wsH ad cy shp 79 h) H → va_S (AL s) s.heap H locs → W p l e room_1 s m #[Value.ref b] below meth c H locs 100 2000 Z (F0 m 922 ls [])) : W p l e room_1 s m #[Value.ref b] below meth c H locs 100 2000 Z (F0 m 675 ls []) := by
  obtain ⟨hx, hb, -⟩ := id C0
  refine lv_aload_n hx hb dl_675 rfl (lv_at hl 1 rfl) ?_
  refine law_ld C0 hS (lv_at hl 0 rfl) (lv_at hl 3 rfl) (k := 1) (by omega) hL (by decide) dl_676 dl_677 dl_678 dl_679 dl_680 ?_
  refine law_ld C0 hS (lv_at hl 0 rfl) (lv_at hl 3 rfl) (k := 2) (by omega) hL (by decide) dl_681 dl_682 dl_683 dl_684 dl_685 ?_
  refine law_callI C0 (y := m_X_lies) (i := 0) (idx := 100) (As := [.int (xs (4 * k + 1)), .int (xs (4 * k + 2))]) (rest := []) (C := cd_X_lies) (nL := 3) rfl ll_100 rfl rfl (ci := 6) rfl (by decide +kernel) (by decide) hE hP hS hl.1 (by simp [Value.category, cv]) dl_686 (fun v h1 H locs hq hP hS => ?_)
  refine lv_aload_n hx hb dl_689 rfl (lv_at hl 2 rfl) ?_
  refine law_ld C0 hS (lv_at hl 0 rfl) (lv_at hl 3 rfl) (k := 1) (by omega) hL (by decide) dl_690 dl_691 dl_692 dl_693 dl_694 ?_
  refine law_ld C0 hS (lv_at hl 0 rfl) (lv_at hl 3 rfl) (k := 2) (by omega) hL (by decide) dl_695 dl_696 dl_697 dl_698 dl_699 ?_
  refine law_callI C0 (y := m_M_lies) (i := 46) (idx := 103) (As := [.int (xs (4 * k + 1)), .int (xs (4 * k + 2))]) (rest := [.int v]) (C := cd_M_lies) (nL := 3) rfl ll_103 rfl rfl (ci := 7) rfl (by decide +kernel) (by decide) hq hP hS hl.1 (by simp [Value.category, cv]) dl_700 (fun w h2 H locs hq2 hP hS => ?_)
  refine lv_icmp_eq (tgt := 922) hx hb dl_703 (by decide) (fun _ => kk h2 H locs hq2.2 hP hS) (fun z => absurd hq2.1 z)
set_option maxRecDepth 20000 in
theorem law_c22 (C0 : LCx p s m c b L xs D ad cy) {H : Heap} {locs : List Loc} {ls : Array Slot} {k : Nat} (hi : 4 * k + 4 ≤ L) (hL : L ≤ 256) (hl : lv_has ls 4 [(0, .ref b), (1, .ref (ad 0)), (2, .ref (ad 46)), (3, .int (nI (4 * k)))]) {h : Hp} {K : Hp → Prop} (hP : va_P D vwCl (wsH ad cy shp 79 h) H) (hS : va_S (AL s) s.heap H locs) (hE : op2 m_X_sweep m_M_sweep [] h K) (kk : ∀ (h : Hp) (H : Heap) (locs : List Loc), K h → va_P D vwCl (wsH ad cy shp 79 h) H → va_S (AL s) s.heap H locs → W p l e room_1 s m #[Value.ref b] below meth c H locs 100 2000 Z (F0 m 922 ls [])) : W p l e room_1 s m #[Value.ref b] below meth c H locs 100 2000 Z (F0 m 708 ls []) := by
  obtain ⟨hx, hb, -⟩ := id C0
  refine lv_aload_n hx hb dl_708 rfl (lv_at hl 1 rfl) ?_
  refine law_callI C0 (y := m_X_sweep) (i := 0) (idx := 104) (As := []) (rest := []) (C := cd_X_sweep) (nL := 2) rfl ll_104 rfl rfl (ci := 6) rfl (by decide +kernel) (by decide) hE hP hS hl.1 (by simp [Value.category, cv]) dl_709 (fun v h1 H locs hq hP hS => ?_)
  refine lv_aload_n hx hb dl_712 rfl (lv_at hl 2 rfl) ?_
  refine law_callI C0 (y := m_M_sweep) (i := 46) (idx := 107) (As := []) (rest := [.int v]) (C := cd_M_sweep) (nL := 2) rfl ll_107 rfl rfl (ci := 7) rfl (by decide +kernel) (by decide) hq hP hS hl.1 (by simp [Value.category, cv]) dl_713 (fun w h2 H locs hq2 hP hS => ?_)
  refine lv_icmp_eq (tgt := 922) hx hb dl_716 (by decide) (fun _ => kk h2 H locs hq2.2 hP hS) (fun z => absurd hq2.1 z)
set_option maxRecDepth 20000 in
theorem law_c23 (C0 : LCx p s m c b L xs D ad cy) {H : Heap} {locs : List Loc} {ls : Array Slot} {k : Nat} (hi : 4 * k + 4 ≤ L) (hL : L ≤ 256) (hl : lv_has ls 4 [(0, .ref b), (1, .ref (ad 0)), (2, .ref (ad 46)), (3, .int (nI (4 * k)))]) {h : Hp} {K : Hp → Prop} (hP : va_P D vwCl (wsH ad cy shp 79 h) H) (hS : va_S (AL s) s.heap H locs) (hE : op2 m_X_winds m_M_winds [.int (xs (4 * k + 1))] h K) (kk : ∀ (h : Hp) (H : Heap) (locs : List Loc), K h → va_P D vwCl (wsH ad cy shp 79 h) H → va_S (AL s) s.heap H locs → W p l e room_1 s m #[Value.ref b] below meth c H locs 100 2000 Z (F0 m 922 ls [])) : W p l e room_1 s m #[Value.ref b] below meth c H locs 100 2000 Z (F0 m 721 ls []) := by
  obtain ⟨hx, hb, -⟩ := id C0
  refine lv_aload_n hx hb dl_721 rfl (lv_at hl 1 rfl) ?_
  refine law_ld C0 hS (lv_at hl 0 rfl) (lv_at hl 3 rfl) (k := 1) (by omega) hL (by decide) dl_722 dl_723 dl_724 dl_725 dl_726 ?_
  refine law_callI C0 (y := m_X_winds) (i := 0) (idx := 108) (As := [.int (xs (4 * k + 1))]) (rest := []) (C := cd_X_winds) (nL := 2) rfl ll_108 rfl rfl (ci := 6) rfl (by decide +kernel) (by decide) hE hP hS hl.1 (by simp [Value.category, cv]) dl_727 (fun v h1 H locs hq hP hS => ?_)
  refine lv_aload_n hx hb dl_730 rfl (lv_at hl 2 rfl) ?_
  refine law_ld C0 hS (lv_at hl 0 rfl) (lv_at hl 3 rfl) (k := 1) (by omega) hL (by decide) dl_731 dl_732 dl_733 dl_734 dl_735 ?_
  refine law_callI C0 (y := m_M_winds) (i := 46) (idx := 111) (As := [.int (xs (4 * k + 1))]) (rest := [.int v]) (C := cd_M_winds) (nL := 2) rfl ll_111 rfl rfl (ci := 7) rfl (by decide +kernel) (by decide) hq hP hS hl.1 (by simp [Value.category, cv]) dl_736 (fun w h2 H locs hq2 hP hS => ?_)
  refine lv_icmp_eq (tgt := 922) hx hb dl_739 (by decide) (fun _ => kk h2 H locs hq2.2 hP hS) (fun z => absurd hq2.1 z)
set_option maxRecDepth 20000 in
theorem law_c24 (C0 : LCx p s m c b L xs D ad cy) {H : Heap} {locs : List Loc} {ls : Array Slot} {k : Nat} (hi : 4 * k + 4 ≤ L) (hL : L ≤ 256) (hl : lv_has ls 4 [(0, .ref b), (1, .ref (ad 0)), (2, .ref (ad 46)), (3, .int (nI (4 * k)))]) {h : Hp} {K : Hp → Prop} (hP : va_P D vwCl (wsH ad cy shp 79 h) H) (hS : va_S (AL s) s.heap H locs) (hE : op2 m_X_tryOn m_M_tryOn [.int (xs (4 * k + 1)), .int (xs (4 * k + 2)), .int (if xs (4 * k + 3) = 0 then 0 else 1)] h K) (kk : ∀ (h : Hp) (H : Heap) (locs : List Loc), K h → va_P D vwCl (wsH ad cy shp 79 h) H → va_S (AL s) s.heap H locs → W p l e room_1 s m #[Value.ref b] below meth c H locs 100 2000 Z (F0 m 922 ls [])) : W p l e room_1 s m #[Value.ref b] below meth c H locs 100 2000 Z (F0 m 744 ls []) := by
  obtain ⟨hx, hb, -⟩ := id C0
  by_cases hz : xs (4 * k + 3) = 0
  · unfold op2 at hE
    rw [if_pos hz] at hE
    refine lv_aload_n hx hb dl_744 rfl (lv_at hl 1 rfl) ?_
    refine law_ld C0 hS (lv_at hl 0 rfl) (lv_at hl 3 rfl) (k := 1) (by omega) hL (by decide) dl_745 dl_746 dl_747 dl_748 dl_749 ?_
    refine law_ld C0 hS (lv_at hl 0 rfl) (lv_at hl 3 rfl) (k := 2) (by omega) hL (by decide) dl_750 dl_751 dl_752 dl_753 dl_754 ?_
    refine law_ld C0 hS (lv_at hl 0 rfl) (lv_at hl 3 rfl) (k := 3) (by omega) hL (by decide) dl_755 dl_756 dl_757 dl_758 dl_759 ?_
    refine lv_if_eq (tgt := 767) hx hb dl_760 (by decide) (fun _ => ?_) (fun z => absurd hz z)
    refine lv_iconst (v := 0) hx hb dl_767 (by decide +kernel) ?_
    refine law_callI C0 (y := m_X_tryOn) (i := 0) (idx := 112) (As := [.int (xs (4 * k + 1)), .int (xs (4 * k + 2)), .int 0]) (rest := []) (C := cd_X_tryOn) (nL := 4) rfl ll_112 rfl rfl (ci := 6) rfl (by decide +kernel) (by decide) hE hP hS hl.1 (by simp [Value.category, cv]) dl_768 (fun v h1 H locs hq hP hS => ?_)
    refine lv_aload_n hx hb dl_771 rfl (lv_at hl 2 rfl) ?_
    refine law_ld C0 hS (lv_at hl 0 rfl) (lv_at hl 3 rfl) (k := 1) (by omega) hL (by decide) dl_772 dl_773 dl_774 dl_775 dl_776 ?_
    refine law_ld C0 hS (lv_at hl 0 rfl) (lv_at hl 3 rfl) (k := 2) (by omega) hL (by decide) dl_777 dl_778 dl_779 dl_780 dl_781 ?_
    refine law_ld C0 hS (lv_at hl 0 rfl) (lv_at hl 3 rfl) (k := 3) (by omega) hL (by decide) dl_782 dl_783 dl_784 dl_785 dl_786 ?_
    refine lv_if_eq (tgt := 794) hx hb dl_787 (by decide) (fun _ => ?_) (fun z => absurd hz z)
    refine lv_iconst (v := 0) hx hb dl_794 (by decide +kernel) ?_
    refine law_callI C0 (y := m_M_tryOn) (i := 46) (idx := 116) (As := [.int (xs (4 * k + 1)), .int (xs (4 * k + 2)), .int 0]) (rest := [.int v]) (C := cd_M_tryOn) (nL := 4) rfl ll_116 rfl rfl (ci := 7) rfl (by decide +kernel) (by decide) hq hP hS hl.1 (by simp [Value.category, cv]) dl_795 (fun w h2 H locs hq2 hP hS => ?_)
    refine lv_icmp_eq (tgt := 922) hx hb dl_798 (by decide) (fun _ => kk h2 H locs hq2.2 hP hS) (fun z => absurd hq2.1 z)
  · unfold op2 at hE
    rw [if_neg hz] at hE
    refine lv_aload_n hx hb dl_744 rfl (lv_at hl 1 rfl) ?_
    refine law_ld C0 hS (lv_at hl 0 rfl) (lv_at hl 3 rfl) (k := 1) (by omega) hL (by decide) dl_745 dl_746 dl_747 dl_748 dl_749 ?_
    refine law_ld C0 hS (lv_at hl 0 rfl) (lv_at hl 3 rfl) (k := 2) (by omega) hL (by decide) dl_750 dl_751 dl_752 dl_753 dl_754 ?_
    refine law_ld C0 hS (lv_at hl 0 rfl) (lv_at hl 3 rfl) (k := 3) (by omega) hL (by decide) dl_755 dl_756 dl_757 dl_758 dl_759 ?_
    refine lv_if_eq (tgt := 767) hx hb dl_760 (by decide) (fun z => absurd z hz) (fun _ => ?_)
    refine lv_iconst (v := 1) hx hb dl_763 (by decide +kernel) ?_
    refine lv_goto (tgt := 768) hx hb dl_764 (by decide) ?_
    refine law_callI C0 (y := m_X_tryOn) (i := 0) (idx := 112) (As := [.int (xs (4 * k + 1)), .int (xs (4 * k + 2)), .int 1]) (rest := []) (C := cd_X_tryOn) (nL := 4) rfl ll_112 rfl rfl (ci := 6) rfl (by decide +kernel) (by decide) hE hP hS hl.1 (by simp [Value.category, cv]) dl_768 (fun v h1 H locs hq hP hS => ?_)
    refine lv_aload_n hx hb dl_771 rfl (lv_at hl 2 rfl) ?_
    refine law_ld C0 hS (lv_at hl 0 rfl) (lv_at hl 3 rfl) (k := 1) (by omega) hL (by decide) dl_772 dl_773 dl_774 dl_775 dl_776 ?_
    refine law_ld C0 hS (lv_at hl 0 rfl) (lv_at hl 3 rfl) (k := 2) (by omega) hL (by decide) dl_777 dl_778 dl_779 dl_780 dl_781 ?_
    refine law_ld C0 hS (lv_at hl 0 rfl) (lv_at hl 3 rfl) (k := 3) (by omega) hL (by decide) dl_782 dl_783 dl_784 dl_785 dl_786 ?_
    refine lv_if_eq (tgt := 794) hx hb dl_787 (by decide) (fun z => absurd z hz) (fun _ => ?_)
    refine lv_iconst (v := 1) hx hb dl_790 (by decide +kernel) ?_
    refine lv_goto (tgt := 795) hx hb dl_791 (by decide) ?_
    refine law_callI C0 (y := m_M_tryOn) (i := 46) (idx := 116) (As := [.int (xs (4 * k + 1)), .int (xs (4 * k + 2)), .int 1]) (rest := [.int v]) (C := cd_M_tryOn) (nL := 4) rfl ll_116 rfl rfl (ci := 7) rfl (by decide +kernel) (by decide) hq hP hS hl.1 (by simp [Value.category, cv]) dl_795 (fun w h2 H locs hq2 hP hS => ?_)
    refine lv_icmp_eq (tgt := 922) hx hb dl_798 (by decide) (fun _ => kk h2 H locs hq2.2 hP hS) (fun z => absurd hq2.1 z)
set_option maxRecDepth 20000 in
theorem law_c25 (C0 : LCx p s m c b L xs D ad cy) {H : Heap} {locs : List Loc} {ls : Array Slot} {k : Nat} (hi : 4 * k + 4 ≤ L) (hL : L ≤ 256) (hl : lv_has ls 4 [(0, .ref b), (1, .ref (ad 0)), (2, .ref (ad 46)), (3, .int (nI (4 * k)))]) {h : Hp} {K : Hp → Prop} (hP : va_P D vwCl (wsH ad cy shp 79 h) H) (hS : va_S (AL s) s.heap H locs) (hE : op2 m_X_forget m_M_forget [] h K) (kk : ∀ (h : Hp) (H : Heap) (locs : List Loc), K h → va_P D vwCl (wsH ad cy shp 79 h) H → va_S (AL s) s.heap H locs → W p l e room_1 s m #[Value.ref b] below meth c H locs 100 2000 Z (F0 m 922 ls [])) : W p l e room_1 s m #[Value.ref b] below meth c H locs 100 2000 Z (F0 m 803 ls []) := by
  obtain ⟨hx, hb, -⟩ := id C0
  refine lv_aload_n hx hb dl_803 rfl (lv_at hl 1 rfl) ?_
  refine law_callI C0 (y := m_X_forget) (i := 0) (idx := 117) (As := []) (rest := []) (C := cd_X_forget) (nL := 2) rfl ll_117 rfl rfl (ci := 6) rfl (by decide +kernel) (by decide) hE hP hS hl.1 (by simp [Value.category, cv]) dl_804 (fun v h1 H locs hq hP hS => ?_)
  refine lv_aload_n hx hb dl_807 rfl (lv_at hl 2 rfl) ?_
  refine law_callI C0 (y := m_M_forget) (i := 46) (idx := 120) (As := []) (rest := [.int v]) (C := cd_M_forget) (nL := 2) rfl ll_120 rfl rfl (ci := 7) rfl (by decide +kernel) (by decide) hq hP hS hl.1 (by simp [Value.category, cv]) dl_808 (fun w h2 H locs hq2 hP hS => ?_)
  refine lv_icmp_eq (tgt := 922) hx hb dl_811 (by decide) (fun _ => kk h2 H locs hq2.2 hP hS) (fun z => absurd hq2.1 z)
set_option maxRecDepth 20000 in
theorem law_c26 (C0 : LCx p s m c b L xs D ad cy) {H : Heap} {locs : List Loc} {ls : Array Slot} {k : Nat} (hi : 4 * k + 4 ≤ L) (hL : L ≤ 256) (hl : lv_has ls 4 [(0, .ref b), (1, .ref (ad 0)), (2, .ref (ad 46)), (3, .int (nI (4 * k)))]) {h : Hp} {K : Hp → Prop} (hP : va_P D vwCl (wsH ad cy shp 79 h) H) (hS : va_S (AL s) s.heap H locs) (hE : op2 m_X_years m_M_years [.int (xs (4 * k + 1)), .int (xs (4 * k + 2)), .int (xs (4 * k + 3))] h K) (kk : ∀ (h : Hp) (H : Heap) (locs : List Loc), K h → va_P D vwCl (wsH ad cy shp 79 h) H → va_S (AL s) s.heap H locs → W p l e room_1 s m #[Value.ref b] below meth c H locs 100 2000 Z (F0 m 922 ls [])) : W p l e room_1 s m #[Value.ref b] below meth c H locs 100 2000 Z (F0 m 816 ls []) := by
  obtain ⟨hx, hb, -⟩ := id C0
  refine lv_aload_n hx hb dl_816 rfl (lv_at hl 1 rfl) ?_
  refine law_ld C0 hS (lv_at hl 0 rfl) (lv_at hl 3 rfl) (k := 1) (by omega) hL (by decide) dl_817 dl_818 dl_819 dl_820 dl_821 ?_
  refine law_ld C0 hS (lv_at hl 0 rfl) (lv_at hl 3 rfl) (k := 2) (by omega) hL (by decide) dl_822 dl_823 dl_824 dl_825 dl_826 ?_
  refine law_ld C0 hS (lv_at hl 0 rfl) (lv_at hl 3 rfl) (k := 3) (by omega) hL (by decide) dl_827 dl_828 dl_829 dl_830 dl_831 ?_
  refine law_callI C0 (y := m_X_years) (i := 0) (idx := 121) (As := [.int (xs (4 * k + 1)), .int (xs (4 * k + 2)), .int (xs (4 * k + 3))]) (rest := []) (C := cd_X_years) (nL := 8) rfl ll_121 rfl rfl (ci := 6) rfl (by decide +kernel) (by decide) hE hP hS hl.1 (by simp [Value.category, cv]) dl_832 (fun v h1 H locs hq hP hS => ?_)
  refine lv_aload_n hx hb dl_835 rfl (lv_at hl 2 rfl) ?_
  refine law_ld C0 hS (lv_at hl 0 rfl) (lv_at hl 3 rfl) (k := 1) (by omega) hL (by decide) dl_836 dl_837 dl_838 dl_839 dl_840 ?_
  refine law_ld C0 hS (lv_at hl 0 rfl) (lv_at hl 3 rfl) (k := 2) (by omega) hL (by decide) dl_841 dl_842 dl_843 dl_844 dl_845 ?_
  refine law_ld C0 hS (lv_at hl 0 rfl) (lv_at hl 3 rfl) (k := 3) (by omega) hL (by decide) dl_846 dl_847 dl_848 dl_849 dl_850 ?_
  refine law_callI C0 (y := m_M_years) (i := 46) (idx := 125) (As := [.int (xs (4 * k + 1)), .int (xs (4 * k + 2)), .int (xs (4 * k + 3))]) (rest := [.int v]) (C := cd_M_years) (nL := 4) rfl ll_125 rfl rfl (ci := 7) rfl (by decide +kernel) (by decide) hq hP hS hl.1 (by simp [Value.category, cv]) dl_851 (fun w h2 H locs hq2 hP hS => ?_)
  refine lv_icmp_eq (tgt := 922) hx hb dl_854 (by decide) (fun _ => kk h2 H locs hq2.2 hP hS) (fun z => absurd hq2.1 z)
set_option maxRecDepth 20000 in
theorem law_c27 (C0 : LCx p s m c b L xs D ad cy) {H : Heap} {locs : List Loc} {ls : Array Slot} {k : Nat} (hi : 4 * k + 4 ≤ L) (hL : L ≤ 256) (hl : lv_has ls 4 [(0, .ref b), (1, .ref (ad 0)), (2, .ref (ad 46)), (3, .int (nI (4 * k)))]) {h : Hp} {K : Hp → Prop} (hP : va_P D vwCl (wsH ad cy shp 79 h) H) (hS : va_S (AL s) s.heap H locs) (hE : op2 m_X_image m_M_image [] h K) (kk : ∀ (h : Hp) (H : Heap) (locs : List Loc), K h → va_P D vwCl (wsH ad cy shp 79 h) H → va_S (AL s) s.heap H locs → W p l e room_1 s m #[Value.ref b] below meth c H locs 100 2000 Z (F0 m 922 ls [])) : W p l e room_1 s m #[Value.ref b] below meth c H locs 100 2000 Z (F0 m 859 ls []) := by
  obtain ⟨hx, hb, -⟩ := id C0
  refine lv_aload_n hx hb dl_859 rfl (lv_at hl 1 rfl) ?_
  refine law_callI C0 (y := m_X_image) (i := 0) (idx := 126) (As := []) (rest := []) (C := cd_X_image) (nL := 1) rfl ll_126 rfl rfl (ci := 6) rfl (by decide +kernel) (by decide) hE hP hS hl.1 (by simp [Value.category, cv]) dl_860 (fun v h1 H locs hq hP hS => ?_)
  refine lv_aload_n hx hb dl_863 rfl (lv_at hl 2 rfl) ?_
  refine law_callI C0 (y := m_M_image) (i := 46) (idx := 129) (As := []) (rest := [.int v]) (C := cd_M_image) (nL := 2) rfl ll_129 rfl rfl (ci := 7) rfl (by decide +kernel) (by decide) hq hP hS hl.1 (by simp [Value.category, cv]) dl_864 (fun w h2 H locs hq2 hP hS => ?_)
  refine lv_icmp_eq (tgt := 922) hx hb dl_867 (by decide) (fun _ => kk h2 H locs hq2.2 hP hS) (fun z => absurd hq2.1 z)
set_option maxRecDepth 20000 in
theorem law_c28 (C0 : LCx p s m c b L xs D ad cy) {H : Heap} {locs : List Loc} {ls : Array Slot} {k : Nat} (hi : 4 * k + 4 ≤ L) (hL : L ≤ 256) (hl : lv_has ls 4 [(0, .ref b), (1, .ref (ad 0)), (2, .ref (ad 46)), (3, .int (nI (4 * k)))]) {h : Hp} {K : Hp → Prop} (hP : va_P D vwCl (wsH ad cy shp 79 h) H) (hS : va_S (AL s) s.heap H locs) (hE : op2 m_X_restore m_M_restore [] h K) (kk : ∀ (h : Hp) (H : Heap) (locs : List Loc), K h → va_P D vwCl (wsH ad cy shp 79 h) H → va_S (AL s) s.heap H locs → W p l e room_1 s m #[Value.ref b] below meth c H locs 100 2000 Z (F0 m 922 ls [])) : W p l e room_1 s m #[Value.ref b] below meth c H locs 100 2000 Z (F0 m 872 ls []) := by
  obtain ⟨hx, hb, -⟩ := id C0
  refine lv_aload_n hx hb dl_872 rfl (lv_at hl 1 rfl) ?_
  refine law_callI C0 (y := m_X_restore) (i := 0) (idx := 130) (As := []) (rest := []) (C := cd_X_restore) (nL := 1) rfl ll_130 rfl rfl (ci := 6) rfl (by decide +kernel) (by decide) hE hP hS hl.1 (by simp [Value.category, cv]) dl_873 (fun v h1 H locs hq hP hS => ?_)
  refine lv_aload_n hx hb dl_876 rfl (lv_at hl 2 rfl) ?_
  refine law_callI C0 (y := m_M_restore) (i := 46) (idx := 133) (As := []) (rest := [.int v]) (C := cd_M_restore) (nL := 2) rfl ll_133 rfl rfl (ci := 7) rfl (by decide +kernel) (by decide) hq hP hS hl.1 (by simp [Value.category, cv]) dl_877 (fun w h2 H locs hq2 hP hS => ?_)
  refine lv_icmp_eq (tgt := 922) hx hb dl_880 (by decide) (fun _ => kk h2 H locs hq2.2 hP hS) (fun z => absurd hq2.1 z)
set_option maxRecDepth 20000 in
theorem law_c29 (C0 : LCx p s m c b L xs D ad cy) {H : Heap} {locs : List Loc} {ls : Array Slot} {k : Nat} (hi : 4 * k + 4 ≤ L) (hL : L ≤ 256) (hl : lv_has ls 4 [(0, .ref b), (1, .ref (ad 0)), (2, .ref (ad 46)), (3, .int (nI (4 * k)))]) {h : Hp} {K : Hp → Prop} (hP : va_P D vwCl (wsH ad cy shp 79 h) H) (hS : va_S (AL s) s.heap H locs) (hE : op2 m_X_count m_M_count [.int (xs (4 * k + 1))] h K) (kk : ∀ (h : Hp) (H : Heap) (locs : List Loc), K h → va_P D vwCl (wsH ad cy shp 79 h) H → va_S (AL s) s.heap H locs → W p l e room_1 s m #[Value.ref b] below meth c H locs 100 2000 Z (F0 m 922 ls [])) : W p l e room_1 s m #[Value.ref b] below meth c H locs 100 2000 Z (F0 m 885 ls []) := by
  obtain ⟨hx, hb, -⟩ := id C0
  refine lv_aload_n hx hb dl_885 rfl (lv_at hl 1 rfl) ?_
  refine law_ld C0 hS (lv_at hl 0 rfl) (lv_at hl 3 rfl) (k := 1) (by omega) hL (by decide) dl_886 dl_887 dl_888 dl_889 dl_890 ?_
  refine law_callI C0 (y := m_X_count) (i := 0) (idx := 134) (As := [.int (xs (4 * k + 1))]) (rest := []) (C := cd_X_count) (nL := 2) rfl ll_134 rfl rfl (ci := 6) rfl (by decide +kernel) (by decide) hE hP hS hl.1 (by simp [Value.category, cv]) dl_891 (fun v h1 H locs hq hP hS => ?_)
  refine lv_aload_n hx hb dl_894 rfl (lv_at hl 2 rfl) ?_
  refine law_ld C0 hS (lv_at hl 0 rfl) (lv_at hl 3 rfl) (k := 1) (by omega) hL (by decide) dl_895 dl_896 dl_897 dl_898 dl_899 ?_
  refine law_callI C0 (y := m_M_count) (i := 46) (idx := 137) (As := [.int (xs (4 * k + 1))]) (rest := [.int v]) (C := cd_M_count) (nL := 2) rfl ll_137 rfl rfl (ci := 7) rfl (by decide +kernel) (by decide) hq hP hS hl.1 (by simp [Value.category, cv]) dl_900 (fun w h2 H locs hq2 hP hS => ?_)
  refine lv_icmp_eq (tgt := 922) hx hb dl_903 (by decide) (fun _ => kk h2 H locs hq2.2 hP hS) (fun z => absurd hq2.1 z)
set_option maxRecDepth 20000 in
theorem law_c30 (C0 : LCx p s m c b L xs D ad cy) {H : Heap} {locs : List Loc} {ls : Array Slot} {k : Nat} (hi : 4 * k + 4 ≤ L) (hL : L ≤ 256) (hl : lv_has ls 4 [(0, .ref b), (1, .ref (ad 0)), (2, .ref (ad 46)), (3, .int (nI (4 * k)))]) {h : Hp} {K : Hp → Prop} (hP : va_P D vwCl (wsH ad cy shp 79 h) H) (hS : va_S (AL s) s.heap H locs) (hE : op2L m_X_digest m_M_digest [] h K) (kk : ∀ (h : Hp) (H : Heap) (locs : List Loc), K h → va_P D vwCl (wsH ad cy shp 79 h) H → va_S (AL s) s.heap H locs → W p l e room_1 s m #[Value.ref b] below meth c H locs 100 2000 Z (F0 m 922 ls [])) : W p l e room_1 s m #[Value.ref b] below meth c H locs 100 2000 Z (F0 m 908 ls []) := by
  obtain ⟨hx, hb, -⟩ := id C0
  refine lv_aload_n hx hb dl_908 rfl (lv_at hl 1 rfl) ?_
  refine law_callL C0 (y := m_X_digest) (i := 0) (idx := 138) (As := []) (rest := []) (C := cd_X_digest) (nL := 5) rfl ll_138 rfl rfl (ci := 6) rfl (by decide +kernel) (by decide) hE hP hS hl.1 (by simp [Value.category, cv]) dl_909 (fun v h1 H locs hq hP hS => ?_)
  refine lv_aload_n hx hb dl_912 rfl (lv_at hl 2 rfl) ?_
  refine law_callL C0 (y := m_M_digest) (i := 46) (idx := 142) (As := []) (rest := [.long v]) (C := cd_M_digest) (nL := 2) rfl ll_142 rfl rfl (ci := 7) rfl (by decide +kernel) (by decide) hq hP hS hl.1 (by simp [Value.category, cv]) dl_913 (fun w h2 H locs hq2 hP hS => ?_)
  refine W.lcmp hx hb dl_916 ?_
  have hz : lg_cmp v w = 0 := by
    rw [hq2.1]
    unfold lg_cmp
    simp
  rw [hz]
  exact lv_if_eq (tgt := 922) hx hb dl_917 (by decide) (fun _ => kk h2 H locs hq2.2 hP hS) (fun z => absurd rfl z)
end LAWC
