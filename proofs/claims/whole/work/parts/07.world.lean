/-! the small machine's heap as cells of the real one -/
def fv (ad : Nat → Nat) (t j : Nat) (x : Int32) (y : Int64) : Value := match t with
  | 2 => .long y
  | 3 => .ref (ad j)
  | _ => .int x
def fvs (ad : Nat → Nat) (f : Nat → Int32) (g : Nat → Int64) : List (Nat × Nat) → Nat → List Value
  | [], _ => []
  | q :: l, k => fv ad q.1 q.2 (f k) (g k) :: fvs ad f g l (k + 1)
def ceo (ad cy : Nat → Nat) (s : Option Shp) (f : Nat → Int32) (g : Nat → Int64) : va_E := match s with
  | some (.inl q) => .inl (cy q.1, q.2, .inl f)
  | some (.inr q) => .inr (q.1, fvs ad f g q.2 0)
  | none => .inr (0, [])
def wsH (ad cy : Nat → Nat) (sh : Nat → Option Shp) (N : Nat) (h : Hp) : va_W := (List.range N).map (fun i => (ad i, ceo ad cy (sh i) (h.1 i) (h.2 i)))
theorem wsH_at {ad cy : Nat → Nat} {sh : Nat → Option Shp} {N i : Nat} (h : Hp) (hi : i < N) : (wsH ad cy sh N h)[i]? = some (ad i, ceo ad cy (sh i) (h.1 i) (h.2 i)) := by
  simp [wsH, List.getElem?_map, List.getElem?_range hi]
theorem wsH_in {ad cy : Nat → Nat} {sh : Nat → Option Shp} {N i : Nat} {h : Hp} {q : Nat × va_E} (hq : (wsH ad cy sh N h)[i]? = some q) : i < N ∧ q = (ad i, ceo ad cy (sh i) (h.1 i) (h.2 i)) := by
  by_cases hi : i < N
  · rw [wsH_at h hi] at hq
    exact ⟨hi, (Option.some.inj hq).symm⟩
  · rw [wsH, List.getElem?_map, List.getElem?_eq_none (by simpa using hi)] at hq
    cases hq
theorem wsH_set {ad cy : Nat → Nat} {sh : Nat → Option Shp} {N i : Nat} {h h' : Hp} (hi : i < N) (h1 : ∀ a, a ≠ i → h'.1 a = h.1 a) (h2 : ∀ a, a ≠ i → h'.2 a = h.2 a) : (wsH ad cy sh N h).set i (ad i, ceo ad cy (sh i) (h'.1 i) (h'.2 i)) = wsH ad cy sh N h' := by
  apply List.ext_getElem?
  intro k
  by_cases hk : k < N
  · by_cases hki : k = i
    · subst hki
      rw [List.getElem?_set_self (by simpa [wsH] using hk), wsH_at h' hk]
    · rw [List.getElem?_set_ne (Ne.symm hki), wsH_at h hk, wsH_at h' hk, h1 k hki, h2 k hki]
  · rw [List.getElem?_eq_none (by simpa [wsH] using hk), List.getElem?_eq_none (by simpa [wsH] using hk)]
theorem hs_self (h : Hp) (i : Nat) (f : Nat → Int32) : (hs h i f).1 i = f := by
  show (bif Nat.beq i i then f else h.1 i) = f
  rw [Nat.beq_refl]
  rfl
theorem hs_ne {h : Hp} {i a : Nat} {f : Nat → Int32} (n : a ≠ i) : (hs h i f).1 a = h.1 a := by
  show (bif Nat.beq a i then f else h.1 a) = h.1 a
  cases hb : Nat.beq a i
  · rfl
  · exact absurd (Nat.eq_of_beq_eq_true hb) n
theorem hs_2 {h : Hp} {i : Nat} {f : Nat → Int32} : (hs h i f).2 = h.2 := rfl
theorem hsL_1 {h : Hp} {i k : Nat} {x : Int64} : (hsL h i k x).1 = h.1 := rfl
theorem hsL_self (h : Hp) (i k : Nat) (x : Int64) : (hsL h i k x).2 i k = x := by
  show (bif Nat.beq i i && Nat.beq k k then x else h.2 i k) = x
  rw [Nat.beq_refl, Nat.beq_refl]
  rfl
theorem hsL_ne {h : Hp} {i k a b : Nat} {x : Int64} (n : a ≠ i ∨ b ≠ k) : (hsL h i k x).2 a b = h.2 a b := by
  show (bif Nat.beq a i && Nat.beq b k then x else h.2 a b) = h.2 a b
  cases hb : Nat.beq a i && Nat.beq b k
  · rfl
  · simp only [Bool.and_eq_true] at hb
    rcases n with n | n
    · exact absurd (Nat.eq_of_beq_eq_true hb.1) n
    · exact absurd (Nat.eq_of_beq_eq_true hb.2) n
theorem fvs_len {ad : Nat → Nat} {f : Nat → Int32} {g : Nat → Int64} : ∀ (l : List (Nat × Nat)) (k : Nat), (fvs ad f g l k).length = l.length
  | [], _ => rfl
  | _ :: l, k => by simp [fvs, fvs_len l (k + 1)]
theorem fvs_at {ad : Nat → Nat} {f : Nat → Int32} {g : Nat → Int64} : ∀ (l : List (Nat × Nat)) (k0 k : Nat) (q : Nat × Nat), nthF l k = some q → (fvs ad f g l k0)[k]? = some (fv ad q.1 q.2 (f (k0 + k)) (g (k0 + k)))
  | [], _, _, _, h => by cases h
  | a :: l, k0, 0, q, h => by
    cases h
    rfl
  | a :: l, k0, k + 1, q, h => by
    have e := fvs_at (f := f) (g := g) (ad := ad) l (k0 + 1) k q h
    rw [show k0 + 1 + k = k0 + (k + 1) by omega] at e
    exact e
theorem nthF_lt : ∀ (l : List (Nat × Nat)) (k : Nat) (q : Nat × Nat), nthF l k = some q → k < l.length
  | [], _, _, h => by cases h
  | _ :: l, 0, _, _ => by simp
  | _ :: l, k + 1, q, h => by
    have := nthF_lt l k q h
    simp; omega
theorem fvs_congr {ad : Nat → Nat} {f f' : Nat → Int32} {g g' : Nat → Int64} : ∀ (l : List (Nat × Nat)) (k0 : Nat), (∀ j, k0 ≤ j → f' j = f j) → (∀ j, k0 ≤ j → g' j = g j) → fvs ad f' g' l k0 = fvs ad f g l k0
  | [], _, _, _ => rfl
  | a :: l, k0, h1, h2 => by
    show _ :: _ = _ :: _
    rw [h1 k0 (Nat.le_refl _), h2 k0 (Nat.le_refl _), fvs_congr l (k0 + 1) (fun j hj => h1 j (by omega)) (fun j hj => h2 j (by omega))]
theorem fvs_set {ad : Nat → Nat} {f f' : Nat → Int32} {g g' : Nat → Int64} : ∀ (l : List (Nat × Nat)) (k0 k : Nat) (q : Nat × Nat), nthF l k = some q → (∀ j, j ≠ k0 + k → f' j = f j) → (∀ j, j ≠ k0 + k → g' j = g j) → (fvs ad f g l k0).set k (fv ad q.1 q.2 (f' (k0 + k)) (g' (k0 + k))) = fvs ad f' g' l k0
  | [], _, _, _, h, _, _ => by cases h
  | a :: l, k0, 0, q, h, h1, h2 => by
    cases h
    show _ :: _ = _ :: _
    rw [fvs_congr (f' := f') (g' := g') (f := f) (g := g) l (k0 + 1) (fun j hj => h1 j (by omega)) (fun j hj => h2 j (by omega))]
    rfl
  | a :: l, k0, k + 1, q, h, h1, h2 => by
    have e := fvs_set (f := f) (f' := f') (g := g) (g' := g') (ad := ad) l (k0 + 1) k q h (fun j hj => h1 j (by omega)) (fun j hj => h2 j (by omega))
    rw [show k0 + 1 + k = k0 + (k + 1) by omega] at e
    show _ :: _ = _ :: _
    rw [h1 k0 (by omega), h2 k0 (by omega)]
    exact congrArg _ e
/-! ===== the locals ===== -/
def cv (ad : Nat → Nat) : Value → Value
  | .ref i => .ref (ad i)
  | v => v
/-- what the list says of the local at j -/
def clm (L : List Value) (j : Nat) : Option Value := match nthV L j with
  | some (.int x) => some (.int x)
  | some (.ref x) => some (.ref x)
  | some (.long x) => (match nthV L (j + 1) with
    | some w => bif issec w then some (.long x) else none
    | none => none)
  | _ => none
def lvL (ad : Nat → Nat) (nL : Nat) (L : List Value) : List (Nat × Value) := (List.range nL).filterMap (fun j => (clm L j).map (fun v => (j, cv ad v)))
def lr (ad : Nat → Nat) (ls : Array Slot) (nL : Nat) (L : List Value) : Prop := lv_has ls nL (lvL ad nL L) ∧ L.length = nL
theorem lvL_mem {ad : Nat → Nat} {nL : Nat} {L : List Value} {q : Nat × Value} : q ∈ lvL ad nL L ↔ q.1 < nL ∧ ∃ v, clm L q.1 = some v ∧ q.2 = cv ad v := by
  obtain ⟨j, w⟩ := q
  simp only [lvL, List.mem_filterMap, List.mem_range, Option.map_eq_some_iff, Prod.mk.injEq]
  constructor
  · rintro ⟨a, ha, v, hv, rfl, rfl⟩
    exact ⟨ha, v, hv, rfl⟩
  · rintro ⟨ha, v, hv, rfl⟩
    exact ⟨j, ha, v, hv, rfl, rfl⟩
theorem lv_has.less {ls : Array Slot} {nL : Nat} {l l' : List (Nat × Value)} (h : lv_has ls nL l) (hs : ∀ q ∈ l', q ∈ l) : lv_has ls nL l' := ⟨h.1, h.2.1, fun q hq => h.2.2 q (hs q hq)⟩
theorem nthV_lt : ∀ {L : List Value} {k : Nat} {v : Value}, nthV L k = some v → k < L.length
  | [], _, _, h => by cases h
  | _ :: l, 0, _, _ => by simp
  | _ :: l, k + 1, v, h => by
    have := nthV_lt (L := l) (k := k) (v := v) h
    simp; omega
theorem lr.get {ad : Nat → Nat} {ls : Array Slot} {nL : Nat} {L : List Value} (h : lr ad ls nL L) {i : Nat} {v : Value} (hv : clm L i = some v) : ls[i]? = some (.val (cv ad v)) := by
  refine h.1.2.2 (i, cv ad v) (lvL_mem.mpr ⟨?_, v, hv, rfl⟩)
  rw [← h.2]
  unfold clm at hv
  split at hv <;> first | exact nthV_lt (by assumption) | cases hv
theorem setV_len : ∀ (L : List Value) (i : Nat) (x : Value), (setV L i x).length = L.length
  | [], _, _ => rfl
  | _ :: l, 0, _ => rfl
  | _ :: l, i + 1, x => by simp [setV, setV_len l i x]
theorem setV_at : ∀ {L : List Value} {i : Nat} {x : Value}, i < L.length → nthV (setV L i x) i = some x
  | [], _, _, h => by simp at h
  | _ :: l, 0, _, _ => rfl
  | _ :: l, i + 1, x, h => setV_at (L := l) (i := i) (x := x) (by simpa using h)
theorem setV_ne : ∀ {L : List Value} {i j : Nat} {x : Value}, j ≠ i → nthV (setV L i x) j = nthV L j
  | [], _, _, _, _ => rfl
  | _ :: l, 0, 0, _, h => absurd rfl h
  | _ :: l, 0, j + 1, _, _ => rfl
  | _ :: l, i + 1, 0, _, _ => rfl
  | _ :: l, i + 1, j + 1, x, h => setV_ne (L := l) (i := i) (j := j) (x := x) (by omega)
theorem cv_cat (ad : Nat → Nat) (v : Value) : (cv ad v).category = v.category := by cases v <;> rfl
theorem lr_put1 {ad : Nat → Nat} {ls ls' : Array Slot} {nL i : Nat} {L : List Value} {x : Value} (h : lr ad ls nL L) (hi : i < nL) (hx : (∃ k, x = .int k) ∨ ∃ k, x = .ref k) (h' : lv_has ls' nL ((i, cv ad x) :: (lvL ad nL L).filter (fun q => !(q.1 == i) && !(q.1 + 1 == i && q.2.category == 2)))) : lr ad ls' nL (put1 L i x) := by
  refine ⟨h'.less (fun q hq => ?_), by rw [put1, setV_len]; exact h.2⟩
  obtain ⟨hq1, v, hv, hq2⟩ := lvL_mem.mp hq
  obtain ⟨j, w⟩ := q
  dsimp only at hq1 hv hq2
  subst hq2
  have hiL : i < L.length := by rw [h.2]; exact hi
  by_cases hj : j = i
  · subst hj
    have e : clm (put1 L j x) j = some x := by
      unfold clm put1
      rw [setV_at hiL]
      rcases hx with ⟨k, rfl⟩ | ⟨k, rfl⟩ <;> rfl
    rw [e] at hv
    cases hv
    exact List.mem_cons_self
  · refine List.mem_cons_of_mem _ (List.mem_filter.mpr ⟨lvL_mem.mpr ⟨hq1, v, ?_, rfl⟩, ?_⟩)
    · unfold clm put1 at hv
      unfold clm
      rw [setV_ne hj] at hv
      split at hv
      · rename_i e; rw [e]; exact hv
      · rename_i e; rw [e]; exact hv
      · rename_i e
        rw [e]
        by_cases hj1 : j + 1 = i
        · rw [hj1, setV_at hiL] at hv
          rcases hx with ⟨k, rfl⟩ | ⟨k, rfl⟩ <;> cases hv
        · rw [setV_ne hj1] at hv
          exact hv
      · cases hv
    · simp only [Bool.and_eq_true, Bool.not_eq_true', beq_eq_false_iff_ne, ne_eq, Bool.and_eq_false_iff]
      refine ⟨hj, ?_⟩
      by_cases hj1 : j + 1 = i
      · right
        rw [cv_cat]
        unfold clm put1 at hv
        rw [setV_ne hj] at hv
        split at hv
        · cases hv; simp [Value.category]
        · cases hv; simp [Value.category]
        · rw [hj1, setV_at hiL] at hv
          rcases hx with ⟨k, rfl⟩ | ⟨k, rfl⟩ <;> cases hv
        · cases hv
      · exact Or.inl hj1
theorem lr_put2 {ad : Nat → Nat} {ls ls' : Array Slot} {nL i : Nat} {L : List Value} {x : Int64} (h : lr ad ls nL L) (hi : i + 1 < nL) (h' : lv_has ls' nL ((i, .long x) :: (lvL ad nL L).filter (fun q => !(q.1 == i) && (!(q.1 == i + 1) && !(q.1 + 1 == i && q.2.category == 2))))) : lr ad ls' nL (put2 L i (.long x)) := by
  refine ⟨h'.less (fun q hq => ?_), by rw [put2, setV_len, setV_len]; exact h.2⟩
  obtain ⟨hq1, v, hv, hq2⟩ := lvL_mem.mp hq
  obtain ⟨j, w⟩ := q
  dsimp only at hq1 hv hq2
  subst hq2
  have hiL : i + 1 < L.length := by rw [h.2]; exact hi
  by_cases hj : j = i
  · subst hj
    have e : clm (put2 L j (.long x)) j = some (.long x) := by
      unfold clm put2
      rw [setV_ne (by omega), setV_at (by omega)]
      dsimp only
      rw [setV_at (by rw [setV_len]; exact hiL)]
      rfl
    rw [e] at hv
    cases hv
    exact List.mem_cons_self
  · by_cases hj1 : j = i + 1
    · subst hj1
      unfold clm put2 at hv
      rw [setV_at (by rw [setV_len]; exact hiL)] at hv
      cases hv
    · have e0 : nthV (put2 L i (.long x)) j = nthV L j := by
        unfold put2
        rw [setV_ne hj1, setV_ne hj]
      refine List.mem_cons_of_mem _ (List.mem_filter.mpr ⟨lvL_mem.mpr ⟨hq1, v, ?_, rfl⟩, ?_⟩)
      · unfold clm at hv ⊢
        rw [e0] at hv
        split at hv
        · rename_i e; rw [e]; exact hv
        · rename_i e; rw [e]; exact hv
        · rename_i e
          rw [e]
          by_cases hj2 : j + 1 = i
          · unfold put2 at hv
            rw [hj2, setV_ne (by omega), setV_at (by omega)] at hv
            cases hv
          · unfold put2 at hv
            rw [setV_ne (by omega), setV_ne hj2] at hv
            exact hv
        · cases hv
      · simp only [Bool.and_eq_true, Bool.not_eq_true', beq_eq_false_iff_ne, ne_eq, Bool.and_eq_false_iff]
        refine ⟨hj, hj1, ?_⟩
        by_cases hj2 : j + 1 = i
        · right
          rw [cv_cat]
          unfold clm at hv
          rw [e0] at hv
          split at hv
          · cases hv; simp [Value.category]
          · cases hv; simp [Value.category]
          · unfold put2 at hv
            rw [hj2, setV_ne (by omega), setV_at (by omega)] at hv
            cases hv
          · cases hv
        · exact Or.inl hj2
theorem okvs_cat {ad : Nat → Nat} : ∀ {As : List Value}, okvs As = true → (lg_sl (As.map (cv ad))).length = (entA As).length
  | [], _ => rfl
  | .int x :: l, h => by
    have := okvs_cat (ad := ad) (As := l) h
    simp [lg_sl, entA, cv, Value.category] at this ⊢
    omega
  | .ref x :: l, h => by
    have := okvs_cat (ad := ad) (As := l) h
    simp [lg_sl, entA, cv, Value.category] at this ⊢
    omega
  | .long x :: l, h => by
    have := okvs_cat (ad := ad) (As := l) h
    simp [lg_sl, entA, cv, Value.category] at this ⊢
    omega
  | .float _ :: _, h => by cases h
  | .double _ :: _, h => by cases h
  | .null :: _, h => by cases h
  | .retAddr _ :: _, h => by cases h
theorem nthV_app : ∀ {A B : List Value} {j : Nat}, j < A.length → nthV (A ++ B) j = nthV A j
  | [], _, _, h => by simp at h
  | _ :: _, _, 0, _ => rfl
  | _ :: l, B, j + 1, h => nthV_app (A := l) (B := B) (j := j) (by simpa using h)
theorem nthV_app2 : ∀ {A B : List Value} {j : Nat}, A.length ≤ j → nthV (A ++ B) j = nthV B (j - A.length)
  | [], _, _, _ => rfl
  | _ :: _, _, 0, h => by simp at h
  | _ :: l, B, j + 1, h => by
    have := nthV_app2 (A := l) (B := B) (j := j) (by simpa using h)
    simpa [nthV] using this
theorem nthV_rep {n j : Nat} {v : Value} (h : nthV (List.replicate n unv) j = some v) : v = unv := by
  induction n generalizing j with
  | zero => cases h
  | succ n ih =>
    cases j with
    | zero => cases h; rfl
    | succ j => exact ih h
theorem nthV_none : ∀ {L : List Value} {j : Nat}, L.length ≤ j → nthV L j = none
  | [], _, _ => rfl
  | _ :: _, 0, h => by simp at h
  | _ :: l, j + 1, h => nthV_none (L := l) (j := j) (by simpa using h)
theorem entA_mem {ad : Nat → Nat} : ∀ {As : List Value} {k j : Nat} {v : Value}, okvs As = true → nthV (entA As) j = some v → isun v = false → (k + j, cv ad v) ∈ lv_args k (As.map (cv ad))
  | [], _, _, _, _, h, _ => by cases h
  | .int x :: l, k, 0, v, _, h, _ => by cases h; exact List.mem_cons_self
  | .int x :: l, k, j + 1, v, ho, h, hu => by
    have := entA_mem (ad := ad) (As := l) (k := k + 1) (j := j) (v := v) ho h hu
    rw [show k + 1 + j = k + (j + 1) by omega] at this
    exact List.mem_cons_of_mem _ this
  | .ref x :: l, k, 0, v, _, h, _ => by cases h; exact List.mem_cons_self
  | .ref x :: l, k, j + 1, v, ho, h, hu => by
    have := entA_mem (ad := ad) (As := l) (k := k + 1) (j := j) (v := v) ho h hu
    rw [show k + 1 + j = k + (j + 1) by omega] at this
    exact List.mem_cons_of_mem _ this
  | .long x :: l, k, 0, v, _, h, _ => by cases h; exact List.mem_cons_self
  | .long x :: l, k, 1, v, _, h, hu => by cases h; cases hu
  | .long x :: l, k, j + 2, v, ho, h, hu => by
    have := entA_mem (ad := ad) (As := l) (k := k + 2) (j := j) (v := v) ho h hu
    rw [show k + 2 + j = k + (j + 2) by omega] at this
    exact List.mem_cons_of_mem _ this
  | .float _ :: _, _, _, _, h, _, _ => by cases h
  | .double _ :: _, _, _, _, h, _, _ => by cases h
  | .null :: _, _, _, _, h, _, _ => by cases h
  | .retAddr _ :: _, _, _, _, h, _, _ => by cases h
theorem clm_nth {L : List Value} {j : Nat} {v : Value} (h : clm L j = some v) : nthV L j = some v ∧ isun v = false := by
  unfold clm at h
  split at h
  · cases h; exact ⟨by assumption, rfl⟩
  · cases h; exact ⟨by assumption, rfl⟩
  · split at h
    · rename_i w _
      cases hw : issec w
      · rw [hw] at h; cases h
      · rw [hw] at h; cases h; exact ⟨by assumption, rfl⟩
    · cases h
  · cases h
theorem lr_entry {ad : Nat → Nat} {As : List Value} {nL : Nat} (ho : okvs As = true) (hn : (entA As).length ≤ nL) {ls : Array Slot} (hl : lv_has ls nL (lv_args 0 (As.map (cv ad)))) : lr ad ls nL (ent As nL) := by
  refine ⟨hl.less (fun q hq => ?_), by simp [ent]; omega⟩
  obtain ⟨hq1, v, hv, hq2⟩ := lvL_mem.mp hq
  obtain ⟨j, w⟩ := q
  dsimp only at hq1 hv hq2
  subst hq2
  obtain ⟨h1, h2⟩ := clm_nth hv
  by_cases hj : j < (entA As).length
  · unfold ent at h1
    rw [nthV_app hj] at h1
    have := entA_mem (ad := ad) (k := 0) ho h1 h2
    rwa [Nat.zero_add] at this
  · unfold ent at h1
    rw [nthV_app2 (by omega)] at h1
    rw [nthV_rep h1] at h2
    cases h2
