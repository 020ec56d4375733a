/-! words of the library calls, and of the classes, by their places -/
theorem uall {C : String} {T : u_T} {N : Nat} {pls : List Nat} (h : (List.range N).all (fun k => okw (u_lay C T k) (pls.getD k 0)) = true) : ∀ w ∈ u_ws C T N, w ∈ gt := by
  intro w hw
  obtain ⟨k, hk, rfl⟩ := List.mem_map.mp hw
  exact okw_mem (List.all_eq_true.mp h k hk)
theorem gw_st_max : (.static Lib.Math.max.name : Jvm.Cond) ∈ gt := okw_mem (pl := 384) (by decide +kernel)
theorem gw_cd_max : (.code Lib.Math.max.name Lib.Math.max.code 2 (some .int) : Jvm.Cond) ∈ gt := okw_mem (pl := 385) (by decide +kernel)
theorem gw_st_min : (.static Lib.Math.min.name : Jvm.Cond) ∈ gt := okw_mem (pl := 387) (by decide +kernel)
theorem gw_cd_min : (.code Lib.Math.min.name Lib.Math.min.code 2 (some .int) : Jvm.Cond) ∈ gt := okw_mem (pl := 388) (by decide +kernel)
theorem gw_st_abs : (.static Lib.Math.abs.name : Jvm.Cond) ∈ gt := okw_mem (pl := 505) (by decide +kernel)
theorem gw_cd_abs : (.code Lib.Math.abs.name Lib.Math.abs.code 1 (some .int) : Jvm.Cond) ∈ gt := okw_mem (pl := 506) (by decide +kernel)
theorem gw_in_math : (.initialized "java/lang/Math" : Jvm.Cond) ∈ gt := okw_mem (pl := 96) (by decide +kernel)
theorem gw_nat_ac : (.native arraycopyName : Jvm.Cond) ∈ gt := okw_mem (pl := 701) (by decide +kernel)
theorem gw_st_ac : (.static arraycopyName : Jvm.Cond) ∈ gt := okw_mem (pl := 700) (by decide +kernel)
theorem gw_in_sys : (.initialized "java/lang/System" : Jvm.Cond) ∈ gt := okw_mem (pl := 101) (by decide +kernel)
def ulp0 : List Nat := [144, 146, 148, 150, 152]
theorem uok0 : ∀ w ∈ u_ws RX0 TX0 5, w ∈ gt := uall (pls := ulp0) (by decide +kernel)
def ulp1 : List Nat := [279, 281, 283]
theorem uok1 : ∀ w ∈ u_ws RX1 TX1 3, w ∈ gt := uall (pls := ulp1) (by decide +kernel)
def ulp2 : List Nat := [219, 221, 223, 225, 227, 229, 231, 233, 235]
theorem uok2 : ∀ w ∈ u_ws RX2 TX2 9, w ∈ gt := uall (pls := ulp2) (by decide +kernel)
def ulp3 : List Nat := [120, 122]
theorem uok3 : ∀ w ∈ u_ws RX3 TX3 2, w ∈ gt := uall (pls := ulp3) (by decide +kernel)
def ulp4 : List Nat := [182, 184, 186, 188, 190, 192]
theorem uok4 : ∀ w ∈ u_ws RX4 TX4 6, w ∈ gt := uall (pls := ulp4) (by decide +kernel)
def ulp5 : List Nat := [256, 258, 260, 262, 264, 266]
theorem uok5 : ∀ w ∈ u_ws RX5 TX5 6, w ∈ gt := uall (pls := ulp5) (by decide +kernel)
def ulp6 : List Nat := [299, 301, 303, 305, 307, 309, 311, 313, 315, 317, 319, 321, 323]
theorem uok6 : ∀ w ∈ u_ws RX6 TX6 13, w ∈ gt := uall (pls := ulp6) (by decide +kernel)
def ulp7 : List Nat := [939, 941, 943, 945, 947, 949, 951, 953, 955, 957, 959, 961, 963, 965, 967, 969, 971, 973, 975, 977, 979, 981, 983, 985, 987, 989, 991, 993, 995, 997, 999, 1001, 1003, 1005, 1007, 1009, 1011, 1013, 1015, 1017, 1019, 1021, 1023, 1025, 1027, 1029, 1031, 1033, 1035, 1037, 1039, 1041, 1043, 1045, 1047]
theorem uok7 : ∀ w ∈ u_ws RX7 TX7 55, w ∈ gt := uall (pls := ulp7) (by decide +kernel)
theorem cls_ok {ci : Nat} {q : vw_C} (h : vwCl[ci]? = some q) : (∀ w ∈ u_ws q.1 q.2.1 q.2.2, w ∈ gt) ∧ ∃ ty0 : Nat → FieldType, (∀ k, k < q.2.2 → parseFieldDescriptor (q.2.1 k).2.2.1 = some (ty0 k)) ∧ (∀ a, a < q.2.2 → ∀ b, b < q.2.2 → a ≠ b → (q.2.1 a).2.1 ≠ (q.2.1 b).2.1) := by
  match ci, h with
  | 0, h => cases h; exact ⟨uok0, tyX0, tyX0_ok, nmX0⟩
  | 1, h => cases h; exact ⟨uok1, tyX1, tyX1_ok, nmX1⟩
  | 2, h => cases h; exact ⟨uok2, tyX2, tyX2_ok, nmX2⟩
  | 3, h => cases h; exact ⟨uok3, tyX3, tyX3_ok, nmX3⟩
  | 4, h => cases h; exact ⟨uok4, tyX4, tyX4_ok, nmX4⟩
  | 5, h => cases h; exact ⟨uok5, tyX5, tyX5_ok, nmX5⟩
  | 6, h => cases h; exact ⟨uok6, tyX6, tyX6_ok, nmX6⟩
  | 7, h => cases h; exact ⟨uok7, tyX7, tyX7_ok, nmX7⟩
  | n + 8, h => cases h
