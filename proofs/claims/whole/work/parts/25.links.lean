/-! printed by wip/whole/links.py: the words that the tables link -/
def zm_cn : List String := [RX0, RX1, RX2, RX3, RX4, RX5, RX6, RX7, RX8, RX9, RX10, RJ6, RJ13, RJ9, RJ10, RJ7, RL]
theorem zm_uw {C : String} {T : u_T} {N : Nat} (ps : List Nat) (h : ((List.range N).all fun k => decide (lw_tbl[(ps[k]?).getD 0]? = some (u_lay C T k)) && goodWord (u_lay C T k)) = true) : ∀ w ∈ u_ws C T N, w ∈ zm_WL := by
  intro w hw
  obtain ⟨k, h1, h2⟩ := List.mem_map.mp hw
  have h3 := List.all_eq_true.mp h k h1
  simp only [Bool.and_eq_true, decide_eq_true_eq] at h3
  rw [← h2]
  exact zm_WL_in _ h3.1 h3.2
theorem zu_X0_b : ((List.range 10).all fun k => decide (lw_tbl[(([113, 115, 117, 119, 121, 123, 125, 127, 129, 131] : List Nat)[k]?).getD 0]? = some (u_lay RX0 TX0 k)) && goodWord (u_lay RX0 TX0 k)) = true := by decide +kernel
theorem zu_X0 : ∀ w ∈ u_ws RX0 TX0 10, w ∈ zm_WL := zm_uw _ zu_X0_b
theorem zu_X1_b : ((List.range 2).all fun k => decide (lw_tbl[(([215, 217] : List Nat)[k]?).getD 0]? = some (u_lay RX1 TX1 k)) && goodWord (u_lay RX1 TX1 k)) = true := by decide +kernel
theorem zu_X1 : ∀ w ∈ u_ws RX1 TX1 2, w ∈ zm_WL := zm_uw _ zu_X1_b
theorem zu_X2_b : ((List.range 6).all fun k => decide (lw_tbl[(([179, 181, 183, 185, 187, 189] : List Nat)[k]?).getD 0]? = some (u_lay RX2 TX2 k)) && goodWord (u_lay RX2 TX2 k)) = true := by decide +kernel
theorem zu_X2 : ∀ w ∈ u_ws RX2 TX2 6, w ∈ zm_WL := zm_uw _ zu_X2_b
theorem zu_X5_b : ((List.range 2).all fun k => decide (lw_tbl[(([200, 202] : List Nat)[k]?).getD 0]? = some (u_lay RX5 TX5 k)) && goodWord (u_lay RX5 TX5 k)) = true := by decide +kernel
theorem zu_X5 : ∀ w ∈ u_ws RX5 TX5 2, w ∈ zm_WL := zm_uw _ zu_X5_b
theorem zu_X6_b : ((List.range 2).all fun k => decide (lw_tbl[(([85, 87] : List Nat)[k]?).getD 0]? = some (u_lay RX6 TX6 k)) && goodWord (u_lay RX6 TX6 k)) = true := by decide +kernel
theorem zu_X6 : ∀ w ∈ u_ws RX6 TX6 2, w ∈ zm_WL := zm_uw _ zu_X6_b
theorem zu_X7_b : ((List.range 6).all fun k => decide (lw_tbl[(([149, 151, 153, 155, 157, 159] : List Nat)[k]?).getD 0]? = some (u_lay RX7 TX7 k)) && goodWord (u_lay RX7 TX7 k)) = true := by decide +kernel
theorem zu_X7 : ∀ w ∈ u_ws RX7 TX7 6, w ∈ zm_WL := zm_uw _ zu_X7_b
theorem zu_X9_b : ((List.range 13).all fun k => decide (lw_tbl[(([236, 238, 240, 242, 244, 246, 248, 250, 252, 254, 256, 258, 260] : List Nat)[k]?).getD 0]? = some (u_lay RX9 TX9 k)) && goodWord (u_lay RX9 TX9 k)) = true := by decide +kernel
theorem zu_X9 : ∀ w ∈ u_ws RX9 TX9 13, w ∈ zm_WL := zm_uw _ zu_X9_b
theorem zu_X10_b : ((List.range 29).all fun k => decide (lw_tbl[(([831, 833, 835, 837, 839, 841, 843, 845, 847, 849, 851, 853, 855, 857, 859, 861, 863, 865, 867, 869, 871, 873, 875, 877, 879, 881, 883, 885, 887] : List Nat)[k]?).getD 0]? = some (u_lay RX10 TX10 k)) && goodWord (u_lay RX10 TX10 k)) = true := by decide +kernel
theorem zu_X10 : ∀ w ∈ u_ws RX10 TX10 29, w ∈ zm_WL := zm_uw _ zu_X10_b
theorem zm_fap {α : Type} {p : α → Prop} {a b : List α} (h1 : ∀ q ∈ a, p q) (h2 : ∀ q ∈ b, p q) : ∀ q ∈ a ++ b, p q := fun q h => (List.mem_append.mp h).elim (h1 q) (h2 q)
def zm_Fp (q : Nat × Nat × Nat × Nat) : Prop := ∃ (own C : String) (T : u_T) (N : Nat), zm_cn[q.1]? = some own ∧ vwCl[q.2.2.1]? = some (C, T, N) ∧ q.2.2.2 < N ∧ (∀ w ∈ u_ws C T N, w ∈ zm_WL) ∧ Jvm.Cond.fieldLink own q.2.1 (T q.2.2.2).1 (T q.2.2.2).2.1 (T q.2.2.2).2.2.1 ∈ zm_WL
def zm_Pp (q : Nat × Nat × Nat × Nat × Nat) : Prop := ∃ (own C : String) (T : u_T) (N : Nat) (ty0 : Nat → FieldType), zm_cn[q.1]? = some own ∧ vwCl[q.2.2.1]? = some (C, T, N) ∧ q.2.2.2.1 < N ∧ (∀ w ∈ u_ws C T N, w ∈ zm_WL) ∧ Jvm.Cond.fieldLink own q.2.1 (T q.2.2.2.1).1 (T q.2.2.2.1).2.1 (T q.2.2.2.1).2.2.1 ∈ zm_WL ∧ (∀ k, k < N → parseFieldDescriptor (T k).2.2.1 = some (ty0 k)) ∧ (∀ a, a < N → ∀ b, b < N → a ≠ b → (T a).2.1 ≠ (T b).2.1) ∧ (T q.2.2.2.1).2.2.2 = false ∧ ((ty0 q.2.2.2.1 = .int ∧ q.2.2.2.2 = 0) ∨ (ty0 q.2.2.2.1 = .boolean ∧ q.2.2.2.2 = 1))
def zm_Kp (q : Nat × Nat × Int) : Prop := ∃ own : String, zm_cn[q.1]? = some own ∧ Jvm.Cond.constant own q.2.1 (Int32.ofInt q.2.2) ∈ zm_WL
def zm_Jp (q : Nat × Nat × Int) : Prop := ∃ own : String, zm_cn[q.1]? = some own ∧ Jvm.Cond.constantLong own q.2.1 (Int64.ofInt q.2.2) ∈ zm_WL
def zm_Ap (q : Nat × Nat × Nat) : Prop := ∃ own : String, zm_cn[q.1]? = some own ∧ (9990 ≤ q.2.2 → q.2.2 = 9999 ∨ q.2.2 = 9998 ∨ q.2.2 = 9997) ∧ (q.2.2 = 9999 → Jvm.Cond.methodLink own q.2.1 arraycopyName ∈ zm_WL ∧ Jvm.Cond.native arraycopyName ∈ zm_WL ∧ Jvm.Cond.static arraycopyName ∈ zm_WL ∧ Jvm.Cond.initialized "java/lang/System" ∈ zm_WL) ∧ (q.2.2 = 9998 → Jvm.Cond.methodLink own q.2.1 Lib.Math.min.name ∈ zm_WL ∧ Jvm.Cond.static Lib.Math.min.name ∈ zm_WL ∧ Jvm.Cond.initialized "java/lang/Math" ∈ zm_WL ∧ Jvm.Cond.code Lib.Math.min.name Lib.Math.min.code 2 (some .int) ∈ zm_WL) ∧ (q.2.2 = 9997 → Jvm.Cond.methodLink own q.2.1 Lib.Math.max.name ∈ zm_WL ∧ Jvm.Cond.static Lib.Math.max.name ∈ zm_WL ∧ Jvm.Cond.initialized "java/lang/Math" ∈ zm_WL ∧ Jvm.Cond.code Lib.Math.max.name Lib.Math.max.code 2 (some .int) ∈ zm_WL)
def zm_Mp (q : Nat × Nat × Nat) : Prop := ∃ (own o2 : String) (y : MethodName) (cc : ByteArray) (nL : Nat) (ret : Option FieldType) (stt : Bool) (n ci : Nat) (rb : Bool) (cuts : List Nat) (T : zm_T), zm_cn[q.1]? = some own ∧ zm_ms q.2.2 = some (o2, y, cc, nL, ret, stt, n, ci, rb, cuts, T) ∧ Jvm.Cond.methodLink own q.2.1 y ∈ zm_WL
theorem zl_F_0_0 : zm_Fp (9, 12, 6, 0) := ⟨RX9, RX9, TX9, 13, rfl, rfl, by decide, zu_X9, zm_WL_in 223 (by decide +kernel) rfl⟩
theorem zl_F_0_1 : zm_Fp (9, 18, 6, 1) := ⟨RX9, RX9, TX9, 13, rfl, rfl, by decide, zu_X9, zm_WL_in 224 (by decide +kernel) rfl⟩
theorem zl_F_0_2 : zm_Fp (9, 24, 6, 3) := ⟨RX9, RX9, TX9, 13, rfl, rfl, by decide, zu_X9, zm_WL_in 226 (by decide +kernel) rfl⟩
theorem zl_F_0_3 : zm_Fp (9, 28, 6, 4) := ⟨RX9, RX9, TX9, 13, rfl, rfl, by decide, zu_X9, zm_WL_in 227 (by decide +kernel) rfl⟩
theorem zl_F_0_4 : zm_Fp (9, 34, 6, 6) := ⟨RX9, RX9, TX9, 13, rfl, rfl, by decide, zu_X9, zm_WL_in 229 (by decide +kernel) rfl⟩
theorem zl_F_0_5 : zm_Fp (9, 37, 6, 7) := ⟨RX9, RX9, TX9, 13, rfl, rfl, by decide, zu_X9, zm_WL_in 230 (by decide +kernel) rfl⟩
theorem zl_F_0_6 : zm_Fp (9, 43, 6, 8) := ⟨RX9, RX9, TX9, 13, rfl, rfl, by decide, zu_X9, zm_WL_in 231 (by decide +kernel) rfl⟩
theorem zl_F_0_7 : zm_Fp (9, 50, 6, 9) := ⟨RX9, RX9, TX9, 13, rfl, rfl, by decide, zu_X9, zm_WL_in 232 (by decide +kernel) rfl⟩
theorem zl_F_0_8 : zm_Fp (9, 57, 6, 10) := ⟨RX9, RX9, TX9, 13, rfl, rfl, by decide, zu_X9, zm_WL_in 233 (by decide +kernel) rfl⟩
theorem zl_F_0_9 : zm_Fp (9, 64, 6, 11) := ⟨RX9, RX9, TX9, 13, rfl, rfl, by decide, zu_X9, zm_WL_in 234 (by decide +kernel) rfl⟩
theorem zl_F_0_10 : zm_Fp (9, 68, 6, 12) := ⟨RX9, RX9, TX9, 13, rfl, rfl, by decide, zu_X9, zm_WL_in 235 (by decide +kernel) rfl⟩
theorem zl_F_0_11 : zm_Fp (9, 81, 0, 0) := ⟨RX9, RX0, TX0, 10, rfl, rfl, by decide, zu_X0, zm_WL_in 93 (by decide +kernel) rfl⟩
theorem zl_F_0_12 : zm_Fp (9, 89, 5, 1) := ⟨RX9, RX7, TX7, 6, rfl, rfl, by decide, zu_X7, zm_WL_in 142 (by decide +kernel) rfl⟩
theorem zl_F_0_13 : zm_Fp (9, 96, 0, 2) := ⟨RX9, RX0, TX0, 10, rfl, rfl, by decide, zu_X0, zm_WL_in 100 (by decide +kernel) rfl⟩
theorem zl_F_0_14 : zm_Fp (9, 99, 5, 3) := ⟨RX9, RX7, TX7, 6, rfl, rfl, by decide, zu_X7, zm_WL_in 146 (by decide +kernel) rfl⟩
theorem zl_F_0_15 : zm_Fp (9, 102, 5, 2) := ⟨RX9, RX7, TX7, 6, rfl, rfl, by decide, zu_X7, zm_WL_in 144 (by decide +kernel) rfl⟩
def zm_FL0 : List (Nat × Nat × Nat × Nat) := [(9, 12, 6, 0), (9, 18, 6, 1), (9, 24, 6, 3), (9, 28, 6, 4), (9, 34, 6, 6), (9, 37, 6, 7), (9, 43, 6, 8), (9, 50, 6, 9), (9, 57, 6, 10), (9, 64, 6, 11), (9, 68, 6, 12), (9, 81, 0, 0), (9, 89, 5, 1), (9, 96, 0, 2), (9, 99, 5, 3), (9, 102, 5, 2)]
theorem zl_F_0 : ∀ q ∈ zm_FL0, zm_Fp q := List.forall_mem_cons.mpr ⟨zl_F_0_0, List.forall_mem_cons.mpr ⟨zl_F_0_1, List.forall_mem_cons.mpr ⟨zl_F_0_2, List.forall_mem_cons.mpr ⟨zl_F_0_3, List.forall_mem_cons.mpr ⟨zl_F_0_4, List.forall_mem_cons.mpr ⟨zl_F_0_5, List.forall_mem_cons.mpr ⟨zl_F_0_6, List.forall_mem_cons.mpr ⟨zl_F_0_7, List.forall_mem_cons.mpr ⟨zl_F_0_8, List.forall_mem_cons.mpr ⟨zl_F_0_9, List.forall_mem_cons.mpr ⟨zl_F_0_10, List.forall_mem_cons.mpr ⟨zl_F_0_11, List.forall_mem_cons.mpr ⟨zl_F_0_12, List.forall_mem_cons.mpr ⟨zl_F_0_13, List.forall_mem_cons.mpr ⟨zl_F_0_14, List.forall_mem_cons.mpr ⟨zl_F_0_15, fun _ h => absurd h List.not_mem_nil⟩⟩⟩⟩⟩⟩⟩⟩⟩⟩⟩⟩⟩⟩⟩⟩
theorem zl_F_1_0 : zm_Fp (9, 118, 0, 1) := ⟨RX9, RX0, TX0, 10, rfl, rfl, by decide, zu_X0, zm_WL_in 96 (by decide +kernel) rfl⟩
theorem zl_F_1_1 : zm_Fp (9, 196, 0, 3) := ⟨RX9, RX0, TX0, 10, rfl, rfl, by decide, zu_X0, zm_WL_in 102 (by decide +kernel) rfl⟩
theorem zl_F_1_2 : zm_Fp (9, 200, 4, 1) := ⟨RX9, RX6, TX6, 2, rfl, rfl, by decide, zu_X6, zm_WL_in 84 (by decide +kernel) rfl⟩
theorem zl_F_1_3 : zm_Fp (9, 210, 4, 0) := ⟨RX9, RX6, TX6, 2, rfl, rfl, by decide, zu_X6, zm_WL_in 81 (by decide +kernel) rfl⟩
theorem zl_F_1_4 : zm_Fp (9, 236, 0, 6) := ⟨RX9, RX0, TX0, 10, rfl, rfl, by decide, zu_X0, zm_WL_in 108 (by decide +kernel) rfl⟩
theorem zl_F_1_5 : zm_Fp (9, 242, 0, 4) := ⟨RX9, RX0, TX0, 10, rfl, rfl, by decide, zu_X0, zm_WL_in 104 (by decide +kernel) rfl⟩
theorem zl_F_1_6 : zm_Fp (9, 245, 0, 5) := ⟨RX9, RX0, TX0, 10, rfl, rfl, by decide, zu_X0, zm_WL_in 106 (by decide +kernel) rfl⟩
theorem zl_F_1_7 : zm_Fp (9, 270, 1, 0) := ⟨RX9, RX1, TX1, 2, rfl, rfl, by decide, zu_X1, zm_WL_in 212 (by decide +kernel) rfl⟩
theorem zl_F_1_8 : zm_Fp (9, 273, 1, 1) := ⟨RX9, RX1, TX1, 2, rfl, rfl, by decide, zu_X1, zm_WL_in 214 (by decide +kernel) rfl⟩
theorem zl_F_1_9 : zm_Fp (9, 280, 0, 9) := ⟨RX9, RX0, TX0, 10, rfl, rfl, by decide, zu_X0, zm_WL_in 112 (by decide +kernel) rfl⟩
theorem zl_F_1_10 : zm_Fp (9, 299, 6, 5) := ⟨RX9, RX9, TX9, 13, rfl, rfl, by decide, zu_X9, zm_WL_in 228 (by decide +kernel) rfl⟩
theorem zl_F_1_11 : zm_Fp (9, 311, 6, 2) := ⟨RX9, RX9, TX9, 13, rfl, rfl, by decide, zu_X9, zm_WL_in 225 (by decide +kernel) rfl⟩
theorem zl_F_1_12 : zm_Fp (0, 9, 0, 0) := ⟨RX0, RX0, TX0, 10, rfl, rfl, by decide, zu_X0, zm_WL_in 91 (by decide +kernel) rfl⟩
theorem zl_F_1_13 : zm_Fp (0, 15, 0, 1) := ⟨RX0, RX0, TX0, 10, rfl, rfl, by decide, zu_X0, zm_WL_in 95 (by decide +kernel) rfl⟩
theorem zl_F_1_14 : zm_Fp (0, 22, 0, 3) := ⟨RX0, RX0, TX0, 10, rfl, rfl, by decide, zu_X0, zm_WL_in 101 (by decide +kernel) rfl⟩
theorem zl_F_1_15 : zm_Fp (0, 26, 0, 4) := ⟨RX0, RX0, TX0, 10, rfl, rfl, by decide, zu_X0, zm_WL_in 103 (by decide +kernel) rfl⟩
def zm_FL1 : List (Nat × Nat × Nat × Nat) := [(9, 118, 0, 1), (9, 196, 0, 3), (9, 200, 4, 1), (9, 210, 4, 0), (9, 236, 0, 6), (9, 242, 0, 4), (9, 245, 0, 5), (9, 270, 1, 0), (9, 273, 1, 1), (9, 280, 0, 9), (9, 299, 6, 5), (9, 311, 6, 2), (0, 9, 0, 0), (0, 15, 0, 1), (0, 22, 0, 3), (0, 26, 0, 4)]
theorem zl_F_1 : ∀ q ∈ zm_FL1, zm_Fp q := List.forall_mem_cons.mpr ⟨zl_F_1_0, List.forall_mem_cons.mpr ⟨zl_F_1_1, List.forall_mem_cons.mpr ⟨zl_F_1_2, List.forall_mem_cons.mpr ⟨zl_F_1_3, List.forall_mem_cons.mpr ⟨zl_F_1_4, List.forall_mem_cons.mpr ⟨zl_F_1_5, List.forall_mem_cons.mpr ⟨zl_F_1_6, List.forall_mem_cons.mpr ⟨zl_F_1_7, List.forall_mem_cons.mpr ⟨zl_F_1_8, List.forall_mem_cons.mpr ⟨zl_F_1_9, List.forall_mem_cons.mpr ⟨zl_F_1_10, List.forall_mem_cons.mpr ⟨zl_F_1_11, List.forall_mem_cons.mpr ⟨zl_F_1_12, List.forall_mem_cons.mpr ⟨zl_F_1_13, List.forall_mem_cons.mpr ⟨zl_F_1_14, List.forall_mem_cons.mpr ⟨zl_F_1_15, fun _ h => absurd h List.not_mem_nil⟩⟩⟩⟩⟩⟩⟩⟩⟩⟩⟩⟩⟩⟩⟩⟩
theorem zl_F_2_0 : zm_Fp (0, 29, 0, 5) := ⟨RX0, RX0, TX0, 10, rfl, rfl, by decide, zu_X0, zm_WL_in 105 (by decide +kernel) rfl⟩
theorem zl_F_2_1 : zm_Fp (0, 32, 0, 7) := ⟨RX0, RX0, TX0, 10, rfl, rfl, by decide, zu_X0, zm_WL_in 109 (by decide +kernel) rfl⟩
theorem zl_F_2_2 : zm_Fp (0, 35, 0, 8) := ⟨RX0, RX0, TX0, 10, rfl, rfl, by decide, zu_X0, zm_WL_in 110 (by decide +kernel) rfl⟩
theorem zl_F_2_3 : zm_Fp (0, 38, 0, 2) := ⟨RX0, RX0, TX0, 10, rfl, rfl, by decide, zu_X0, zm_WL_in 97 (by decide +kernel) rfl⟩
theorem zl_F_2_4 : zm_Fp (0, 41, 0, 6) := ⟨RX0, RX0, TX0, 10, rfl, rfl, by decide, zu_X0, zm_WL_in 107 (by decide +kernel) rfl⟩
theorem zl_F_2_5 : zm_Fp (0, 44, 0, 9) := ⟨RX0, RX0, TX0, 10, rfl, rfl, by decide, zu_X0, zm_WL_in 111 (by decide +kernel) rfl⟩
theorem zl_F_2_6 : zm_Fp (0, 71, 4, 1) := ⟨RX0, RX6, TX6, 2, rfl, rfl, by decide, zu_X6, zm_WL_in 83 (by decide +kernel) rfl⟩
theorem zl_F_2_7 : zm_Fp (1, 10, 1, 0) := ⟨RX1, RX1, TX1, 2, rfl, rfl, by decide, zu_X1, zm_WL_in 211 (by decide +kernel) rfl⟩
theorem zl_F_2_8 : zm_Fp (1, 16, 1, 1) := ⟨RX1, RX1, TX1, 2, rfl, rfl, by decide, zu_X1, zm_WL_in 213 (by decide +kernel) rfl⟩
theorem zl_F_2_9 : zm_Fp (2, 9, 2, 0) := ⟨RX2, RX2, TX2, 6, rfl, rfl, by decide, zu_X2, zm_WL_in 173 (by decide +kernel) rfl⟩
theorem zl_F_2_10 : zm_Fp (2, 17, 2, 3) := ⟨RX2, RX2, TX2, 6, rfl, rfl, by decide, zu_X2, zm_WL_in 176 (by decide +kernel) rfl⟩
theorem zl_F_2_11 : zm_Fp (2, 20, 2, 4) := ⟨RX2, RX2, TX2, 6, rfl, rfl, by decide, zu_X2, zm_WL_in 177 (by decide +kernel) rfl⟩
theorem zl_F_2_12 : zm_Fp (2, 23, 2, 5) := ⟨RX2, RX2, TX2, 6, rfl, rfl, by decide, zu_X2, zm_WL_in 178 (by decide +kernel) rfl⟩
theorem zl_F_2_13 : zm_Fp (2, 26, 0, 0) := ⟨RX2, RX0, TX0, 10, rfl, rfl, by decide, zu_X0, zm_WL_in 92 (by decide +kernel) rfl⟩
theorem zl_F_2_14 : zm_Fp (2, 32, 2, 2) := ⟨RX2, RX2, TX2, 6, rfl, rfl, by decide, zu_X2, zm_WL_in 175 (by decide +kernel) rfl⟩
theorem zl_F_2_15 : zm_Fp (2, 33, 2, 1) := ⟨RX2, RX2, TX2, 6, rfl, rfl, by decide, zu_X2, zm_WL_in 174 (by decide +kernel) rfl⟩
def zm_FL2 : List (Nat × Nat × Nat × Nat) := [(0, 29, 0, 5), (0, 32, 0, 7), (0, 35, 0, 8), (0, 38, 0, 2), (0, 41, 0, 6), (0, 44, 0, 9), (0, 71, 4, 1), (1, 10, 1, 0), (1, 16, 1, 1), (2, 9, 2, 0), (2, 17, 2, 3), (2, 20, 2, 4), (2, 23, 2, 5), (2, 26, 0, 0), (2, 32, 2, 2), (2, 33, 2, 1)]
theorem zl_F_2 : ∀ q ∈ zm_FL2, zm_Fp q := List.forall_mem_cons.mpr ⟨zl_F_2_0, List.forall_mem_cons.mpr ⟨zl_F_2_1, List.forall_mem_cons.mpr ⟨zl_F_2_2, List.forall_mem_cons.mpr ⟨zl_F_2_3, List.forall_mem_cons.mpr ⟨zl_F_2_4, List.forall_mem_cons.mpr ⟨zl_F_2_5, List.forall_mem_cons.mpr ⟨zl_F_2_6, List.forall_mem_cons.mpr ⟨zl_F_2_7, List.forall_mem_cons.mpr ⟨zl_F_2_8, List.forall_mem_cons.mpr ⟨zl_F_2_9, List.forall_mem_cons.mpr ⟨zl_F_2_10, List.forall_mem_cons.mpr ⟨zl_F_2_11, List.forall_mem_cons.mpr ⟨zl_F_2_12, List.forall_mem_cons.mpr ⟨zl_F_2_13, List.forall_mem_cons.mpr ⟨zl_F_2_14, List.forall_mem_cons.mpr ⟨zl_F_2_15, fun _ h => absurd h List.not_mem_nil⟩⟩⟩⟩⟩⟩⟩⟩⟩⟩⟩⟩⟩⟩⟩⟩
theorem zl_F_3_0 : zm_Fp (2, 36, 0, 2) := ⟨RX2, RX0, TX0, 10, rfl, rfl, by decide, zu_X0, zm_WL_in 98 (by decide +kernel) rfl⟩
theorem zl_F_3_1 : zm_Fp (5, 9, 3, 0) := ⟨RX5, RX5, TX5, 2, rfl, rfl, by decide, zu_X5, zm_WL_in 198 (by decide +kernel) rfl⟩
theorem zl_F_3_2 : zm_Fp (5, 15, 3, 1) := ⟨RX5, RX5, TX5, 2, rfl, rfl, by decide, zu_X5, zm_WL_in 199 (by decide +kernel) rfl⟩
theorem zl_F_3_3 : zm_Fp (5, 18, 0, 2) := ⟨RX5, RX0, TX0, 10, rfl, rfl, by decide, zu_X0, zm_WL_in 99 (by decide +kernel) rfl⟩
theorem zl_F_3_4 : zm_Fp (5, 34, 0, 0) := ⟨RX5, RX0, TX0, 10, rfl, rfl, by decide, zu_X0, zm_WL_in 94 (by decide +kernel) rfl⟩
theorem zl_F_3_5 : zm_Fp (6, 9, 4, 0) := ⟨RX6, RX6, TX6, 2, rfl, rfl, by decide, zu_X6, zm_WL_in 80 (by decide +kernel) rfl⟩
theorem zl_F_3_6 : zm_Fp (6, 15, 4, 1) := ⟨RX6, RX6, TX6, 2, rfl, rfl, by decide, zu_X6, zm_WL_in 82 (by decide +kernel) rfl⟩
theorem zl_F_3_7 : zm_Fp (7, 9, 5, 0) := ⟨RX7, RX7, TX7, 6, rfl, rfl, by decide, zu_X7, zm_WL_in 140 (by decide +kernel) rfl⟩
theorem zl_F_3_8 : zm_Fp (7, 15, 5, 2) := ⟨RX7, RX7, TX7, 6, rfl, rfl, by decide, zu_X7, zm_WL_in 143 (by decide +kernel) rfl⟩
theorem zl_F_3_9 : zm_Fp (7, 18, 5, 1) := ⟨RX7, RX7, TX7, 6, rfl, rfl, by decide, zu_X7, zm_WL_in 141 (by decide +kernel) rfl⟩
theorem zl_F_3_10 : zm_Fp (7, 22, 5, 3) := ⟨RX7, RX7, TX7, 6, rfl, rfl, by decide, zu_X7, zm_WL_in 145 (by decide +kernel) rfl⟩
theorem zl_F_3_11 : zm_Fp (7, 25, 5, 4) := ⟨RX7, RX7, TX7, 6, rfl, rfl, by decide, zu_X7, zm_WL_in 147 (by decide +kernel) rfl⟩
theorem zl_F_3_12 : zm_Fp (7, 28, 5, 5) := ⟨RX7, RX7, TX7, 6, rfl, rfl, by decide, zu_X7, zm_WL_in 148 (by decide +kernel) rfl⟩
theorem zl_F_3_13 : zm_Fp (10, 9, 7, 0) := ⟨RX10, RX10, TX10, 29, rfl, rfl, by decide, zu_X10, zm_WL_in 802 (by decide +kernel) rfl⟩
theorem zl_F_3_14 : zm_Fp (10, 15, 7, 1) := ⟨RX10, RX10, TX10, 29, rfl, rfl, by decide, zu_X10, zm_WL_in 803 (by decide +kernel) rfl⟩
theorem zl_F_3_15 : zm_Fp (10, 19, 7, 3) := ⟨RX10, RX10, TX10, 29, rfl, rfl, by decide, zu_X10, zm_WL_in 805 (by decide +kernel) rfl⟩
def zm_FL3 : List (Nat × Nat × Nat × Nat) := [(2, 36, 0, 2), (5, 9, 3, 0), (5, 15, 3, 1), (5, 18, 0, 2), (5, 34, 0, 0), (6, 9, 4, 0), (6, 15, 4, 1), (7, 9, 5, 0), (7, 15, 5, 2), (7, 18, 5, 1), (7, 22, 5, 3), (7, 25, 5, 4), (7, 28, 5, 5), (10, 9, 7, 0), (10, 15, 7, 1), (10, 19, 7, 3)]
theorem zl_F_3 : ∀ q ∈ zm_FL3, zm_Fp q := List.forall_mem_cons.mpr ⟨zl_F_3_0, List.forall_mem_cons.mpr ⟨zl_F_3_1, List.forall_mem_cons.mpr ⟨zl_F_3_2, List.forall_mem_cons.mpr ⟨zl_F_3_3, List.forall_mem_cons.mpr ⟨zl_F_3_4, List.forall_mem_cons.mpr ⟨zl_F_3_5, List.forall_mem_cons.mpr ⟨zl_F_3_6, List.forall_mem_cons.mpr ⟨zl_F_3_7, List.forall_mem_cons.mpr ⟨zl_F_3_8, List.forall_mem_cons.mpr ⟨zl_F_3_9, List.forall_mem_cons.mpr ⟨zl_F_3_10, List.forall_mem_cons.mpr ⟨zl_F_3_11, List.forall_mem_cons.mpr ⟨zl_F_3_12, List.forall_mem_cons.mpr ⟨zl_F_3_13, List.forall_mem_cons.mpr ⟨zl_F_3_14, List.forall_mem_cons.mpr ⟨zl_F_3_15, fun _ h => absurd h List.not_mem_nil⟩⟩⟩⟩⟩⟩⟩⟩⟩⟩⟩⟩⟩⟩⟩⟩
theorem zl_F_4_0 : zm_Fp (10, 22, 7, 5) := ⟨RX10, RX10, TX10, 29, rfl, rfl, by decide, zu_X10, zm_WL_in 807 (by decide +kernel) rfl⟩
theorem zl_F_4_1 : zm_Fp (10, 25, 7, 6) := ⟨RX10, RX10, TX10, 29, rfl, rfl, by decide, zu_X10, zm_WL_in 808 (by decide +kernel) rfl⟩
theorem zl_F_4_2 : zm_Fp (10, 28, 7, 8) := ⟨RX10, RX10, TX10, 29, rfl, rfl, by decide, zu_X10, zm_WL_in 810 (by decide +kernel) rfl⟩
theorem zl_F_4_3 : zm_Fp (10, 31, 7, 9) := ⟨RX10, RX10, TX10, 29, rfl, rfl, by decide, zu_X10, zm_WL_in 811 (by decide +kernel) rfl⟩
theorem zl_F_4_4 : zm_Fp (10, 34, 7, 11) := ⟨RX10, RX10, TX10, 29, rfl, rfl, by decide, zu_X10, zm_WL_in 813 (by decide +kernel) rfl⟩
theorem zl_F_4_5 : zm_Fp (10, 37, 7, 13) := ⟨RX10, RX10, TX10, 29, rfl, rfl, by decide, zu_X10, zm_WL_in 815 (by decide +kernel) rfl⟩
theorem zl_F_4_6 : zm_Fp (10, 40, 7, 15) := ⟨RX10, RX10, TX10, 29, rfl, rfl, by decide, zu_X10, zm_WL_in 817 (by decide +kernel) rfl⟩
theorem zl_F_4_7 : zm_Fp (10, 43, 7, 16) := ⟨RX10, RX10, TX10, 29, rfl, rfl, by decide, zu_X10, zm_WL_in 818 (by decide +kernel) rfl⟩
theorem zl_F_4_8 : zm_Fp (10, 46, 7, 17) := ⟨RX10, RX10, TX10, 29, rfl, rfl, by decide, zu_X10, zm_WL_in 819 (by decide +kernel) rfl⟩
theorem zl_F_4_9 : zm_Fp (10, 49, 7, 19) := ⟨RX10, RX10, TX10, 29, rfl, rfl, by decide, zu_X10, zm_WL_in 821 (by decide +kernel) rfl⟩
theorem zl_F_4_10 : zm_Fp (10, 52, 7, 20) := ⟨RX10, RX10, TX10, 29, rfl, rfl, by decide, zu_X10, zm_WL_in 822 (by decide +kernel) rfl⟩
theorem zl_F_4_11 : zm_Fp (10, 55, 7, 22) := ⟨RX10, RX10, TX10, 29, rfl, rfl, by decide, zu_X10, zm_WL_in 824 (by decide +kernel) rfl⟩
theorem zl_F_4_12 : zm_Fp (10, 58, 7, 23) := ⟨RX10, RX10, TX10, 29, rfl, rfl, by decide, zu_X10, zm_WL_in 825 (by decide +kernel) rfl⟩
theorem zl_F_4_13 : zm_Fp (10, 62, 7, 24) := ⟨RX10, RX10, TX10, 29, rfl, rfl, by decide, zu_X10, zm_WL_in 826 (by decide +kernel) rfl⟩
theorem zl_F_4_14 : zm_Fp (10, 65, 7, 25) := ⟨RX10, RX10, TX10, 29, rfl, rfl, by decide, zu_X10, zm_WL_in 827 (by decide +kernel) rfl⟩
theorem zl_F_4_15 : zm_Fp (10, 68, 7, 27) := ⟨RX10, RX10, TX10, 29, rfl, rfl, by decide, zu_X10, zm_WL_in 829 (by decide +kernel) rfl⟩
def zm_FL4 : List (Nat × Nat × Nat × Nat) := [(10, 22, 7, 5), (10, 25, 7, 6), (10, 28, 7, 8), (10, 31, 7, 9), (10, 34, 7, 11), (10, 37, 7, 13), (10, 40, 7, 15), (10, 43, 7, 16), (10, 46, 7, 17), (10, 49, 7, 19), (10, 52, 7, 20), (10, 55, 7, 22), (10, 58, 7, 23), (10, 62, 7, 24), (10, 65, 7, 25), (10, 68, 7, 27)]
theorem zl_F_4 : ∀ q ∈ zm_FL4, zm_Fp q := List.forall_mem_cons.mpr ⟨zl_F_4_0, List.forall_mem_cons.mpr ⟨zl_F_4_1, List.forall_mem_cons.mpr ⟨zl_F_4_2, List.forall_mem_cons.mpr ⟨zl_F_4_3, List.forall_mem_cons.mpr ⟨zl_F_4_4, List.forall_mem_cons.mpr ⟨zl_F_4_5, List.forall_mem_cons.mpr ⟨zl_F_4_6, List.forall_mem_cons.mpr ⟨zl_F_4_7, List.forall_mem_cons.mpr ⟨zl_F_4_8, List.forall_mem_cons.mpr ⟨zl_F_4_9, List.forall_mem_cons.mpr ⟨zl_F_4_10, List.forall_mem_cons.mpr ⟨zl_F_4_11, List.forall_mem_cons.mpr ⟨zl_F_4_12, List.forall_mem_cons.mpr ⟨zl_F_4_13, List.forall_mem_cons.mpr ⟨zl_F_4_14, List.forall_mem_cons.mpr ⟨zl_F_4_15, fun _ h => absurd h List.not_mem_nil⟩⟩⟩⟩⟩⟩⟩⟩⟩⟩⟩⟩⟩⟩⟩⟩
theorem zl_F_5_0 : zm_Fp (10, 71, 7, 28) := ⟨RX10, RX10, TX10, 29, rfl, rfl, by decide, zu_X10, zm_WL_in 830 (by decide +kernel) rfl⟩
theorem zl_F_5_1 : zm_Fp (10, 74, 7, 2) := ⟨RX10, RX10, TX10, 29, rfl, rfl, by decide, zu_X10, zm_WL_in 804 (by decide +kernel) rfl⟩
theorem zl_F_5_2 : zm_Fp (10, 121, 7, 4) := ⟨RX10, RX10, TX10, 29, rfl, rfl, by decide, zu_X10, zm_WL_in 806 (by decide +kernel) rfl⟩
theorem zl_F_5_3 : zm_Fp (10, 124, 7, 12) := ⟨RX10, RX10, TX10, 29, rfl, rfl, by decide, zu_X10, zm_WL_in 814 (by decide +kernel) rfl⟩
theorem zl_F_5_4 : zm_Fp (10, 160, 7, 26) := ⟨RX10, RX10, TX10, 29, rfl, rfl, by decide, zu_X10, zm_WL_in 828 (by decide +kernel) rfl⟩
theorem zl_F_5_5 : zm_Fp (10, 215, 7, 7) := ⟨RX10, RX10, TX10, 29, rfl, rfl, by decide, zu_X10, zm_WL_in 809 (by decide +kernel) rfl⟩
theorem zl_F_5_6 : zm_Fp (10, 250, 7, 10) := ⟨RX10, RX10, TX10, 29, rfl, rfl, by decide, zu_X10, zm_WL_in 812 (by decide +kernel) rfl⟩
theorem zl_F_5_7 : zm_Fp (10, 256, 7, 21) := ⟨RX10, RX10, TX10, 29, rfl, rfl, by decide, zu_X10, zm_WL_in 823 (by decide +kernel) rfl⟩
theorem zl_F_5_8 : zm_Fp (10, 263, 7, 14) := ⟨RX10, RX10, TX10, 29, rfl, rfl, by decide, zu_X10, zm_WL_in 816 (by decide +kernel) rfl⟩
theorem zl_F_5_9 : zm_Fp (10, 269, 7, 18) := ⟨RX10, RX10, TX10, 29, rfl, rfl, by decide, zu_X10, zm_WL_in 820 (by decide +kernel) rfl⟩
def zm_FL5 : List (Nat × Nat × Nat × Nat) := [(10, 71, 7, 28), (10, 74, 7, 2), (10, 121, 7, 4), (10, 124, 7, 12), (10, 160, 7, 26), (10, 215, 7, 7), (10, 250, 7, 10), (10, 256, 7, 21), (10, 263, 7, 14), (10, 269, 7, 18)]
theorem zl_F_5 : ∀ q ∈ zm_FL5, zm_Fp q := List.forall_mem_cons.mpr ⟨zl_F_5_0, List.forall_mem_cons.mpr ⟨zl_F_5_1, List.forall_mem_cons.mpr ⟨zl_F_5_2, List.forall_mem_cons.mpr ⟨zl_F_5_3, List.forall_mem_cons.mpr ⟨zl_F_5_4, List.forall_mem_cons.mpr ⟨zl_F_5_5, List.forall_mem_cons.mpr ⟨zl_F_5_6, List.forall_mem_cons.mpr ⟨zl_F_5_7, List.forall_mem_cons.mpr ⟨zl_F_5_8, List.forall_mem_cons.mpr ⟨zl_F_5_9, fun _ h => absurd h List.not_mem_nil⟩⟩⟩⟩⟩⟩⟩⟩⟩⟩
def zm_FL : List (Nat × Nat × Nat × Nat) := zm_FL0 ++ (zm_FL1 ++ (zm_FL2 ++ (zm_FL3 ++ (zm_FL4 ++ (zm_FL5)))))
theorem zl_F : ∀ q ∈ zm_FL, zm_Fp q := zm_fap zl_F_0 (zm_fap zl_F_1 (zm_fap zl_F_2 (zm_fap zl_F_3 (zm_fap zl_F_4 (zl_F_5)))))
theorem zl_P_0_0 : zm_Pp (9, 81, 0, 0, 0) := ⟨RX9, RX0, TX0, 10, tyX0, rfl, rfl, by decide, zu_X0, zm_WL_in 93 (by decide +kernel) rfl, tyX0_ok, nmX0, rfl, Or.inl ⟨rfl, rfl⟩⟩
theorem zl_P_0_1 : zm_Pp (9, 89, 5, 1, 0) := ⟨RX9, RX7, TX7, 6, tyX7, rfl, rfl, by decide, zu_X7, zm_WL_in 142 (by decide +kernel) rfl, tyX7_ok, nmX7, rfl, Or.inl ⟨rfl, rfl⟩⟩
theorem zl_P_0_2 : zm_Pp (9, 200, 4, 1, 0) := ⟨RX9, RX6, TX6, 2, tyX6, rfl, rfl, by decide, zu_X6, zm_WL_in 84 (by decide +kernel) rfl, tyX6_ok, nmX6, rfl, Or.inl ⟨rfl, rfl⟩⟩
theorem zl_P_0_3 : zm_Pp (9, 280, 0, 9, 0) := ⟨RX9, RX0, TX0, 10, tyX0, rfl, rfl, by decide, zu_X0, zm_WL_in 112 (by decide +kernel) rfl, tyX0_ok, nmX0, rfl, Or.inl ⟨rfl, rfl⟩⟩
theorem zl_P_0_4 : zm_Pp (9, 299, 6, 5, 0) := ⟨RX9, RX9, TX9, 13, tyX9, rfl, rfl, by decide, zu_X9, zm_WL_in 228 (by decide +kernel) rfl, tyX9_ok, nmX9, rfl, Or.inl ⟨rfl, rfl⟩⟩
theorem zl_P_0_5 : zm_Pp (9, 311, 6, 2, 1) := ⟨RX9, RX9, TX9, 13, tyX9, rfl, rfl, by decide, zu_X9, zm_WL_in 225 (by decide +kernel) rfl, tyX9_ok, nmX9, rfl, Or.inr ⟨rfl, rfl⟩⟩
theorem zl_P_0_6 : zm_Pp (0, 9, 0, 0, 0) := ⟨RX0, RX0, TX0, 10, tyX0, rfl, rfl, by decide, zu_X0, zm_WL_in 91 (by decide +kernel) rfl, tyX0_ok, nmX0, rfl, Or.inl ⟨rfl, rfl⟩⟩
theorem zl_P_0_7 : zm_Pp (0, 38, 0, 2, 0) := ⟨RX0, RX0, TX0, 10, tyX0, rfl, rfl, by decide, zu_X0, zm_WL_in 97 (by decide +kernel) rfl, tyX0_ok, nmX0, rfl, Or.inl ⟨rfl, rfl⟩⟩
theorem zl_P_0_8 : zm_Pp (0, 41, 0, 6, 0) := ⟨RX0, RX0, TX0, 10, tyX0, rfl, rfl, by decide, zu_X0, zm_WL_in 107 (by decide +kernel) rfl, tyX0_ok, nmX0, rfl, Or.inl ⟨rfl, rfl⟩⟩
theorem zl_P_0_9 : zm_Pp (0, 44, 0, 9, 0) := ⟨RX0, RX0, TX0, 10, tyX0, rfl, rfl, by decide, zu_X0, zm_WL_in 111 (by decide +kernel) rfl, tyX0_ok, nmX0, rfl, Or.inl ⟨rfl, rfl⟩⟩
theorem zl_P_0_10 : zm_Pp (1, 10, 1, 0, 0) := ⟨RX1, RX1, TX1, 2, tyX1, rfl, rfl, by decide, zu_X1, zm_WL_in 211 (by decide +kernel) rfl, tyX1_ok, nmX1, rfl, Or.inl ⟨rfl, rfl⟩⟩
theorem zl_P_0_11 : zm_Pp (1, 16, 1, 1, 0) := ⟨RX1, RX1, TX1, 2, tyX1, rfl, rfl, by decide, zu_X1, zm_WL_in 213 (by decide +kernel) rfl, tyX1_ok, nmX1, rfl, Or.inl ⟨rfl, rfl⟩⟩
theorem zl_P_0_12 : zm_Pp (2, 32, 2, 2, 0) := ⟨RX2, RX2, TX2, 6, tyX2, rfl, rfl, by decide, zu_X2, zm_WL_in 175 (by decide +kernel) rfl, tyX2_ok, nmX2, rfl, Or.inl ⟨rfl, rfl⟩⟩
theorem zl_P_0_13 : zm_Pp (2, 33, 2, 1, 0) := ⟨RX2, RX2, TX2, 6, tyX2, rfl, rfl, by decide, zu_X2, zm_WL_in 174 (by decide +kernel) rfl, tyX2_ok, nmX2, rfl, Or.inl ⟨rfl, rfl⟩⟩
theorem zl_P_0_14 : zm_Pp (6, 15, 4, 1, 0) := ⟨RX6, RX6, TX6, 2, tyX6, rfl, rfl, by decide, zu_X6, zm_WL_in 82 (by decide +kernel) rfl, tyX6_ok, nmX6, rfl, Or.inl ⟨rfl, rfl⟩⟩
theorem zl_P_0_15 : zm_Pp (7, 18, 5, 1, 0) := ⟨RX7, RX7, TX7, 6, tyX7, rfl, rfl, by decide, zu_X7, zm_WL_in 141 (by decide +kernel) rfl, tyX7_ok, nmX7, rfl, Or.inl ⟨rfl, rfl⟩⟩
def zm_PL0 : List (Nat × Nat × Nat × Nat × Nat) := [(9, 81, 0, 0, 0), (9, 89, 5, 1, 0), (9, 200, 4, 1, 0), (9, 280, 0, 9, 0), (9, 299, 6, 5, 0), (9, 311, 6, 2, 1), (0, 9, 0, 0, 0), (0, 38, 0, 2, 0), (0, 41, 0, 6, 0), (0, 44, 0, 9, 0), (1, 10, 1, 0, 0), (1, 16, 1, 1, 0), (2, 32, 2, 2, 0), (2, 33, 2, 1, 0), (6, 15, 4, 1, 0), (7, 18, 5, 1, 0)]
theorem zl_P_0 : ∀ q ∈ zm_PL0, zm_Pp q := List.forall_mem_cons.mpr ⟨zl_P_0_0, List.forall_mem_cons.mpr ⟨zl_P_0_1, List.forall_mem_cons.mpr ⟨zl_P_0_2, List.forall_mem_cons.mpr ⟨zl_P_0_3, List.forall_mem_cons.mpr ⟨zl_P_0_4, List.forall_mem_cons.mpr ⟨zl_P_0_5, List.forall_mem_cons.mpr ⟨zl_P_0_6, List.forall_mem_cons.mpr ⟨zl_P_0_7, List.forall_mem_cons.mpr ⟨zl_P_0_8, List.forall_mem_cons.mpr ⟨zl_P_0_9, List.forall_mem_cons.mpr ⟨zl_P_0_10, List.forall_mem_cons.mpr ⟨zl_P_0_11, List.forall_mem_cons.mpr ⟨zl_P_0_12, List.forall_mem_cons.mpr ⟨zl_P_0_13, List.forall_mem_cons.mpr ⟨zl_P_0_14, List.forall_mem_cons.mpr ⟨zl_P_0_15, fun _ h => absurd h List.not_mem_nil⟩⟩⟩⟩⟩⟩⟩⟩⟩⟩⟩⟩⟩⟩⟩⟩
theorem zl_P_1_0 : zm_Pp (7, 22, 5, 3, 0) := ⟨RX7, RX7, TX7, 6, tyX7, rfl, rfl, by decide, zu_X7, zm_WL_in 145 (by decide +kernel) rfl, tyX7_ok, nmX7, rfl, Or.inl ⟨rfl, rfl⟩⟩
theorem zl_P_1_1 : zm_Pp (7, 25, 5, 4, 0) := ⟨RX7, RX7, TX7, 6, tyX7, rfl, rfl, by decide, zu_X7, zm_WL_in 147 (by decide +kernel) rfl, tyX7_ok, nmX7, rfl, Or.inl ⟨rfl, rfl⟩⟩
theorem zl_P_1_2 : zm_Pp (7, 28, 5, 5, 0) := ⟨RX7, RX7, TX7, 6, tyX7, rfl, rfl, by decide, zu_X7, zm_WL_in 148 (by decide +kernel) rfl, tyX7_ok, nmX7, rfl, Or.inl ⟨rfl, rfl⟩⟩
theorem zl_P_1_3 : zm_Pp (10, 9, 7, 0, 0) := ⟨RX10, RX10, TX10, 29, tyX10, rfl, rfl, by decide, zu_X10, zm_WL_in 802 (by decide +kernel) rfl, tyX10_ok, nmX10, rfl, Or.inl ⟨rfl, rfl⟩⟩
theorem zl_P_1_4 : zm_Pp (10, 74, 7, 2, 0) := ⟨RX10, RX10, TX10, 29, tyX10, rfl, rfl, by decide, zu_X10, zm_WL_in 804 (by decide +kernel) rfl, tyX10_ok, nmX10, rfl, Or.inl ⟨rfl, rfl⟩⟩
theorem zl_P_1_5 : zm_Pp (10, 121, 7, 4, 0) := ⟨RX10, RX10, TX10, 29, tyX10, rfl, rfl, by decide, zu_X10, zm_WL_in 806 (by decide +kernel) rfl, tyX10_ok, nmX10, rfl, Or.inl ⟨rfl, rfl⟩⟩
theorem zl_P_1_6 : zm_Pp (10, 124, 7, 12, 0) := ⟨RX10, RX10, TX10, 29, tyX10, rfl, rfl, by decide, zu_X10, zm_WL_in 814 (by decide +kernel) rfl, tyX10_ok, nmX10, rfl, Or.inl ⟨rfl, rfl⟩⟩
theorem zl_P_1_7 : zm_Pp (10, 160, 7, 26, 0) := ⟨RX10, RX10, TX10, 29, tyX10, rfl, rfl, by decide, zu_X10, zm_WL_in 828 (by decide +kernel) rfl, tyX10_ok, nmX10, rfl, Or.inl ⟨rfl, rfl⟩⟩
theorem zl_P_1_8 : zm_Pp (10, 215, 7, 7, 0) := ⟨RX10, RX10, TX10, 29, tyX10, rfl, rfl, by decide, zu_X10, zm_WL_in 809 (by decide +kernel) rfl, tyX10_ok, nmX10, rfl, Or.inl ⟨rfl, rfl⟩⟩
theorem zl_P_1_9 : zm_Pp (10, 250, 7, 10, 0) := ⟨RX10, RX10, TX10, 29, tyX10, rfl, rfl, by decide, zu_X10, zm_WL_in 812 (by decide +kernel) rfl, tyX10_ok, nmX10, rfl, Or.inl ⟨rfl, rfl⟩⟩
theorem zl_P_1_10 : zm_Pp (10, 256, 7, 21, 0) := ⟨RX10, RX10, TX10, 29, tyX10, rfl, rfl, by decide, zu_X10, zm_WL_in 823 (by decide +kernel) rfl, tyX10_ok, nmX10, rfl, Or.inl ⟨rfl, rfl⟩⟩
theorem zl_P_1_11 : zm_Pp (10, 263, 7, 14, 0) := ⟨RX10, RX10, TX10, 29, tyX10, rfl, rfl, by decide, zu_X10, zm_WL_in 816 (by decide +kernel) rfl, tyX10_ok, nmX10, rfl, Or.inl ⟨rfl, rfl⟩⟩
theorem zl_P_1_12 : zm_Pp (10, 269, 7, 18, 1) := ⟨RX10, RX10, TX10, 29, tyX10, rfl, rfl, by decide, zu_X10, zm_WL_in 820 (by decide +kernel) rfl, tyX10_ok, nmX10, rfl, Or.inr ⟨rfl, rfl⟩⟩
def zm_PL1 : List (Nat × Nat × Nat × Nat × Nat) := [(7, 22, 5, 3, 0), (7, 25, 5, 4, 0), (7, 28, 5, 5, 0), (10, 9, 7, 0, 0), (10, 74, 7, 2, 0), (10, 121, 7, 4, 0), (10, 124, 7, 12, 0), (10, 160, 7, 26, 0), (10, 215, 7, 7, 0), (10, 250, 7, 10, 0), (10, 256, 7, 21, 0), (10, 263, 7, 14, 0), (10, 269, 7, 18, 1)]
theorem zl_P_1 : ∀ q ∈ zm_PL1, zm_Pp q := List.forall_mem_cons.mpr ⟨zl_P_1_0, List.forall_mem_cons.mpr ⟨zl_P_1_1, List.forall_mem_cons.mpr ⟨zl_P_1_2, List.forall_mem_cons.mpr ⟨zl_P_1_3, List.forall_mem_cons.mpr ⟨zl_P_1_4, List.forall_mem_cons.mpr ⟨zl_P_1_5, List.forall_mem_cons.mpr ⟨zl_P_1_6, List.forall_mem_cons.mpr ⟨zl_P_1_7, List.forall_mem_cons.mpr ⟨zl_P_1_8, List.forall_mem_cons.mpr ⟨zl_P_1_9, List.forall_mem_cons.mpr ⟨zl_P_1_10, List.forall_mem_cons.mpr ⟨zl_P_1_11, List.forall_mem_cons.mpr ⟨zl_P_1_12, fun _ h => absurd h List.not_mem_nil⟩⟩⟩⟩⟩⟩⟩⟩⟩⟩⟩⟩⟩
def zm_PL : List (Nat × Nat × Nat × Nat × Nat) := zm_PL0 ++ (zm_PL1)
theorem zl_P : ∀ q ∈ zm_PL, zm_Pp q := zm_fap zl_P_0 (zl_P_1)
theorem zl_K_0_0 : zm_Kp (1, 9, 1103515245) := ⟨RX1, rfl, zm_WL_in 543 (by decide +kernel) rfl⟩
theorem zl_K_0_1 : zm_Kp (10, 192, 1103515245) := ⟨RX10, rfl, zm_WL_in 1060 (by decide +kernel) rfl⟩
theorem zl_K_0_2 : zm_Kp (10, 245, 100000) := ⟨RX10, rfl, zm_WL_in 1162 (by decide +kernel) rfl⟩
theorem zl_K_0_3 : zm_Kp (11, 265, 1431655765) := ⟨RJ6, rfl, zm_WL_in 459 (by decide +kernel) rfl⟩
theorem zl_K_0_4 : zm_Kp (11, 266, 858993459) := ⟨RJ6, rfl, zm_WL_in 460 (by decide +kernel) rfl⟩
theorem zl_K_0_5 : zm_Kp (11, 267, 252645135) := ⟨RJ6, rfl, zm_WL_in 461 (by decide +kernel) rfl⟩
def zm_KL0 : List (Nat × Nat × Int) := [(1, 9, 1103515245), (10, 192, 1103515245), (10, 245, 100000), (11, 265, 1431655765), (11, 266, 858993459), (11, 267, 252645135)]
theorem zl_K_0 : ∀ q ∈ zm_KL0, zm_Kp q := List.forall_mem_cons.mpr ⟨zl_K_0_0, List.forall_mem_cons.mpr ⟨zl_K_0_1, List.forall_mem_cons.mpr ⟨zl_K_0_2, List.forall_mem_cons.mpr ⟨zl_K_0_3, List.forall_mem_cons.mpr ⟨zl_K_0_4, List.forall_mem_cons.mpr ⟨zl_K_0_5, fun _ h => absurd h List.not_mem_nil⟩⟩⟩⟩⟩⟩
def zm_KL : List (Nat × Nat × Int) := zm_KL0
theorem zl_K : ∀ q ∈ zm_KL, zm_Kp q := zl_K_0
theorem zl_J_0_0 : zm_Jp (9, 148, -9223372036854775808) := ⟨RX9, rfl, zm_WL_in 389 (by decide +kernel) rfl⟩
theorem zl_J_0_1 : zm_Jp (2, 52, -9223372036854775808) := ⟨RX2, rfl, zm_WL_in 484 (by decide +kernel) rfl⟩
theorem zl_J_0_2 : zm_Jp (3, 15, -9223372036854775808) := ⟨RX3, rfl, zm_WL_in 407 (by decide +kernel) rfl⟩
theorem zl_J_0_3 : zm_Jp (4, 19, -9223372036854775808) := ⟨RX4, rfl, zm_WL_in 397 (by decide +kernel) rfl⟩
theorem zl_J_0_4 : zm_Jp (10, 143, -9223372036854775808) := ⟨RX10, rfl, zm_WL_in 980 (by decide +kernel) rfl⟩
theorem zl_J_0_5 : zm_Jp (10, 166, -1) := ⟨RX10, rfl, zm_WL_in 1029 (by decide +kernel) rfl⟩
theorem zl_J_0_6 : zm_Jp (12, 314, 6148914691236517205) := ⟨RJ13, rfl, zm_WL_in 585 (by decide +kernel) rfl⟩
theorem zl_J_0_7 : zm_Jp (12, 316, 3689348814741910323) := ⟨RJ13, rfl, zm_WL_in 586 (by decide +kernel) rfl⟩
theorem zl_J_0_8 : zm_Jp (12, 318, 1085102592571150095) := ⟨RJ13, rfl, zm_WL_in 587 (by decide +kernel) rfl⟩
def zm_JL0 : List (Nat × Nat × Int) := [(9, 148, -9223372036854775808), (2, 52, -9223372036854775808), (3, 15, -9223372036854775808), (4, 19, -9223372036854775808), (10, 143, -9223372036854775808), (10, 166, -1), (12, 314, 6148914691236517205), (12, 316, 3689348814741910323), (12, 318, 1085102592571150095)]
theorem zl_J_0 : ∀ q ∈ zm_JL0, zm_Jp q := List.forall_mem_cons.mpr ⟨zl_J_0_0, List.forall_mem_cons.mpr ⟨zl_J_0_1, List.forall_mem_cons.mpr ⟨zl_J_0_2, List.forall_mem_cons.mpr ⟨zl_J_0_3, List.forall_mem_cons.mpr ⟨zl_J_0_4, List.forall_mem_cons.mpr ⟨zl_J_0_5, List.forall_mem_cons.mpr ⟨zl_J_0_6, List.forall_mem_cons.mpr ⟨zl_J_0_7, List.forall_mem_cons.mpr ⟨zl_J_0_8, fun _ h => absurd h List.not_mem_nil⟩⟩⟩⟩⟩⟩⟩⟩⟩
def zm_JL : List (Nat × Nat × Int) := zm_JL0
theorem zl_J : ∀ q ∈ zm_JL, zm_Jp q := zl_J_0
theorem zl_A_0_0 : zm_Ap (0, 47, 9999) := ⟨RX0, rfl, (fun _ => by decide), (fun _ => ⟨zm_WL_in 786 (by decide +kernel) rfl, zm_WL_in 615 (by decide +kernel) rfl, zm_WL_in 614 (by decide +kernel) rfl, zm_WL_in 59 (by decide +kernel) rfl⟩), (fun h => absurd h (by decide)), (fun h => absurd h (by decide))⟩
theorem zl_A_0_1 : zm_Ap (5, 24, 9998) := ⟨RX5, rfl, (fun _ => by decide), (fun h => absurd h (by decide)), (fun _ => ⟨zm_WL_in 428 (by decide +kernel) rfl, zm_WL_in 353 (by decide +kernel) rfl, zm_WL_in 54 (by decide +kernel) rfl, zm_WL_in 354 (by decide +kernel) rfl⟩), (fun h => absurd h (by decide))⟩
theorem zl_A_0_2 : zm_Ap (6, 19, 9999) := ⟨RX6, rfl, (fun _ => by decide), (fun _ => ⟨zm_WL_in 613 (by decide +kernel) rfl, zm_WL_in 615 (by decide +kernel) rfl, zm_WL_in 614 (by decide +kernel) rfl, zm_WL_in 59 (by decide +kernel) rfl⟩), (fun h => absurd h (by decide)), (fun h => absurd h (by decide))⟩
theorem zl_A_0_3 : zm_Ap (6, 29, 9997) := ⟨RX6, rfl, (fun _ => by decide), (fun h => absurd h (by decide)), (fun h => absurd h (by decide)), (fun _ => ⟨zm_WL_in 726 (by decide +kernel) rfl, zm_WL_in 727 (by decide +kernel) rfl, zm_WL_in 54 (by decide +kernel) rfl, zm_WL_in 728 (by decide +kernel) rfl⟩)⟩
theorem zl_A_0_4 : zm_Ap (8, 29, 9998) := ⟨RX8, rfl, (fun _ => by decide), (fun h => absurd h (by decide)), (fun _ => ⟨zm_WL_in 352 (by decide +kernel) rfl, zm_WL_in 353 (by decide +kernel) rfl, zm_WL_in 54 (by decide +kernel) rfl, zm_WL_in 354 (by decide +kernel) rfl⟩), (fun h => absurd h (by decide))⟩
theorem zl_A_0_5 : zm_Ap (10, 88, 9998) := ⟨RX10, rfl, (fun _ => by decide), (fun h => absurd h (by decide)), (fun _ => ⟨zm_WL_in 943 (by decide +kernel) rfl, zm_WL_in 353 (by decide +kernel) rfl, zm_WL_in 54 (by decide +kernel) rfl, zm_WL_in 354 (by decide +kernel) rfl⟩), (fun h => absurd h (by decide))⟩
theorem zl_A_0_6 : zm_Ap (10, 253, 9997) := ⟨RX10, rfl, (fun _ => by decide), (fun h => absurd h (by decide)), (fun h => absurd h (by decide)), (fun _ => ⟨zm_WL_in 1179 (by decide +kernel) rfl, zm_WL_in 727 (by decide +kernel) rfl, zm_WL_in 54 (by decide +kernel) rfl, zm_WL_in 728 (by decide +kernel) rfl⟩)⟩
def zm_AL0 : List (Nat × Nat × Nat) := [(0, 47, 9999), (5, 24, 9998), (6, 19, 9999), (6, 29, 9997), (8, 29, 9998), (10, 88, 9998), (10, 253, 9997)]
theorem zl_A_0 : ∀ q ∈ zm_AL0, zm_Ap q := List.forall_mem_cons.mpr ⟨zl_A_0_0, List.forall_mem_cons.mpr ⟨zl_A_0_1, List.forall_mem_cons.mpr ⟨zl_A_0_2, List.forall_mem_cons.mpr ⟨zl_A_0_3, List.forall_mem_cons.mpr ⟨zl_A_0_4, List.forall_mem_cons.mpr ⟨zl_A_0_5, List.forall_mem_cons.mpr ⟨zl_A_0_6, fun _ h => absurd h List.not_mem_nil⟩⟩⟩⟩⟩⟩⟩
def zm_AL : List (Nat × Nat × Nat) := zm_AL0
theorem zl_A : ∀ q ∈ zm_AL, zm_Ap q := zl_A_0
theorem zl_M_0_0 : zm_Mp (9, 71, 210) := ⟨RX9, _, _, _, _, _, _, _, _, _, _, _, rfl, m_J7_fill_53178, zm_WL_in 220 (by decide +kernel) rfl⟩
theorem zl_M_0_1 : zm_Mp (9, 77, 5) := ⟨RX9, _, _, _, _, _, _, _, _, _, _, _, rfl, m_X0_hasThirdLetter, zm_WL_in 267 (by decide +kernel) rfl⟩
theorem zl_M_0_2 : zm_Mp (9, 85, 51) := ⟨RX9, _, _, _, _, _, _, _, _, _, _, _, rfl, m_X7_append, zm_WL_in 305 (by decide +kernel) rfl⟩
theorem zl_M_0_3 : zm_Mp (9, 92, 52) := ⟨RX9, _, _, _, _, _, _, _, _, _, _, _, rfl, m_X7_read, zm_WL_in 313 (by decide +kernel) rfl⟩
theorem zl_M_0_4 : zm_Mp (9, 105, 4) := ⟨RX9, _, _, _, _, _, _, _, _, _, _, _, rfl, m_X0_addWord, zm_WL_in 330 (by decide +kernel) rfl⟩
theorem zl_M_0_5 : zm_Mp (9, 109, 1) := ⟨RX9, _, _, _, _, _, _, _, _, _, _, _, rfl, m_X0_hasWord, zm_WL_in 338 (by decide +kernel) rfl⟩
theorem zl_M_0_6 : zm_Mp (9, 112, 58) := ⟨RX9, _, _, _, _, _, _, _, _, _, _, _, rfl, m_X8_isWord, zm_WL_in 339 (by decide +kernel) rfl⟩
theorem zl_M_0_7 : zm_Mp (9, 121, 3) := ⟨RX9, _, _, _, _, _, _, _, _, _, _, _, rfl, m_X0_wordAt, zm_WL_in 344 (by decide +kernel) rfl⟩
theorem zl_M_0_8 : zm_Mp (9, 124, 57) := ⟨RX9, _, _, _, _, _, _, _, _, _, _, _, rfl, m_X8_length, zm_WL_in 345 (by decide +kernel) rfl⟩
theorem zl_M_0_9 : zm_Mp (9, 127, 65) := ⟨RX9, _, _, _, _, _, _, _, _, _, _, _, rfl, m_X8_numberOn, zm_WL_in 346 (by decide +kernel) rfl⟩
theorem zl_M_0_10 : zm_Mp (9, 131, 37) := ⟨RX9, _, _, _, _, _, _, _, _, _, _, _, rfl, m_X4_bestAnswer, zm_WL_in 355 (by decide +kernel) rfl⟩
theorem zl_M_0_11 : zm_Mp (9, 137, 64) := ⟨RX9, _, _, _, _, _, _, _, _, _, _, _, rfl, m_X8_overlapBits, zm_WL_in 370 (by decide +kernel) rfl⟩
theorem zl_M_0_12 : zm_Mp (9, 140, 66) := ⟨RX9, _, _, _, _, _, _, _, _, _, _, _, rfl, m_X8_standsIn, zm_WL_in 379 (by decide +kernel) rfl⟩
theorem zl_M_0_13 : zm_Mp (9, 143, 31) := ⟨RX9, _, _, _, _, _, _, _, _, _, _, _, rfl, m_X3_isPart, zm_WL_in 386 (by decide +kernel) rfl⟩
theorem zl_M_0_14 : zm_Mp (9, 150, 35) := ⟨RX9, _, _, _, _, _, _, _, _, _, _, _, rfl, m_X4_chancePart, zm_WL_in 390 (by decide +kernel) rfl⟩
theorem zl_M_0_15 : zm_Mp (9, 154, 116) := ⟨RX9, _, _, _, _, _, _, _, _, _, _, _, rfl, m_X9_trailLength, zm_WL_in 416 (by decide +kernel) rfl⟩
def zm_ML0 : List (Nat × Nat × Nat) := [(9, 71, 210), (9, 77, 5), (9, 85, 51), (9, 92, 52), (9, 105, 4), (9, 109, 1), (9, 112, 58), (9, 121, 3), (9, 124, 57), (9, 127, 65), (9, 131, 37), (9, 137, 64), (9, 140, 66), (9, 143, 31), (9, 150, 35), (9, 154, 116)]
theorem zl_M_0 : ∀ q ∈ zm_ML0, zm_Mp q := List.forall_mem_cons.mpr ⟨zl_M_0_0, List.forall_mem_cons.mpr ⟨zl_M_0_1, List.forall_mem_cons.mpr ⟨zl_M_0_2, List.forall_mem_cons.mpr ⟨zl_M_0_3, List.forall_mem_cons.mpr ⟨zl_M_0_4, List.forall_mem_cons.mpr ⟨zl_M_0_5, List.forall_mem_cons.mpr ⟨zl_M_0_6, List.forall_mem_cons.mpr ⟨zl_M_0_7, List.forall_mem_cons.mpr ⟨zl_M_0_8, List.forall_mem_cons.mpr ⟨zl_M_0_9, List.forall_mem_cons.mpr ⟨zl_M_0_10, List.forall_mem_cons.mpr ⟨zl_M_0_11, List.forall_mem_cons.mpr ⟨zl_M_0_12, List.forall_mem_cons.mpr ⟨zl_M_0_13, List.forall_mem_cons.mpr ⟨zl_M_0_14, List.forall_mem_cons.mpr ⟨zl_M_0_15, fun _ h => absurd h List.not_mem_nil⟩⟩⟩⟩⟩⟩⟩⟩⟩⟩⟩⟩⟩⟩⟩⟩
theorem zl_M_1_0 : zm_Mp (9, 158, 39) := ⟨RX9, _, _, _, _, _, _, _, _, _, _, _, rfl, m_X5_find, zm_WL_in 424 (by decide +kernel) rfl⟩
theorem zl_M_1_1 : zm_Mp (9, 162, 38) := ⟨RX9, _, _, _, _, _, _, _, _, _, _, _, rfl, m_X5_wordAt, zm_WL_in 440 (by decide +kernel) rfl⟩
theorem zl_M_1_2 : zm_Mp (9, 163, 117) := ⟨RX9, _, _, _, _, _, _, _, _, _, _, _, rfl, m_X9_isRacingField, zm_WL_in 448 (by decide +kernel) rfl⟩
theorem zl_M_1_3 : zm_Mp (9, 166, 7) := ⟨RX9, _, _, _, _, _, _, _, _, _, _, _, rfl, m_X0_isInSet, zm_WL_in 476 (by decide +kernel) rfl⟩
theorem zl_M_1_4 : zm_Mp (9, 169, 118) := ⟨RX9, _, _, _, _, _, _, _, _, _, _, _, rfl, m_X9_placeInSet, zm_WL_in 477 (by decide +kernel) rfl⟩
theorem zl_M_1_5 : zm_Mp (9, 172, 22) := ⟨RX9, _, _, _, _, _, _, _, _, _, _, _, rfl, m_X2_chancePart, zm_WL_in 480 (by decide +kernel) rfl⟩
theorem zl_M_1_6 : zm_Mp (9, 175, 23) := ⟨RX9, _, _, _, _, _, _, _, _, _, _, _, rfl, m_X2_meanPart, zm_WL_in 506 (by decide +kernel) rfl⟩
theorem zl_M_1_7 : zm_Mp (9, 179, 6) := ⟨RX9, _, _, _, _, _, _, _, _, _, _, _, rfl, m_X0_isSet, zm_WL_in 452 (by decide +kernel) rfl⟩
theorem zl_M_1_8 : zm_Mp (9, 182, 208) := ⟨RX9, _, _, _, _, _, _, _, _, _, _, _, rfl, m_J6_bitCount_0f7a4, zm_WL_in 456 (by decide +kernel) rfl⟩
theorem zl_M_1_9 : zm_Mp (9, 187, 20) := ⟨RX9, _, _, _, _, _, _, _, _, _, _, _, rfl, m_X2_fill, zm_WL_in 462 (by decide +kernel) rfl⟩
theorem zl_M_1_10 : zm_Mp (9, 190, 21) := ⟨RX9, _, _, _, _, _, _, _, _, _, _, _, rfl, m_X2_hasOneInAnother, zm_WL_in 471 (by decide +kernel) rfl⟩
theorem zl_M_1_11 : zm_Mp (9, 193, 28) := ⟨RX9, _, _, _, _, _, _, _, _, _, _, _, rfl, m_X2_rowsWithin, zm_WL_in 514 (by decide +kernel) rfl⟩
theorem zl_M_1_12 : zm_Mp (9, 199, 45) := ⟨RX9, _, _, _, _, _, _, _, _, _, _, _, rfl, m_X6_append, zm_WL_in 532 (by decide +kernel) rfl⟩
theorem zl_M_1_13 : zm_Mp (9, 201, 17) := ⟨RX9, _, _, _, _, _, _, _, _, _, _, _, rfl, m_X1_nextSeed, zm_WL_in 540 (by decide +kernel) rfl⟩
theorem zl_M_1_14 : zm_Mp (9, 204, 18) := ⟨RX9, _, _, _, _, _, _, _, _, _, _, _, rfl, m_X1_drawn, zm_WL_in 544 (by decide +kernel) rfl⟩
theorem zl_M_1_15 : zm_Mp (9, 207, 43) := ⟨RX9, _, _, _, _, _, _, _, _, _, _, _, rfl, m_X6_hasPlace, zm_WL_in 555 (by decide +kernel) rfl⟩
def zm_ML1 : List (Nat × Nat × Nat) := [(9, 158, 39), (9, 162, 38), (9, 163, 117), (9, 166, 7), (9, 169, 118), (9, 172, 22), (9, 175, 23), (9, 179, 6), (9, 182, 208), (9, 187, 20), (9, 190, 21), (9, 193, 28), (9, 199, 45), (9, 201, 17), (9, 204, 18), (9, 207, 43)]
theorem zl_M_1 : ∀ q ∈ zm_ML1, zm_Mp q := List.forall_mem_cons.mpr ⟨zl_M_1_0, List.forall_mem_cons.mpr ⟨zl_M_1_1, List.forall_mem_cons.mpr ⟨zl_M_1_2, List.forall_mem_cons.mpr ⟨zl_M_1_3, List.forall_mem_cons.mpr ⟨zl_M_1_4, List.forall_mem_cons.mpr ⟨zl_M_1_5, List.forall_mem_cons.mpr ⟨zl_M_1_6, List.forall_mem_cons.mpr ⟨zl_M_1_7, List.forall_mem_cons.mpr ⟨zl_M_1_8, List.forall_mem_cons.mpr ⟨zl_M_1_9, List.forall_mem_cons.mpr ⟨zl_M_1_10, List.forall_mem_cons.mpr ⟨zl_M_1_11, List.forall_mem_cons.mpr ⟨zl_M_1_12, List.forall_mem_cons.mpr ⟨zl_M_1_13, List.forall_mem_cons.mpr ⟨zl_M_1_14, List.forall_mem_cons.mpr ⟨zl_M_1_15, fun _ h => absurd h List.not_mem_nil⟩⟩⟩⟩⟩⟩⟩⟩⟩⟩⟩⟩⟩⟩⟩⟩
theorem zl_M_2_0 : zm_Mp (9, 213, 48) := ⟨RX9, _, _, _, _, _, _, _, _, _, _, _, rfl, m_X6_endBits, zm_WL_in 560 (by decide +kernel) rfl⟩
theorem zl_M_2_1 : zm_Mp (9, 216, 49) := ⟨RX9, _, _, _, _, _, _, _, _, _, _, _, rfl, m_X6_firstEnd, zm_WL_in 578 (by decide +kernel) rfl⟩
theorem zl_M_2_2 : zm_Mp (9, 219, 209) := ⟨RX9, _, _, _, _, _, _, _, _, _, _, _, rfl, m_J13_bitCount_95d88, zm_WL_in 582 (by decide +kernel) rfl⟩
theorem zl_M_2_3 : zm_Mp (9, 222, 50) := ⟨RX9, _, _, _, _, _, _, _, _, _, _, _, rfl, m_X6_matched, zm_WL_in 588 (by decide +kernel) rfl⟩
theorem zl_M_2_4 : zm_Mp (9, 225, 8) := ⟨RX9, _, _, _, _, _, _, _, _, _, _, _, rfl, m_X0_firstOn, zm_WL_in 599 (by decide +kernel) rfl⟩
theorem zl_M_2_5 : zm_Mp (9, 229, 42) := ⟨RX9, _, _, _, _, _, _, _, _, _, _, _, rfl, m_X6_copyFrom, zm_WL_in 609 (by decide +kernel) rfl⟩
theorem zl_M_2_6 : zm_Mp (9, 233, 11) := ⟨RX9, _, _, _, _, _, _, _, _, _, _, _, rfl, m_X0_addPlayer, zm_WL_in 620 (by decide +kernel) rfl⟩
theorem zl_M_2_7 : zm_Mp (9, 239, 9) := ⟨RX9, _, _, _, _, _, _, _, _, _, _, _, rfl, m_X0_hasPlayer, zm_WL_in 628 (by decide +kernel) rfl⟩
theorem zl_M_2_8 : zm_Mp (9, 248, 14) := ⟨RX9, _, _, _, _, _, _, _, _, _, _, _, rfl, m_X0_wins, zm_WL_in 632 (by decide +kernel) rfl⟩
theorem zl_M_2_9 : zm_Mp (9, 251, 10) := ⟨RX9, _, _, _, _, _, _, _, _, _, _, _, rfl, m_X0_areTwoPlayers, zm_WL_in 668 (by decide +kernel) rfl⟩
theorem zl_M_2_10 : zm_Mp (9, 254, 12) := ⟨RX9, _, _, _, _, _, _, _, _, _, _, _, rfl, m_X0_firstPick, zm_WL_in 672 (by decide +kernel) rfl⟩
theorem zl_M_2_11 : zm_Mp (9, 257, 13) := ⟨RX9, _, _, _, _, _, _, _, _, _, _, _, rfl, m_X0_pickAgainst, zm_WL_in 676 (by decide +kernel) rfl⟩
theorem zl_M_2_12 : zm_Mp (9, 260, 2) := ⟨RX9, _, _, _, _, _, _, _, _, _, _, _, rfl, m_X0_areTwoWords, zm_WL_in 685 (by decide +kernel) rfl⟩
theorem zl_M_2_13 : zm_Mp (9, 263, 67) := ⟨RX9, _, _, _, _, _, _, _, _, _, _, _, rfl, m_X8_clash, zm_WL_in 689 (by decide +kernel) rfl⟩
theorem zl_M_2_14 : zm_Mp (9, 266, 19) := ⟨RX9, _, _, _, _, _, _, _, _, _, _, _, rfl, m_X1_run, zm_WL_in 690 (by decide +kernel) rfl⟩
theorem zl_M_2_15 : zm_Mp (9, 276, 32) := ⟨RX9, _, _, _, _, _, _, _, _, _, _, _, rfl, m_X3_partOf, zm_WL_in 702 (by decide +kernel) rfl⟩
def zm_ML2 : List (Nat × Nat × Nat) := [(9, 213, 48), (9, 216, 49), (9, 219, 209), (9, 222, 50), (9, 225, 8), (9, 229, 42), (9, 233, 11), (9, 239, 9), (9, 248, 14), (9, 251, 10), (9, 254, 12), (9, 257, 13), (9, 260, 2), (9, 263, 67), (9, 266, 19), (9, 276, 32)]
theorem zl_M_2 : ∀ q ∈ zm_ML2, zm_Mp q := List.forall_mem_cons.mpr ⟨zl_M_2_0, List.forall_mem_cons.mpr ⟨zl_M_2_1, List.forall_mem_cons.mpr ⟨zl_M_2_2, List.forall_mem_cons.mpr ⟨zl_M_2_3, List.forall_mem_cons.mpr ⟨zl_M_2_4, List.forall_mem_cons.mpr ⟨zl_M_2_5, List.forall_mem_cons.mpr ⟨zl_M_2_6, List.forall_mem_cons.mpr ⟨zl_M_2_7, List.forall_mem_cons.mpr ⟨zl_M_2_8, List.forall_mem_cons.mpr ⟨zl_M_2_9, List.forall_mem_cons.mpr ⟨zl_M_2_10, List.forall_mem_cons.mpr ⟨zl_M_2_11, List.forall_mem_cons.mpr ⟨zl_M_2_12, List.forall_mem_cons.mpr ⟨zl_M_2_13, List.forall_mem_cons.mpr ⟨zl_M_2_14, List.forall_mem_cons.mpr ⟨zl_M_2_15, fun _ h => absurd h List.not_mem_nil⟩⟩⟩⟩⟩⟩⟩⟩⟩⟩⟩⟩⟩⟩⟩⟩
theorem zl_M_3_0 : zm_Mp (9, 283, 119) := ⟨RX9, _, _, _, _, _, _, _, _, _, _, _, rfl, m_X9_mostOfRow, zm_WL_in 707 (by decide +kernel) rfl⟩
theorem zl_M_3_1 : zm_Mp (9, 286, 15) := ⟨RX9, _, _, _, _, _, _, _, _, _, _, _, rfl, m_X0_addRow, zm_WL_in 710 (by decide +kernel) rfl⟩
theorem zl_M_3_2 : zm_Mp (9, 289, 16) := ⟨RX9, _, _, _, _, _, _, _, _, _, _, _, rfl, m_X0_followPlan, zm_WL_in 718 (by decide +kernel) rfl⟩
theorem zl_M_3_3 : zm_Mp (9, 292, 120) := ⟨RX9, _, _, _, _, _, _, _, _, _, _, _, rfl, m_X9_writeStrip, zm_WL_in 739 (by decide +kernel) rfl⟩
theorem zl_M_3_4 : zm_Mp (9, 296, 121) := ⟨RX9, _, _, _, _, _, _, _, _, _, _, _, rfl, m_X9_writeWord, zm_WL_in 746 (by decide +kernel) rfl⟩
theorem zl_M_3_5 : zm_Mp (9, 302, 123) := ⟨RX9, _, _, _, _, _, _, _, _, _, _, _, rfl, m_X9_hasList, zm_WL_in 759 (by decide +kernel) rfl⟩
theorem zl_M_3_6 : zm_Mp (9, 305, 124) := ⟨RX9, _, _, _, _, _, _, _, _, _, _, _, rfl, m_X9_hasListPlace, zm_WL_in 770 (by decide +kernel) rfl⟩
theorem zl_M_3_7 : zm_Mp (9, 308, 0) := ⟨RX9, _, _, _, _, _, _, _, _, _, _, _, rfl, m_X0_copyFrom, zm_WL_in 782 (by decide +kernel) rfl⟩
theorem zl_M_3_8 : zm_Mp (9, 315, 122) := ⟨RX9, _, _, _, _, _, _, _, _, _, _, _, rfl, m_X9_signOf, zm_WL_in 743 (by decide +kernel) rfl⟩
theorem zl_M_3_9 : zm_Mp (9, 318, 59) := ⟨RX9, _, _, _, _, _, _, _, _, _, _, _, rfl, m_X8_letterAt, zm_WL_in 750 (by decide +kernel) rfl⟩
theorem zl_M_3_10 : zm_Mp (0, 53, 42) := ⟨RX0, _, _, _, _, _, _, _, _, _, _, _, rfl, m_X6_copyFrom, zm_WL_in 787 (by decide +kernel) rfl⟩
theorem zl_M_3_11 : zm_Mp (0, 57, 1) := ⟨RX0, _, _, _, _, _, _, _, _, _, _, _, rfl, m_X0_hasWord, zm_WL_in 275 (by decide +kernel) rfl⟩
theorem zl_M_3_12 : zm_Mp (0, 61, 3) := ⟨RX0, _, _, _, _, _, _, _, _, _, _, _, rfl, m_X0_wordAt, zm_WL_in 271 (by decide +kernel) rfl⟩
theorem zl_M_3_13 : zm_Mp (0, 65, 58) := ⟨RX0, _, _, _, _, _, _, _, _, _, _, _, rfl, m_X8_isWord, zm_WL_in 279 (by decide +kernel) rfl⟩
theorem zl_M_3_14 : zm_Mp (0, 74, 44) := ⟨RX0, _, _, _, _, _, _, _, _, _, _, _, rfl, m_X6_letterAt, zm_WL_in 293 (by decide +kernel) rfl⟩
theorem zl_M_3_15 : zm_Mp (0, 77, 49) := ⟨RX0, _, _, _, _, _, _, _, _, _, _, _, rfl, m_X6_firstEnd, zm_WL_in 603 (by decide +kernel) rfl⟩
def zm_ML3 : List (Nat × Nat × Nat) := [(9, 283, 119), (9, 286, 15), (9, 289, 16), (9, 292, 120), (9, 296, 121), (9, 302, 123), (9, 305, 124), (9, 308, 0), (9, 315, 122), (9, 318, 59), (0, 53, 42), (0, 57, 1), (0, 61, 3), (0, 65, 58), (0, 74, 44), (0, 77, 49)]
theorem zl_M_3 : ∀ q ∈ zm_ML3, zm_Mp q := List.forall_mem_cons.mpr ⟨zl_M_3_0, List.forall_mem_cons.mpr ⟨zl_M_3_1, List.forall_mem_cons.mpr ⟨zl_M_3_2, List.forall_mem_cons.mpr ⟨zl_M_3_3, List.forall_mem_cons.mpr ⟨zl_M_3_4, List.forall_mem_cons.mpr ⟨zl_M_3_5, List.forall_mem_cons.mpr ⟨zl_M_3_6, List.forall_mem_cons.mpr ⟨zl_M_3_7, List.forall_mem_cons.mpr ⟨zl_M_3_8, List.forall_mem_cons.mpr ⟨zl_M_3_9, List.forall_mem_cons.mpr ⟨zl_M_3_10, List.forall_mem_cons.mpr ⟨zl_M_3_11, List.forall_mem_cons.mpr ⟨zl_M_3_12, List.forall_mem_cons.mpr ⟨zl_M_3_13, List.forall_mem_cons.mpr ⟨zl_M_3_14, List.forall_mem_cons.mpr ⟨zl_M_3_15, fun _ h => absurd h List.not_mem_nil⟩⟩⟩⟩⟩⟩⟩⟩⟩⟩⟩⟩⟩⟩⟩⟩
theorem zl_M_4_0 : zm_Mp (0, 80, 57) := ⟨RX0, _, _, _, _, _, _, _, _, _, _, _, rfl, m_X8_length, zm_WL_in 604 (by decide +kernel) rfl⟩
theorem zl_M_4_1 : zm_Mp (0, 83, 9) := ⟨RX0, _, _, _, _, _, _, _, _, _, _, _, rfl, m_X0_hasPlayer, zm_WL_in 636 (by decide +kernel) rfl⟩
theorem zl_M_4_2 : zm_Mp (0, 86, 13) := ⟨RX0, _, _, _, _, _, _, _, _, _, _, _, rfl, m_X0_pickAgainst, zm_WL_in 637 (by decide +kernel) rfl⟩
theorem zl_M_4_3 : zm_Mp (0, 90, 69) := ⟨RX0, _, _, _, _, _, _, _, _, _, _, _, rfl, m_X8_turned, zm_WL_in 641 (by decide +kernel) rfl⟩
theorem zl_M_4_4 : zm_Mp (0, 93, 72) := ⟨RX0, _, _, _, _, _, _, _, _, _, _, _, rfl, m_X8_answering, zm_WL_in 647 (by decide +kernel) rfl⟩
theorem zl_M_4_5 : zm_Mp (0, 96, 70) := ⟨RX0, _, _, _, _, _, _, _, _, _, _, _, rfl, m_X8_shifted, zm_WL_in 656 (by decide +kernel) rfl⟩
theorem zl_M_4_6 : zm_Mp (0, 99, 37) := ⟨RX0, _, _, _, _, _, _, _, _, _, _, _, rfl, m_X4_bestAnswer, zm_WL_in 659 (by decide +kernel) rfl⟩
theorem zl_M_4_7 : zm_Mp (0, 104, 71) := ⟨RX0, _, _, _, _, _, _, _, _, _, _, _, rfl, m_X8_doubled, zm_WL_in 660 (by decide +kernel) rfl⟩
theorem zl_M_4_8 : zm_Mp (0, 107, 36) := ⟨RX0, _, _, _, _, _, _, _, _, _, _, _, rfl, m_X4_beats, zm_WL_in 663 (by decide +kernel) rfl⟩
theorem zl_M_4_9 : zm_Mp (0, 111, 46) := ⟨RX0, _, _, _, _, _, _, _, _, _, _, _, rfl, m_X6_dropLast, zm_WL_in 722 (by decide +kernel) rfl⟩
theorem zl_M_4_10 : zm_Mp (0, 115, 47) := ⟨RX0, _, _, _, _, _, _, _, _, _, _, _, rfl, m_X6_putOneOn, zm_WL_in 729 (by decide +kernel) rfl⟩
theorem zl_M_4_11 : zm_Mp (0, 118, 45) := ⟨RX0, _, _, _, _, _, _, _, _, _, _, _, rfl, m_X6_append, zm_WL_in 734 (by decide +kernel) rfl⟩
theorem zl_M_4_12 : zm_Mp (1, 19, 17) := ⟨RX1, _, _, _, _, _, _, _, _, _, _, _, rfl, m_X1_nextSeed, zm_WL_in 694 (by decide +kernel) rfl⟩
theorem zl_M_4_13 : zm_Mp (1, 23, 18) := ⟨RX1, _, _, _, _, _, _, _, _, _, _, _, rfl, m_X1_drawn, zm_WL_in 695 (by decide +kernel) rfl⟩
theorem zl_M_4_14 : zm_Mp (1, 27, 62) := ⟨RX1, _, _, _, _, _, _, _, _, _, _, _, rfl, m_X8_grown, zm_WL_in 696 (by decide +kernel) rfl⟩
theorem zl_M_4_15 : zm_Mp (1, 32, 63) := ⟨RX1, _, _, _, _, _, _, _, _, _, _, _, rfl, m_X8_endsWith, zm_WL_in 697 (by decide +kernel) rfl⟩
def zm_ML4 : List (Nat × Nat × Nat) := [(0, 80, 57), (0, 83, 9), (0, 86, 13), (0, 90, 69), (0, 93, 72), (0, 96, 70), (0, 99, 37), (0, 104, 71), (0, 107, 36), (0, 111, 46), (0, 115, 47), (0, 118, 45), (1, 19, 17), (1, 23, 18), (1, 27, 62), (1, 32, 63)]
theorem zl_M_4 : ∀ q ∈ zm_ML4, zm_Mp q := List.forall_mem_cons.mpr ⟨zl_M_4_0, List.forall_mem_cons.mpr ⟨zl_M_4_1, List.forall_mem_cons.mpr ⟨zl_M_4_2, List.forall_mem_cons.mpr ⟨zl_M_4_3, List.forall_mem_cons.mpr ⟨zl_M_4_4, List.forall_mem_cons.mpr ⟨zl_M_4_5, List.forall_mem_cons.mpr ⟨zl_M_4_6, List.forall_mem_cons.mpr ⟨zl_M_4_7, List.forall_mem_cons.mpr ⟨zl_M_4_8, List.forall_mem_cons.mpr ⟨zl_M_4_9, List.forall_mem_cons.mpr ⟨zl_M_4_10, List.forall_mem_cons.mpr ⟨zl_M_4_11, List.forall_mem_cons.mpr ⟨zl_M_4_12, List.forall_mem_cons.mpr ⟨zl_M_4_13, List.forall_mem_cons.mpr ⟨zl_M_4_14, List.forall_mem_cons.mpr ⟨zl_M_4_15, fun _ h => absurd h List.not_mem_nil⟩⟩⟩⟩⟩⟩⟩⟩⟩⟩⟩⟩⟩⟩⟩⟩
theorem zl_M_5_0 : zm_Mp (2, 39, 7) := ⟨RX2, _, _, _, _, _, _, _, _, _, _, _, rfl, m_X0_isInSet, zm_WL_in 466 (by decide +kernel) rfl⟩
theorem zl_M_5_1 : zm_Mp (2, 43, 3) := ⟨RX2, _, _, _, _, _, _, _, _, _, _, _, rfl, m_X0_wordAt, zm_WL_in 470 (by decide +kernel) rfl⟩
theorem zl_M_5_2 : zm_Mp (2, 47, 67) := ⟨RX2, _, _, _, _, _, _, _, _, _, _, _, rfl, m_X8_clash, zm_WL_in 475 (by decide +kernel) rfl⟩
theorem zl_M_5_3 : zm_Mp (2, 54, 24) := ⟨RX2, _, _, _, _, _, _, _, _, _, _, _, rfl, m_X2_setApart, zm_WL_in 485 (by decide +kernel) rfl⟩
theorem zl_M_5_4 : zm_Mp (2, 57, 25) := ⟨RX2, _, _, _, _, _, _, _, _, _, _, _, rfl, m_X2_weight, zm_WL_in 490 (by decide +kernel) rfl⟩
theorem zl_M_5_5 : zm_Mp (2, 61, 26) := ⟨RX2, _, _, _, _, _, _, _, _, _, _, _, rfl, m_X2_wholeWeight, zm_WL_in 497 (by decide +kernel) rfl⟩
theorem zl_M_5_6 : zm_Mp (2, 65, 32) := ⟨RX2, _, _, _, _, _, _, _, _, _, _, _, rfl, m_X3_partOf, zm_WL_in 501 (by decide +kernel) rfl⟩
theorem zl_M_5_7 : zm_Mp (2, 71, 65) := ⟨RX2, _, _, _, _, _, _, _, _, _, _, _, rfl, m_X8_numberOn, zm_WL_in 489 (by decide +kernel) rfl⟩
theorem zl_M_5_8 : zm_Mp (2, 75, 27) := ⟨RX2, _, _, _, _, _, _, _, _, _, _, _, rfl, m_X2_minor, zm_WL_in 494 (by decide +kernel) rfl⟩
theorem zl_M_5_9 : zm_Mp (2, 79, 29) := ⟨RX2, _, _, _, _, _, _, _, _, _, _, _, rfl, m_X2_countEndings, zm_WL_in 518 (by decide +kernel) rfl⟩
theorem zl_M_5_10 : zm_Mp (2, 83, 30) := ⟨RX2, _, _, _, _, _, _, _, _, _, _, _, rfl, m_X2_endingsAt, zm_WL_in 522 (by decide +kernel) rfl⟩
theorem zl_M_5_11 : zm_Mp (2, 87, 57) := ⟨RX2, _, _, _, _, _, _, _, _, _, _, _, rfl, m_X8_length, zm_WL_in 526 (by decide +kernel) rfl⟩
theorem zl_M_5_12 : zm_Mp (2, 90, 64) := ⟨RX2, _, _, _, _, _, _, _, _, _, _, _, rfl, m_X8_overlapBits, zm_WL_in 527 (by decide +kernel) rfl⟩
theorem zl_M_5_13 : zm_Mp (3, 9, 33) := ⟨RX3, _, _, _, _, _, _, _, _, _, _, _, rfl, m_X3_commonDivisor, zm_WL_in 404 (by decide +kernel) rfl⟩
theorem zl_M_5_14 : zm_Mp (4, 9, 65) := ⟨RX4, _, _, _, _, _, _, _, _, _, _, _, rfl, m_X8_numberOn, zm_WL_in 358 (by decide +kernel) rfl⟩
theorem zl_M_5_15 : zm_Mp (4, 15, 67) := ⟨RX4, _, _, _, _, _, _, _, _, _, _, _, rfl, m_X8_clash, zm_WL_in 393 (by decide +kernel) rfl⟩
def zm_ML5 : List (Nat × Nat × Nat) := [(2, 39, 7), (2, 43, 3), (2, 47, 67), (2, 54, 24), (2, 57, 25), (2, 61, 26), (2, 65, 32), (2, 71, 65), (2, 75, 27), (2, 79, 29), (2, 83, 30), (2, 87, 57), (2, 90, 64), (3, 9, 33), (4, 9, 65), (4, 15, 67)]
theorem zl_M_5 : ∀ q ∈ zm_ML5, zm_Mp q := List.forall_mem_cons.mpr ⟨zl_M_5_0, List.forall_mem_cons.mpr ⟨zl_M_5_1, List.forall_mem_cons.mpr ⟨zl_M_5_2, List.forall_mem_cons.mpr ⟨zl_M_5_3, List.forall_mem_cons.mpr ⟨zl_M_5_4, List.forall_mem_cons.mpr ⟨zl_M_5_5, List.forall_mem_cons.mpr ⟨zl_M_5_6, List.forall_mem_cons.mpr ⟨zl_M_5_7, List.forall_mem_cons.mpr ⟨zl_M_5_8, List.forall_mem_cons.mpr ⟨zl_M_5_9, List.forall_mem_cons.mpr ⟨zl_M_5_10, List.forall_mem_cons.mpr ⟨zl_M_5_11, List.forall_mem_cons.mpr ⟨zl_M_5_12, List.forall_mem_cons.mpr ⟨zl_M_5_13, List.forall_mem_cons.mpr ⟨zl_M_5_14, List.forall_mem_cons.mpr ⟨zl_M_5_15, fun _ h => absurd h List.not_mem_nil⟩⟩⟩⟩⟩⟩⟩⟩⟩⟩⟩⟩⟩⟩⟩⟩
theorem zl_M_6_0 : zm_Mp (4, 21, 34) := ⟨RX4, _, _, _, _, _, _, _, _, _, _, _, rfl, m_X4_share, zm_WL_in 398 (by decide +kernel) rfl⟩
theorem zl_M_6_1 : zm_Mp (4, 26, 32) := ⟨RX4, _, _, _, _, _, _, _, _, _, _, _, rfl, m_X3_partOf, zm_WL_in 401 (by decide +kernel) rfl⟩
theorem zl_M_6_2 : zm_Mp (4, 32, 57) := ⟨RX4, _, _, _, _, _, _, _, _, _, _, _, rfl, m_X8_length, zm_WL_in 359 (by decide +kernel) rfl⟩
theorem zl_M_6_3 : zm_Mp (4, 36, 74) := ⟨RX4, _, _, _, _, _, _, _, _, _, _, _, rfl, m_X8_least, zm_WL_in 360 (by decide +kernel) rfl⟩
theorem zl_M_6_4 : zm_Mp (4, 39, 75) := ⟨RX4, _, _, _, _, _, _, _, _, _, _, _, rfl, m_X8_following, zm_WL_in 363 (by decide +kernel) rfl⟩
theorem zl_M_6_5 : zm_Mp (5, 30, 3) := ⟨RX5, _, _, _, _, _, _, _, _, _, _, _, rfl, m_X0_wordAt, zm_WL_in 429 (by decide +kernel) rfl⟩
theorem zl_M_6_6 : zm_Mp (5, 37, 36) := ⟨RX5, _, _, _, _, _, _, _, _, _, _, _, rfl, m_X4_beats, zm_WL_in 430 (by decide +kernel) rfl⟩
theorem zl_M_6_7 : zm_Mp (5, 43, 40) := ⟨RX5, _, _, _, _, _, _, _, _, _, _, _, rfl, m_X5_closes, zm_WL_in 433 (by decide +kernel) rfl⟩
theorem zl_M_6_8 : zm_Mp (5, 47, 41) := ⟨RX5, _, _, _, _, _, _, _, _, _, _, _, rfl, m_X5_isBeaten, zm_WL_in 436 (by decide +kernel) rfl⟩
theorem zl_M_6_9 : zm_Mp (6, 25, 43) := ⟨RX6, _, _, _, _, _, _, _, _, _, _, _, rfl, m_X6_hasPlace, zm_WL_in 297 (by decide +kernel) rfl⟩
theorem zl_M_6_10 : zm_Mp (6, 35, 68) := ⟨RX6, _, _, _, _, _, _, _, _, _, _, _, rfl, m_X8_oneOn, zm_WL_in 733 (by decide +kernel) rfl⟩
theorem zl_M_6_11 : zm_Mp (6, 40, 44) := ⟨RX6, _, _, _, _, _, _, _, _, _, _, _, rfl, m_X6_letterAt, zm_WL_in 564 (by decide +kernel) rfl⟩
theorem zl_M_6_12 : zm_Mp (6, 44, 62) := ⟨RX6, _, _, _, _, _, _, _, _, _, _, _, rfl, m_X8_grown, zm_WL_in 565 (by decide +kernel) rfl⟩
theorem zl_M_6_13 : zm_Mp (6, 47, 63) := ⟨RX6, _, _, _, _, _, _, _, _, _, _, _, rfl, m_X8_endsWith, zm_WL_in 568 (by decide +kernel) rfl⟩
theorem zl_M_6_14 : zm_Mp (6, 51, 57) := ⟨RX6, _, _, _, _, _, _, _, _, _, _, _, rfl, m_X8_length, zm_WL_in 592 (by decide +kernel) rfl⟩
theorem zl_M_6_15 : zm_Mp (6, 54, 60) := ⟨RX6, _, _, _, _, _, _, _, _, _, _, _, rfl, m_X8_firstLetters, zm_WL_in 593 (by decide +kernel) rfl⟩
def zm_ML6 : List (Nat × Nat × Nat) := [(4, 21, 34), (4, 26, 32), (4, 32, 57), (4, 36, 74), (4, 39, 75), (5, 30, 3), (5, 37, 36), (5, 43, 40), (5, 47, 41), (6, 25, 43), (6, 35, 68), (6, 40, 44), (6, 44, 62), (6, 47, 63), (6, 51, 57), (6, 54, 60)]
theorem zl_M_6 : ∀ q ∈ zm_ML6, zm_Mp q := List.forall_mem_cons.mpr ⟨zl_M_6_0, List.forall_mem_cons.mpr ⟨zl_M_6_1, List.forall_mem_cons.mpr ⟨zl_M_6_2, List.forall_mem_cons.mpr ⟨zl_M_6_3, List.forall_mem_cons.mpr ⟨zl_M_6_4, List.forall_mem_cons.mpr ⟨zl_M_6_5, List.forall_mem_cons.mpr ⟨zl_M_6_6, List.forall_mem_cons.mpr ⟨zl_M_6_7, List.forall_mem_cons.mpr ⟨zl_M_6_8, List.forall_mem_cons.mpr ⟨zl_M_6_9, List.forall_mem_cons.mpr ⟨zl_M_6_10, List.forall_mem_cons.mpr ⟨zl_M_6_11, List.forall_mem_cons.mpr ⟨zl_M_6_12, List.forall_mem_cons.mpr ⟨zl_M_6_13, List.forall_mem_cons.mpr ⟨zl_M_6_14, List.forall_mem_cons.mpr ⟨zl_M_6_15, fun _ h => absurd h List.not_mem_nil⟩⟩⟩⟩⟩⟩⟩⟩⟩⟩⟩⟩⟩⟩⟩⟩
theorem zl_M_7_0 : zm_Mp (6, 57, 61) := ⟨RX6, _, _, _, _, _, _, _, _, _, _, _, rfl, m_X8_lastLetters, zm_WL_in 594 (by decide +kernel) rfl⟩
theorem zl_M_7_1 : zm_Mp (7, 31, 53) := ⟨RX7, _, _, _, _, _, _, _, _, _, _, _, rfl, m_X7_goesOn, zm_WL_in 317 (by decide +kernel) rfl⟩
theorem zl_M_7_2 : zm_Mp (7, 35, 55) := ⟨RX7, _, _, _, _, _, _, _, _, _, _, _, rfl, m_X7_endClause, zm_WL_in 321 (by decide +kernel) rfl⟩
theorem zl_M_7_3 : zm_Mp (7, 39, 54) := ⟨RX7, _, _, _, _, _, _, _, _, _, _, _, rfl, m_X7_addLetters, zm_WL_in 325 (by decide +kernel) rfl⟩
theorem zl_M_7_4 : zm_Mp (7, 42, 57) := ⟨RX7, _, _, _, _, _, _, _, _, _, _, _, rfl, m_X8_length, zm_WL_in 329 (by decide +kernel) rfl⟩
theorem zl_M_7_5 : zm_Mp (8, 15, 56) := ⟨RX8, _, _, _, _, _, _, _, _, _, _, _, rfl, m_X8_tens, zm_WL_in 282 (by decide +kernel) rfl⟩
theorem zl_M_7_6 : zm_Mp (8, 19, 57) := ⟨RX8, _, _, _, _, _, _, _, _, _, _, _, rfl, m_X8_length, zm_WL_in 287 (by decide +kernel) rfl⟩
theorem zl_M_7_7 : zm_Mp (8, 22, 60) := ⟨RX8, _, _, _, _, _, _, _, _, _, _, _, rfl, m_X8_firstLetters, zm_WL_in 290 (by decide +kernel) rfl⟩
theorem zl_M_7_8 : zm_Mp (8, 26, 61) := ⟨RX8, _, _, _, _, _, _, _, _, _, _, _, rfl, m_X8_lastLetters, zm_WL_in 571 (by decide +kernel) rfl⟩
theorem zl_M_7_9 : zm_Mp (8, 34, 64) := ⟨RX8, _, _, _, _, _, _, _, _, _, _, _, rfl, m_X8_overlapBits, zm_WL_in 349 (by decide +kernel) rfl⟩
theorem zl_M_7_10 : zm_Mp (8, 37, 66) := ⟨RX8, _, _, _, _, _, _, _, _, _, _, _, rfl, m_X8_standsIn, zm_WL_in 396 (by decide +kernel) rfl⟩
theorem zl_M_7_11 : zm_Mp (8, 41, 59) := ⟨RX8, _, _, _, _, _, _, _, _, _, _, _, rfl, m_X8_letterAt, zm_WL_in 644 (by decide +kernel) rfl⟩
theorem zl_M_7_12 : zm_Mp (8, 44, 68) := ⟨RX8, _, _, _, _, _, _, _, _, _, _, _, rfl, m_X8_oneOn, zm_WL_in 650 (by decide +kernel) rfl⟩
theorem zl_M_7_13 : zm_Mp (8, 47, 73) := ⟨RX8, _, _, _, _, _, _, _, _, _, _, _, rfl, m_X8_ledBy, zm_WL_in 653 (by decide +kernel) rfl⟩
theorem zl_M_7_14 : zm_Mp (16, 13, 76) := ⟨RL, _, _, _, _, _, _, _, _, _, _, _, rfl, m_X9_sides, zm_WL_in 263 (by decide +kernel) rfl⟩
theorem zl_M_7_15 : zm_Mp (16, 17, 144) := ⟨RL, _, _, _, _, _, _, _, _, _, _, _, rfl, m_X10_sides, zm_WL_in 891 (by decide +kernel) rfl⟩
def zm_ML7 : List (Nat × Nat × Nat) := [(6, 57, 61), (7, 31, 53), (7, 35, 55), (7, 39, 54), (7, 42, 57), (8, 15, 56), (8, 19, 57), (8, 22, 60), (8, 26, 61), (8, 34, 64), (8, 37, 66), (8, 41, 59), (8, 44, 68), (8, 47, 73), (16, 13, 76), (16, 17, 144)]
theorem zl_M_7 : ∀ q ∈ zm_ML7, zm_Mp q := List.forall_mem_cons.mpr ⟨zl_M_7_0, List.forall_mem_cons.mpr ⟨zl_M_7_1, List.forall_mem_cons.mpr ⟨zl_M_7_2, List.forall_mem_cons.mpr ⟨zl_M_7_3, List.forall_mem_cons.mpr ⟨zl_M_7_4, List.forall_mem_cons.mpr ⟨zl_M_7_5, List.forall_mem_cons.mpr ⟨zl_M_7_6, List.forall_mem_cons.mpr ⟨zl_M_7_7, List.forall_mem_cons.mpr ⟨zl_M_7_8, List.forall_mem_cons.mpr ⟨zl_M_7_9, List.forall_mem_cons.mpr ⟨zl_M_7_10, List.forall_mem_cons.mpr ⟨zl_M_7_11, List.forall_mem_cons.mpr ⟨zl_M_7_12, List.forall_mem_cons.mpr ⟨zl_M_7_13, List.forall_mem_cons.mpr ⟨zl_M_7_14, List.forall_mem_cons.mpr ⟨zl_M_7_15, fun _ h => absurd h List.not_mem_nil⟩⟩⟩⟩⟩⟩⟩⟩⟩⟩⟩⟩⟩⟩⟩⟩
theorem zl_M_8_0 : zm_Mp (16, 18, 77) := ⟨RL, _, _, _, _, _, _, _, _, _, _, _, rfl, m_X9_feed, zm_WL_in 301 (by decide +kernel) rfl⟩
theorem zl_M_8_1 : zm_Mp (16, 21, 145) := ⟨RL, _, _, _, _, _, _, _, _, _, _, _, rfl, m_X10_feed, zm_WL_in 901 (by decide +kernel) rfl⟩
theorem zl_M_8_2 : zm_Mp (16, 22, 78) := ⟨RL, _, _, _, _, _, _, _, _, _, _, _, rfl, m_X9_words, zm_WL_in 309 (by decide +kernel) rfl⟩
theorem zl_M_8_3 : zm_Mp (16, 26, 148) := ⟨RL, _, _, _, _, _, _, _, _, _, _, _, rfl, m_X10_words, zm_WL_in 905 (by decide +kernel) rfl⟩
theorem zl_M_8_4 : zm_Mp (16, 27, 79) := ⟨RL, _, _, _, _, _, _, _, _, _, _, _, rfl, m_X9_becomes, zm_WL_in 334 (by decide +kernel) rfl⟩
theorem zl_M_8_5 : zm_Mp (16, 31, 149) := ⟨RL, _, _, _, _, _, _, _, _, _, _, _, rfl, m_X10_becomes, zm_WL_in 917 (by decide +kernel) rfl⟩
theorem zl_M_8_6 : zm_Mp (16, 32, 80) := ⟨RL, _, _, _, _, _, _, _, _, _, _, _, rfl, m_X9_of, zm_WL_in 340 (by decide +kernel) rfl⟩
theorem zl_M_8_7 : zm_Mp (16, 35, 150) := ⟨RL, _, _, _, _, _, _, _, _, _, _, _, rfl, m_X10_of, zm_WL_in 932 (by decide +kernel) rfl⟩
theorem zl_M_8_8 : zm_Mp (16, 36, 81) := ⟨RL, _, _, _, _, _, _, _, _, _, _, _, rfl, m_X9_overlaps, zm_WL_in 366 (by decide +kernel) rfl⟩
theorem zl_M_8_9 : zm_Mp (16, 39, 151) := ⟨RL, _, _, _, _, _, _, _, _, _, _, _, rfl, m_X10_overlaps, zm_WL_in 955 (by decide +kernel) rfl⟩
theorem zl_M_8_10 : zm_Mp (16, 40, 82) := ⟨RL, _, _, _, _, _, _, _, _, _, _, _, rfl, m_X9_number, zm_WL_in 371 (by decide +kernel) rfl⟩
theorem zl_M_8_11 : zm_Mp (16, 43, 152) := ⟨RL, _, _, _, _, _, _, _, _, _, _, _, rfl, m_X10_number, zm_WL_in 959 (by decide +kernel) rfl⟩
theorem zl_M_8_12 : zm_Mp (16, 44, 83) := ⟨RL, _, _, _, _, _, _, _, _, _, _, _, rfl, m_X9_isIn, zm_WL_in 375 (by decide +kernel) rfl⟩
theorem zl_M_8_13 : zm_Mp (16, 47, 153) := ⟨RL, _, _, _, _, _, _, _, _, _, _, _, rfl, m_X10_isIn, zm_WL_in 963 (by decide +kernel) rfl⟩
theorem zl_M_8_14 : zm_Mp (16, 48, 84) := ⟨RL, _, _, _, _, _, _, _, _, _, _, _, rfl, m_X9_chance, zm_WL_in 382 (by decide +kernel) rfl⟩
theorem zl_M_8_15 : zm_Mp (16, 52, 154) := ⟨RL, _, _, _, _, _, _, _, _, _, _, _, rfl, m_X10_chance, zm_WL_in 970 (by decide +kernel) rfl⟩
def zm_ML8 : List (Nat × Nat × Nat) := [(16, 18, 77), (16, 21, 145), (16, 22, 78), (16, 26, 148), (16, 27, 79), (16, 31, 149), (16, 32, 80), (16, 35, 150), (16, 36, 81), (16, 39, 151), (16, 40, 82), (16, 43, 152), (16, 44, 83), (16, 47, 153), (16, 48, 84), (16, 52, 154)]
theorem zl_M_8 : ∀ q ∈ zm_ML8, zm_Mp q := List.forall_mem_cons.mpr ⟨zl_M_8_0, List.forall_mem_cons.mpr ⟨zl_M_8_1, List.forall_mem_cons.mpr ⟨zl_M_8_2, List.forall_mem_cons.mpr ⟨zl_M_8_3, List.forall_mem_cons.mpr ⟨zl_M_8_4, List.forall_mem_cons.mpr ⟨zl_M_8_5, List.forall_mem_cons.mpr ⟨zl_M_8_6, List.forall_mem_cons.mpr ⟨zl_M_8_7, List.forall_mem_cons.mpr ⟨zl_M_8_8, List.forall_mem_cons.mpr ⟨zl_M_8_9, List.forall_mem_cons.mpr ⟨zl_M_8_10, List.forall_mem_cons.mpr ⟨zl_M_8_11, List.forall_mem_cons.mpr ⟨zl_M_8_12, List.forall_mem_cons.mpr ⟨zl_M_8_13, List.forall_mem_cons.mpr ⟨zl_M_8_14, List.forall_mem_cons.mpr ⟨zl_M_8_15, fun _ h => absurd h List.not_mem_nil⟩⟩⟩⟩⟩⟩⟩⟩⟩⟩⟩⟩⟩⟩⟩⟩
theorem zl_M_9_0 : zm_Mp (16, 53, 85) := ⟨RL, _, _, _, _, _, _, _, _, _, _, _, rfl, m_X9_answered, zm_WL_in 408 (by decide +kernel) rfl⟩
theorem zl_M_9_1 : zm_Mp (16, 57, 155) := ⟨RL, _, _, _, _, _, _, _, _, _, _, _, rfl, m_X10_answered, zm_WL_in 988 (by decide +kernel) rfl⟩
theorem zl_M_9_2 : zm_Mp (16, 58, 86) := ⟨RL, _, _, _, _, _, _, _, _, _, _, _, rfl, m_X9_trail, zm_WL_in 412 (by decide +kernel) rfl⟩
theorem zl_M_9_3 : zm_Mp (16, 61, 156) := ⟨RL, _, _, _, _, _, _, _, _, _, _, _, rfl, m_X10_trail, zm_WL_in 992 (by decide +kernel) rfl⟩
theorem zl_M_9_4 : zm_Mp (16, 62, 87) := ⟨RL, _, _, _, _, _, _, _, _, _, _, _, rfl, m_X9_ring, zm_WL_in 420 (by decide +kernel) rfl⟩
theorem zl_M_9_5 : zm_Mp (16, 65, 158) := ⟨RL, _, _, _, _, _, _, _, _, _, _, _, rfl, m_X10_ring, zm_WL_in 996 (by decide +kernel) rfl⟩
theorem zl_M_9_6 : zm_Mp (16, 66, 88) := ⟨RL, _, _, _, _, _, _, _, _, _, _, _, rfl, m_X9_field, zm_WL_in 444 (by decide +kernel) rfl⟩
theorem zl_M_9_7 : zm_Mp (16, 69, 164) := ⟨RL, _, _, _, _, _, _, _, _, _, _, _, rfl, m_X10_field, zm_WL_in 1008 (by decide +kernel) rfl⟩
theorem zl_M_9_8 : zm_Mp (16, 70, 89) := ⟨RL, _, _, _, _, _, _, _, _, _, _, _, rfl, m_X9_mean, zm_WL_in 502 (by decide +kernel) rfl⟩
theorem zl_M_9_9 : zm_Mp (16, 73, 165) := ⟨RL, _, _, _, _, _, _, _, _, _, _, _, rfl, m_X10_mean, zm_WL_in 1034 (by decide +kernel) rfl⟩
theorem zl_M_9_10 : zm_Mp (16, 74, 90) := ⟨RL, _, _, _, _, _, _, _, _, _, _, _, rfl, m_X9_within, zm_WL_in 510 (by decide +kernel) rfl⟩
theorem zl_M_9_11 : zm_Mp (16, 78, 167) := ⟨RL, _, _, _, _, _, _, _, _, _, _, _, rfl, m_X10_within, zm_WL_in 1038 (by decide +kernel) rfl⟩
theorem zl_M_9_12 : zm_Mp (16, 79, 91) := ⟨RL, _, _, _, _, _, _, _, _, _, _, _, rfl, m_X9_cast, zm_WL_in 528 (by decide +kernel) rfl⟩
theorem zl_M_9_13 : zm_Mp (16, 82, 169) := ⟨RL, _, _, _, _, _, _, _, _, _, _, _, rfl, m_X10_cast, zm_WL_in 1052 (by decide +kernel) rfl⟩
theorem zl_M_9_14 : zm_Mp (16, 83, 92) := ⟨RL, _, _, _, _, _, _, _, _, _, _, _, rfl, m_X9_casts, zm_WL_in 536 (by decide +kernel) rfl⟩
theorem zl_M_9_15 : zm_Mp (16, 86, 171) := ⟨RL, _, _, _, _, _, _, _, _, _, _, _, rfl, m_X10_casts, zm_WL_in 1056 (by decide +kernel) rfl⟩
def zm_ML9 : List (Nat × Nat × Nat) := [(16, 53, 85), (16, 57, 155), (16, 58, 86), (16, 61, 156), (16, 62, 87), (16, 65, 158), (16, 66, 88), (16, 69, 164), (16, 70, 89), (16, 73, 165), (16, 74, 90), (16, 78, 167), (16, 79, 91), (16, 82, 169), (16, 83, 92), (16, 86, 171)]
theorem zl_M_9 : ∀ q ∈ zm_ML9, zm_Mp q := List.forall_mem_cons.mpr ⟨zl_M_9_0, List.forall_mem_cons.mpr ⟨zl_M_9_1, List.forall_mem_cons.mpr ⟨zl_M_9_2, List.forall_mem_cons.mpr ⟨zl_M_9_3, List.forall_mem_cons.mpr ⟨zl_M_9_4, List.forall_mem_cons.mpr ⟨zl_M_9_5, List.forall_mem_cons.mpr ⟨zl_M_9_6, List.forall_mem_cons.mpr ⟨zl_M_9_7, List.forall_mem_cons.mpr ⟨zl_M_9_8, List.forall_mem_cons.mpr ⟨zl_M_9_9, List.forall_mem_cons.mpr ⟨zl_M_9_10, List.forall_mem_cons.mpr ⟨zl_M_9_11, List.forall_mem_cons.mpr ⟨zl_M_9_12, List.forall_mem_cons.mpr ⟨zl_M_9_13, List.forall_mem_cons.mpr ⟨zl_M_9_14, List.forall_mem_cons.mpr ⟨zl_M_9_15, fun _ h => absurd h List.not_mem_nil⟩⟩⟩⟩⟩⟩⟩⟩⟩⟩⟩⟩⟩⟩⟩⟩
theorem zl_M_10_0 : zm_Mp (16, 87, 93) := ⟨RL, _, _, _, _, _, _, _, _, _, _, _, rfl, m_X9_wipe, zm_WL_in 547 (by decide +kernel) rfl⟩
theorem zl_M_10_1 : zm_Mp (16, 90, 172) := ⟨RL, _, _, _, _, _, _, _, _, _, _, _, rfl, m_X10_wipe, zm_WL_in 1065 (by decide +kernel) rfl⟩
theorem zl_M_10_2 : zm_Mp (16, 91, 94) := ⟨RL, _, _, _, _, _, _, _, _, _, _, _, rfl, m_X9_strip, zm_WL_in 551 (by decide +kernel) rfl⟩
theorem zl_M_10_3 : zm_Mp (16, 94, 173) := ⟨RL, _, _, _, _, _, _, _, _, _, _, _, rfl, m_X10_strip, zm_WL_in 1069 (by decide +kernel) rfl⟩
theorem zl_M_10_4 : zm_Mp (16, 95, 95) := ⟨RL, _, _, _, _, _, _, _, _, _, _, _, rfl, m_X9_ends, zm_WL_in 556 (by decide +kernel) rfl⟩
theorem zl_M_10_5 : zm_Mp (16, 99, 175) := ⟨RL, _, _, _, _, _, _, _, _, _, _, _, rfl, m_X10_ends, zm_WL_in 1073 (by decide +kernel) rfl⟩
theorem zl_M_10_6 : zm_Mp (16, 100, 96) := ⟨RL, _, _, _, _, _, _, _, _, _, _, _, rfl, m_X9_seen, zm_WL_in 574 (by decide +kernel) rfl⟩
theorem zl_M_10_7 : zm_Mp (16, 103, 178) := ⟨RL, _, _, _, _, _, _, _, _, _, _, _, rfl, m_X10_seen, zm_WL_in 1081 (by decide +kernel) rfl⟩
theorem zl_M_10_8 : zm_Mp (16, 104, 97) := ⟨RL, _, _, _, _, _, _, _, _, _, _, _, rfl, m_X9_who, zm_WL_in 595 (by decide +kernel) rfl⟩
theorem zl_M_10_9 : zm_Mp (16, 107, 179) := ⟨RL, _, _, _, _, _, _, _, _, _, _, _, rfl, m_X10_who, zm_WL_in 1095 (by decide +kernel) rfl⟩
theorem zl_M_10_10 : zm_Mp (16, 108, 98) := ⟨RL, _, _, _, _, _, _, _, _, _, _, _, rfl, m_X9_were, zm_WL_in 605 (by decide +kernel) rfl⟩
theorem zl_M_10_11 : zm_Mp (16, 111, 180) := ⟨RL, _, _, _, _, _, _, _, _, _, _, _, rfl, m_X10_were, zm_WL_in 1099 (by decide +kernel) rfl⟩
theorem zl_M_10_12 : zm_Mp (16, 112, 99) := ⟨RL, _, _, _, _, _, _, _, _, _, _, _, rfl, m_X9_player, zm_WL_in 616 (by decide +kernel) rfl⟩
theorem zl_M_10_13 : zm_Mp (16, 115, 181) := ⟨RL, _, _, _, _, _, _, _, _, _, _, _, rfl, m_X10_player, zm_WL_in 1104 (by decide +kernel) rfl⟩
theorem zl_M_10_14 : zm_Mp (16, 116, 100) := ⟨RL, _, _, _, _, _, _, _, _, _, _, _, rfl, m_X9_playerOf, zm_WL_in 624 (by decide +kernel) rfl⟩
theorem zl_M_10_15 : zm_Mp (16, 119, 189) := ⟨RL, _, _, _, _, _, _, _, _, _, _, _, rfl, m_X10_playerOf, zm_WL_in 1108 (by decide +kernel) rfl⟩
def zm_ML10 : List (Nat × Nat × Nat) := [(16, 87, 93), (16, 90, 172), (16, 91, 94), (16, 94, 173), (16, 95, 95), (16, 99, 175), (16, 100, 96), (16, 103, 178), (16, 104, 97), (16, 107, 179), (16, 108, 98), (16, 111, 180), (16, 112, 99), (16, 115, 181), (16, 116, 100), (16, 119, 189)]
theorem zl_M_10 : ∀ q ∈ zm_ML10, zm_Mp q := List.forall_mem_cons.mpr ⟨zl_M_10_0, List.forall_mem_cons.mpr ⟨zl_M_10_1, List.forall_mem_cons.mpr ⟨zl_M_10_2, List.forall_mem_cons.mpr ⟨zl_M_10_3, List.forall_mem_cons.mpr ⟨zl_M_10_4, List.forall_mem_cons.mpr ⟨zl_M_10_5, List.forall_mem_cons.mpr ⟨zl_M_10_6, List.forall_mem_cons.mpr ⟨zl_M_10_7, List.forall_mem_cons.mpr ⟨zl_M_10_8, List.forall_mem_cons.mpr ⟨zl_M_10_9, List.forall_mem_cons.mpr ⟨zl_M_10_10, List.forall_mem_cons.mpr ⟨zl_M_10_11, List.forall_mem_cons.mpr ⟨zl_M_10_12, List.forall_mem_cons.mpr ⟨zl_M_10_13, List.forall_mem_cons.mpr ⟨zl_M_10_14, List.forall_mem_cons.mpr ⟨zl_M_10_15, fun _ h => absurd h List.not_mem_nil⟩⟩⟩⟩⟩⟩⟩⟩⟩⟩⟩⟩⟩⟩⟩⟩
theorem zl_M_11_0 : zm_Mp (16, 120, 101) := ⟨RL, _, _, _, _, _, _, _, _, _, _, _, rfl, m_X9_pick, zm_WL_in 664 (by decide +kernel) rfl⟩
theorem zl_M_11_1 : zm_Mp (16, 123, 191) := ⟨RL, _, _, _, _, _, _, _, _, _, _, _, rfl, m_X10_pick, zm_WL_in 1142 (by decide +kernel) rfl⟩
theorem zl_M_11_2 : zm_Mp (16, 124, 102) := ⟨RL, _, _, _, _, _, _, _, _, _, _, _, rfl, m_X9_match, zm_WL_in 677 (by decide +kernel) rfl⟩
theorem zl_M_11_3 : zm_Mp (16, 127, 192) := ⟨RL, _, _, _, _, _, _, _, _, _, _, _, rfl, m_X10_match, zm_WL_in 1150 (by decide +kernel) rfl⟩
theorem zl_M_11_4 : zm_Mp (16, 128, 103) := ⟨RL, _, _, _, _, _, _, _, _, _, _, _, rfl, m_X9_duel, zm_WL_in 681 (by decide +kernel) rfl⟩
theorem zl_M_11_5 : zm_Mp (16, 132, 194) := ⟨RL, _, _, _, _, _, _, _, _, _, _, _, rfl, m_X10_duel, zm_WL_in 1154 (by decide +kernel) rfl⟩
theorem zl_M_11_6 : zm_Mp (16, 133, 104) := ⟨RL, _, _, _, _, _, _, _, _, _, _, _, rfl, m_X9_odds, zm_WL_in 698 (by decide +kernel) rfl⟩
theorem zl_M_11_7 : zm_Mp (16, 137, 195) := ⟨RL, _, _, _, _, _, _, _, _, _, _, _, rfl, m_X10_odds, zm_WL_in 1163 (by decide +kernel) rfl⟩
theorem zl_M_11_8 : zm_Mp (16, 138, 105) := ⟨RL, _, _, _, _, _, _, _, _, _, _, _, rfl, m_X9_plan, zm_WL_in 703 (by decide +kernel) rfl⟩
theorem zl_M_11_9 : zm_Mp (16, 141, 196) := ⟨RL, _, _, _, _, _, _, _, _, _, _, _, rfl, m_X10_plan, zm_WL_in 1167 (by decide +kernel) rfl⟩
theorem zl_M_11_10 : zm_Mp (16, 142, 106) := ⟨RL, _, _, _, _, _, _, _, _, _, _, _, rfl, m_X9_behind, zm_WL_in 714 (by decide +kernel) rfl⟩
theorem zl_M_11_11 : zm_Mp (16, 145, 198) := ⟨RL, _, _, _, _, _, _, _, _, _, _, _, rfl, m_X10_behind, zm_WL_in 1171 (by decide +kernel) rfl⟩
theorem zl_M_11_12 : zm_Mp (16, 146, 107) := ⟨RL, _, _, _, _, _, _, _, _, _, _, _, rfl, m_X9_write, zm_WL_in 735 (by decide +kernel) rfl⟩
theorem zl_M_11_13 : zm_Mp (16, 149, 199) := ⟨RL, _, _, _, _, _, _, _, _, _, _, _, rfl, m_X10_write, zm_WL_in 1180 (by decide +kernel) rfl⟩
theorem zl_M_11_14 : zm_Mp (16, 150, 108) := ⟨RL, _, _, _, _, _, _, _, _, _, _, _, rfl, m_X9_paper, zm_WL_in 751 (by decide +kernel) rfl⟩
theorem zl_M_11_15 : zm_Mp (16, 153, 200) := ⟨RL, _, _, _, _, _, _, _, _, _, _, _, rfl, m_X10_paper, zm_WL_in 1184 (by decide +kernel) rfl⟩
def zm_ML11 : List (Nat × Nat × Nat) := [(16, 120, 101), (16, 123, 191), (16, 124, 102), (16, 127, 192), (16, 128, 103), (16, 132, 194), (16, 133, 104), (16, 137, 195), (16, 138, 105), (16, 141, 196), (16, 142, 106), (16, 145, 198), (16, 146, 107), (16, 149, 199), (16, 150, 108), (16, 153, 200)]
theorem zl_M_11 : ∀ q ∈ zm_ML11, zm_Mp q := List.forall_mem_cons.mpr ⟨zl_M_11_0, List.forall_mem_cons.mpr ⟨zl_M_11_1, List.forall_mem_cons.mpr ⟨zl_M_11_2, List.forall_mem_cons.mpr ⟨zl_M_11_3, List.forall_mem_cons.mpr ⟨zl_M_11_4, List.forall_mem_cons.mpr ⟨zl_M_11_5, List.forall_mem_cons.mpr ⟨zl_M_11_6, List.forall_mem_cons.mpr ⟨zl_M_11_7, List.forall_mem_cons.mpr ⟨zl_M_11_8, List.forall_mem_cons.mpr ⟨zl_M_11_9, List.forall_mem_cons.mpr ⟨zl_M_11_10, List.forall_mem_cons.mpr ⟨zl_M_11_11, List.forall_mem_cons.mpr ⟨zl_M_11_12, List.forall_mem_cons.mpr ⟨zl_M_11_13, List.forall_mem_cons.mpr ⟨zl_M_11_14, List.forall_mem_cons.mpr ⟨zl_M_11_15, fun _ h => absurd h List.not_mem_nil⟩⟩⟩⟩⟩⟩⟩⟩⟩⟩⟩⟩⟩⟩⟩⟩
theorem zl_M_12_0 : zm_Mp (16, 154, 109) := ⟨RL, _, _, _, _, _, _, _, _, _, _, _, rfl, m_X9_judge, zm_WL_in 755 (by decide +kernel) rfl⟩
theorem zl_M_12_1 : zm_Mp (16, 157, 201) := ⟨RL, _, _, _, _, _, _, _, _, _, _, _, rfl, m_X10_judge, zm_WL_in 1188 (by decide +kernel) rfl⟩
theorem zl_M_12_2 : zm_Mp (16, 158, 110) := ⟨RL, _, _, _, _, _, _, _, _, _, _, _, rfl, m_X9_list, zm_WL_in 762 (by decide +kernel) rfl⟩
theorem zl_M_12_3 : zm_Mp (16, 161, 202) := ⟨RL, _, _, _, _, _, _, _, _, _, _, _, rfl, m_X10_list, zm_WL_in 1195 (by decide +kernel) rfl⟩
theorem zl_M_12_4 : zm_Mp (16, 162, 111) := ⟨RL, _, _, _, _, _, _, _, _, _, _, _, rfl, m_X9_put, zm_WL_in 766 (by decide +kernel) rfl⟩
theorem zl_M_12_5 : zm_Mp (16, 165, 203) := ⟨RL, _, _, _, _, _, _, _, _, _, _, _, rfl, m_X10_put, zm_WL_in 1199 (by decide +kernel) rfl⟩
theorem zl_M_12_6 : zm_Mp (16, 166, 112) := ⟨RL, _, _, _, _, _, _, _, _, _, _, _, rfl, m_X9_get, zm_WL_in 774 (by decide +kernel) rfl⟩
theorem zl_M_12_7 : zm_Mp (16, 169, 204) := ⟨RL, _, _, _, _, _, _, _, _, _, _, _, rfl, m_X10_get, zm_WL_in 1203 (by decide +kernel) rfl⟩
theorem zl_M_12_8 : zm_Mp (16, 170, 113) := ⟨RL, _, _, _, _, _, _, _, _, _, _, _, rfl, m_X9_image, zm_WL_in 778 (by decide +kernel) rfl⟩
theorem zl_M_12_9 : zm_Mp (16, 173, 205) := ⟨RL, _, _, _, _, _, _, _, _, _, _, _, rfl, m_X10_image, zm_WL_in 1207 (by decide +kernel) rfl⟩
theorem zl_M_12_10 : zm_Mp (16, 174, 114) := ⟨RL, _, _, _, _, _, _, _, _, _, _, _, rfl, m_X9_undo, zm_WL_in 788 (by decide +kernel) rfl⟩
theorem zl_M_12_11 : zm_Mp (16, 177, 206) := ⟨RL, _, _, _, _, _, _, _, _, _, _, _, rfl, m_X10_undo, zm_WL_in 1211 (by decide +kernel) rfl⟩
theorem zl_M_12_12 : zm_Mp (16, 178, 115) := ⟨RL, _, _, _, _, _, _, _, _, _, _, _, rfl, m_X9_count, zm_WL_in 792 (by decide +kernel) rfl⟩
theorem zl_M_12_13 : zm_Mp (16, 181, 207) := ⟨RL, _, _, _, _, _, _, _, _, _, _, _, rfl, m_X10_count, zm_WL_in 1215 (by decide +kernel) rfl⟩
theorem zl_M_12_14 : zm_Mp (10, 77, 125) := ⟨RX10, _, _, _, _, _, _, _, _, _, _, _, rfl, m_X10_in, zm_WL_in 895 (by decide +kernel) rfl⟩
theorem zl_M_12_15 : zm_Mp (10, 81, 130) := ⟨RX10, _, _, _, _, _, _, _, _, _, _, _, rfl, m_X10_sizeOf, zm_WL_in 929 (by decide +kernel) rfl⟩
def zm_ML12 : List (Nat × Nat × Nat) := [(16, 154, 109), (16, 157, 201), (16, 158, 110), (16, 161, 202), (16, 162, 111), (16, 165, 203), (16, 166, 112), (16, 169, 204), (16, 170, 113), (16, 173, 205), (16, 174, 114), (16, 177, 206), (16, 178, 115), (16, 181, 207), (10, 77, 125), (10, 81, 130)]
theorem zl_M_12 : ∀ q ∈ zm_ML12, zm_Mp q := List.forall_mem_cons.mpr ⟨zl_M_12_0, List.forall_mem_cons.mpr ⟨zl_M_12_1, List.forall_mem_cons.mpr ⟨zl_M_12_2, List.forall_mem_cons.mpr ⟨zl_M_12_3, List.forall_mem_cons.mpr ⟨zl_M_12_4, List.forall_mem_cons.mpr ⟨zl_M_12_5, List.forall_mem_cons.mpr ⟨zl_M_12_6, List.forall_mem_cons.mpr ⟨zl_M_12_7, List.forall_mem_cons.mpr ⟨zl_M_12_8, List.forall_mem_cons.mpr ⟨zl_M_12_9, List.forall_mem_cons.mpr ⟨zl_M_12_10, List.forall_mem_cons.mpr ⟨zl_M_12_11, List.forall_mem_cons.mpr ⟨zl_M_12_12, List.forall_mem_cons.mpr ⟨zl_M_12_13, List.forall_mem_cons.mpr ⟨zl_M_12_14, List.forall_mem_cons.mpr ⟨zl_M_12_15, fun _ h => absurd h List.not_mem_nil⟩⟩⟩⟩⟩⟩⟩⟩⟩⟩⟩⟩⟩⟩⟩⟩
theorem zl_M_13_0 : zm_Mp (10, 85, 129) := ⟨RX10, _, _, _, _, _, _, _, _, _, _, _, rfl, m_X10_ten, zm_WL_in 944 (by decide +kernel) rfl⟩
theorem zl_M_13_1 : zm_Mp (10, 94, 135) := ⟨RX10, _, _, _, _, _, _, _, _, _, _, _, rfl, m_X10_overlap, zm_WL_in 940 (by decide +kernel) rfl⟩
theorem zl_M_13_2 : zm_Mp (10, 97, 137) := ⟨RX10, _, _, _, _, _, _, _, _, _, _, _, rfl, m_X10_stands, zm_WL_in 967 (by decide +kernel) rfl⟩
theorem zl_M_13_3 : zm_Mp (10, 101, 136) := ⟨RX10, _, _, _, _, _, _, _, _, _, _, _, rfl, m_X10_numberOf, zm_WL_in 936 (by decide +kernel) rfl⟩
theorem zl_M_13_4 : zm_Mp (10, 104, 138) := ⟨RX10, _, _, _, _, _, _, _, _, _, _, _, rfl, m_X10_areApart, zm_WL_in 977 (by decide +kernel) rfl⟩
theorem zl_M_13_5 : zm_Mp (10, 107, 139) := ⟨RX10, _, _, _, _, _, _, _, _, _, _, _, rfl, m_X10_weight, zm_WL_in 951 (by decide +kernel) rfl⟩
theorem zl_M_13_6 : zm_Mp (10, 110, 133) := ⟨RX10, _, _, _, _, _, _, _, _, _, _, _, rfl, m_X10_isSuch, zm_WL_in 925 (by decide +kernel) rfl⟩
theorem zl_M_13_7 : zm_Mp (10, 114, 142) := ⟨RX10, _, _, _, _, _, _, _, _, _, _, _, rfl, m_X10_lowest, zm_WL_in 985 (by decide +kernel) rfl⟩
theorem zl_M_13_8 : zm_Mp (10, 118, 132) := ⟨RX10, _, _, _, _, _, _, _, _, _, _, _, rfl, m_X10_hasThird, zm_WL_in 898 (by decide +kernel) rfl⟩
theorem zl_M_13_9 : zm_Mp (10, 127, 146) := ⟨RX10, _, _, _, _, _, _, _, _, _, _, _, rfl, m_X10_sign, zm_WL_in 913 (by decide +kernel) rfl⟩
theorem zl_M_13_10 : zm_Mp (10, 130, 147) := ⟨RX10, _, _, _, _, _, _, _, _, _, _, _, rfl, m_X10_reads, zm_WL_in 909 (by decide +kernel) rfl⟩
theorem zl_M_13_11 : zm_Mp (10, 134, 126) := ⟨RX10, _, _, _, _, _, _, _, _, _, _, _, rfl, m_X10_isWord, zm_WL_in 921 (by decide +kernel) rfl⟩
theorem zl_M_13_12 : zm_Mp (10, 137, 141) := ⟨RX10, _, _, _, _, _, _, _, _, _, _, _, rfl, m_X10_bestAnswer, zm_WL_in 947 (by decide +kernel) rfl⟩
theorem zl_M_13_13 : zm_Mp (10, 140, 127) := ⟨RX10, _, _, _, _, _, _, _, _, _, _, _, rfl, m_X10_isPart, zm_WL_in 974 (by decide +kernel) rfl⟩
theorem zl_M_13_14 : zm_Mp (10, 145, 143) := ⟨RX10, _, _, _, _, _, _, _, _, _, _, _, rfl, m_X10_chanceOf, zm_WL_in 981 (by decide +kernel) rfl⟩
theorem zl_M_13_15 : zm_Mp (10, 149, 140) := ⟨RX10, _, _, _, _, _, _, _, _, _, _, _, rfl, m_X10_beats, zm_WL_in 1004 (by decide +kernel) rfl⟩
def zm_ML13 : List (Nat × Nat × Nat) := [(10, 85, 129), (10, 94, 135), (10, 97, 137), (10, 101, 136), (10, 104, 138), (10, 107, 139), (10, 110, 133), (10, 114, 142), (10, 118, 132), (10, 127, 146), (10, 130, 147), (10, 134, 126), (10, 137, 141), (10, 140, 127), (10, 145, 143), (10, 149, 140)]
theorem zl_M_13 : ∀ q ∈ zm_ML13, zm_Mp q := List.forall_mem_cons.mpr ⟨zl_M_13_0, List.forall_mem_cons.mpr ⟨zl_M_13_1, List.forall_mem_cons.mpr ⟨zl_M_13_2, List.forall_mem_cons.mpr ⟨zl_M_13_3, List.forall_mem_cons.mpr ⟨zl_M_13_4, List.forall_mem_cons.mpr ⟨zl_M_13_5, List.forall_mem_cons.mpr ⟨zl_M_13_6, List.forall_mem_cons.mpr ⟨zl_M_13_7, List.forall_mem_cons.mpr ⟨zl_M_13_8, List.forall_mem_cons.mpr ⟨zl_M_13_9, List.forall_mem_cons.mpr ⟨zl_M_13_10, List.forall_mem_cons.mpr ⟨zl_M_13_11, List.forall_mem_cons.mpr ⟨zl_M_13_12, List.forall_mem_cons.mpr ⟨zl_M_13_13, List.forall_mem_cons.mpr ⟨zl_M_13_14, List.forall_mem_cons.mpr ⟨zl_M_13_15, fun _ h => absurd h List.not_mem_nil⟩⟩⟩⟩⟩⟩⟩⟩⟩⟩⟩⟩⟩⟩⟩⟩
theorem zl_M_14_0 : zm_Mp (10, 152, 157) := ⟨RX10, _, _, _, _, _, _, _, _, _, _, _, rfl, m_X10_rings, zm_WL_in 1000 (by decide +kernel) rfl⟩
theorem zl_M_14_1 : zm_Mp (10, 155, 208) := ⟨RX10, _, _, _, _, _, _, _, _, _, _, _, rfl, m_J6_bitCount_0f7a4, zm_WL_in 1016 (by decide +kernel) rfl⟩
theorem zl_M_14_2 : zm_Mp (10, 163, 161) := ⟨RX10, _, _, _, _, _, _, _, _, _, _, _, rfl, m_X10_square, zm_WL_in 1030 (by decide +kernel) rfl⟩
theorem zl_M_14_3 : zm_Mp (10, 168, 162) := ⟨RX10, _, _, _, _, _, _, _, _, _, _, _, rfl, m_X10_fills, zm_WL_in 1025 (by decide +kernel) rfl⟩
theorem zl_M_14_4 : zm_Mp (10, 172, 159) := ⟨RX10, _, _, _, _, _, _, _, _, _, _, _, rfl, m_X10_sets, zm_WL_in 1012 (by decide +kernel) rfl⟩
theorem zl_M_14_5 : zm_Mp (10, 175, 160) := ⟨RX10, _, _, _, _, _, _, _, _, _, _, _, rfl, m_X10_isField, zm_WL_in 1017 (by decide +kernel) rfl⟩
theorem zl_M_14_6 : zm_Mp (10, 179, 163) := ⟨RX10, _, _, _, _, _, _, _, _, _, _, _, rfl, m_X10_solved, zm_WL_in 1021 (by decide +kernel) rfl⟩
theorem zl_M_14_7 : zm_Mp (10, 183, 131) := ⟨RX10, _, _, _, _, _, _, _, _, _, _, _, rfl, m_X10_letterOf, zm_WL_in 1049 (by decide +kernel) rfl⟩
theorem zl_M_14_8 : zm_Mp (10, 186, 168) := ⟨RX10, _, _, _, _, _, _, _, _, _, _, _, rfl, m_X10_endsBy, zm_WL_in 1042 (by decide +kernel) rfl⟩
theorem zl_M_14_9 : zm_Mp (10, 189, 166) := ⟨RX10, _, _, _, _, _, _, _, _, _, _, _, rfl, m_X10_fourOf, zm_WL_in 1046 (by decide +kernel) rfl⟩
theorem zl_M_14_10 : zm_Mp (10, 193, 170) := ⟨RX10, _, _, _, _, _, _, _, _, _, _, _, rfl, m_X10_drawn, zm_WL_in 1061 (by decide +kernel) rfl⟩
theorem zl_M_14_11 : zm_Mp (10, 196, 174) := ⟨RX10, _, _, _, _, _, _, _, _, _, _, _, rfl, m_X10_endsAt, zm_WL_in 1077 (by decide +kernel) rfl⟩
theorem zl_M_14_12 : zm_Mp (10, 199, 176) := ⟨RX10, _, _, _, _, _, _, _, _, _, _, _, rfl, m_X10_firstOf, zm_WL_in 1085 (by decide +kernel) rfl⟩
theorem zl_M_14_13 : zm_Mp (10, 202, 175) := ⟨RX10, _, _, _, _, _, _, _, _, _, _, _, rfl, m_X10_ends, zm_WL_in 1089 (by decide +kernel) rfl⟩
theorem zl_M_14_14 : zm_Mp (10, 206, 209) := ⟨RX10, _, _, _, _, _, _, _, _, _, _, _, rfl, m_J13_bitCount_95d88, zm_WL_in 1090 (by decide +kernel) rfl⟩
theorem zl_M_14_15 : zm_Mp (10, 209, 177) := ⟨RX10, _, _, _, _, _, _, _, _, _, _, _, rfl, m_X10_matched, zm_WL_in 1091 (by decide +kernel) rfl⟩
def zm_ML14 : List (Nat × Nat × Nat) := [(10, 152, 157), (10, 155, 208), (10, 163, 161), (10, 168, 162), (10, 172, 159), (10, 175, 160), (10, 179, 163), (10, 183, 131), (10, 186, 168), (10, 189, 166), (10, 193, 170), (10, 196, 174), (10, 199, 176), (10, 202, 175), (10, 206, 209), (10, 209, 177)]
theorem zl_M_14 : ∀ q ∈ zm_ML14, zm_Mp q := List.forall_mem_cons.mpr ⟨zl_M_14_0, List.forall_mem_cons.mpr ⟨zl_M_14_1, List.forall_mem_cons.mpr ⟨zl_M_14_2, List.forall_mem_cons.mpr ⟨zl_M_14_3, List.forall_mem_cons.mpr ⟨zl_M_14_4, List.forall_mem_cons.mpr ⟨zl_M_14_5, List.forall_mem_cons.mpr ⟨zl_M_14_6, List.forall_mem_cons.mpr ⟨zl_M_14_7, List.forall_mem_cons.mpr ⟨zl_M_14_8, List.forall_mem_cons.mpr ⟨zl_M_14_9, List.forall_mem_cons.mpr ⟨zl_M_14_10, List.forall_mem_cons.mpr ⟨zl_M_14_11, List.forall_mem_cons.mpr ⟨zl_M_14_12, List.forall_mem_cons.mpr ⟨zl_M_14_13, List.forall_mem_cons.mpr ⟨zl_M_14_14, List.forall_mem_cons.mpr ⟨zl_M_14_15, fun _ h => absurd h List.not_mem_nil⟩⟩⟩⟩⟩⟩⟩⟩⟩⟩⟩⟩⟩⟩⟩⟩
theorem zl_M_15_0 : zm_Mp (10, 212, 179) := ⟨RX10, _, _, _, _, _, _, _, _, _, _, _, rfl, m_X10_who, zm_WL_in 1103 (by decide +kernel) rfl⟩
theorem zl_M_15_1 : zm_Mp (10, 218, 134) := ⟨RX10, _, _, _, _, _, _, _, _, _, _, _, rfl, m_X10_on, zm_WL_in 1131 (by decide +kernel) rfl⟩
theorem zl_M_15_2 : zm_Mp (10, 221, 183) := ⟨RX10, _, _, _, _, _, _, _, _, _, _, _, rfl, m_X10_turned, zm_WL_in 1128 (by decide +kernel) rfl⟩
theorem zl_M_15_3 : zm_Mp (10, 224, 185) := ⟨RX10, _, _, _, _, _, _, _, _, _, _, _, rfl, m_X10_ahead, zm_WL_in 1135 (by decide +kernel) rfl⟩
theorem zl_M_15_4 : zm_Mp (10, 227, 184) := ⟨RX10, _, _, _, _, _, _, _, _, _, _, _, rfl, m_X10_shifted, zm_WL_in 1138 (by decide +kernel) rfl⟩
theorem zl_M_15_5 : zm_Mp (10, 230, 186) := ⟨RX10, _, _, _, _, _, _, _, _, _, _, _, rfl, m_X10_picks, zm_WL_in 1124 (by decide +kernel) rfl⟩
theorem zl_M_15_6 : zm_Mp (10, 233, 187) := ⟨RX10, _, _, _, _, _, _, _, _, _, _, _, rfl, m_X10_firstPick, zm_WL_in 1120 (by decide +kernel) rfl⟩
theorem zl_M_15_7 : zm_Mp (10, 236, 182) := ⟨RX10, _, _, _, _, _, _, _, _, _, _, _, rfl, m_X10_isPlayer, zm_WL_in 1112 (by decide +kernel) rfl⟩
theorem zl_M_15_8 : zm_Mp (10, 239, 188) := ⟨RX10, _, _, _, _, _, _, _, _, _, _, _, rfl, m_X10_wins, zm_WL_in 1116 (by decide +kernel) rfl⟩
theorem zl_M_15_9 : zm_Mp (10, 242, 190) := ⟨RX10, _, _, _, _, _, _, _, _, _, _, _, rfl, m_X10_areTwo, zm_WL_in 1146 (by decide +kernel) rfl⟩
theorem zl_M_15_10 : zm_Mp (10, 246, 193) := ⟨RX10, _, _, _, _, _, _, _, _, _, _, _, rfl, m_X10_duels, zm_WL_in 1158 (by decide +kernel) rfl⟩
theorem zl_M_15_11 : zm_Mp (10, 259, 197) := ⟨RX10, _, _, _, _, _, _, _, _, _, _, _, rfl, m_X10_does, zm_WL_in 1175 (by decide +kernel) rfl⟩
theorem zl_M_15_12 : zm_Mp (10, 266, 128) := ⟨RX10, _, _, _, _, _, _, _, _, _, _, _, rfl, m_X10_isList, zm_WL_in 1192 (by decide +kernel) rfl⟩
def zm_ML15 : List (Nat × Nat × Nat) := [(10, 212, 179), (10, 218, 134), (10, 221, 183), (10, 224, 185), (10, 227, 184), (10, 230, 186), (10, 233, 187), (10, 236, 182), (10, 239, 188), (10, 242, 190), (10, 246, 193), (10, 259, 197), (10, 266, 128)]
theorem zl_M_15 : ∀ q ∈ zm_ML15, zm_Mp q := List.forall_mem_cons.mpr ⟨zl_M_15_0, List.forall_mem_cons.mpr ⟨zl_M_15_1, List.forall_mem_cons.mpr ⟨zl_M_15_2, List.forall_mem_cons.mpr ⟨zl_M_15_3, List.forall_mem_cons.mpr ⟨zl_M_15_4, List.forall_mem_cons.mpr ⟨zl_M_15_5, List.forall_mem_cons.mpr ⟨zl_M_15_6, List.forall_mem_cons.mpr ⟨zl_M_15_7, List.forall_mem_cons.mpr ⟨zl_M_15_8, List.forall_mem_cons.mpr ⟨zl_M_15_9, List.forall_mem_cons.mpr ⟨zl_M_15_10, List.forall_mem_cons.mpr ⟨zl_M_15_11, List.forall_mem_cons.mpr ⟨zl_M_15_12, fun _ h => absurd h List.not_mem_nil⟩⟩⟩⟩⟩⟩⟩⟩⟩⟩⟩⟩⟩
def zm_ML : List (Nat × Nat × Nat) := zm_ML0 ++ (zm_ML1 ++ (zm_ML2 ++ (zm_ML3 ++ (zm_ML4 ++ (zm_ML5 ++ (zm_ML6 ++ (zm_ML7 ++ (zm_ML8 ++ (zm_ML9 ++ (zm_ML10 ++ (zm_ML11 ++ (zm_ML12 ++ (zm_ML13 ++ (zm_ML14 ++ (zm_ML15)))))))))))))))
theorem zl_M : ∀ q ∈ zm_ML, zm_Mp q := zm_fap zl_M_0 (zm_fap zl_M_1 (zm_fap zl_M_2 (zm_fap zl_M_3 (zm_fap zl_M_4 (zm_fap zl_M_5 (zm_fap zl_M_6 (zm_fap zl_M_7 (zm_fap zl_M_8 (zm_fap zl_M_9 (zm_fap zl_M_10 (zm_fap zl_M_11 (zm_fap zl_M_12 (zm_fap zl_M_13 (zm_fap zl_M_14 (zl_M_15)))))))))))))))
theorem zl_T : Jvm.Cond.fieldLink RX8 9 "WordRace$Word" "TENS" "[I" ∈ zm_WL := zm_WL_in 285 (by decide +kernel) rfl
