/-! what a state is: boards, and that class and reference hold the same -/
/-- sides; words (how many, which); the strip; players (how many, kinds, words); the plan (how many, what, by) -/
abbrev Bd : Type := Nat × (Nat × (Nat → Nat)) × (Nat × (Nat → Nat)) × (Nat × (Nat → Nat) × (Nat → Nat)) × (Nat × (Nat → Nat) × (Nat → Nat))
def vB (b : Bd) : Prop := match b with
  | (s, (n, w), (z, l), (p, k, o), (r, a, v)) => (s = 2 ∨ s = 3) ∧ (n ≤ 6 ∧ ∀ i, i < n → okw s (w i) = true) ∧ (z ≤ 40 ∧ ∀ i, i < z → 1 ≤ l i ∧ l i ≤ s) ∧ (p ≤ 4 ∧ ∀ i, i < p → k i ≤ 5 ∧ o i < n) ∧ (r ≤ 8 ∧ ∀ i, i < r → a i ≤ 2 ∧ 1 ≤ v i ∧ v i ≤ 9)
/-- the class's board of the cells from c on -/
def cB (c : Nat) (I : Nat → Int32) (A : Nat → Nat → Int32) (b : Bd) : Prop := match b with
  | (s, (n, w), (z, l), (p, k, o), (r, a, v)) => I (100 * c) = nI s ∧ (I (100 * c + 2) = nI n ∧ ∀ i, i < n → A (c + 1) i = nI (w i)) ∧ (I (100 * (c + 2) + 1) = nI z ∧ ∀ i, i < z → A (c + 3) i = nI (l i)) ∧ (I (100 * c + 6) = nI p ∧ ∀ i, i < p → A (c + 4) i = nI (k i) ∧ A (c + 5) i = nI (o i)) ∧ (I (100 * c + 9) = nI r ∧ ∀ i, i < r → A (c + 6) i = nI (a i) ∧ A (c + 7) i = nI (v i))
/-- the reference's board -/
def mB (J : Nat → Int32) (B : Nat → Nat → Int32) (b : Bd) : Prop := match b with
  | (s, (n, w), (z, l), (p, k, o), (r, a, v)) => J 0 = nI s ∧ (J 2 = nI n ∧ ∀ i, i < n → B 1 i = nI (w i)) ∧ (J 4 = nI z ∧ ∀ i, i < z → B 2 i = nI (l i)) ∧ (J 7 = nI p ∧ ∀ i, i < p → B 3 i = nI (k i) ∧ B 4 i = nI (o i)) ∧ (J 10 = nI r ∧ ∀ i, i < r → B 5 i = nI (a i) ∧ B 6 i = nI (v i))
/-- the reference's image -/
def iB (f : Nat → Int32) (b : Bd) : Prop := match b with
  | (s, (n, w), (z, l), (p, k, o), (r, a, v)) => f 0 = nI s ∧ (f 1 = nI n ∧ ∀ i, i < n → f (5 + i) = nI (w i)) ∧ (f 2 = nI z ∧ ∀ i, i < z → f (11 + i) = nI (l i)) ∧ (f 3 = nI p ∧ ∀ i, i < p → f (51 + i) = nI (k i) ∧ f (55 + i) = nI (o i)) ∧ (f 4 = nI r ∧ ∀ i, i < r → f (59 + i) = nI (a i) ∧ f (67 + i) = nI (v i))
/-- the tape -/
def rT (I : Nat → Int32) (A : Nat → Nat → Int32) (J : Nat → Int32) (B : Nat → Nat → Int32) : Prop := ∃ (z : Nat) (c : Nat → Nat), z ≤ 60 ∧ I 1701 = nI z ∧ J 12 = nI z ∧ ∀ i, i < z → 1 ≤ c i ∧ c i ≤ 127 ∧ A 18 i = nI (c i) ∧ B 7 i = nI (c i)
/-- the paper -/
def rP (I : Nat → Int32) (A : Nat → Nat → Int32) (J : Nat → Int32) (B : Nat → Nat → Int32) : Prop := ∃ z : Nat, z ≤ 40 ∧ I 5 = nI z ∧ J 14 = nI z ∧ ∀ i, i < z → A 20 i = B 8 i
/-- the lists -/
def rL1 (A B : Nat → Nat → Int32) (k c : Nat) : Prop := ((A 26 k = -11 ∧ B 10 k = -1) ∨ ∃ n, n ≤ 12 ∧ A 26 k = nI n ∧ B 10 k = nI n) ∧ ∀ i, i < 12 → A c i = B 9 (12 * k + i)
def rL (A B : Nat → Nat → Int32) : Prop := rL1 A B 0 22 ∧ rL1 A B 1 23 ∧ rL1 A B 2 24 ∧ rL1 A B 3 25
/-- the image -/
def rI (I : Nat → Int32) (A : Nat → Nat → Int32) (J : Nat → Int32) (B : Nat → Nat → Int32) : Prop := (I 2 = 0 ∧ J 18 = 0) ∨ (I 2 = 1 ∧ J 18 = 1 ∧ ∃ b, vB b ∧ cB 9 I A b ∧ iB (B 11) b)
/-- class and reference hold the same -/
def Rel (I : Nat → Int32) (A : Nat → Nat → Int32) (J : Nat → Int32) (B : Nat → Nat → Int32) : Prop := (∃ b, vB b ∧ cB 1 I A b ∧ mB J B b) ∧ rI I A J B ∧ rT I A J B ∧ rP I A J B ∧ rL A B
/-- a call answers alike on both sides (an int), and what is held stays the same -/
def Ans (mc mm : Nat) (as : List Value) (I : Nat → Int32) (A : Nat → Nat → Int32) (J : Nat → Int32) (B : Nat → Nat → Int32) (L : Nat → Nat → Int64) : Prop := ∃ (v : Int32) (I' : Nat → Int32) (A' : Nat → Nat → Int32) (J' : Nat → Int32) (B' : Nat → Nat → Int32) (L' : Nat → Nat → Int64), (∀ t, zC 60 mc (.ref 0 :: as) (hC I A, t) = some (some (.int v), (hC I' A', t))) ∧ (∀ t, zC 60 mm (.ref 1000 :: as) (t, hM J B L) = some (some (.int v), (t, hM J' B' L'))) ∧ Rel I' A' J' B'
/-- the same of a long -/
def AnsL (mc mm : Nat) (as : List Value) (I : Nat → Int32) (A : Nat → Nat → Int32) (J : Nat → Int32) (B : Nat → Nat → Int32) (L : Nat → Nat → Int64) : Prop := ∃ (v : Int64) (I' : Nat → Int32) (A' : Nat → Nat → Int32) (J' : Nat → Int32) (B' : Nat → Nat → Int32) (L' : Nat → Nat → Int64), (∀ t, zC 60 mc (.ref 0 :: as) (hC I A, t) = some (some (.long v), (hC I' A', t))) ∧ (∀ t, zC 60 mm (.ref 1000 :: as) (t, hM J B L) = some (some (.long v), (t, hM J' B' L'))) ∧ Rel I' A' J' B'
theorem upd_ne {f : Nat → Int32} {k j : Nat} {x : Int32} (h : j ≠ k) : upd f k x j = f j := pk_un h
theorem upd_eq {f : Nat → Int32} {k : Nat} {x : Int32} : upd f k x k = x := pk_us
/-! words by their numbers: hasWord, wordAt, isWord -/
theorem i_nneg {x : Int32} {n : Nat} (hn : n < 2 ^ 31) (h : ¬ x < 0) (h2 : ¬ nI n ≤ x) : ∃ j, j < n ∧ x = nI j := by
  rcases pk_ix x hn with q | q | q
  · exact absurd q h
  · exact absurd q h2
  · exact q
section WD
variable {I : Nat → Int32} {A : Nat → Nat → Int32} {t : List zm_E} {J : Nat → Int32} {B : Nat → Nat → Int32} {L : Nat → Nat → Int64}
theorem c_hw0 {d n : Nat} (hd : 1 ≤ d) (hn : I 102 = nI n) {x : Int32} (h : x < 0 ∨ nI n ≤ x) : zC d 1 [.ref 1, .int x] (hC I A, t) = some (some (.int 0), (hC I A, t)) := by
  obtain ⟨d, rfl⟩ : ∃ e, d = e + 1 := ⟨d - 1, by omega⟩
  rw [e_X0_hasWord, hn]
  by_cases h1 : x < 0
  · rw [pn_t h1]
  · rw [pn_f h1, pn_t (h.resolve_left h1)]
theorem c_hw1 {d n j : Nat} (hd : 1 ≤ d) (hn : I 102 = nI n) (hn6 : n ≤ 6) (hj : j < n) : zC d 1 [.ref 1, .int (nI j)] (hC I A, t) = some (some (.int 1), (hC I A, t)) := by
  obtain ⟨d, rfl⟩ : ∃ e, d = e + 1 := ⟨d - 1, by omega⟩
  rw [e_X0_hasWord, hn, show (0 : Int32) = nI 0 from rfl, show (6 : Int32) = nI 6 from rfl, pn_lt (by omega) (by decide), pn_f (by omega), pn_le (by omega) (by omega), pn_f (by omega), pn_le (by decide) (by omega), pn_f (by omega)]
theorem c_wa {d n j : Nat} (hd : 2 ≤ d) (hn : I 102 = nI n) (hn6 : n ≤ 6) (hj : j < n) : zC d 3 [.ref 1, .int (nI j)] (hC I A, t) = some (some (.int (A 2 j)), (hC I A, t)) := by
  obtain ⟨d, rfl⟩ : ∃ e, d = e + 1 := ⟨d - 1, by omega⟩
  rw [e_X0_wordAt, c_hw1 (by omega) hn hn6 hj, pn_c1, show (10000000 : Nat) = 9999999 + 1 from rfl, e_X0_wordAt_at5, pn_f (by decide), pn_in (by omega) (by decide), pn_cl (by omega)]
  rfl
theorem r_in {d : Nat} (hd : 1 ≤ d) (h : zm_H) (x y z : Int32) : zC d 125 [.int x, .int y, .int z] h = some (some (.int (b01 (decide (y ≤ x ∧ x ≤ z)))), h) := by
  obtain ⟨d, rfl⟩ : ∃ e, d = e + 1 := ⟨d - 1, by omega⟩
  rw [e_X10_in]
  by_cases h1 : x < y
  · rw [pn_t h1, decide_eq_false (fun q => Int32.not_lt.mpr q.1 h1)]; rfl
  · rw [pn_f h1]
    by_cases h2 : z < x
    · rw [pn_t h2, decide_eq_false (fun q => Int32.not_lt.mpr q.2 h2)]; rfl
    · rw [pn_f h2, decide_eq_true ⟨Int32.not_lt.mp h1, Int32.not_lt.mp h2⟩]; rfl
theorem nI_m1 {n : Nat} (hn : n < 2 ^ 30) : (nI n - 1).toInt = (n : Int) - 1 := pk_sub_toInt (a := n) (b := 1) hn (by decide)
theorem i_in0 {x : Int32} {n : Nat} (hn : n < 2 ^ 30) (h : x < 0 ∨ nI n ≤ x) : decide (0 ≤ x ∧ x ≤ nI n - 1) = false := by
  apply decide_eq_false
  rintro ⟨h1, h2⟩
  have g1 := Int32.le_iff_toInt_le.mp h1
  have g2 := Int32.le_iff_toInt_le.mp h2
  rw [nI_m1 hn] at g2
  have e0 : (0 : Int32).toInt = 0 := rfl
  rcases h with h | h
  · have := Int32.lt_iff_toInt_lt.mp h; omega
  · have := Int32.le_iff_toInt_le.mp h
    rw [nI_toInt (by omega)] at this
    omega
theorem i_in1 {j n : Nat} (hn : n < 2 ^ 30) (h : j < n) : decide (0 ≤ nI j ∧ nI j ≤ nI n - 1) = true := by
  apply decide_eq_true
  constructor
  · exact nI_pos' (by omega)
  · apply Int32.le_iff_toInt_le.mpr
    rw [nI_m1 hn, nI_toInt (by omega)]
    omega
theorem r_iw0 {d n : Nat} (hd : 2 ≤ d) (hn : J 2 = nI n) (hn6 : n ≤ 6) {x : Int32} (h : x < 0 ∨ nI n ≤ x) : zC d 126 [.ref 1000, .int x] (t, hM J B L) = some (some (.int 0), (t, hM J B L)) := by
  obtain ⟨d, rfl⟩ : ∃ e, d = e + 1 := ⟨d - 1, by omega⟩
  rw [e_X10_isWord, r_in (by omega), pn_c1, hn, i_in0 (by omega) h]
  rfl
theorem r_iw1 {d n j : Nat} (hd : 2 ≤ d) (hn : J 2 = nI n) (hn6 : n ≤ 6) (hj : j < n) : zC d 126 [.ref 1000, .int (nI j)] (t, hM J B L) = some (some (.int 1), (t, hM J B L)) := by
  obtain ⟨d, rfl⟩ : ∃ e, d = e + 1 := ⟨d - 1, by omega⟩
  rw [e_X10_isWord, r_in (by omega), pn_c1, hn, i_in1 (by omega) hj]
  rfl
end WD
