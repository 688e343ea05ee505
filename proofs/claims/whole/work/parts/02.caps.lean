/-! ===== a new capability ===== -/
theorem cm_x {o r : Int32} (ho : ∀ i, 3 ≤ i → bt o i = false) (hr : ∀ i, 4 ≤ i → bt r i = false) {i : Nat} (hi : i < 32) : bt (cp_x o r) i = if i < 4 then bt r i else if i < 7 then bt o (i - 4) else false := by
  unfold cp_x
  have e := b_shl 4 (by decide) o hi
  rw [b_or]
  refine (congrArg (fun z => z || bt r i) e).trans ?_
  try dsimp only
  by_cases c : i < 4
  · rw [if_pos c, decide_eq_false (by omega), Bool.false_and, Bool.false_or]
  · rw [if_neg c, hr i (by omega), Bool.or_false, decide_eq_true (by omega), Bool.true_and]
    by_cases d : i < 7
    · rw [if_pos d]
    · rw [if_neg d, ho (i - 4) (by omega)]
theorem cm_xw {o r : Int32} (ho : ∀ i, 3 ≤ i → bt o i = false) (hr : ∀ i, 4 ≤ i → bt r i = false) {i : Nat} (hi : i < 64) : cl_b (cp_x o r).toInt64 i = if i < 4 then bt r i else if i < 7 then bt o (i - 4) else false := by
  rw [cl_wd _ hi]
  by_cases c : i < 32
  · rw [if_pos c, cm_x ho hr c]
  · rw [if_neg c, cm_x ho hr (by decide), if_neg (by decide), if_neg (by decide), if_neg (by omega), if_neg (by omega)]
theorem cm_b {s o r : Int32} (ho : ∀ i, 3 ≤ i → bt o i = false) (hr : ∀ i, 4 ≤ i → bt r i = false) {i : Nat} (hi : i < 64) :
    cl_b (cp_m s o r) i = ((((decide (32 ≤ i) && (if i - 32 < 32 then bt s (i - 32) else bt s 31)) || (decide (8 ≤ i) && (if i - 8 < 4 then bt r (i - 8) else if i - 8 < 7 then bt o (i - 8 - 4) else false))) || decide (i = 7)) || (if i < 4 then bt r i else if i < 7 then bt o (i - 4) else false)) := by
  unfold cp_m
  have e1 := cl_shl 32 (by decide) s.toInt64 hi
  have e2 := cl_shl 8 (by decide) (cp_x o r).toInt64 hi
  rw [cl_wd s (by omega)] at e1
  rw [cm_xw ho hr (by omega)] at e2
  rw [cl_or, cl_or, cl_or, cl_L128 i hi, cm_xw ho hr hi]
  exact congrArg (fun z => (z || decide (i = 7)) || (if i < 4 then bt r i else if i < 7 then bt o (i - 4) else false)) (congr (congrArg (fun a b => a || b) e1) e2)
theorem cm_r {s o r : Int32} (ho : ∀ i, 3 ≤ i → bt o i = false) (hr : ∀ i, 4 ≤ i → bt r i = false) : cp_r (cp_m s o r) = r := by
  refine b_ext fun i hi => ?_
  rw [cp_rB _ hi]
  by_cases c : i < 4
  · rw [cm_b ho hr (by omega), if_pos c, decide_eq_true c, decide_eq_false (show ¬ 32 ≤ i by omega), decide_eq_false (show ¬ 8 ≤ i by omega), decide_eq_false (show ¬ i = 7 by omega)]
    simp
  · rw [decide_eq_false c, Bool.false_and, hr i (by omega)]
theorem cm_o {s o r : Int32} (ho : ∀ i, 3 ≤ i → bt o i = false) (hr : ∀ i, 4 ≤ i → bt r i = false) : cp_o (cp_m s o r) = o := by
  refine b_ext fun i hi => ?_
  rw [cp_oB _ hi]
  by_cases c : i < 3
  · rw [cm_b ho hr (by omega), if_neg (show ¬ 4 + i < 4 by omega), if_pos (show 4 + i < 7 by omega), decide_eq_true c, decide_eq_false (show ¬ 32 ≤ 4 + i by omega), decide_eq_false (show ¬ 8 ≤ 4 + i by omega), decide_eq_false (show ¬ 4 + i = 7 by omega), show 4 + i - 4 = i by omega]
    simp
  · rw [decide_eq_false c, Bool.false_and, ho i (by omega)]
theorem cm_gr {s o r : Int32} (ho : ∀ i, 3 ≤ i → bt o i = false) (hr : ∀ i, 4 ≤ i → bt r i = false) : cp_r (cp_g (cp_m s o r)) = r := by
  refine b_ext fun i hi => ?_
  rw [cp_rB _ hi]
  by_cases c : i < 4
  · rw [cp_gB _ (by omega), cm_b ho hr (by omega), show 8 + i - 8 = i by omega, if_pos c, if_neg (show ¬ 8 + i < 4 by omega), if_neg (show ¬ 8 + i < 7 by omega), decide_eq_true c, decide_eq_false (show ¬ 32 ≤ 8 + i by omega), decide_eq_true (show 8 ≤ 8 + i by omega), decide_eq_false (show ¬ 8 + i = 7 by omega)]
    simp
  · rw [decide_eq_false c, Bool.false_and, hr i (by omega)]
theorem cm_go {s o r : Int32} (ho : ∀ i, 3 ≤ i → bt o i = false) (hr : ∀ i, 4 ≤ i → bt r i = false) : cp_o (cp_g (cp_m s o r)) = o := by
  refine b_ext fun i hi => ?_
  rw [cp_oB _ hi]
  by_cases c : i < 3
  · rw [cp_gB _ (by omega), cm_b ho hr (by omega), show 8 + (4 + i) - 8 = 4 + i by omega, if_neg (show ¬ 4 + i < 4 by omega), if_pos (show 4 + i < 7 by omega), if_neg (show ¬ 8 + (4 + i) < 4 by omega), if_neg (show ¬ 8 + (4 + i) < 7 by omega), decide_eq_true c, decide_eq_false (show ¬ 32 ≤ 8 + (4 + i) by omega), decide_eq_true (show 8 ≤ 8 + (4 + i) by omega), decide_eq_false (show ¬ 8 + (4 + i) = 7 by omega), show 4 + i - 4 = i by omega]
    simp
  · rw [decide_eq_false c, Bool.false_and, ho i (by omega)]
theorem cm_s {s o r : Int32} (ho : ∀ i, 3 ≤ i → bt o i = false) (hr : ∀ i, 4 ≤ i → bt r i = false) : cp_s (cp_m s o r) = s := by
  refine b_ext fun i hi => ?_
  rw [cp_sB _ hi, cm_b ho hr (by omega), show 32 + i - 32 = i by omega, if_pos hi, if_neg (show ¬ 32 + i - 8 < 4 by omega), if_neg (show ¬ 32 + i - 8 < 7 by omega), if_neg (show ¬ 32 + i < 4 by omega), if_neg (show ¬ 32 + i < 7 by omega), decide_eq_true (show 32 ≤ 32 + i by omega), decide_eq_false (show ¬ 32 + i = 7 by omega)]
  simp
theorem cm_7 {s o r : Int32} (ho : ∀ i, 3 ≤ i → bt o i = false) (hr : ∀ i, 4 ≤ i → bt r i = false) : cl_b (cp_m s o r) 7 = true := by
  rw [cm_b ho hr (by decide)]
  simp
theorem cm_nz {L : Int64} (h : cl_b L 7 = true) : L ≠ 0 := by
  intro e
  subst e
  exact absurd h (by decide)
theorem cm_hi (n k : Nat) (h : n < 2 ^ k) : ∀ i, k ≤ i → bt (nI n) i = false := by
  intro i hi
  show (BitVec.ofNat 32 n).getLsbD i = false
  rw [BitVec.getLsbD_ofNat, Nat.testBit_lt_two_pow (Nat.lt_of_lt_of_le h (Nat.pow_le_pow_right (by decide) hi)), Bool.and_false]
/-! ===== a changed capability ===== -/
theorem cx_b (p : Int32) {i : Nat} (hi : i < 64) : cl_b (p &&& 127).toInt64 i = (decide (i < 7) && bt p i) := by
  rw [cl_wd _ hi]
  by_cases c : i < 7
  · rw [if_pos (by omega), b_and, cl_127 i (by omega), Bool.and_comm]
  · rw [decide_eq_false c, Bool.false_and]
    by_cases d : i < 32
    · rw [if_pos d, b_and, cl_127 i d, decide_eq_false c, Bool.and_false]
    · rw [if_neg d, b_and, cl_127 31 (by decide)]
      simp
theorem cx_r (L : Int64) (p : Int32) : cp_r (L ^^^ (p &&& 127).toInt64) = cp_r L ^^^ (p &&& 15) := by
  refine b_ext fun i hi => ?_
  rw [cp_rB _ hi, b_xor, cp_rB _ hi, b_and, cl_15 i hi, cl_xor, cx_b p (by omega)]
  by_cases c : i < 4
  · rw [decide_eq_true c, decide_eq_true (show i < 7 by omega)]
    simp
  · rw [decide_eq_false c]
    simp
theorem cx_o (L : Int64) (p : Int32) : cp_o (L ^^^ (p &&& 127).toInt64) = cp_o L ^^^ ((p >>> ((4 : Int32) &&& 31)) &&& 7) := by
  refine b_ext fun i hi => ?_
  rw [cp_oB _ hi, b_xor, cp_oB _ hi, b_and, cl_7 i hi]
  by_cases c : i < 3
  · have e := b_sshr 4 (by decide) p hi
    rw [if_pos (by omega)] at e
    rw [cl_xor, cx_b p (by omega), decide_eq_true c, decide_eq_true (show 4 + i < 7 by omega), Bool.true_and, Bool.true_and, Bool.true_and, Bool.and_true]
    exact congrArg (fun z => cl_b L (4 + i) ^^ z) e.symm
  · rw [decide_eq_false c]
    simp
theorem cx_hi (L : Int64) (p : Int32) {i : Nat} (h7 : 7 ≤ i) (hi : i < 64) : cl_b (L ^^^ (p &&& 127).toInt64) i = cl_b L i := by
  rw [cl_xor, cx_b p hi, decide_eq_false (by omega), Bool.false_and, Bool.xor_false]
theorem cx_gr (L : Int64) (p : Int32) : cp_r (cp_g (L ^^^ (p &&& 127).toInt64)) = cp_r (cp_g L) := by
  refine b_ext fun i hi => ?_
  rw [cp_rB _ hi, cp_rB _ hi]
  by_cases c : i < 4
  · rw [cp_gB _ (by omega), cp_gB _ (by omega), cx_hi L p (by omega) (by omega)]
  · rw [decide_eq_false c, Bool.false_and, Bool.false_and]
theorem cx_go (L : Int64) (p : Int32) : cp_o (cp_g (L ^^^ (p &&& 127).toInt64)) = cp_o (cp_g L) := by
  refine b_ext fun i hi => ?_
  rw [cp_oB _ hi, cp_oB _ hi]
  by_cases c : i < 3
  · rw [cp_gB _ (by omega), cp_gB _ (by omega), cx_hi L p (by omega) (by omega)]
  · rw [decide_eq_false c, Bool.false_and, Bool.false_and]
theorem cx_s (L : Int64) (p : Int32) : cp_s (L ^^^ (p &&& 127).toInt64) = cp_s L := by
  refine b_ext fun i hi => ?_
  rw [cp_sB _ hi, cp_sB _ hi, cx_hi L p (by omega) (by omega)]
/-! ===== ranges, copy's place, a right, fresh secrets ===== -/
theorem cp_rN (L : Int64) : ∃ b, b < 16 ∧ cp_r L = nI b := pk_andE L.toInt32 4 (by decide)
theorem cp_oN (L : Int64) : ∃ a, a < 8 ∧ cp_o L = nI a := pk_andE _ 3 (by decide)
theorem cy_lo (p : Int32) : p &&& 7 = (p &&& 15) &&& 7 := by
  refine b_ext fun i hi => ?_
  rw [b_and, b_and, b_and, cl_7 i hi, cl_15 i hi]
  by_cases c : i < 3
  · rw [decide_eq_true (show i < 4 by omega), Bool.and_true]
  · rw [decide_eq_false c, Bool.and_false, Bool.and_false]
theorem cy_hi (p : Int32) : (p >>> ((3 : Int32) &&& 31)) &&& 1 = ((p &&& 15) >>> ((3 : Int32) &&& 31)) &&& 1 := by
  refine b_ext fun i hi => ?_
  rw [b_and, b_and, cl_1 i hi]
  by_cases c : i < 1
  · have e1 := b_sshr 3 (by decide) p hi
    have e2 := b_sshr 3 (by decide) (p &&& 15) hi
    rw [if_pos (by omega)] at e1 e2
    rw [b_and, cl_15 _ (by omega), decide_eq_true (show 3 + i < 4 by omega), Bool.and_true] at e2
    exact congrArg (fun z => z && decide (i < 1)) (e1.trans e2.symm)
  · rw [decide_eq_false c, Bool.and_false, Bool.and_false]
theorem cy_tab : ∀ j, j < 16 → (((nI j) >>> ((3 : Int32) &&& 31)) &&& 1) * 8 + (nI j &&& 7) = nI j := by decide +kernel
theorem cy_at (p : Int32) : ∃ j, j < 16 ∧ p &&& 15 = nI j ∧ ((p >>> ((3 : Int32) &&& 31)) &&& 1) * 8 + (p &&& 7) = nI j := by
  obtain ⟨j, hj, e⟩ := pk_andE p (m := 15) 4 (by decide)
  refine ⟨j, hj, e, ?_⟩
  rw [cy_hi, cy_lo, e]
  exact cy_tab j hj
def cq_ok (q : Int32) : Prop := ∀ b, b < 16 → ((nI b &&& q) = q ↔ ¬ (nI b &&& q) = 0)
theorem cq_1 : cq_ok 1 := by unfold cq_ok; decide +kernel
theorem cq_2 : cq_ok 2 := by unfold cq_ok; decide +kernel
theorem cq_4 : cq_ok 4 := by unfold cq_ok; decide +kernel
theorem cq_8 : cq_ok 8 := by unfold cq_ok; decide +kernel
theorem cq_and : ∀ b, b < 16 → ∀ c, c < 16 → ∃ d, d < 16 ∧ nI b &&& nI c = nI d := by
  intro b hb c hc
  obtain ⟨d, hd, e⟩ := pk_andE (nI b &&& nI c) (m := 15) 4 (by decide)
  refine ⟨d, hd, ?_⟩
  rw [← e]
  exact (by decide +kernel : ∀ b, b < 16 → ∀ c, c < 16 → nI b &&& nI c = (nI b &&& nI c) &&& 15) b hb c hc
theorem cf_inv : (1640531527 : Int32) * (-340573321) = 1 := by decide
theorem cf_ne {s : Int32} {j : Nat} (hj : j + 1 < 2 ^ 31) : ¬ s + nI (j + 1) * 1640531527 = s := by
  intro h
  have h1 : nI (j + 1) * 1640531527 = 0 := by
    have := congrArg (fun z => z - s) h
    try dsimp only at this
    rw [Int32.add_comm, Int32.add_sub_cancel, Int32.sub_self] at this
    exact this
  have h2 : nI (j + 1) = 0 := by
    rw [← Int32.mul_one (nI (j + 1)), ← cf_inv, ← Int32.mul_assoc, h1, Int32.zero_mul]
  rw [← nI_0, nI_eq hj (by decide)] at h2
  omega
theorem cf_st (s : Int32) (j : Nat) : s + nI j * 1640531527 = (s + (-1640531527)) + nI (j + 1) * 1640531527 := by
  rw [← nI_1]
  generalize nI j = x
  grind
