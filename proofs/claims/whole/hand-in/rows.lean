section
theorem pk_us {f : Nat → Int32} {k : Nat} {x : Int32} : upd f k x k = x := if_pos rfl
theorem pk_un {f : Nat → Int32} {k j : Nat} {x : Int32} (h : j ≠ k) : upd f k x j = f j := if_neg h
theorem pk_uLs {f : Nat → Int64} {k : Nat} {x : Int64} : vp_updL f k x k = x := if_pos rfl
theorem pk_uLn {f : Nat → Int64} {k j : Nat} {x : Int64} (h : j ≠ k) : vp_updL f k x j = f j := if_neg h
theorem pk_mul (a b : Nat) : nI a * nI b = nI (a * b) := (Int32.ofNat_mul a b).symm
theorem pk_in {x : Int32} (n N : Nat) (h : n < N) (hx : x = nI n := by rfl) (hN : N < 2 ^ 31 := by omega) : vp_in x N := by
  subst hx
  exact vp_in_nI h hN
theorem pk_cl {x : Int32} (n : Nat) (hx : x = nI n := by rfl) (h : n < 2 ^ 31 := by omega) : x.toNatClampNeg = n := by
  subst hx
  exact nI_clamp h
theorem pk_tn {n : Nat} (h : n < 2 ^ 32) : (nI n).toBitVec.toNat = n := Nat.mod_eq_of_lt h
theorem pk_and (x : Int32) {m : Int32} (k : Nat) (hm : m.toBitVec.toNat = 2 ^ k - 1) : x &&& m = nI (x.toBitVec.toNat % 2 ^ k) := by
  apply Int32.toBitVec_inj.mp
  apply BitVec.eq_of_toNat_eq
  rw [Int32.toBitVec_and, BitVec.toNat_and, hm, Nat.and_two_pow_sub_one_eq_mod]
  show _ = (BitVec.ofNat 32 _).toNat
  rw [BitVec.toNat_ofNat]
  exact (Nat.mod_eq_of_lt (Nat.lt_of_le_of_lt (Nat.mod_le _ _) x.toBitVec.isLt)).symm
theorem pk_andE (x : Int32) {m : Int32} (k : Nat) (hm : m.toBitVec.toNat = 2 ^ k - 1) : ∃ j : Nat, j < 2 ^ k ∧ x &&& m = nI j := ⟨_, Nat.mod_lt _ (Nat.two_pow_pos k), pk_and x k hm⟩
/-! ===== Int32 by its bits: bt x i ===== -/
def bt (x : Int32) (i : Nat) : Bool := x.toBitVec.getLsbD i
theorem b_ext {x y : Int32} (h : ∀ i, i < 32 → bt x i = bt y i) : x = y := Int32.toBitVec_inj.mp (BitVec.eq_of_getLsbD_eq (fun i hi => h i hi))
theorem b_or (x y : Int32) (i : Nat) : bt (x ||| y) i = (bt x i || bt y i) := by unfold bt; rw [Int32.toBitVec_or, BitVec.getLsbD_or]
theorem b_and (x y : Int32) (i : Nat) : bt (x &&& y) i = (bt x i && bt y i) := by unfold bt; rw [Int32.toBitVec_and, BitVec.getLsbD_and]
theorem b_xor (x y : Int32) (i : Nat) : bt (x ^^^ y) i = (bt x i ^^ bt y i) := by unfold bt; rw [Int32.toBitVec_xor, BitVec.getLsbD_xor]
theorem b_big {x : Int32} {i : Nat} (h : 32 ≤ i) : bt x i = false := BitVec.getLsbD_of_ge _ _ h
theorem b_0 (i : Nat) : bt 0 i = false := BitVec.getLsbD_zero
theorem s_l : ∀ n, n < 32 → ((nI n &&& 31).toBitVec.smod 32).toNat = n := by decide +kernel
theorem b_shl (n : Nat) (hn : n < 32) (x : Int32) {i : Nat} (hi : i < 32) : bt (x <<< (nI n &&& 31)) i = (decide (n ≤ i) && bt x (i - n)) := by
  unfold bt
  rw [Int32.toBitVec_shiftLeft]
  show (x.toBitVec <<< ((nI n &&& 31).toBitVec.smod 32).toNat).getLsbD i = _
  rw [s_l n hn, BitVec.getLsbD_shiftLeft]
  rcases Nat.lt_or_ge i n with h | h
  · simp [h, Nat.not_le.mpr h]
  · simp [hi, h, Nat.not_lt.mpr h]
theorem b_sshr (n : Nat) (hn : n < 32) (x : Int32) {i : Nat} (hi : i < 32) : bt (x >>> (nI n &&& 31)) i = if n + i < 32 then bt x (n + i) else bt x 31 := by
  unfold bt
  rw [Int32.toBitVec_shiftRight]
  show (x.toBitVec.sshiftRight ((nI n &&& 31).toBitVec.smod 32).toNat).getLsbD i = _
  rw [s_l n hn, BitVec.getLsbD_sshiftRight, BitVec.msb_eq_getLsbD_last]
  simp [hi]
/-! ===== Int64 by its bits ===== -/
def cl_b (x : Int64) (i : Nat) : Bool := x.toBitVec.getLsbD i
theorem cl_ext {x y : Int64} (h : ∀ i, i < 64 → cl_b x i = cl_b y i) : x = y := Int64.toBitVec_inj.mp (BitVec.eq_of_getLsbD_eq (fun i hi => h i hi))
theorem cl_or (x y : Int64) (i : Nat) : cl_b (x ||| y) i = (cl_b x i || cl_b y i) := by unfold cl_b; rw [Int64.toBitVec_or, BitVec.getLsbD_or]
theorem cl_and (x y : Int64) (i : Nat) : cl_b (x &&& y) i = (cl_b x i && cl_b y i) := by unfold cl_b; rw [Int64.toBitVec_and, BitVec.getLsbD_and]
theorem cl_xor (x y : Int64) (i : Nat) : cl_b (x ^^^ y) i = (cl_b x i ^^ cl_b y i) := by unfold cl_b; rw [Int64.toBitVec_xor, BitVec.getLsbD_xor]
theorem cl_sm : ∀ n, n < 64 → (((nI n).toInt64 &&& 63).toBitVec.smod 64).toNat = n := by decide +kernel
theorem cl_shl (n : Nat) (hn : n < 64) (x : Int64) {i : Nat} (hi : i < 64) : cl_b (x <<< ((nI n).toInt64 &&& 63)) i = (decide (n ≤ i) && cl_b x (i - n)) := by
  unfold cl_b
  rw [Int64.toBitVec_shiftLeft]
  show (x.toBitVec <<< (((nI n).toInt64 &&& 63).toBitVec.smod 64).toNat).getLsbD i = _
  rw [cl_sm n hn, BitVec.getLsbD_shiftLeft]
  rcases Nat.lt_or_ge i n with h | h
  · simp [h, Nat.not_le.mpr h]
  · simp [hi, h, Nat.not_lt.mpr h]
theorem cl_shr (n : Nat) (hn : n < 64) (x : Int64) {i : Nat} (hi : i < 64) : cl_b (x >>> ((nI n).toInt64 &&& 63)) i = if n + i < 64 then cl_b x (n + i) else cl_b x 63 := by
  unfold cl_b
  rw [Int64.toBitVec_shiftRight]
  show (x.toBitVec.sshiftRight (((nI n).toInt64 &&& 63).toBitVec.smod 64).toNat).getLsbD i = _
  rw [cl_sm n hn, BitVec.getLsbD_sshiftRight, BitVec.msb_eq_getLsbD_last]
  simp [hi]
theorem cl_lo (x : Int64) {i : Nat} (hi : i < 32) : bt x.toInt32 i = cl_b x i := by
  show (x.toBitVec.signExtend 32).getLsbD i = x.toBitVec.getLsbD i
  rw [BitVec.getLsbD_signExtend, decide_eq_true hi, Bool.true_and, if_pos (by omega)]
theorem cl_wd (x : Int32) {i : Nat} (hi : i < 64) : cl_b x.toInt64 i = if i < 32 then bt x i else bt x 31 := by
  show (x.toBitVec.signExtend 64).getLsbD i = if i < 32 then x.toBitVec.getLsbD i else x.toBitVec.getLsbD 31
  rw [BitVec.getLsbD_signExtend, decide_eq_true hi, Bool.true_and, BitVec.msb_eq_getLsbD_last]
theorem cl_15 : ∀ i, i < 32 → bt 15 i = decide (i < 4) := by decide +kernel
theorem cl_7 : ∀ i, i < 32 → bt 7 i = decide (i < 3) := by decide +kernel
theorem cl_127 : ∀ i, i < 32 → bt 127 i = decide (i < 7) := by decide +kernel
theorem cl_1 : ∀ i, i < 32 → bt 1 i = decide (i < 1) := by decide +kernel
theorem cl_L127 : ∀ i, i < 64 → cl_b 127 i = decide (i < 7) := by decide +kernel
theorem cl_L128 : ∀ i, i < 64 → cl_b 128 i = decide (i = 7) := by decide +kernel
/-! ===== the parts of a capability ===== -/
def cp_r (L : Int64) : Int32 := L.toInt32 &&& 15
def cp_o (L : Int64) : Int32 := (L.toInt32 >>> ((4 : Int32) &&& 31)) &&& 7
def cp_g (L : Int64) : Int64 := L >>> ((8 : Int32).toInt64 &&& 63)
def cp_s (L : Int64) : Int32 := (L >>> ((32 : Int32).toInt64 &&& 63)).toInt32
def cp_x (o r : Int32) : Int32 := (o <<< ((4 : Int32) &&& 31)) ||| r
def cp_m (s o r : Int32) : Int64 := ((s.toInt64 <<< ((32 : Int32).toInt64 &&& 63) ||| ((cp_x o r).toInt64 <<< ((8 : Int32).toInt64 &&& 63))) ||| 128) ||| (cp_x o r).toInt64
theorem cp_rB (L : Int64) {i : Nat} (hi : i < 32) : bt (cp_r L) i = (decide (i < 4) && cl_b L i) := by
  unfold cp_r
  rw [b_and, cl_15 i hi, cl_lo L hi, Bool.and_comm]
theorem cp_oB (L : Int64) {i : Nat} (hi : i < 32) : bt (cp_o L) i = (decide (i < 3) && cl_b L (4 + i)) := by
  unfold cp_o
  rw [b_and, cl_7 i hi]
  by_cases h : i < 3
  · rw [decide_eq_true h, Bool.and_true, Bool.true_and]
    have e := b_sshr 4 (by decide) L.toInt32 hi
    rw [if_pos (by omega), cl_lo L (by omega)] at e
    exact e
  · rw [decide_eq_false h, Bool.and_false, Bool.false_and]
theorem cp_gB (L : Int64) {i : Nat} (hi : i < 56) : cl_b (cp_g L) i = cl_b L (8 + i) := by
  have e := cl_shr 8 (by decide) L (i := i) (by omega)
  rw [if_pos (by omega)] at e
  exact e
theorem cp_sB (L : Int64) {i : Nat} (hi : i < 32) : bt (cp_s L) i = cl_b L (32 + i) := by
  unfold cp_s
  rw [cl_lo _ hi]
  have e := cl_shr 32 (by decide) L (i := i) (by omega)
  rw [if_pos (by omega)] at e
  exact e
theorem cp_fit (A B : Int64) : A &&& 127 = B &&& 127 ↔ cp_o B = cp_o A ∧ cp_r B = cp_r A := by
  constructor
  · intro h
    have k : ∀ i, i < 7 → cl_b A i = cl_b B i := by
      intro i hi
      have e := congrArg (fun z => cl_b z i) h
      try dsimp only at e
      rw [cl_and, cl_and, cl_L127 i (by omega), decide_eq_true hi, Bool.and_true, Bool.and_true] at e
      exact e
    refine ⟨b_ext fun i hi => ?_, b_ext fun i hi => ?_⟩
    · rw [cp_oB _ hi, cp_oB _ hi]
      by_cases c : i < 3
      · rw [k (4 + i) (by omega)]
      · rw [decide_eq_false c, Bool.false_and, Bool.false_and]
    · rw [cp_rB _ hi, cp_rB _ hi]
      by_cases c : i < 4
      · rw [k i (by omega)]
      · rw [decide_eq_false c, Bool.false_and, Bool.false_and]
  · intro ⟨h1, h2⟩
    refine cl_ext fun i hi => ?_
    rw [cl_and, cl_and, cl_L127 i hi]
    by_cases c : i < 4
    · have e := congrArg (fun z => bt z i) h2
      try dsimp only at e
      rw [cp_rB _ (by omega), cp_rB _ (by omega), decide_eq_true c, Bool.true_and, Bool.true_and] at e
      rw [e]
    · by_cases d : i < 7
      · have e := congrArg (fun z => bt z (i - 4)) h1
        try dsimp only at e
        rw [cp_oB _ (by omega), cp_oB _ (by omega), decide_eq_true (by omega), Bool.true_and, Bool.true_and, show 4 + (i - 4) = i by omega] at e
        rw [e]
      · rw [decide_eq_false d, Bool.and_false, Bool.and_false]
end
section
/-! ===== a new capability ===== -/
theorem cm_x {o r : Int32} (ho : ∀ i, 3 ≤ i → bt o i = false) (hr : ∀ i, 4 ≤ i → bt r i = false) {i : Nat} (hi : i < 32) : bt (cp_x o r) i = if i < 4 then bt r i else if i < 7 then bt o (i - 4) else false := by
  unfold cp_x
  have e := b_shl 4 (by decide) o hi
  rw [b_or]
  refine (congrArg (fun z => z || bt r i) e).trans ?_
  try dsimp only
  by_cases c : i < 4
  · rw [if_pos c, decide_eq_false (by omega), Bool.false_and, Bool.false_or]
  · rw [if_neg c, hr i (by omega), Bool.or_false, decide_eq_true (by omega), Bool.true_and]
    by_cases d : i < 7
    · rw [if_pos d]
    · rw [if_neg d, ho (i - 4) (by omega)]
theorem cm_xw {o r : Int32} (ho : ∀ i, 3 ≤ i → bt o i = false) (hr : ∀ i, 4 ≤ i → bt r i = false) {i : Nat} (hi : i < 64) : cl_b (cp_x o r).toInt64 i = if i < 4 then bt r i else if i < 7 then bt o (i - 4) else false := by
  rw [cl_wd _ hi]
  by_cases c : i < 32
  · rw [if_pos c, cm_x ho hr c]
  · rw [if_neg c, cm_x ho hr (by decide), if_neg (by decide), if_neg (by decide), if_neg (by omega), if_neg (by omega)]
theorem cm_b {s o r : Int32} (ho : ∀ i, 3 ≤ i → bt o i = false) (hr : ∀ i, 4 ≤ i → bt r i = false) {i : Nat} (hi : i < 64) :
    cl_b (cp_m s o r) i = ((((decide (32 ≤ i) && (if i - 32 < 32 then bt s (i - 32) else bt s 31)) || (decide (8 ≤ i) && (if i - 8 < 4 then bt r (i - 8) else if i - 8 < 7 then bt o (i - 8 - 4) else false))) || decide (i = 7)) || (if i < 4 then bt r i else if i < 7 then bt o (i - 4) else false)) := by
  unfold cp_m
  have e1 := cl_shl 32 (by decide) s.toInt64 hi
  have e2 := cl_shl 8 (by decide) (cp_x o r).toInt64 hi
  rw [cl_wd s (by omega)] at e1
  rw [cm_xw ho hr (by omega)] at e2
  rw [cl_or, cl_or, cl_or, cl_L128 i hi, cm_xw ho hr hi]
  exact congrArg (fun z => (z || decide (i = 7)) || (if i < 4 then bt r i else if i < 7 then bt o (i - 4) else false)) (congr (congrArg (fun a b => a || b) e1) e2)
theorem cm_r {s o r : Int32} (ho : ∀ i, 3 ≤ i → bt o i = false) (hr : ∀ i, 4 ≤ i → bt r i = false) : cp_r (cp_m s o r) = r := by
  refine b_ext fun i hi => ?_
  rw [cp_rB _ hi]
  by_cases c : i < 4
  · rw [cm_b ho hr (by omega), if_pos c, decide_eq_true c, decide_eq_false (show ¬ 32 ≤ i by omega), decide_eq_false (show ¬ 8 ≤ i by omega), decide_eq_false (show ¬ i = 7 by omega)]
    simp
  · rw [decide_eq_false c, Bool.false_and, hr i (by omega)]
theorem cm_o {s o r : Int32} (ho : ∀ i, 3 ≤ i → bt o i = false) (hr : ∀ i, 4 ≤ i → bt r i = false) : cp_o (cp_m s o r) = o := by
  refine b_ext fun i hi => ?_
  rw [cp_oB _ hi]
  by_cases c : i < 3
  · rw [cm_b ho hr (by omega), if_neg (show ¬ 4 + i < 4 by omega), if_pos (show 4 + i < 7 by omega), decide_eq_true c, decide_eq_false (show ¬ 32 ≤ 4 + i by omega), decide_eq_false (show ¬ 8 ≤ 4 + i by omega), decide_eq_false (show ¬ 4 + i = 7 by omega), show 4 + i - 4 = i by omega]
    simp
  · rw [decide_eq_false c, Bool.false_and, ho i (by omega)]
theorem cm_gr {s o r : Int32} (ho : ∀ i, 3 ≤ i → bt o i = false) (hr : ∀ i, 4 ≤ i → bt r i = false) : cp_r (cp_g (cp_m s o r)) = r := by
  refine b_ext fun i hi => ?_
  rw [cp_rB _ hi]
  by_cases c : i < 4
  · rw [cp_gB _ (by omega), cm_b ho hr (by omega), show 8 + i - 8 = i by omega, if_pos c, if_neg (show ¬ 8 + i < 4 by omega), if_neg (show ¬ 8 + i < 7 by omega), decide_eq_true c, decide_eq_false (show ¬ 32 ≤ 8 + i by omega), decide_eq_true (show 8 ≤ 8 + i by omega), decide_eq_false (show ¬ 8 + i = 7 by omega)]
    simp
  · rw [decide_eq_false c, Bool.false_and, hr i (by omega)]
theorem cm_go {s o r : Int32} (ho : ∀ i, 3 ≤ i → bt o i = false) (hr : ∀ i, 4 ≤ i → bt r i = false) : cp_o (cp_g (cp_m s o r)) = o := by
  refine b_ext fun i hi => ?_
  rw [cp_oB _ hi]
  by_cases c : i < 3
  · rw [cp_gB _ (by omega), cm_b ho hr (by omega), show 8 + (4 + i) - 8 = 4 + i by omega, if_neg (show ¬ 4 + i < 4 by omega), if_pos (show 4 + i < 7 by omega), if_neg (show ¬ 8 + (4 + i) < 4 by omega), if_neg (show ¬ 8 + (4 + i) < 7 by omega), decide_eq_true c, decide_eq_false (show ¬ 32 ≤ 8 + (4 + i) by omega), decide_eq_true (show 8 ≤ 8 + (4 + i) by omega), decide_eq_false (show ¬ 8 + (4 + i) = 7 by omega), show 4 + i - 4 = i by omega]
    simp
  · rw [decide_eq_false c, Bool.false_and, ho i (by omega)]
theorem cm_s {s o r : Int32} (ho : ∀ i, 3 ≤ i → bt o i = false) (hr : ∀ i, 4 ≤ i → bt r i = false) : cp_s (cp_m s o r) = s := by
  refine b_ext fun i hi => ?_
  rw [cp_sB _ hi, cm_b ho hr (by omega), show 32 + i - 32 = i by omega, if_pos hi, if_neg (show ¬ 32 + i - 8 < 4 by omega), if_neg (show ¬ 32 + i - 8 < 7 by omega), if_neg (show ¬ 32 + i < 4 by omega), if_neg (show ¬ 32 + i < 7 by omega), decide_eq_true (show 32 ≤ 32 + i by omega), decide_eq_false (show ¬ 32 + i = 7 by omega)]
  simp
theorem cm_7 {s o r : Int32} (ho : ∀ i, 3 ≤ i → bt o i = false) (hr : ∀ i, 4 ≤ i → bt r i = false) : cl_b (cp_m s o r) 7 = true := by
  rw [cm_b ho hr (by decide)]
  simp
theorem cm_nz {L : Int64} (h : cl_b L 7 = true) : L ≠ 0 := by
  intro e
  subst e
  exact absurd h (by decide)
theorem cm_hi (n k : Nat) (h : n < 2 ^ k) : ∀ i, k ≤ i → bt (nI n) i = false := by
  intro i hi
  show (BitVec.ofNat 32 n).getLsbD i = false
  rw [BitVec.getLsbD_ofNat, Nat.testBit_lt_two_pow (Nat.lt_of_lt_of_le h (Nat.pow_le_pow_right (by decide) hi)), Bool.and_false]
/-! ===== a changed capability ===== -/
theorem cx_b (p : Int32) {i : Nat} (hi : i < 64) : cl_b (p &&& 127).toInt64 i = (decide (i < 7) && bt p i) := by
  rw [cl_wd _ hi]
  by_cases c : i < 7
  · rw [if_pos (by omega), b_and, cl_127 i (by omega), Bool.and_comm]
  · rw [decide_eq_false c, Bool.false_and]
    by_cases d : i < 32
    · rw [if_pos d, b_and, cl_127 i d, decide_eq_false c, Bool.and_false]
    · rw [if_neg d, b_and, cl_127 31 (by decide)]
      simp
theorem cx_r (L : Int64) (p : Int32) : cp_r (L ^^^ (p &&& 127).toInt64) = cp_r L ^^^ (p &&& 15) := by
  refine b_ext fun i hi => ?_
  rw [cp_rB _ hi, b_xor, cp_rB _ hi, b_and, cl_15 i hi, cl_xor, cx_b p (by omega)]
  by_cases c : i < 4
  · rw [decide_eq_true c, decide_eq_true (show i < 7 by omega)]
    simp
  · rw [decide_eq_false c]
    simp
theorem cx_o (L : Int64) (p : Int32) : cp_o (L ^^^ (p &&& 127).toInt64) = cp_o L ^^^ ((p >>> ((4 : Int32) &&& 31)) &&& 7) := by
  refine b_ext fun i hi => ?_
  rw [cp_oB _ hi, b_xor, cp_oB _ hi, b_and, cl_7 i hi]
  by_cases c : i < 3
  · have e := b_sshr 4 (by decide) p hi
    rw [if_pos (by omega)] at e
    rw [cl_xor, cx_b p (by omega), decide_eq_true c, decide_eq_true (show 4 + i < 7 by omega), Bool.true_and, Bool.true_and, Bool.true_and, Bool.and_true]
    exact congrArg (fun z => cl_b L (4 + i) ^^ z) e.symm
  · rw [decide_eq_false c]
    simp
theorem cx_hi (L : Int64) (p : Int32) {i : Nat} (h7 : 7 ≤ i) (hi : i < 64) : cl_b (L ^^^ (p &&& 127).toInt64) i = cl_b L i := by
  rw [cl_xor, cx_b p hi, decide_eq_false (by omega), Bool.false_and, Bool.xor_false]
theorem cx_gr (L : Int64) (p : Int32) : cp_r (cp_g (L ^^^ (p &&& 127).toInt64)) = cp_r (cp_g L) := by
  refine b_ext fun i hi => ?_
  rw [cp_rB _ hi, cp_rB _ hi]
  by_cases c : i < 4
  · rw [cp_gB _ (by omega), cp_gB _ (by omega), cx_hi L p (by omega) (by omega)]
  · rw [decide_eq_false c, Bool.false_and, Bool.false_and]
theorem cx_go (L : Int64) (p : Int32) : cp_o (cp_g (L ^^^ (p &&& 127).toInt64)) = cp_o (cp_g L) := by
  refine b_ext fun i hi => ?_
  rw [cp_oB _ hi, cp_oB _ hi]
  by_cases c : i < 3
  · rw [cp_gB _ (by omega), cp_gB _ (by omega), cx_hi L p (by omega) (by omega)]
  · rw [decide_eq_false c, Bool.false_and, Bool.false_and]
theorem cx_s (L : Int64) (p : Int32) : cp_s (L ^^^ (p &&& 127).toInt64) = cp_s L := by
  refine b_ext fun i hi => ?_
  rw [cp_sB _ hi, cp_sB _ hi, cx_hi L p (by omega) (by omega)]
/-! ===== ranges, copy's place, a right, fresh secrets ===== -/
theorem cp_rN (L : Int64) : ∃ b, b < 16 ∧ cp_r L = nI b := pk_andE L.toInt32 4 (by decide)
theorem cp_oN (L : Int64) : ∃ a, a < 8 ∧ cp_o L = nI a := pk_andE _ 3 (by decide)
theorem cy_lo (p : Int32) : p &&& 7 = (p &&& 15) &&& 7 := by
  refine b_ext fun i hi => ?_
  rw [b_and, b_and, b_and, cl_7 i hi, cl_15 i hi]
  by_cases c : i < 3
  · rw [decide_eq_true (show i < 4 by omega), Bool.and_true]
  · rw [decide_eq_false c, Bool.and_false, Bool.and_false]
theorem cy_hi (p : Int32) : (p >>> ((3 : Int32) &&& 31)) &&& 1 = ((p &&& 15) >>> ((3 : Int32) &&& 31)) &&& 1 := by
  refine b_ext fun i hi => ?_
  rw [b_and, b_and, cl_1 i hi]
  by_cases c : i < 1
  · have e1 := b_sshr 3 (by decide) p hi
    have e2 := b_sshr 3 (by decide) (p &&& 15) hi
    rw [if_pos (by omega)] at e1 e2
    rw [b_and, cl_15 _ (by omega), decide_eq_true (show 3 + i < 4 by omega), Bool.and_true] at e2
    exact congrArg (fun z => z && decide (i < 1)) (e1.trans e2.symm)
  · rw [decide_eq_false c, Bool.and_false, Bool.and_false]
theorem cy_tab : ∀ j, j < 16 → (((nI j) >>> ((3 : Int32) &&& 31)) &&& 1) * 8 + (nI j &&& 7) = nI j := by decide +kernel
theorem cy_at (p : Int32) : ∃ j, j < 16 ∧ p &&& 15 = nI j ∧ ((p >>> ((3 : Int32) &&& 31)) &&& 1) * 8 + (p &&& 7) = nI j := by
  obtain ⟨j, hj, e⟩ := pk_andE p (m := 15) 4 (by decide)
  refine ⟨j, hj, e, ?_⟩
  rw [cy_hi, cy_lo, e]
  exact cy_tab j hj
def cq_ok (q : Int32) : Prop := ∀ b, b < 16 → ((nI b &&& q) = q ↔ ¬ (nI b &&& q) = 0)
theorem cq_1 : cq_ok 1 := by unfold cq_ok; decide +kernel
theorem cq_2 : cq_ok 2 := by unfold cq_ok; decide +kernel
theorem cq_4 : cq_ok 4 := by unfold cq_ok; decide +kernel
theorem cq_8 : cq_ok 8 := by unfold cq_ok; decide +kernel
theorem cq_and : ∀ b, b < 16 → ∀ c, c < 16 → ∃ d, d < 16 ∧ nI b &&& nI c = nI d := by
  intro b hb c hc
  obtain ⟨d, hd, e⟩ := pk_andE (nI b &&& nI c) (m := 15) 4 (by decide)
  refine ⟨d, hd, ?_⟩
  rw [← e]
  exact (by decide +kernel : ∀ b, b < 16 → ∀ c, c < 16 → nI b &&& nI c = (nI b &&& nI c) &&& 15) b hb c hc
theorem cf_inv : (1640531527 : Int32) * (-340573321) = 1 := by decide
theorem cf_ne {s : Int32} {j : Nat} (hj : j + 1 < 2 ^ 31) : ¬ s + nI (j + 1) * 1640531527 = s := by
  intro h
  have h1 : nI (j + 1) * 1640531527 = 0 := by
    have := congrArg (fun z => z - s) h
    try dsimp only at this
    rw [Int32.add_comm, Int32.add_sub_cancel, Int32.sub_self] at this
    exact this
  have h2 : nI (j + 1) = 0 := by
    rw [← Int32.mul_one (nI (j + 1)), ← cf_inv, ← Int32.mul_assoc, h1, Int32.zero_mul]
  rw [← nI_0, nI_eq hj (by decide)] at h2
  omega
theorem cf_st (s : Int32) (j : Nat) : s + nI j * 1640531527 = (s + (-1640531527)) + nI (j + 1) * 1640531527 := by
  rw [← nI_1]
  generalize nI j = x
  grind
end
section
/-! ===== the relation ===== -/
/-- one slot: the component's long against the reference's six cells. Nothing held on either side; or the open bits are what the capability says now, the seal is what was given out, and the secret is the object's own just when the round is the object's own. c: the round it was given in, r: the object's round, j: how many secrets ago its secret was the newest -/
def sr_Slot (k : Nat) (ls : Int32) (sec rnd : Nat → Int32) (L : Int64) (h go gr gd no nr : Int32) : Prop :=
  (h = 0 ∧ L = 0) ∨ (h = 1 ∧ cl_b L 7 = true ∧ no = cp_o L ∧ nr = cp_r L ∧ go = cp_o (cp_g L) ∧ gr = cp_r (cp_g L) ∧
    ∃ c r j : Nat, c ≤ r ∧ r ≤ k ∧ j ≤ k ∧ gd = nI c ∧ rnd (cp_o (cp_g L)).toNatClampNeg = nI r ∧ (cp_s L = sec (cp_o (cp_g L)).toNatClampNeg ↔ c = r) ∧ cp_s L = ls + nI j * 1640531527)
def sr_All (k : Nat) (ls : Int32) (sec rnd : Nat → Int32) (hd : Nat → Int64) (h go gr gd no nr : Nat → Int32) : Prop :=
  (∀ o, ∃ r, r ≤ k ∧ rnd o = nI r) ∧ ∀ i, sr_Slot k ls sec rnd (hd i) (h i) (go i) (gr i) (gd i) (no i) (nr i)
def i_Rel (k : Nat) (u : SX) (v : SY) : Prop :=
  ∃ (ls : Int32) (lv va sec : Nat → Int32) (hd : Nat → Int64) (ak ka rnd h go gr gd no nr : Nat → Int32),
    u = (ls, lv, va, sec, hd, ak, ka) ∧ v = (lv, va, rnd, h, go, gr, gd, no, nr, ak, ka) ∧ sr_All k ls sec rnd hd h go gr gd no nr
theorem sr_up {k k' : Nat} {ls : Int32} {sec rnd : Nat → Int32} {L : Int64} {h go gr gd no nr : Int32} (hk : k ≤ k') (H : sr_Slot k ls sec rnd L h go gr gd no nr) : sr_Slot k' ls sec rnd L h go gr gd no nr := by
  rcases H with H | ⟨h1, h2, h3, h4, h5, h6, c, r, j, p1, p2, p3, p4⟩
  · exact Or.inl H
  · exact Or.inr ⟨h1, h2, h3, h4, h5, h6, c, r, j, p1, by omega, by omega, p4⟩
theorem sr_upA {k k' : Nat} {ls : Int32} {sec rnd : Nat → Int32} {hd : Nat → Int64} {h go gr gd no nr : Nat → Int32} (hk : k ≤ k') (H : sr_All k ls sec rnd hd h go gr gd no nr) : sr_All k' ls sec rnd hd h go gr gd no nr := by
  refine ⟨fun o => ?_, fun i => sr_up hk (H.2 i)⟩
  obtain ⟨r, hr, e⟩ := H.1 o
  exact ⟨r, by omega, e⟩
theorem sr_mk {k : Nat} {ls : Int32} {lv va sec : Nat → Int32} {hd : Nat → Int64} {ak ka rnd h go gr gd no nr : Nat → Int32} (H : sr_All k ls sec rnd hd h go gr gd no nr) : i_Rel k (ls, lv, va, sec, hd, ak, ka) (lv, va, rnd, h, go, gr, gd, no, nr, ak, ka) :=
  ⟨ls, lv, va, sec, hd, ak, ka, rnd, h, go, gr, gd, no, nr, rfl, rfl, H⟩
theorem sr_mk5 {k : Nat} {ls : Int32} {lv va sec : Nat → Int32} {hd : Nat → Int64} {ak ka rnd h go gr gd no nr : Nat → Int32} (H : sr_All k ls sec rnd hd h go gr gd no nr) : i_Rel (k + 5) (ls, lv, va, sec, hd, ak, ka) (lv, va, rnd, h, go, gr, gd, no, nr, ak, ka) :=
  sr_mk (sr_upA (by omega) H)
theorem i_up {k : Nat} {u : SX} {v : SY} (h : i_Rel k u v) : i_Rel (k + 5) u v := by
  obtain ⟨ls, lv, va, sec, hd, ak, ka, rnd, h, go, gr, gd, no, nr, rfl, rfl, H⟩ := h
  exact sr_mk5 H
theorem i_vc0 (k0 : Int32) : wpX_init (fun u => wpY_init (fun v => i_Rel 1 u v) k0) k0 := by
  unfold wpX_init wpY_init
  exact sr_mk ⟨fun o => ⟨0, by omega, rfl⟩, fun i => Or.inl ⟨rfl, rfl⟩⟩
theorem sr_put {k : Nat} {ls : Int32} {sec rnd : Nat → Int32} {hd : Nat → Int64} {h go gr gd no nr : Nat → Int32} (H : sr_All k ls sec rnd hd h go gr gd no nr) {L : Int64} {x1 x2 x3 x4 x5 x6 : Int32} (S : sr_Slot k ls sec rnd L x1 x2 x3 x4 x5 x6) (a : Nat) :
    sr_All k ls sec rnd (vp_updL hd a L) (upd h a x1) (upd go a x2) (upd gr a x3) (upd gd a x4) (upd no a x5) (upd nr a x6) := by
  refine ⟨H.1, fun i => ?_⟩
  by_cases e : i = a
  · subst e
    rw [pk_uLs, pk_us, pk_us, pk_us, pk_us, pk_us, pk_us]
    exact S
  · rw [pk_uLn e, pk_un e, pk_un e, pk_un e, pk_un e, pk_un e, pk_un e]
    exact H.2 i
theorem sr_clr {k : Nat} {ls : Int32} {sec rnd : Nat → Int32} {hd : Nat → Int64} {h go gr gd no nr : Nat → Int32} (H : sr_All k ls sec rnd hd h go gr gd no nr) (a : Nat) :
    sr_All k ls sec rnd (vp_updL hd a 0) (upd h a 0) go gr gd no nr := by
  refine ⟨H.1, fun i => ?_⟩
  by_cases e : i = a
  · subst e
    rw [pk_uLs, pk_us]
    exact Or.inl ⟨rfl, rfl⟩
  · rw [pk_uLn e, pk_un e]
    exact H.2 i
theorem sr_tam {k : Nat} {ls : Int32} {sec rnd : Nat → Int32} {hd : Nat → Int64} {h go gr gd no nr : Nat → Int32} (H : sr_All k ls sec rnd hd h go gr gd no nr) (a : Nat) (hn : ¬ hd a = 0) (p : Int32) :
    sr_All k ls sec rnd (vp_updL hd a (hd a ^^^ (p &&& 127).toInt64)) h go gr gd (upd no a (no a ^^^ ((p >>> ((4 : Int32) &&& 31)) &&& 7))) (upd nr a (nr a ^^^ (p &&& 15))) := by
  refine ⟨H.1, fun i => ?_⟩
  by_cases e : i = a
  · subst e
    rw [pk_uLs, pk_us, pk_us]
    rcases H.2 i with ⟨_, z⟩ | ⟨h1, h2, h3, h4, h5, h6, c, r, j, p1, p2, p3, p4, p5, p6, p7⟩
    · exact absurd z hn
    · refine Or.inr ⟨h1, ?_, ?_, ?_, ?_, ?_, c, r, j, p1, p2, p3, p4, ?_, ?_, ?_⟩
      · rw [cx_hi _ _ (by decide) (by decide)]
        exact h2
      · rw [cx_o, h3]
      · rw [cx_r, h4]
      · rw [cx_go, h5]
      · rw [cx_gr, h6]
      · rw [cx_go]
        exact p5
      · rw [cx_go, cx_s]
        exact p6
      · rw [cx_s]
        exact p7
  · rw [pk_uLn e, pk_un e, pk_un e]
    exact H.2 i
theorem sr_new {k : Nat} {ls : Int32} {sec rnd : Nat → Int32} {a b j R : Nat} (ha : a < 8) (hb : b < 16) (hR : R ≤ k) (eR : rnd a = nI R) (hj : j ≤ k) (es : sec a = ls + nI j * 1640531527) :
    sr_Slot k ls sec rnd (cp_m (sec a) (nI a) (nI b)) 1 (nI a) (nI b) (rnd a) (nI a) (nI b) := by
  have ho := cm_hi a 3 ha
  have hr := cm_hi b 4 hb
  have ca : (nI a).toNatClampNeg = a := nI_clamp (by omega)
  refine Or.inr ⟨rfl, cm_7 ho hr, (cm_o ho hr).symm, (cm_r ho hr).symm, (cm_go ho hr).symm, (cm_gr ho hr).symm, R, R, j, by omega, hR, hj, eR, ?_, ?_, ?_⟩
  · rw [cm_go ho hr, ca]
    exact eR
  · rw [cm_go ho hr, ca, cm_s ho hr]
    exact ⟨fun _ => rfl, fun _ => rfl⟩
  · rw [cm_s ho hr]
    exact es
theorem sr_renew {k : Nat} {ls : Int32} {sec rnd : Nat → Int32} {L : Int64} {h go gr gd no nr : Int32} (hk : k + 5 ≤ 2561) (H : sr_Slot k ls sec rnd L h go gr gd no nr) (o : Nat) :
    sr_Slot (k + 5) (ls + (-1640531527)) (upd sec o (ls + (-1640531527))) (upd rnd o (rnd o + 1)) L h go gr gd no nr := by
  rcases H with H | ⟨h1, h2, h3, h4, h5, h6, c, r, j, p1, p2, p3, p4, p5, p6, p7⟩
  · exact Or.inl H
  · by_cases e : (cp_o (cp_g L)).toNatClampNeg = o
    · subst e
      refine Or.inr ⟨h1, h2, h3, h4, h5, h6, c, r + 1, j + 1, by omega, by omega, by omega, p4, ?_, ?_, ?_⟩
      · rw [pk_us, p5, nI_1]
      · rw [pk_us, p7, cf_st]
        constructor
        · exact fun z => absurd z (cf_ne (by omega))
        · exact fun z => absurd z (by omega)
      · rw [p7, cf_st]
    · refine Or.inr ⟨h1, h2, h3, h4, h5, h6, c, r, j + 1, p1, by omega, by omega, p4, ?_, ?_, ?_⟩
      · rw [pk_un e]
        exact p5
      · rw [pk_un e]
        exact p6
      · rw [p7, cf_st]
/-- a secret renewed, and one new capability for its object laid into a slot: create and revoke -/
theorem sr_fresh {k : Nat} {ls : Int32} {sec rnd : Nat → Int32} {hd : Nat → Int64} {h go gr gd no nr : Nat → Int32} (hk : k + 5 ≤ 2561) (H : sr_All k ls sec rnd hd h go gr gd no nr) {a b : Nat} (ha : a < 8) (hb : b < 16) (i : Nat) :
    sr_All (k + 5) (ls + (-1640531527)) (upd sec a (ls + (-1640531527))) (upd rnd a (rnd a + 1))
      (vp_updL hd i (cp_m (upd sec a (ls + (-1640531527)) a) (nI a) (nI b))) (upd h i 1) (upd go i (nI a)) (upd gr i (nI b)) (upd gd i (upd rnd a (rnd a + 1) a)) (upd no i (nI a)) (upd nr i (nI b)) := by
  have H' : sr_All (k + 5) (ls + (-1640531527)) (upd sec a (ls + (-1640531527))) (upd rnd a (rnd a + 1)) hd h go gr gd no nr := by
    refine ⟨fun o => ?_, fun i => sr_renew hk (H.2 i) a⟩
    by_cases e : o = a
    · subst e
      obtain ⟨r, hr, e⟩ := H.1 o
      exact ⟨r + 1, by omega, by rw [pk_us, e, nI_1]⟩
    · obtain ⟨r, hr, e2⟩ := H.1 o
      exact ⟨r, by omega, by rw [pk_un e, e2]⟩
  obtain ⟨R, hR, eR⟩ := H'.1 a
  refine sr_put H' (sr_new ha hb hR eR (j := 0) (by omega) ?_) i
  rw [pk_us, show nI 0 = 0 from rfl, Int32.zero_mul, Int32.add_zero]
end
section
/-! ===== small walks: users, slots, places, keep, give ===== -/
theorem aw_nar1 : vp_nar .boolean 1 = 1 := by rfl
theorem aw_nar0 : vp_nar .boolean 0 = 0 := by rfl
theorem aw_8 : ∀ b, b < 8 → ¬ nI b < 0 ∧ ¬ 8 ≤ nI b ∧ nI b ≤ 7 := by decide +kernel
theorem aw_2 : ∀ a, a < 2 → ¬ nI a < 0 ∧ ¬ 2 ≤ nI a ∧ (nI a = 0 ∨ (¬ nI a = 0 ∧ nI a = 1)) := by decide +kernel
theorem aw_16 : ∀ a, a < 16 → ¬ nI a < 0 ∧ nI a ≤ 15 := by decide +kernel
theorem aw_pl (a b : Nat) : nI a * 8 + nI b = nI (a * 8 + b) := by
  show nI a * nI 8 + nI b = _
  rw [pk_mul, nI_add]
theorem aw_ix (x : Int32) {n : Nat} (hn : n < 2 ^ 31) : x < 0 ∨ (¬ x < 0 ∧ nI n ≤ x) ∨ ∃ j : Nat, j < n ∧ x = nI j := by
  by_cases h : x < 0
  · exact Or.inl h
  · obtain ⟨j, hj, rfl⟩ := nI_of h
    by_cases h2 : j < n
    · exact Or.inr (Or.inr ⟨j, h2, rfl⟩)
    · exact Or.inr (Or.inl ⟨h, nI_le (by omega) hj⟩)
theorem aw_n7 {x : Int32} (h : 8 ≤ x) : ¬ x ≤ 7 := by
  rw [Int32.le_iff_toInt_le] at h ⊢
  have e8 : (8 : Int32).toInt = 8 := by decide
  have e7 : (7 : Int32).toInt = 7 := by decide
  omega
theorem aw_n15 {x : Int32} (h : 16 ≤ x) : ¬ x ≤ 15 := by
  rw [Int32.le_iff_toInt_le] at h ⊢
  have e8 : (16 : Int32).toInt = 16 := by decide
  have e7 : (15 : Int32).toInt = 15 := by decide
  omega
theorem aw_n01 {x : Int32} (h : 2 ≤ x) : ¬ x = 0 ∧ ¬ x = 1 := by
  constructor
  · intro e
    subst e
    exact absurd h (by decide)
  · intro e
    subst e
    exact absurd h (by decide)
theorem aw_m01 {x : Int32} (h : x < 0) : ¬ x = 0 ∧ ¬ x = 1 := by
  constructor
  · intro e
    subst e
    exact absurd h (by decide)
  · intro e
    subst e
    exact absurd h (by decide)
theorem aw_user (p : Int32) : ((∀ post : Int32 → Prop, post 0 → wpX_isUser post p) ∧ ¬ p = 0 ∧ ¬ p = 1) ∨ ∃ a, a < 2 ∧ p = nI a ∧ (∀ post : Int32 → Prop, post 1 → wpX_isUser post p) := by
  rcases aw_ix p (n := 2) (by decide) with h | ⟨h, h2⟩ | ⟨a, ha, rfl⟩
  · refine Or.inl ⟨fun post hp => ?_, aw_m01 h⟩
    unfold wpX_isUser
    exact br_t h hp
  · refine Or.inl ⟨fun post hp => ?_, aw_n01 h2⟩
    unfold wpX_isUser
    exact br_f h (br_t h2 hp)
  · refine Or.inr ⟨a, ha, rfl, fun post hp => ?_⟩
    unfold wpX_isUser
    exact br_f (aw_2 a ha).1 (br_f (aw_2 a ha).2.1 hp)
theorem aw_slot (p : Int32) : ((∀ post : Int32 → Prop, post 0 → wpX_isSlot post p) ∧ (∀ (post : Int32 → Prop) (y1 y2 y3 y4 y5 y6 y7 y8 y9 y10 y11 : Nat → Int32), post (-2) → wY_refusal_11 post p y1 y2 y3 y4 y5 y6 y7 y8 y9 y10 y11)) ∨ ∃ b, b < 8 ∧ p = nI b ∧ (∀ post : Int32 → Prop, post 1 → wpX_isSlot post p) ∧ (∀ (post : Int32 → Prop) (y1 y2 y3 y4 y5 y6 y7 y8 y9 y10 y11 : Nat → Int32), post 0 → wY_refusal_11 post p y1 y2 y3 y4 y5 y6 y7 y8 y9 y10 y11) := by
  rcases aw_ix p (n := 8) (by decide) with h | ⟨h, h2⟩ | ⟨b, hb, rfl⟩
  · refine Or.inl ⟨fun post hp => ?_, fun post y1 y2 y3 y4 y5 y6 y7 y8 y9 y10 y11 hp => ?_⟩
    · unfold wpX_isSlot
      exact br_t h hp
    · unfold wY_refusal_11
      exact br_t h hp
  · refine Or.inl ⟨fun post hp => ?_, fun post y1 y2 y3 y4 y5 y6 y7 y8 y9 y10 y11 hp => ?_⟩
    · unfold wpX_isSlot
      exact br_f h (br_t h2 hp)
    · unfold wY_refusal_11
      exact br_f h (br_f (aw_n7 h2) hp)
  · obtain ⟨h1, h2, h3⟩ := aw_8 b hb
    refine Or.inr ⟨b, hb, rfl, fun post hp => ?_, fun post y1 y2 y3 y4 y5 y6 y7 y8 y9 y10 y11 hp => ?_⟩
    · unfold wpX_isSlot
      exact br_f h1 (br_f h2 hp)
    · unfold wY_refusal_11
      exact br_f h1 (br_t h3 hp)
theorem aw_ref {a : Nat} (ha : a < 2) (p : Int32) {post : Int32 → Prop} (v : SY) (e : Int32) (h : ∀ (y1 y2 y3 y4 y5 y6 y7 y8 y9 y10 y11 : Nat → Int32), wY_refusal_11 post p y1 y2 y3 y4 y5 y6 y7 y8 y9 y10 y11) : wpY_refusal post v (nI a) p := by
  obtain ⟨y1, y2, y3, y4, y5, y6, y7, y8, y9, y10, y11⟩ := v
  unfold wpY_refusal
  dsimp only
  rcases (aw_2 a ha).2.2 with z | ⟨z, z1⟩
  · exact br_t z (h ..)
  · exact br_f z (br_t z1 (h ..))
/-- the two sides test user and slot alike -/
theorem aw_to {a : Nat} (ha : a < 2) (p : Int32) (v : SY) : ((∀ post : Int32 → Prop, post 0 → wpX_isSlot post p) ∧ (∀ post : Int32 → Prop, post (-2) → wpY_refusal post v (nI a) p)) ∨ ∃ b, b < 8 ∧ p = nI b ∧ (∀ post : Int32 → Prop, post 1 → wpX_isSlot post p) ∧ (∀ post : Int32 → Prop, post 0 → wpY_refusal post v (nI a) p) := by
  rcases aw_slot p with ⟨hX, hY⟩ | ⟨b, hb, e, hX, hY⟩
  · exact Or.inl ⟨hX, fun post hp => aw_ref ha p v (-2) (fun y1 y2 y3 y4 y5 y6 y7 y8 y9 y10 y11 => hY post y1 y2 y3 y4 y5 y6 y7 y8 y9 y10 y11 hp)⟩
  · exact Or.inr ⟨b, hb, e, hX, fun post hp => aw_ref ha p v 0 (fun y1 y2 y3 y4 y5 y6 y7 y8 y9 y10 y11 => hY post y1 y2 y3 y4 y5 y6 y7 y8 y9 y10 y11 hp)⟩
theorem aw_adr (p0 p1 : Int32) (v : SY) :
    (∃ e : Int32, ¬ e = 0 ∧ ¬ 0 ≤ e ∧ (∀ post : Int32 → Prop, post e → wpX_addressFault post p0 p1) ∧ (∀ post : Int32 → Prop, post e → wpY_refusal post v p0 p1)) ∨
    ∃ a b, a < 2 ∧ b < 8 ∧ p0 = nI a ∧ p1 = nI b ∧ (∀ post : Int32 → Prop, post 0 → wpX_addressFault post p0 p1) ∧ (∀ post : Int32 → Prop, post 0 → wpY_refusal post v p0 p1) := by
  rcases aw_user p0 with ⟨hU, n0, n1⟩ | ⟨a, ha, rfl, hU⟩
  · refine Or.inl ⟨-1, by decide, by decide, fun post hp => ?_, fun post hp => ?_⟩
    · unfold wpX_addressFault
      exact hU _ (br_t rfl hp)
    · obtain ⟨y1, y2, y3, y4, y5, y6, y7, y8, y9, y10, y11⟩ := v
      unfold wpY_refusal
      exact br_f n0 (br_f n1 hp)
  · rcases aw_to ha p1 v with ⟨hX, hY⟩ | ⟨b, hb, rfl, hX, hY⟩
    · refine Or.inl ⟨-2, by decide, by decide, fun post hp => ?_, hY⟩
      unfold wpX_addressFault
      exact hU _ (br_f (by decide) (hX _ (br_t rfl hp)))
    · refine Or.inr ⟨a, b, ha, hb, rfl, rfl, fun post hp => ?_, hY⟩
      unfold wpX_addressFault
      exact hU _ (br_f (by decide) (hX _ (br_f (by decide) hp)))
theorem aw_keepX {a : Nat} (ha : a < 2) {p : Int32} {post : Int32 → SX → Prop} {ls : Int32} {lv va sec : Nat → Int32} {hd : Nat → Int64} {ak ka : Nat → Int32} (h : post p (ls, lv, va, sec, hd, upd ak a 1, upd ka a p)) : wpX_keep post (ls, lv, va, sec, hd, ak, ka) (nI a) p := by
  have hi : vp_in (nI a) 2 := vp_in_nI ha (by decide)
  unfold wpX_keep
  dsimp only
  rw [nI_clamp (show a < 2 ^ 31 by omega), aw_nar1]
  exact ⟨hi, nm_e ⟨hi, nm_e h⟩⟩
theorem aw_keepY {a : Nat} (ha : a < 2) {p : Int32} {post : Int32 → SY → Prop} {lv va rnd h go gr gd no nr ak ka : Nat → Int32} (hp : post p (lv, va, rnd, h, go, gr, gd, no, nr, upd ak a 1, upd ka a p)) : wpY_answered post (lv, va, rnd, h, go, gr, gd, no, nr, ak, ka) (nI a) p := by
  have hi : vp_in (nI a) 2 := vp_in_nI ha (by decide)
  unfold wpY_answered
  dsimp only
  rw [nI_clamp (show a < 2 ^ 31 by omega), aw_nar1]
  exact ⟨hi, nm_e ⟨hi, nm_e hp⟩⟩
theorem aw_giveY {i q : Nat} (hi : i < 16) (hq : q < 8) {r : Int32} {post : SY → Prop} {lv va rnd h go gr gd no nr ak ka : Nat → Int32}
    (hp : post (lv, va, rnd, upd h i 1, upd go i (nI q), upd gr i r, upd gd i (rnd q), upd no i (nI q), upd nr i r, ak, ka)) : wpY_give post (lv, va, rnd, h, go, gr, gd, no, nr, ak, ka) (nI i) (nI q) r := by
  have h1 : vp_in (nI i) 16 := vp_in_nI hi (by decide)
  have h2 : vp_in (nI q) 8 := vp_in_nI hq (by decide)
  unfold wpY_give
  dsimp only
  rw [nI_clamp (show i < 2 ^ 31 by omega), nI_clamp (show q < 2 ^ 31 by omega), aw_nar1]
  exact ⟨h1, nm_e ⟨h1, nm_e ⟨h1, nm_e ⟨h2, h1, nm_e ⟨h1, nm_e ⟨h1, nm_e hp⟩⟩⟩⟩⟩⟩
theorem aw_renewX {q : Nat} (hq : q < 8) {post : SX → Prop} {ls : Int32} {lv va sec : Nat → Int32} {hd : Nat → Int64} {ak ka : Nat → Int32} (h : post (ls + (-1640531527), lv, va, upd sec q (ls + (-1640531527)), hd, ak, ka)) : wpX_renewSecret post (ls, lv, va, sec, hd, ak, ka) (nI q) := by
  have h2 : vp_in (nI q) 8 := vp_in_nI hq (by decide)
  unfold wpX_renewSecret
  dsimp only
  rw [nI_clamp (show q < 2 ^ 31 by omega)]
  exact nm_e ⟨h2, nm_e h⟩
theorem aw_newX {q : Nat} (hq : q < 8) {r : Int32} {post : Int64 → Prop} {ls : Int32} {lv va sec : Nat → Int32} {hd : Nat → Int64} {ak ka : Nat → Int32} (h : post (cp_m (sec q) (nI q) r)) : wpX_newCapability post (ls, lv, va, sec, hd, ak, ka) (nI q) r := by
  have h2 : vp_in (nI q) 8 := vp_in_nI hq (by decide)
  unfold wpX_newCapability
  dsimp only
  rw [nI_clamp (show q < 2 ^ 31 by omega)]
  exact nm_e ⟨h2, nm_e h⟩
end
section
/-! ===== genuine, permits ===== -/
/-- what both sides know of a slot whose capability is genuine -/
def gn_Is (k : Nat) (ls : Int32) (sec : Nat → Int32) (L : Int64) (h no nr : Int32) : Prop :=
  h = 1 ∧ no = cp_o L ∧ nr = cp_r L ∧ sec (cp_o L).toNatClampNeg = cp_s L ∧ ∃ j, j ≤ k ∧ cp_s L = ls + nI j * 1640531527
theorem gn_X0 {post : Int32 → Prop} {ls : Int32} {lv va sec : Nat → Int32} {hd : Nat → Int64} {ak ka : Nat → Int32} {L : Int64} (z : L = 0) (hp : post 0) : wpX_isGenuine post (ls, lv, va, sec, hd, ak, ka) L := by
  unfold wpX_isGenuine wpX_objectIn
  exact br_t z hp
theorem gn_X1 {post : Int32 → Prop} {ls : Int32} {lv va sec : Nat → Int32} {hd : Nat → Int64} {ak ka : Nat → Int32} {L : Int64} (z : ¬ L = 0) (f : ¬ cp_g L &&& 127 = L &&& 127) (hp : post 0) : wpX_isGenuine post (ls, lv, va, sec, hd, ak, ka) L := by
  unfold wpX_isGenuine wpX_objectIn wpX_sealFits
  exact br_f z (nm_e (nm_e (br_f f (br_t rfl hp))))
theorem gn_X2 {post : Int32 → Prop} {ls : Int32} {lv va sec : Nat → Int32} {hd : Nat → Int64} {ak ka : Nat → Int32} {L : Int64} (z : ¬ L = 0) (f : cp_g L &&& 127 = L &&& 127) (i : vp_in (cp_o L) 8) (l : lv (cp_o L).toNatClampNeg = 0) (hp : post 0) : wpX_isGenuine post (ls, lv, va, sec, hd, ak, ka) L := by
  unfold wpX_isGenuine wpX_objectIn wpX_sealFits
  exact br_f z (nm_e (nm_e (br_t f (br_f (by decide) ⟨i, br_t l hp⟩))))
theorem gn_X3 {post : Int32 → Prop} {ls : Int32} {lv va sec : Nat → Int32} {hd : Nat → Int64} {ak ka : Nat → Int32} {L : Int64} (z : ¬ L = 0) (f : cp_g L &&& 127 = L &&& 127) (i : vp_in (cp_o L) 8) (l : ¬ lv (cp_o L).toNatClampNeg = 0) (s : ¬ cp_s L = sec (cp_o L).toNatClampNeg) (hp : post 0) : wpX_isGenuine post (ls, lv, va, sec, hd, ak, ka) L := by
  unfold wpX_isGenuine wpX_objectIn wpX_sealFits
  exact br_f z (nm_e (nm_e (br_t f (br_f (by decide) ⟨i, br_f l ⟨i, br_f s hp⟩⟩))))
theorem gn_X4 {post : Int32 → Prop} {ls : Int32} {lv va sec : Nat → Int32} {hd : Nat → Int64} {ak ka : Nat → Int32} {L : Int64} (z : ¬ L = 0) (f : cp_g L &&& 127 = L &&& 127) (i : vp_in (cp_o L) 8) (l : ¬ lv (cp_o L).toNatClampNeg = 0) (s : cp_s L = sec (cp_o L).toNatClampNeg) (hp : post 1) : wpX_isGenuine post (ls, lv, va, sec, hd, ak, ka) L := by
  unfold wpX_isGenuine wpX_objectIn wpX_sealFits
  exact br_f z (nm_e (nm_e (br_t f (br_f (by decide) ⟨i, br_f l ⟨i, br_t s hp⟩⟩))))
section
variable {post : Int32 → Prop} {lv va rnd h go gr gd no nr ak ka : Nat → Int32} {a b : Nat}
theorem gn_rY (ha : a < 2) (hb : b < 8) (v : SY) {q : Int32 → Prop} (hq : q 0) : wpY_refusal q v (nI a) (nI b) := by
  rcases aw_adr (nI a) (nI b) v with ⟨e, _, _, hX, _⟩ | ⟨_, _, _, _, _, _, _, hY⟩
  · exact absurd (hX (fun r => r = 0 → False) (fun z => by contradiction)) (by
      unfold wpX_addressFault wpX_isUser wpX_isSlot
      intro w
      have w1 := (w.2 (aw_2 a ha).1).2 (aw_2 a ha).2.1
      have w2 := ((w1.2 (by decide)).2 (aw_8 b hb).1).2 (aw_8 b hb).2.1
      exact w2.2 (by decide) rfl)
  · exact hY q hq
theorem gn_Y0 (ha : a < 2) (hb : b < 8) (z : h (a * 8 + b) = 0) (hp : post 0) : wpY_genuine post (lv, va, rnd, h, go, gr, gd, no, nr, ak, ka) (nI a) (nI b) := by
  have hi : vp_in (nI (a * 8 + b)) 16 := vp_in_nI (by omega) (by decide)
  have hc : (nI (a * 8 + b)).toNatClampNeg = a * 8 + b := nI_clamp (by omega)
  unfold wpY_genuine
  dsimp only
  refine gn_rY ha hb _ (br_t (by decide) (nm_r (aw_pl a b) ?_))
  rw [hc]
  exact ⟨hi, br_t z hp⟩
theorem gn_Y1 (ha : a < 2) (hb : b < 8) (z : ¬ h (a * 8 + b) = 0) (f : ¬ (no (a * 8 + b) = go (a * 8 + b) ∧ nr (a * 8 + b) = gr (a * 8 + b))) (hp : post 0) : wpY_genuine post (lv, va, rnd, h, go, gr, gd, no, nr, ak, ka) (nI a) (nI b) := by
  have hi : vp_in (nI (a * 8 + b)) 16 := vp_in_nI (by omega) (by decide)
  have hc : (nI (a * 8 + b)).toNatClampNeg = a * 8 + b := nI_clamp (by omega)
  unfold wpY_genuine
  dsimp only
  refine gn_rY ha hb _ (br_t (by decide) (nm_r (aw_pl a b) ?_))
  rw [hc]
  refine ⟨hi, br_f z ⟨hi, hi, ?_⟩⟩
  by_cases g : no (a * 8 + b) = go (a * 8 + b)
  · exact br_t g ⟨hi, hi, br_f (fun y => f ⟨g, y⟩) hp⟩
  · exact br_f g hp
theorem gn_Y2 (ha : a < 2) (hb : b < 8) (z : ¬ h (a * 8 + b) = 0) (f : no (a * 8 + b) = go (a * 8 + b) ∧ nr (a * 8 + b) = gr (a * 8 + b)) (i : vp_in (no (a * 8 + b)) 8) (l : lv (no (a * 8 + b)).toNatClampNeg = 0) (hp : post 0) : wpY_genuine post (lv, va, rnd, h, go, gr, gd, no, nr, ak, ka) (nI a) (nI b) := by
  have hi : vp_in (nI (a * 8 + b)) 16 := vp_in_nI (by omega) (by decide)
  have hc : (nI (a * 8 + b)).toNatClampNeg = a * 8 + b := nI_clamp (by omega)
  unfold wpY_genuine
  dsimp only
  refine gn_rY ha hb _ (br_t (by decide) (nm_r (aw_pl a b) ?_))
  rw [hc]
  exact ⟨hi, br_f z ⟨hi, hi, br_t f.1 ⟨hi, hi, br_t f.2 ⟨hi, i, br_t l hp⟩⟩⟩⟩
theorem gn_Y3 (ha : a < 2) (hb : b < 8) (z : ¬ h (a * 8 + b) = 0) (f : no (a * 8 + b) = go (a * 8 + b) ∧ nr (a * 8 + b) = gr (a * 8 + b)) (i : vp_in (no (a * 8 + b)) 8) (l : ¬ lv (no (a * 8 + b)).toNatClampNeg = 0) (s : ¬ rnd (no (a * 8 + b)).toNatClampNeg = gd (a * 8 + b)) (hp : post 0) : wpY_genuine post (lv, va, rnd, h, go, gr, gd, no, nr, ak, ka) (nI a) (nI b) := by
  have hi : vp_in (nI (a * 8 + b)) 16 := vp_in_nI (by omega) (by decide)
  have hc : (nI (a * 8 + b)).toNatClampNeg = a * 8 + b := nI_clamp (by omega)
  unfold wpY_genuine
  dsimp only
  refine gn_rY ha hb _ (br_t (by decide) (nm_r (aw_pl a b) ?_))
  rw [hc]
  exact ⟨hi, br_f z ⟨hi, hi, br_t f.1 ⟨hi, hi, br_t f.2 ⟨hi, i, br_f l ⟨hi, i, hi, br_f s hp⟩⟩⟩⟩⟩
theorem gn_Y4 (ha : a < 2) (hb : b < 8) (z : ¬ h (a * 8 + b) = 0) (f : no (a * 8 + b) = go (a * 8 + b) ∧ nr (a * 8 + b) = gr (a * 8 + b)) (i : vp_in (no (a * 8 + b)) 8) (l : ¬ lv (no (a * 8 + b)).toNatClampNeg = 0) (s : rnd (no (a * 8 + b)).toNatClampNeg = gd (a * 8 + b)) (hp : post 1) : wpY_genuine post (lv, va, rnd, h, go, gr, gd, no, nr, ak, ka) (nI a) (nI b) := by
  have hi : vp_in (nI (a * 8 + b)) 16 := vp_in_nI (by omega) (by decide)
  have hc : (nI (a * 8 + b)).toNatClampNeg = a * 8 + b := nI_clamp (by omega)
  unfold wpY_genuine
  dsimp only
  refine gn_rY ha hb _ (br_t (by decide) (nm_r (aw_pl a b) ?_))
  rw [hc]
  exact ⟨hi, br_f z ⟨hi, hi, br_t f.1 ⟨hi, hi, br_t f.2 ⟨hi, i, br_f l ⟨hi, i, hi, br_t s hp⟩⟩⟩⟩⟩
end
theorem gn_both {k : Nat} {ls : Int32} {sec rnd : Nat → Int32} {hd : Nat → Int64} {h go gr gd no nr : Nat → Int32} (hk : k + 5 ≤ 2561) (H : sr_All k ls sec rnd hd h go gr gd no nr) {a b : Nat} (ha : a < 2) (hb : b < 8) (lv va ak ka : Nat → Int32) :
    ∃ g : Int32, (g = 0 ∨ (g = 1 ∧ gn_Is k ls sec (hd (a * 8 + b)) (h (a * 8 + b)) (no (a * 8 + b)) (nr (a * 8 + b)))) ∧
      (∀ post : Int32 → Prop, post g → wpX_isGenuine post (ls, lv, va, sec, hd, ak, ka) (hd (a * 8 + b))) ∧
      (∀ post : Int32 → Prop, post g → wpY_genuine post (lv, va, rnd, h, go, gr, gd, no, nr, ak, ka) (nI a) (nI b)) := by
  rcases H.2 (a * 8 + b) with ⟨h1, h2⟩ | ⟨h1, h2, h3, h4, h5, h6, c, r, j, p1, p2, p3, p4, p5, p6, p7⟩
  · exact ⟨0, Or.inl rfl, fun post hp => gn_X0 h2 hp, fun post hp => gn_Y0 ha hb h1 hp⟩
  · have nz : ¬ hd (a * 8 + b) = 0 := cm_nz h2
    have nh : ¬ h (a * 8 + b) = 0 := by
      rw [h1]
      decide
    have io : vp_in (cp_o (hd (a * 8 + b))) 8 := by
      obtain ⟨q, hq, e⟩ := cp_oN (hd (a * 8 + b))
      rw [e]
      exact vp_in_nI hq (by decide)
    have io' : vp_in (no (a * 8 + b)) 8 := by
      rw [h3]
      exact io
    by_cases f : cp_g (hd (a * 8 + b)) &&& 127 = hd (a * 8 + b) &&& 127
    · obtain ⟨f1, f2⟩ := (cp_fit _ _).mp f
      have fY : no (a * 8 + b) = go (a * 8 + b) ∧ nr (a * 8 + b) = gr (a * 8 + b) := ⟨by rw [h3, h5, f1], by rw [h4, h6, f2]⟩
      rw [← f1] at p5 p6
      by_cases l : lv (cp_o (hd (a * 8 + b))).toNatClampNeg = 0
      · exact ⟨0, Or.inl rfl, fun post hp => gn_X2 nz f io l hp, fun post hp => gn_Y2 ha hb nh fY io' (by rw [h3]; exact l) hp⟩
      · by_cases s : cp_s (hd (a * 8 + b)) = sec (cp_o (hd (a * 8 + b))).toNatClampNeg
        · have e : rnd (no (a * 8 + b)).toNatClampNeg = gd (a * 8 + b) := by
            rw [h3, p5, p4, p6.mp s]
          exact ⟨1, Or.inr ⟨rfl, h1, h3, h4, s.symm, j, p3, p7⟩, fun post hp => gn_X4 nz f io l s hp, fun post hp => gn_Y4 ha hb nh fY io' (by rw [h3]; exact l) e hp⟩
        · have e : ¬ rnd (no (a * 8 + b)).toNatClampNeg = gd (a * 8 + b) := by
            rw [h3, p5, p4, nI_eq (by omega) (by omega)]
            exact fun z => s (p6.mpr z.symm)
          exact ⟨0, Or.inl rfl, fun post hp => gn_X3 nz f io l s hp, fun post hp => gn_Y3 ha hb nh fY io' (by rw [h3]; exact l) e hp⟩
    · have fY : ¬ (no (a * 8 + b) = go (a * 8 + b) ∧ nr (a * 8 + b) = gr (a * 8 + b)) := by
        rw [h3, h4, h5, h6]
        exact fun z => f ((cp_fit _ _).mpr z)
      exact ⟨0, Or.inl rfl, fun post hp => gn_X1 nz f hp, fun post hp => gn_Y1 ha hb nh fY hp⟩
theorem gn_perm {k : Nat} {ls : Int32} {sec rnd : Nat → Int32} {hd : Nat → Int64} {h go gr gd no nr : Nat → Int32} (hk : k + 5 ≤ 2561) (H : sr_All k ls sec rnd hd h go gr gd no nr) {a b : Nat} (ha : a < 2) (hb : b < 8) {q : Int32} (hq : cq_ok q) (lv va ak ka : Nat → Int32) :
    ∃ g : Int32, (g = 0 ∨ (g = 1 ∧ gn_Is k ls sec (hd (a * 8 + b)) (h (a * 8 + b)) (no (a * 8 + b)) (nr (a * 8 + b)))) ∧
      (∀ post : Int32 → Prop, post g → wpX_permits post (ls, lv, va, sec, hd, ak, ka) (hd (a * 8 + b)) q) ∧
      (∀ post : Int32 → Prop, post g → wpY_allows post (lv, va, rnd, h, go, gr, gd, no, nr, ak, ka) (nI a) (nI b) q) := by
  have hi : vp_in (nI (a * 8 + b)) 16 := vp_in_nI (by omega) (by decide)
  have hc : (nI (a * 8 + b)).toNatClampNeg = a * 8 + b := nI_clamp (by omega)
  obtain ⟨g, hg, gX, gY⟩ := gn_both hk H ha hb lv va ak ka
  rcases hg with rfl | ⟨rfl, G⟩
  · refine ⟨0, Or.inl rfl, fun post hp => ?_, fun post hp => ?_⟩
    · unfold wpX_permits
      exact gX _ (br_t rfl hp)
    · unfold wpY_allows
      exact gY _ (br_t rfl hp)
  · obtain ⟨w, hw, ew⟩ := cp_rN (hd (a * 8 + b))
    have en : nr (a * 8 + b) = nI w := by rw [G.2.2.1, ew]
    by_cases z : (nI w &&& q) = 0
    · refine ⟨0, Or.inl rfl, fun post hp => ?_, fun post hp => ?_⟩
      · unfold wpX_permits
        refine gX _ (br_f (by decide) ?_)
        unfold wpX_rightsIn
        have z' : (cp_r (hd (a * 8 + b)) &&& q) = 0 := by rw [ew]; exact z
        exact br_t z' hp
      · unfold wpY_allows
        refine gY _ (br_f (by decide) ?_)
        rw [aw_pl, hc, en]
        exact ⟨hi, br_f (fun y => ((hq w hw).mp y) z) hp⟩
    · refine ⟨1, Or.inr ⟨rfl, G⟩, fun post hp => ?_, fun post hp => ?_⟩
      · unfold wpX_permits
        refine gX _ (br_f (by decide) ?_)
        unfold wpX_rightsIn
        have z' : ¬ (cp_r (hd (a * 8 + b)) &&& q) = 0 := by rw [ew]; exact z
        exact br_f z' hp
      · unfold wpY_allows
        refine gY _ (br_f (by decide) ?_)
        rw [aw_pl, hc, en]
        exact ⟨hi, br_t ((hq w hw).mpr z) hp⟩
end
section
/-! ===== methods that use a capability ===== -/
theorem ms_hd (f : Nat → Int64) {i : Nat} (hi : i < 16) : f (nI i).toNatClampNeg = f i := by
  rw [nI_clamp (by omega)]
theorem i_vc_read {k : Nat} {u : SX} {v : SY} (I : i_Rel k u v) (hk : k + 5 ≤ 2561) (v1 : Int32) (v2 : Int32) : wpX_read (fun r u' => wpY_read (fun r' v' => r' = r ∧ i_Rel (k + 5) u' v') v v1 v2) u v1 v2 := by
  obtain ⟨ls, lv, va, sec, hd, ak, ka, rnd, h, go, gr, gd, no, nr, rfl, rfl, H⟩ := I
  unfold wpX_read wpY_read
  dsimp only
  rcases aw_adr v1 v2 (lv, va, rnd, h, go, gr, gd, no, nr, ak, ka) with ⟨e, e0, e1, hX, hY⟩ | ⟨a, b, ha, hb, rfl, rfl, hX, hY⟩
  · exact hX _ (br_f e0 (hY _ (br_f e1 ⟨rfl, sr_mk5 H⟩)))
  · refine hX _ (br_t rfl ?_)
    unfold wpX_placeOf
    rw [aw_pl]
    have h16 : a * 8 + b < 16 := by omega
    have hi : vp_in (nI (a * 8 + b)) 16 := vp_in_nI h16 (by decide)
    have hc : (nI (a * 8 + b)).toNatClampNeg = a * 8 + b := nI_clamp (by omega)
    refine ⟨hi, nm_r (ms_hd hd h16) ?_⟩
    obtain ⟨g, hg, gX, gY⟩ := gn_perm hk H ha hb cq_1 lv va ak ka
    refine gX _ ?_
    rcases hg with rfl | ⟨rfl, G⟩
    · refine br_t rfl (aw_keepX ha ?_)
      dsimp only
      refine hY _ (br_t (by decide) (gY _ (br_t rfl (aw_keepY ha ?_))))
      exact ⟨rfl, sr_mk5 H⟩
    · obtain ⟨q, hq, eq⟩ := cp_oN (hd (a * 8 + b))
      have i8 : vp_in (nI q) 8 := vp_in_nI hq (by decide)
      refine br_f (by decide) ?_
      show _ ∧ _
      rw [show (((hd (a * 8 + b)).toInt32 >>> ((4 : Int32) &&& 31)) &&& 7) = nI q from eq]
      refine ⟨i8, aw_keepX ha ?_⟩
      dsimp only
      refine hY _ (br_t (by decide) (gY _ (br_f (by decide) ?_)))
      rw [hc, G.2.1, eq]
      refine ⟨hi, i8, aw_keepY ha ?_⟩
      exact ⟨rfl, sr_mk5 H⟩
theorem i_vc_add {k : Nat} {u : SX} {v : SY} (I : i_Rel k u v) (hk : k + 5 ≤ 2561) (v1 : Int32) (v2 : Int32) (v3 : Int32) : wpX_add (fun r u' => wpY_add (fun r' v' => r' = r ∧ i_Rel (k + 5) u' v') v v1 v2 v3) u v1 v2 v3 := by
  obtain ⟨ls, lv, va, sec, hd, ak, ka, rnd, h, go, gr, gd, no, nr, rfl, rfl, H⟩ := I
  unfold wpX_add wpY_add
  dsimp only
  rcases aw_adr v1 v2 (lv, va, rnd, h, go, gr, gd, no, nr, ak, ka) with ⟨e, e0, e1, hX, hY⟩ | ⟨a, b, ha, hb, rfl, rfl, hX, hY⟩
  · exact hX _ (br_f e0 (hY _ (br_f e1 ⟨rfl, sr_mk5 H⟩)))
  · refine hX _ (br_t rfl ?_)
    unfold wpX_placeOf
    rw [aw_pl]
    have h16 : a * 8 + b < 16 := by omega
    have hi : vp_in (nI (a * 8 + b)) 16 := vp_in_nI h16 (by decide)
    have hc : (nI (a * 8 + b)).toNatClampNeg = a * 8 + b := nI_clamp (by omega)
    refine ⟨hi, nm_r (ms_hd hd h16) ?_⟩
    obtain ⟨g, hg, gX, gY⟩ := gn_perm hk H ha hb cq_2 lv va ak ka
    refine gX _ ?_
    rcases hg with rfl | ⟨rfl, G⟩
    · refine br_t rfl (aw_keepX ha ?_)
      dsimp only
      refine hY _ (br_t (by decide) (gY _ (br_t rfl (aw_keepY ha ?_))))
      exact ⟨rfl, sr_mk5 H⟩
    · obtain ⟨q, hq, eq⟩ := cp_oN (hd (a * 8 + b))
      have i8 : vp_in (nI q) 8 := vp_in_nI hq (by decide)
      refine br_f (by decide) ?_
      show _ ∧ _
      rw [show (((hd (a * 8 + b)).toInt32 >>> ((4 : Int32) &&& 31)) &&& 7) = nI q from eq]
      refine ⟨i8, i8, nm_e ⟨i8, aw_keepX ha ?_⟩⟩
      dsimp only
      refine hY _ (br_t (by decide) (gY _ (br_f (by decide) ?_)))
      rw [hc, G.2.1, eq]
      refine ⟨hi, nm_e ⟨i8, i8, nm_e ⟨i8, aw_keepY ha ?_⟩⟩⟩
      exact ⟨rfl, sr_mk5 H⟩
theorem i_vc_destroy {k : Nat} {u : SX} {v : SY} (I : i_Rel k u v) (hk : k + 5 ≤ 2561) (v1 : Int32) (v2 : Int32) : wpX_destroy (fun r u' => wpY_destroy (fun r' v' => r' = r ∧ i_Rel (k + 5) u' v') v v1 v2) u v1 v2 := by
  obtain ⟨ls, lv, va, sec, hd, ak, ka, rnd, h, go, gr, gd, no, nr, rfl, rfl, H⟩ := I
  unfold wpX_destroy wpY_destroy
  dsimp only
  rcases aw_adr v1 v2 (lv, va, rnd, h, go, gr, gd, no, nr, ak, ka) with ⟨e, e0, e1, hX, hY⟩ | ⟨a, b, ha, hb, rfl, rfl, hX, hY⟩
  · exact hX _ (br_f e0 (hY _ (br_f e1 ⟨rfl, sr_mk5 H⟩)))
  · refine hX _ (br_t rfl ?_)
    unfold wpX_placeOf
    rw [aw_pl]
    have h16 : a * 8 + b < 16 := by omega
    have hi : vp_in (nI (a * 8 + b)) 16 := vp_in_nI h16 (by decide)
    have hc : (nI (a * 8 + b)).toNatClampNeg = a * 8 + b := nI_clamp (by omega)
    refine ⟨hi, nm_r (ms_hd hd h16) ?_⟩
    obtain ⟨g, hg, gX, gY⟩ := gn_perm hk H ha hb cq_4 lv va ak ka
    refine gX _ ?_
    rcases hg with rfl | ⟨rfl, G⟩
    · refine br_t rfl (aw_keepX ha ?_)
      dsimp only
      refine hY _ (br_t (by decide) (gY _ (br_t rfl (aw_keepY ha ?_))))
      exact ⟨rfl, sr_mk5 H⟩
    · obtain ⟨q, hq, eq⟩ := cp_oN (hd (a * 8 + b))
      have i8 : vp_in (nI q) 8 := vp_in_nI hq (by decide)
      refine br_f (by decide) ?_
      show _ ∧ _
      rw [show (((hd (a * 8 + b)).toInt32 >>> ((4 : Int32) &&& 31)) &&& 7) = nI q from eq]
      refine ⟨i8, nm_e (aw_keepX ha ?_)⟩
      dsimp only
      refine hY _ (br_t (by decide) (gY _ (br_f (by decide) ?_)))
      rw [hc, G.2.1, eq]
      refine ⟨hi, i8, nm_e (aw_keepY ha ?_)⟩
      exact ⟨rfl, sr_mk5 H⟩
theorem i_vc_revoke {k : Nat} {u : SX} {v : SY} (I : i_Rel k u v) (hk : k + 5 ≤ 2561) (v1 : Int32) (v2 : Int32) : wpX_revoke (fun r u' => wpY_revoke (fun r' v' => r' = r ∧ i_Rel (k + 5) u' v') v v1 v2) u v1 v2 := by
  obtain ⟨ls, lv, va, sec, hd, ak, ka, rnd, h, go, gr, gd, no, nr, rfl, rfl, H⟩ := I
  unfold wpX_revoke wpY_revoke
  dsimp only
  rcases aw_adr v1 v2 (lv, va, rnd, h, go, gr, gd, no, nr, ak, ka) with ⟨e, e0, e1, hX, hY⟩ | ⟨a, b, ha, hb, rfl, rfl, hX, hY⟩
  · exact hX _ (br_f e0 (hY _ (br_f e1 ⟨rfl, sr_mk5 H⟩)))
  · refine hX _ (br_t rfl ?_)
    unfold wpX_placeOf
    rw [aw_pl]
    have h16 : a * 8 + b < 16 := by omega
    have hi : vp_in (nI (a * 8 + b)) 16 := vp_in_nI h16 (by decide)
    have hc : (nI (a * 8 + b)).toNatClampNeg = a * 8 + b := nI_clamp (by omega)
    refine ⟨hi, nm_r (ms_hd hd h16) ?_⟩
    obtain ⟨g, hg, gX, gY⟩ := gn_perm hk H ha hb cq_8 lv va ak ka
    refine gX _ ?_
    rcases hg with rfl | ⟨rfl, G⟩
    · refine br_t rfl (aw_keepX ha ?_)
      dsimp only
      refine hY _ (br_t (by decide) (gY _ (br_t rfl (aw_keepY ha ?_))))
      exact ⟨rfl, sr_mk5 H⟩
    · obtain ⟨q, hq, eq⟩ := cp_oN (hd (a * 8 + b))
      obtain ⟨w, hw, ew⟩ := cp_rN (hd (a * 8 + b))
      have i8 : vp_in (nI q) 8 := vp_in_nI hq (by decide)
      have cq : (nI q).toNatClampNeg = q := nI_clamp (by omega)
      refine br_f (by decide) ?_
      unfold wpX_objectIn wpX_rightsIn
      rw [show (((hd (a * 8 + b)).toInt32 >>> ((4 : Int32) &&& 31)) &&& 7) = nI q from eq, show ((hd (a * 8 + b)).toInt32 &&& 15) = nI w from ew]
      refine aw_renewX hq ?_
      dsimp only
      refine aw_newX hq ?_
      rw [hc]
      refine ⟨hi, nm_e (aw_keepX ha ?_)⟩
      dsimp only
      refine hY _ (br_t (by decide) (gY _ (br_f (by decide) (nm_e ?_))))
      rw [hc, G.2.1, eq, G.2.2.1, ew, cq]
      refine ⟨hi, i8, i8, nm_e ⟨hi, hi, aw_giveY h16 hq ?_⟩⟩
      refine aw_keepY ha ?_
      exact ⟨rfl, sr_mk (sr_fresh hk H hq hw (a * 8 + b))⟩
theorem i_vc_restrict {k : Nat} {u : SX} {v : SY} (I : i_Rel k u v) (hk : k + 5 ≤ 2561) (v1 : Int32) (v2 : Int32) (v3 : Int32) (v4 : Int32) : wpX_restrict (fun r u' => wpY_restrict (fun r' v' => r' = r ∧ i_Rel (k + 5) u' v') v v1 v2 v3 v4) u v1 v2 v3 v4 := by
  obtain ⟨ls, lv, va, sec, hd, ak, ka, rnd, h, go, gr, gd, no, nr, rfl, rfl, H⟩ := I
  unfold wpX_restrict wpY_restrict
  dsimp only
  rcases aw_adr v1 v2 (lv, va, rnd, h, go, gr, gd, no, nr, ak, ka) with ⟨e, e0, e1, hX, hY⟩ | ⟨a, b, ha, hb, rfl, rfl, hX, hY⟩
  · refine hX _ (br_f e0 (hY _ (br_f e0 ?_)))
    unfold wY_restrict_21
    exact br_f e1 ⟨rfl, sr_mk5 H⟩
  · refine hX _ (br_t rfl ?_)
    rcases aw_to ha v3 (lv, va, rnd, h, go, gr, gd, no, nr, ak, ka) with ⟨sX, sY⟩ | ⟨c, hc8, rfl, sX, sY⟩
    · refine sX _ (br_t rfl (hY _ (br_t rfl (sY _ ?_))))
      unfold wY_restrict_21
      exact br_f (by decide) ⟨rfl, sr_mk5 H⟩
    · refine sX _ (br_f (by decide) ?_)
      rcases aw_ix v4 (n := 16) (by decide) with n | ⟨n, n2⟩ | ⟨t, ht, rfl⟩
      · refine br_t n (hY _ (br_t rfl (sY _ ?_)))
        unfold wY_restrict_21
        exact br_t (by decide) (br_t n ⟨rfl, sr_mk5 H⟩)
      · refine br_f n (br_f (aw_n15 n2) (hY _ (br_t rfl (sY _ ?_))))
        unfold wY_restrict_21
        exact br_t (by decide) (br_f n (br_f (aw_n15 n2) ⟨rfl, sr_mk5 H⟩))
      · refine br_f (aw_16 t ht).1 (br_t (aw_16 t ht).2 ?_)
        unfold wpX_placeOf
        rw [aw_pl, aw_pl]
        have h16 : a * 8 + b < 16 := by omega
        have h16' : a * 8 + c < 16 := by omega
        have hi : vp_in (nI (a * 8 + b)) 16 := vp_in_nI h16 (by decide)
        have hi' : vp_in (nI (a * 8 + c)) 16 := vp_in_nI h16' (by decide)
        have hc : (nI (a * 8 + b)).toNatClampNeg = a * 8 + b := nI_clamp (by omega)
        have hc' : (nI (a * 8 + c)).toNatClampNeg = a * 8 + c := nI_clamp (by omega)
        refine ⟨hi, nm_r (ms_hd hd h16) ?_⟩
        obtain ⟨g, hg, gX, gY⟩ := gn_both hk H ha hb lv va ak ka
        refine gX _ ?_
        rcases hg with rfl | ⟨rfl, G⟩
        · refine br_t rfl (aw_keepX ha ?_)
          dsimp only
          refine hY _ (br_t rfl (sY _ ?_))
          unfold wY_restrict_21
          refine br_t (by decide) (br_f (aw_16 t ht).1 (br_t (aw_16 t ht).2 (gY _ (br_t rfl (aw_keepY ha ?_)))))
          exact ⟨rfl, sr_mk5 H⟩
        · obtain ⟨q, hq, eq⟩ := cp_oN (hd (a * 8 + b))
          obtain ⟨w, hw, ew⟩ := cp_rN (hd (a * 8 + b))
          obtain ⟨d, hd16, ed⟩ := cq_and w hw t ht
          have i8 : vp_in (nI q) 8 := vp_in_nI hq (by decide)
          have cq : (nI q).toNatClampNeg = q := nI_clamp (by omega)
          refine br_f (by decide) ?_
          unfold wpX_objectIn wpX_rightsIn
          rw [show (((hd (a * 8 + b)).toInt32 >>> ((4 : Int32) &&& 31)) &&& 7) = nI q from eq, show ((hd (a * 8 + b)).toInt32 &&& 15) = nI w from ew]
          refine nm_r ed ?_
          refine aw_newX hq ?_
          rw [hc']
          refine ⟨hi', nm_e (aw_keepX ha ?_)⟩
          dsimp only
          refine hY _ (br_t rfl (sY _ ?_))
          unfold wY_restrict_21
          refine br_t (by decide) (br_f (aw_16 t ht).1 (br_t (aw_16 t ht).2 (gY _ (br_f (by decide) (nm_r (aw_pl a b) ?_)))))
          rw [hc, G.2.1, eq, G.2.2.1, ew, aw_pl]
          refine ⟨hi, nm_r ed ⟨hi, aw_giveY h16' hq ?_⟩⟩
          refine aw_keepY ha ?_
          obtain ⟨_, _, _, G4, j, hj, G5⟩ := G
          rw [eq, cq] at G4
          obtain ⟨R, hR, eR⟩ := H.1 q
          exact ⟨rfl, sr_mk5 (sr_put H (sr_new hq hd16 hR eR hj (G4.trans G5)) (a * 8 + c))⟩
end
section
/-! ===== the other methods ===== -/
theorem i_vc_again {k : Nat} {u : SX} {v : SY} (I : i_Rel k u v) (hk : k + 5 ≤ 2561) (v1 : Int32) : wpX_again (fun r => wpY_again (fun r' => r' = r ∧ i_Rel (k + 5) u v) v v1) u v1 := by
  obtain ⟨ls, lv, va, sec, hd, ak, ka, rnd, h, go, gr, gd, no, nr, rfl, rfl, H⟩ := I
  unfold wpX_again wpY_again
  dsimp only
  rcases aw_user v1 with ⟨hU, n0, n1⟩ | ⟨a, ha, rfl, hU⟩
  · exact hU _ (br_t rfl (br_f n0 (br_f n1 ⟨rfl, sr_mk5 H⟩)))
  · have i2 : vp_in (nI a) 2 := vp_in_nI ha (by decide)
    have key : ∀ post : Int32 → Prop, wY_again_11 post (nI a) lv va rnd h go gr gd no nr ak ka → ((nI a = 0 → wY_again_11 post (nI a) lv va rnd h go gr gd no nr ak ka) ∧ (¬ nI a = 0 → ((nI a = 1 → wY_again_11 post (nI a) lv va rnd h go gr gd no nr ak ka) ∧ (¬ nI a = 1 → post (-1))))) := by
      intro post hp
      rcases (aw_2 a ha).2.2 with z | ⟨z, z1⟩
      · exact br_t z hp
      · exact br_f z (br_t z1 hp)
    refine hU _ (br_f (by decide) ⟨i2, ?_⟩)
    by_cases z : ak (nI a).toNatClampNeg = 0
    · refine br_t z (key _ ?_)
      unfold wY_again_11
      exact ⟨i2, br_t z ⟨rfl, sr_mk5 H⟩⟩
    · refine br_f z ⟨i2, key _ ?_⟩
      unfold wY_again_11
      exact ⟨i2, br_f z ⟨i2, rfl, sr_mk5 H⟩⟩
theorem i_vc_copy {k : Nat} {u : SX} {v : SY} (I : i_Rel k u v) (hk : k + 5 ≤ 2561) (v1 : Int32) (v2 : Int32) (v3 : Int32) : wpX_copy (fun r u' => wpY_copy (fun r' v' => r' = r ∧ i_Rel (k + 5) u' v') v v1 v2 v3) u v1 v2 v3 := by
  obtain ⟨ls, lv, va, sec, hd, ak, ka, rnd, h, go, gr, gd, no, nr, rfl, rfl, H⟩ := I
  unfold wpX_copy wpY_copy
  dsimp only
  rcases aw_adr v1 v2 (lv, va, rnd, h, go, gr, gd, no, nr, ak, ka) with ⟨e, e0, e1, hX, hY⟩ | ⟨a, b, ha, hb, rfl, rfl, hX, hY⟩
  · exact hX _ (br_f e0 (hY _ (br_f e1 ⟨rfl, sr_mk5 H⟩)))
  · have h16 : a * 8 + b < 16 := by omega
    have hi : vp_in (nI (a * 8 + b)) 16 := vp_in_nI h16 (by decide)
    have hc : (nI (a * 8 + b)).toNatClampNeg = a * 8 + b := nI_clamp (by omega)
    obtain ⟨t, ht, e1, e2⟩ := cy_at v3
    have ti : vp_in (nI t) 16 := vp_in_nI ht (by decide)
    have tc : (nI t).toNatClampNeg = t := nI_clamp (by omega)
    have hn : vp_nar .boolean (h (a * 8 + b)) = h (a * 8 + b) := by
      rcases H.2 (a * 8 + b) with z | z
      · rw [z.1]
        rfl
      · rw [z.1]
        rfl
    refine hX _ (br_t rfl (nm_e (nm_e ?_)))
    unfold wpX_placeOf
    rw [aw_pl, e2]
    dsimp only
    rw [hc, tc]
    refine ⟨hi, ti, nm_e ?_⟩
    refine hY _ (br_t (by decide) (nm_e (nm_r e1 ?_)))
    rw [hc, tc, hn]
    refine ⟨hi, ti, nm_e ⟨hi, ti, nm_e ⟨hi, ti, nm_e ⟨hi, ti, nm_e ⟨hi, ti, nm_e ⟨hi, ti, nm_e ?_⟩⟩⟩⟩⟩⟩
    exact ⟨rfl, sr_mk5 (sr_put H (H.2 (a * 8 + b)) t)⟩
theorem i_vc_tamper {k : Nat} {u : SX} {v : SY} (I : i_Rel k u v) (hk : k + 5 ≤ 2561) (v1 : Int32) (v2 : Int32) (v3 : Int32) : wpX_tamper (fun r u' => wpY_tamper (fun r' v' => r' = r ∧ i_Rel (k + 5) u' v') v v1 v2 v3) u v1 v2 v3 := by
  obtain ⟨ls, lv, va, sec, hd, ak, ka, rnd, h, go, gr, gd, no, nr, rfl, rfl, H⟩ := I
  unfold wpX_tamper wpY_tamper
  dsimp only
  rcases aw_adr v1 v2 (lv, va, rnd, h, go, gr, gd, no, nr, ak, ka) with ⟨e, e0, e1, hX, hY⟩ | ⟨a, b, ha, hb, rfl, rfl, hX, hY⟩
  · exact hX _ (br_f e0 (hY _ (br_f e1 ⟨rfl, sr_mk5 H⟩)))
  · have h16 : a * 8 + b < 16 := by omega
    have hi : vp_in (nI (a * 8 + b)) 16 := vp_in_nI h16 (by decide)
    have hc : (nI (a * 8 + b)).toNatClampNeg = a * 8 + b := nI_clamp (by omega)
    refine hX _ (br_t rfl ?_)
    unfold wpX_placeOf
    rw [aw_pl]
    dsimp only
    rw [hc]
    refine ⟨hi, ?_⟩
    rcases H.2 (a * 8 + b) with z | z
    · refine br_t z.2 (hY _ (br_t (by decide) (nm_e ?_)))
      rw [hc]
      exact ⟨hi, br_t z.1 ⟨rfl, sr_mk5 H⟩⟩
    · have nz : ¬ hd (a * 8 + b) = 0 := cm_nz z.2.1
      have nh : ¬ h (a * 8 + b) = 0 := by
        rw [z.1]
        decide
      refine br_f nz ⟨hi, hi, nm_e (hY _ (br_t (by decide) (nm_e ?_)))⟩
      rw [hc]
      refine ⟨hi, br_f nh ⟨hi, hi, nm_e ⟨hi, hi, nm_e ?_⟩⟩⟩
      exact ⟨rfl, sr_mk5 (sr_tam H (a * 8 + b) nz v3)⟩
theorem i_vc_clear {k : Nat} {u : SX} {v : SY} (I : i_Rel k u v) (hk : k + 5 ≤ 2561) (v1 : Int32) (v2 : Int32) : wpX_clear (fun r u' => wpY_clear (fun r' v' => r' = r ∧ i_Rel (k + 5) u' v') v v1 v2) u v1 v2 := by
  obtain ⟨ls, lv, va, sec, hd, ak, ka, rnd, h, go, gr, gd, no, nr, rfl, rfl, H⟩ := I
  unfold wpX_clear wpY_clear
  dsimp only
  rcases aw_adr v1 v2 (lv, va, rnd, h, go, gr, gd, no, nr, ak, ka) with ⟨e, e0, e1, hX, hY⟩ | ⟨a, b, ha, hb, rfl, rfl, hX, hY⟩
  · exact hX _ (br_f e0 (hY _ (br_f e1 ⟨rfl, sr_mk5 H⟩)))
  · have h16 : a * 8 + b < 16 := by omega
    have hi : vp_in (nI (a * 8 + b)) 16 := vp_in_nI h16 (by decide)
    have hc : (nI (a * 8 + b)).toNatClampNeg = a * 8 + b := nI_clamp (by omega)
    refine hX _ (br_t rfl ?_)
    unfold wpX_placeOf wX_clear_36 wY_clear_36
    rw [aw_pl]
    dsimp only
    rw [hc]
    refine ⟨hi, ?_⟩
    rcases H.2 (a * 8 + b) with z | z
    · refine br_t z.2 ⟨hi, nm_e (hY _ (br_t (by decide) (nm_e ?_)))⟩
      rw [hc, aw_nar0]
      exact ⟨hi, br_t z.1 ⟨hi, nm_e ⟨rfl, sr_mk5 (sr_clr H (a * 8 + b))⟩⟩⟩
    · have nz : ¬ hd (a * 8 + b) = 0 := cm_nz z.2.1
      have nh : ¬ h (a * 8 + b) = 0 := by
        rw [z.1]
        decide
      refine br_f nz ⟨hi, nm_e (hY _ (br_t (by decide) (nm_e ?_)))⟩
      rw [hc, aw_nar0]
      exact ⟨hi, br_f nh ⟨hi, nm_e ⟨rfl, sr_mk5 (sr_clr H (a * 8 + b))⟩⟩⟩
theorem i_vc_genuine {k : Nat} {u : SX} {v : SY} (I : i_Rel k u v) (hk : k + 5 ≤ 2561) (v1 : Int32) (v2 : Int32) : wpX_genuine (fun r => wpY_genuine (fun r' => r' = r ∧ i_Rel (k + 5) u v) v v1 v2) u v1 v2 := by
  obtain ⟨ls, lv, va, sec, hd, ak, ka, rnd, h, go, gr, gd, no, nr, rfl, rfl, H⟩ := I
  unfold wpX_genuine
  dsimp only
  rcases aw_adr v1 v2 (lv, va, rnd, h, go, gr, gd, no, nr, ak, ka) with ⟨e, e0, e1, hX, hY⟩ | ⟨a, b, ha, hb, rfl, rfl, hX, hY⟩
  · refine hX _ (br_f e0 ?_)
    unfold wpY_genuine
    exact hY _ (br_f e1 ⟨rfl, sr_mk5 H⟩)
  · have h16 : a * 8 + b < 16 := by omega
    have hi : vp_in (nI (a * 8 + b)) 16 := vp_in_nI h16 (by decide)
    refine hX _ (br_t rfl ?_)
    unfold wpX_placeOf
    rw [aw_pl]
    refine ⟨hi, nm_r (ms_hd hd h16) ?_⟩
    obtain ⟨g, hg, gX, gY⟩ := gn_both hk H ha hb lv va ak ka
    refine gX _ ?_
    rcases hg with rfl | ⟨rfl, G⟩
    · exact ⟨rfl, gY _ ⟨rfl, sr_mk5 H⟩⟩
    · exact ⟨rfl, gY _ ⟨rfl, sr_mk5 H⟩⟩
theorem i_vc_rights {k : Nat} {u : SX} {v : SY} (I : i_Rel k u v) (hk : k + 5 ≤ 2561) (v1 : Int32) (v2 : Int32) : wpX_rights (fun r => wpY_rights (fun r' => r' = r ∧ i_Rel (k + 5) u v) v v1 v2) u v1 v2 := by
  obtain ⟨ls, lv, va, sec, hd, ak, ka, rnd, h, go, gr, gd, no, nr, rfl, rfl, H⟩ := I
  unfold wpX_rights wpY_rights
  dsimp only
  rcases aw_adr v1 v2 (lv, va, rnd, h, go, gr, gd, no, nr, ak, ka) with ⟨e, e0, e1, hX, hY⟩ | ⟨a, b, ha, hb, rfl, rfl, hX, hY⟩
  · exact hX _ (br_f e0 (hY _ (br_f e1 ⟨rfl, sr_mk5 H⟩)))
  · have h16 : a * 8 + b < 16 := by omega
    have hi : vp_in (nI (a * 8 + b)) 16 := vp_in_nI h16 (by decide)
    have hc : (nI (a * 8 + b)).toNatClampNeg = a * 8 + b := nI_clamp (by omega)
    refine hX _ (br_t rfl ?_)
    unfold wpX_placeOf wpX_rightsIn
    rw [aw_pl]
    refine ⟨hi, nm_r (ms_hd hd h16) (hY _ (br_t (by decide) ?_))⟩
    rw [hc]
    rcases H.2 (a * 8 + b) with z | z
    · refine ⟨hi, br_t z.1 ⟨?_, sr_mk5 H⟩⟩
      rw [z.2]
      decide
    · have nh : ¬ h (a * 8 + b) = 0 := by
        rw [z.1]
        decide
      exact ⟨hi, br_f nh ⟨hi, z.2.2.2.1, sr_mk5 H⟩⟩
end
section
/-! ===== the loops: create, restart, alive ===== -/
theorem lo_8 : ∀ j, j < 8 → ¬ (8 : Int32) ≤ nI j ∧ vp_in (nI j) 8 ∧ (nI j).toNatClampNeg = j ∧ ¬ nI j = 8 := by
  intro j hj
  exact ⟨(aw_8 j hj).2.1, vp_in_nI hj (by decide), nI_clamp (by omega), (by decide +kernel : ∀ j, j < 8 → ¬ nI j = 8) j hj⟩
theorem lo_free (f_lastSecret : Int32) (a_living a_value a_secret : Nat → Int32) (a_held : Nat → Int64) (a_answerKept a_keptAnswer : Nat → Int32) (x1 x2 : Int32) (y2 y3 y4 y5 y6 y7 y8 y9 y10 y11 : Nat → Int32) :
    ∀ d j : Nat, j + d = 8 → ∃ f, f ≤ 8 ∧ (f = 8 ∨ (f < 8 ∧ a_living f = 0)) ∧
      (∀ post : Int32 → Prop, post (nI f) → ∃ n, wX_smallestFreeObject_2 post f_lastSecret a_living a_value a_secret a_held a_answerKept a_keptAnswer n (nI j)) ∧
      (∀ post : Int32 → SY → Prop, (∃ n, wY_create_16 post x1 x2 a_living y2 y3 y4 y5 y6 y7 y8 y9 y10 y11 n (nI f)) → ∃ n, wY_create_16 post x1 x2 a_living y2 y3 y4 y5 y6 y7 y8 y9 y10 y11 n (nI j)) := by
  intro d
  induction d with
  | zero =>
    intro j hj
    obtain rfl : j = 8 := by omega
    refine ⟨8, by omega, Or.inl rfl, fun post hp => ⟨1, ?_⟩, fun post hp => hp⟩
    unfold wX_smallestFreeObject_2
    exact br_t (by decide) hp
  | succ d ih =>
    intro j hj
    obtain ⟨h1, h2, h3, h4⟩ := lo_8 j (by omega)
    by_cases z : a_living j = 0
    · refine ⟨j, by omega, Or.inr ⟨by omega, z⟩, fun post hp => ⟨1, ?_⟩, fun post hp => hp⟩
      unfold wX_smallestFreeObject_2
      exact br_f h1 ⟨h2, br_t (by rw [h3]; exact z) hp⟩
    · obtain ⟨f, hf, hz, hX, hY⟩ := ih (j + 1) (by omega)
      refine ⟨f, hf, hz, fun post hp => ?_, fun post hp => ?_⟩
      · obtain ⟨n, hn⟩ := hX post hp
        refine ⟨n + 1, ?_⟩
        unfold wX_smallestFreeObject_2
        exact br_f h1 ⟨h2, br_f (by rw [h3]; exact z) (nm_r (nI_1 j) hn)⟩
      · obtain ⟨n, hn⟩ := hY post hp
        refine ⟨n + 1, ?_⟩
        unfold wY_create_16
        exact br_f h1 ⟨h2, br_f (by rw [h3]; exact z) (nm_r (nI_1 j) hn)⟩
theorem i_vc_create {k : Nat} {u : SX} {v : SY} (I : i_Rel k u v) (hk : k + 5 ≤ 2561) (v1 : Int32) (v2 : Int32) : wpX_create (fun r u' => wpY_create (fun r' v' => r' = r ∧ i_Rel (k + 5) u' v') v v1 v2) u v1 v2 := by
  obtain ⟨ls, lv, va, sec, hd, ak, ka, rnd, h, go, gr, gd, no, nr, rfl, rfl, H⟩ := I
  unfold wpX_create wpY_create
  dsimp only
  rcases aw_adr v1 v2 (lv, va, rnd, h, go, gr, gd, no, nr, ak, ka) with ⟨e, e0, e1, hX, hY⟩ | ⟨a, b, ha, hb, rfl, rfl, hX, hY⟩
  · exact hX _ (br_f e0 (hY _ (br_f e1 ⟨rfl, sr_mk5 H⟩)))
  · refine hX _ (br_t rfl ?_)
    have h16 : a * 8 + b < 16 := by omega
    have hi : vp_in (nI (a * 8 + b)) 16 := vp_in_nI h16 (by decide)
    have hc : (nI (a * 8 + b)).toNatClampNeg = a * 8 + b := nI_clamp (by omega)
    obtain ⟨f, hf, hz, fX, fY⟩ := lo_free ls lv va sec hd ak ka (nI a) (nI b) va rnd h go gr gd no nr ak ka 8 0 rfl
    unfold wpX_smallestFreeObject
    refine fX _ ?_
    rcases hz with rfl | ⟨hf8, z⟩
    · refine br_t (by decide) (aw_keepX ha ?_)
      dsimp only
      refine hY _ (br_t (by decide) (fY _ ⟨1, ?_⟩))
      unfold wY_create_16
      refine br_t (by decide) (aw_keepY ha ?_)
      exact ⟨rfl, sr_mk5 H⟩
    · obtain ⟨h1, h2, h3, h4⟩ := lo_8 f hf8
      refine br_f h4 ?_
      unfold wpX_placeOf
      rw [h3]
      refine ⟨h2, nm_e ⟨h2, nm_e (aw_renewX hf8 ?_)⟩⟩
      dsimp only
      rw [aw_pl]
      refine aw_newX hf8 ?_
      rw [hc]
      refine ⟨hi, nm_e (aw_keepX ha ?_)⟩
      dsimp only
      refine hY _ (br_t (by decide) (fY _ ⟨1, ?_⟩))
      unfold wY_create_16
      rw [h3, aw_pl]
      refine br_f h1 ⟨h2, br_t z ⟨h2, nm_e ⟨h2, nm_e ⟨h2, h2, nm_e (aw_giveY h16 hf8 ?_)⟩⟩⟩⟩
      refine aw_keepY ha ?_
      exact ⟨rfl, sr_mk (sr_fresh hk H hf8 (b := 15) (by decide) (a * 8 + b))⟩
theorem i_vc_restart {k : Nat} {u : SX} {v : SY} (I : i_Rel k u v) (hk : k + 5 ≤ 2561) : wpX_restart (fun u' => wpY_restart (fun v' => i_Rel (k + 5) u' v') v) u := by
  obtain ⟨ls, lv, va, sec, hd, ak, ka, rnd, h, go, gr, gd, no, nr, rfl, rfl, H⟩ := I
  unfold wpX_restart wpY_restart
  dsimp only
  have i0 : vp_in 0 2 := vp_in_nI (n := 0) (by decide) (by decide)
  have i1 : vp_in (0 + 1) 2 := vp_in_nI (n := 1) (by decide) (by decide)
  refine ⟨3, ?_⟩
  unfold wX_restart_2
  refine br_f (by decide) ⟨i0, nm_e (nm_e ?_)⟩
  unfold wX_restart_2
  refine br_f (by decide) ⟨i1, nm_e (nm_e ?_)⟩
  unfold wX_restart_2
  refine br_t (by decide) (nm_e (nm_e ?_))
  exact sr_mk5 H
theorem lo_count (f_lastSecret : Int32) (a_living a_value a_secret : Nat → Int32) (a_held : Nat → Int64) (a_answerKept a_keptAnswer : Nat → Int32) (y2 y3 y4 y5 y6 y7 y8 y9 y10 y11 : Nat → Int32) :
    ∀ d j : Nat, j + d = 8 → ∀ c : Int32, ∃ r : Int32, (∀ post : Int32 → Prop, post r → wX_alive_4 post f_lastSecret a_living a_value a_secret a_held a_answerKept a_keptAnswer (d + 1) c (nI j)) ∧ (∀ post : Int32 → Prop, post r → wY_alive_4 post a_living y2 y3 y4 y5 y6 y7 y8 y9 y10 y11 (d + 1) c (nI j)) := by
  intro d
  induction d with
  | zero =>
    intro j hj c
    obtain rfl : j = 8 := by omega
    refine ⟨c, fun post hp => ?_, fun post hp => ?_⟩
    · unfold wX_alive_4
      exact br_t (by decide) hp
    · unfold wY_alive_4
      exact br_t (by decide) hp
  | succ d ih =>
    intro j hj c
    obtain ⟨h1, h2, h3, h4⟩ := lo_8 j (by omega)
    by_cases z : a_living (nI j).toNatClampNeg = 0
    · obtain ⟨r, hX, hY⟩ := ih (j + 1) (by omega) c
      refine ⟨r, fun post hp => ?_, fun post hp => ?_⟩
      · unfold wX_alive_4
        exact br_f h1 ⟨h2, br_t z (nm_r (nI_1 j) (hX post hp))⟩
      · unfold wY_alive_4
        exact br_f h1 ⟨h2, br_t z (nm_r (nI_1 j) (hY post hp))⟩
    · obtain ⟨r, hX, hY⟩ := ih (j + 1) (by omega) (c + 1)
      refine ⟨r, fun post hp => ?_, fun post hp => ?_⟩
      · unfold wX_alive_4
        exact br_f h1 ⟨h2, br_f z (nm_e (nm_r (nI_1 j) (hX post hp)))⟩
      · unfold wY_alive_4
        exact br_f h1 ⟨h2, br_f z (nm_e (nm_r (nI_1 j) (hY post hp)))⟩
theorem i_vc_alive {k : Nat} {u : SX} {v : SY} (I : i_Rel k u v) (hk : k + 5 ≤ 2561) : wpX_alive (fun r => wpY_alive (fun r' => r' = r ∧ i_Rel (k + 5) u v) v) u := by
  obtain ⟨ls, lv, va, sec, hd, ak, ka, rnd, h, go, gr, gd, no, nr, rfl, rfl, H⟩ := I
  obtain ⟨r, hX, hY⟩ := lo_count ls lv va sec hd ak ka va rnd h go gr gd no nr ak ka 8 0 rfl 0
  unfold wpX_alive wpY_alive
  dsimp only
  exact ⟨9, hX _ ⟨9, hY _ ⟨rfl, sr_mk5 H⟩⟩⟩
end
