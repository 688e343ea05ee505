section
theorem pk_us {f : Nat → Int32} {k : Nat} {x : Int32} : upd f k x k = x := if_pos rfl
theorem pk_un {f : Nat → Int32} {k j : Nat} {x : Int32} (h : j ≠ k) : upd f k x j = f j := if_neg h
theorem pk_uLs {f : Nat → Int64} {k : Nat} {x : Int64} : vp_updL f k x k = x := if_pos rfl
theorem pk_uLn {f : Nat → Int64} {k j : Nat} {x : Int64} (h : j ≠ k) : vp_updL f k x j = f j := if_neg h
theorem pk_mul (a b : Nat) : nI a * nI b = nI (a * b) := (Int32.ofNat_mul a b).symm
theorem pk_in {x : Int32} (n N : Nat) (h : n < N) (hx : x = nI n := by rfl) (hN : N < 2 ^ 31 := by omega) : vp_in x N := by
  subst hx
  exact vp_in_nI h hN
theorem pk_cl {x : Int32} (n : Nat) (hx : x = nI n := by rfl) (h : n < 2 ^ 31 := by omega) : x.toNatClampNeg = n := by
  subst hx
  exact nI_clamp h
theorem pk_tn {n : Nat} (h : n < 2 ^ 32) : (nI n).toBitVec.toNat = n := Nat.mod_eq_of_lt h
theorem pk_and (x : Int32) {m : Int32} (k : Nat) (hm : m.toBitVec.toNat = 2 ^ k - 1) : x &&& m = nI (x.toBitVec.toNat % 2 ^ k) := by
  apply Int32.toBitVec_inj.mp
  apply BitVec.eq_of_toNat_eq
  rw [Int32.toBitVec_and, BitVec.toNat_and, hm, Nat.and_two_pow_sub_one_eq_mod]
  show _ = (BitVec.ofNat 32 _).toNat
  rw [BitVec.toNat_ofNat]
  exact (Nat.mod_eq_of_lt (Nat.lt_of_le_of_lt (Nat.mod_le _ _) x.toBitVec.isLt)).symm
theorem pk_andE (x : Int32) {m : Int32} (k : Nat) (hm : m.toBitVec.toNat = 2 ^ k - 1) : ∃ j : Nat, j < 2 ^ k ∧ x &&& m = nI j := ⟨_, Nat.mod_lt _ (Nat.two_pow_pos k), pk_and x k hm⟩
/-! ===== Int32 by its bits: bt x i ===== -/
def bt (x : Int32) (i : Nat) : Bool := x.toBitVec.getLsbD i
theorem b_ext {x y : Int32} (h : ∀ i, i < 32 → bt x i = bt y i) : x = y := Int32.toBitVec_inj.mp (BitVec.eq_of_getLsbD_eq (fun i hi => h i hi))
theorem b_or (x y : Int32) (i : Nat) : bt (x ||| y) i = (bt x i || bt y i) := by unfold bt; rw [Int32.toBitVec_or, BitVec.getLsbD_or]
theorem b_and (x y : Int32) (i : Nat) : bt (x &&& y) i = (bt x i && bt y i) := by unfold bt; rw [Int32.toBitVec_and, BitVec.getLsbD_and]
theorem b_xor (x y : Int32) (i : Nat) : bt (x ^^^ y) i = (bt x i ^^ bt y i) := by unfold bt; rw [Int32.toBitVec_xor, BitVec.getLsbD_xor]
theorem b_big {x : Int32} {i : Nat} (h : 32 ≤ i) : bt x i = false := BitVec.getLsbD_of_ge _ _ h
theorem b_0 (i : Nat) : bt 0 i = false := BitVec.getLsbD_zero
theorem s_l : ∀ n, n < 32 → ((nI n &&& 31).toBitVec.smod 32).toNat = n := by decide +kernel
theorem b_shl (n : Nat) (hn : n < 32) (x : Int32) {i : Nat} (hi : i < 32) : bt (x <<< (nI n &&& 31)) i = (decide (n ≤ i) && bt x (i - n)) := by
  unfold bt
  rw [Int32.toBitVec_shiftLeft]
  show (x.toBitVec <<< ((nI n &&& 31).toBitVec.smod 32).toNat).getLsbD i = _
  rw [s_l n hn, BitVec.getLsbD_shiftLeft]
  rcases Nat.lt_or_ge i n with h | h
  · simp [h, Nat.not_le.mpr h]
  · simp [hi, h, Nat.not_lt.mpr h]
theorem b_sshr (n : Nat) (hn : n < 32) (x : Int32) {i : Nat} (hi : i < 32) : bt (x >>> (nI n &&& 31)) i = if n + i < 32 then bt x (n + i) else bt x 31 := by
  unfold bt
  rw [Int32.toBitVec_shiftRight]
  show (x.toBitVec.sshiftRight ((nI n &&& 31).toBitVec.smod 32).toNat).getLsbD i = _
  rw [s_l n hn, BitVec.getLsbD_sshiftRight, BitVec.msb_eq_getLsbD_last]
  simp [hi]
/-! ===== Int64 by its bits ===== -/
def cl_b (x : Int64) (i : Nat) : Bool := x.toBitVec.getLsbD i
theorem cl_ext {x y : Int64} (h : ∀ i, i < 64 → cl_b x i = cl_b y i) : x = y := Int64.toBitVec_inj.mp (BitVec.eq_of_getLsbD_eq (fun i hi => h i hi))
theorem cl_or (x y : Int64) (i : Nat) : cl_b (x ||| y) i = (cl_b x i || cl_b y i) := by unfold cl_b; rw [Int64.toBitVec_or, BitVec.getLsbD_or]
theorem cl_and (x y : Int64) (i : Nat) : cl_b (x &&& y) i = (cl_b x i && cl_b y i) := by unfold cl_b; rw [Int64.toBitVec_and, BitVec.getLsbD_and]
theorem cl_xor (x y : Int64) (i : Nat) : cl_b (x ^^^ y) i = (cl_b x i ^^ cl_b y i) := by unfold cl_b; rw [Int64.toBitVec_xor, BitVec.getLsbD_xor]
theorem cl_sm : ∀ n, n < 64 → (((nI n).toInt64 &&& 63).toBitVec.smod 64).toNat = n := by decide +kernel
theorem cl_shl (n : Nat) (hn : n < 64) (x : Int64) {i : Nat} (hi : i < 64) : cl_b (x <<< ((nI n).toInt64 &&& 63)) i = (decide (n ≤ i) && cl_b x (i - n)) := by
  unfold cl_b
  rw [Int64.toBitVec_shiftLeft]
  show (x.toBitVec <<< (((nI n).toInt64 &&& 63).toBitVec.smod 64).toNat).getLsbD i = _
  rw [cl_sm n hn, BitVec.getLsbD_shiftLeft]
  rcases Nat.lt_or_ge i n with h | h
  · simp [h, Nat.not_le.mpr h]
  · simp [hi, h, Nat.not_lt.mpr h]
theorem cl_shr (n : Nat) (hn : n < 64) (x : Int64) {i : Nat} (hi : i < 64) : cl_b (x >>> ((nI n).toInt64 &&& 63)) i = if n + i < 64 then cl_b x (n + i) else cl_b x 63 := by
  unfold cl_b
  rw [Int64.toBitVec_shiftRight]
  show (x.toBitVec.sshiftRight (((nI n).toInt64 &&& 63).toBitVec.smod 64).toNat).getLsbD i = _
  rw [cl_sm n hn, BitVec.getLsbD_sshiftRight, BitVec.msb_eq_getLsbD_last]
  simp [hi]
theorem cl_lo (x : Int64) {i : Nat} (hi : i < 32) : bt x.toInt32 i = cl_b x i := by
  show (x.toBitVec.signExtend 32).getLsbD i = x.toBitVec.getLsbD i
  rw [BitVec.getLsbD_signExtend, decide_eq_true hi, Bool.true_and, if_pos (by omega)]
theorem cl_wd (x : Int32) {i : Nat} (hi : i < 64) : cl_b x.toInt64 i = if i < 32 then bt x i else bt x 31 := by
  show (x.toBitVec.signExtend 64).getLsbD i = if i < 32 then x.toBitVec.getLsbD i else x.toBitVec.getLsbD 31
  rw [BitVec.getLsbD_signExtend, decide_eq_true hi, Bool.true_and, BitVec.msb_eq_getLsbD_last]
theorem cl_15 : ∀ i, i < 32 → bt 15 i = decide (i < 4) := by decide +kernel
theorem cl_7 : ∀ i, i < 32 → bt 7 i = decide (i < 3) := by decide +kernel
theorem cl_127 : ∀ i, i < 32 → bt 127 i = decide (i < 7) := by decide +kernel
theorem cl_1 : ∀ i, i < 32 → bt 1 i = decide (i < 1) := by decide +kernel
theorem cl_L127 : ∀ i, i < 64 → cl_b 127 i = decide (i < 7) := by decide +kernel
theorem cl_L128 : ∀ i, i < 64 → cl_b 128 i = decide (i = 7) := by decide +kernel
/-! ===== the parts of a capability ===== -/
def cp_r (L : Int64) : Int32 := L.toInt32 &&& 15
def cp_o (L : Int64) : Int32 := (L.toInt32 >>> ((4 : Int32) &&& 31)) &&& 7
def cp_g (L : Int64) : Int64 := L >>> ((8 : Int32).toInt64 &&& 63)
def cp_s (L : Int64) : Int32 := (L >>> ((32 : Int32).toInt64 &&& 63)).toInt32
def cp_x (o r : Int32) : Int32 := (o <<< ((4 : Int32) &&& 31)) ||| r
def cp_m (s o r : Int32) : Int64 := ((s.toInt64 <<< ((32 : Int32).toInt64 &&& 63) ||| ((cp_x o r).toInt64 <<< ((8 : Int32).toInt64 &&& 63))) ||| 128) ||| (cp_x o r).toInt64
theorem cp_rB (L : Int64) {i : Nat} (hi : i < 32) : bt (cp_r L) i = (decide (i < 4) && cl_b L i) := by
  unfold cp_r
  rw [b_and, cl_15 i hi, cl_lo L hi, Bool.and_comm]
theorem cp_oB (L : Int64) {i : Nat} (hi : i < 32) : bt (cp_o L) i = (decide (i < 3) && cl_b L (4 + i)) := by
  unfold cp_o
  rw [b_and, cl_7 i hi]
  by_cases h : i < 3
  · rw [decide_eq_true h, Bool.and_true, Bool.true_and]
    have e := b_sshr 4 (by decide) L.toInt32 hi
    rw [if_pos (by omega), cl_lo L (by omega)] at e
    exact e
  · rw [decide_eq_false h, Bool.and_false, Bool.false_and]
theorem cp_gB (L : Int64) {i : Nat} (hi : i < 56) : cl_b (cp_g L) i = cl_b L (8 + i) := by
  have e := cl_shr 8 (by decide) L (i := i) (by omega)
  rw [if_pos (by omega)] at e
  exact e
theorem cp_sB (L : Int64) {i : Nat} (hi : i < 32) : bt (cp_s L) i = cl_b L (32 + i) := by
  unfold cp_s
  rw [cl_lo _ hi]
  have e := cl_shr 32 (by decide) L (i := i) (by omega)
  rw [if_pos (by omega)] at e
  exact e
theorem cp_fit (A B : Int64) : A &&& 127 = B &&& 127 ↔ cp_o B = cp_o A ∧ cp_r B = cp_r A := by
  constructor
  · intro h
    have k : ∀ i, i < 7 → cl_b A i = cl_b B i := by
      intro i hi
      have e := congrArg (fun z => cl_b z i) h
      try dsimp only at e
      rw [cl_and, cl_and, cl_L127 i (by omega), decide_eq_true hi, Bool.and_true, Bool.and_true] at e
      exact e
    refine ⟨b_ext fun i hi => ?_, b_ext fun i hi => ?_⟩
    · rw [cp_oB _ hi, cp_oB _ hi]
      by_cases c : i < 3
      · rw [k (4 + i) (by omega)]
      · rw [decide_eq_false c, Bool.false_and, Bool.false_and]
    · rw [cp_rB _ hi, cp_rB _ hi]
      by_cases c : i < 4
      · rw [k i (by omega)]
      · rw [decide_eq_false c, Bool.false_and, Bool.false_and]
  · intro ⟨h1, h2⟩
    refine cl_ext fun i hi => ?_
    rw [cl_and, cl_and, cl_L127 i hi]
    by_cases c : i < 4
    · have e := congrArg (fun z => bt z i) h2
      try dsimp only at e
      rw [cp_rB _ (by omega), cp_rB _ (by omega), decide_eq_true c, Bool.true_and, Bool.true_and] at e
      rw [e]
    · by_cases d : i < 7
      · have e := congrArg (fun z => bt z (i - 4)) h1
        try dsimp only at e
        rw [cp_oB _ (by omega), cp_oB _ (by omega), decide_eq_true (by omega), Bool.true_and, Bool.true_and, show 4 + (i - 4) = i by omega] at e
        rw [e]
      · rw [decide_eq_false d, Bool.and_false, Bool.and_false]
end
section
/-! ===== a new capability ===== -/
theorem cm_x {o r : Int32} (ho : ∀ i, 3 ≤ i → bt o i = false) (hr : ∀ i, 4 ≤ i → bt r i = false) {i : Nat} (hi : i < 32) : bt (cp_x o r) i = if i < 4 then bt r i else if i < 7 then bt o (i - 4) else false := by
  unfold cp_x
  have e := b_shl 4 (by decide) o hi
  rw [b_or]
  refine (congrArg (fun z => z || bt r i) e).trans ?_
  try dsimp only
  by_cases c : i < 4
  · rw [if_pos c, decide_eq_false (by omega), Bool.false_and, Bool.false_or]
  · rw [if_neg c, hr i (by omega), Bool.or_false, decide_eq_true (by omega), Bool.true_and]
    by_cases d : i < 7
    · rw [if_pos d]
    · rw [if_neg d, ho (i - 4) (by omega)]
theorem cm_xw {o r : Int32} (ho : ∀ i, 3 ≤ i → bt o i = false) (hr : ∀ i, 4 ≤ i → bt r i = false) {i : Nat} (hi : i < 64) : cl_b (cp_x o r).toInt64 i = if i < 4 then bt r i else if i < 7 then bt o (i - 4) else false := by
  rw [cl_wd _ hi]
  by_cases c : i < 32
  · rw [if_pos c, cm_x ho hr c]
  · rw [if_neg c, cm_x ho hr (by decide), if_neg (by decide), if_neg (by decide), if_neg (by omega), if_neg (by omega)]
theorem cm_b {s o r : Int32} (ho : ∀ i, 3 ≤ i → bt o i = false) (hr : ∀ i, 4 ≤ i → bt r i = false) {i : Nat} (hi : i < 64) :
    cl_b (cp_m s o r) i = ((((decide (32 ≤ i) && (if i - 32 < 32 then bt s (i - 32) else bt s 31)) || (decide (8 ≤ i) && (if i - 8 < 4 then bt r (i - 8) else if i - 8 < 7 then bt o (i - 8 - 4) else false))) || decide (i = 7)) || (if i < 4 then bt r i else if i < 7 then bt o (i - 4) else false)) := by
  unfold cp_m
  have e1 := cl_shl 32 (by decide) s.toInt64 hi
  have e2 := cl_shl 8 (by decide) (cp_x o r).toInt64 hi
  rw [cl_wd s (by omega)] at e1
  rw [cm_xw ho hr (by omega)] at e2
  rw [cl_or, cl_or, cl_or, cl_L128 i hi, cm_xw ho hr hi]
  exact congrArg (fun z => (z || decide (i = 7)) || (if i < 4 then bt r i else if i < 7 then bt o (i - 4) else false)) (congr (congrArg (fun a b => a || b) e1) e2)
theorem cm_r {s o r : Int32} (ho : ∀ i, 3 ≤ i → bt o i = false) (hr : ∀ i, 4 ≤ i → bt r i = false) : cp_r (cp_m s o r) = r := by
  refine b_ext fun i hi => ?_
  rw [cp_rB _ hi]
  by_cases c : i < 4
  · rw [cm_b ho hr (by omega), if_pos c, decide_eq_true c, decide_eq_false (show ¬ 32 ≤ i by omega), decide_eq_false (show ¬ 8 ≤ i by omega), decide_eq_false (show ¬ i = 7 by omega)]
    simp
  · rw [decide_eq_false c, Bool.false_and, hr i (by omega)]
theorem cm_o {s o r : Int32} (ho : ∀ i, 3 ≤ i → bt o i = false) (hr : ∀ i, 4 ≤ i → bt r i = false) : cp_o (cp_m s o r) = o := by
  refine b_ext fun i hi => ?_
  rw [cp_oB _ hi]
  by_cases c : i < 3
  · rw [cm_b ho hr (by omega), if_neg (show ¬ 4 + i < 4 by omega), if_pos (show 4 + i < 7 by omega), decide_eq_true c, decide_eq_false (show ¬ 32 ≤ 4 + i by omega), decide_eq_false (show ¬ 8 ≤ 4 + i by omega), decide_eq_false (show ¬ 4 + i = 7 by omega), show 4 + i - 4 = i by omega]
    simp
  · rw [decide_eq_false c, Bool.false_and, ho i (by omega)]
theorem cm_gr {s o r : Int32} (ho : ∀ i, 3 ≤ i → bt o i = false) (hr : ∀ i, 4 ≤ i → bt r i = false) : cp_r (cp_g (cp_m s o r)) = r := by
  refine b_ext fun i hi => ?_
  rw [cp_rB _ hi]
  by_cases c : i < 4
  · rw [cp_gB _ (by omega), cm_b ho hr (by omega), show 8 + i - 8 = i by omega, if_pos c, if_neg (show ¬ 8 + i < 4 by omega), if_neg (show ¬ 8 + i < 7 by omega), decide_eq_true c, decide_eq_false (show ¬ 32 ≤ 8 + i by omega), decide_eq_true (show 8 ≤ 8 + i by omega), decide_eq_false (show ¬ 8 + i = 7 by omega)]
    simp
  · rw [decide_eq_false c, Bool.false_and, hr i (by omega)]
theorem cm_go {s o r : Int32} (ho : ∀ i, 3 ≤ i → bt o i = false) (hr : ∀ i, 4 ≤ i → bt r i = false) : cp_o (cp_g (cp_m s o r)) = o := by
  refine b_ext fun i hi => ?_
  rw [cp_oB _ hi]
  by_cases c : i < 3
  · rw [cp_gB _ (by omega), cm_b ho hr (by omega), show 8 + (4 + i) - 8 = 4 + i by omega, if_neg (show ¬ 4 + i < 4 by omega), if_pos (show 4 + i < 7 by omega), if_neg (show ¬ 8 + (4 + i) < 4 by omega), if_neg (show ¬ 8 + (4 + i) < 7 by omega), decide_eq_true c, decide_eq_false (show ¬ 32 ≤ 8 + (4 + i) by omega), decide_eq_true (show 8 ≤ 8 + (4 + i) by omega), decide_eq_false (show ¬ 8 + (4 + i) = 7 by omega), show 4 + i - 4 = i by omega]
    simp
  · rw [decide_eq_false c, Bool.false_and, ho i (by omega)]
theorem cm_s {s o r : Int32} (ho : ∀ i, 3 ≤ i → bt o i = false) (hr : ∀ i, 4 ≤ i → bt r i = false) : cp_s (cp_m s o r) = s := by
  refine b_ext fun i hi => ?_
  rw [cp_sB _ hi, cm_b ho hr (by omega), show 32 + i - 32 = i by omega, if_pos hi, if_neg (show ¬ 32 + i - 8 < 4 by omega), if_neg (show ¬ 32 + i - 8 < 7 by omega), if_neg (show ¬ 32 + i < 4 by omega), if_neg (show ¬ 32 + i < 7 by omega), decide_eq_true (show 32 ≤ 32 + i by omega), decide_eq_false (show ¬ 32 + i = 7 by omega)]
  simp
theorem cm_7 {s o r : Int32} (ho : ∀ i, 3 ≤ i → bt o i = false) (hr : ∀ i, 4 ≤ i → bt r i = false) : cl_b (cp_m s o r) 7 = true := by
  rw [cm_b ho hr (by decide)]
  simp
theorem cm_nz {L : Int64} (h : cl_b L 7 = true) : L ≠ 0 := by
  intro e
  subst e
  exact absurd h (by decide)
theorem cm_hi (n k : Nat) (h : n < 2 ^ k) : ∀ i, k ≤ i → bt (nI n) i = false := by
  intro i hi
  show (BitVec.ofNat 32 n).getLsbD i = false
  rw [BitVec.getLsbD_ofNat, Nat.testBit_lt_two_pow (Nat.lt_of_lt_of_le h (Nat.pow_le_pow_right (by decide) hi)), Bool.and_false]
/-! ===== a changed capability ===== -/
theorem cx_b (p : Int32) {i : Nat} (hi : i < 64) : cl_b (p &&& 127).toInt64 i = (decide (i < 7) && bt p i) := by
  rw [cl_wd _ hi]
  by_cases c : i < 7
  · rw [if_pos (by omega), b_and, cl_127 i (by omega), Bool.and_comm]
  · rw [decide_eq_false c, Bool.false_and]
    by_cases d : i < 32
    · rw [if_pos d, b_and, cl_127 i d, decide_eq_false c, Bool.and_false]
    · rw [if_neg d, b_and, cl_127 31 (by decide)]
      simp
theorem cx_r (L : Int64) (p : Int32) : cp_r (L ^^^ (p &&& 127).toInt64) = cp_r L ^^^ (p &&& 15) := by
  refine b_ext fun i hi => ?_
  rw [cp_rB _ hi, b_xor, cp_rB _ hi, b_and, cl_15 i hi, cl_xor, cx_b p (by omega)]
  by_cases c : i < 4
  · rw [decide_eq_true c, decide_eq_true (show i < 7 by omega)]
    simp
  · rw [decide_eq_false c]
    simp
theorem cx_o (L : Int64) (p : Int32) : cp_o (L ^^^ (p &&& 127).toInt64) = cp_o L ^^^ ((p >>> ((4 : Int32) &&& 31)) &&& 7) := by
  refine b_ext fun i hi => ?_
  rw [cp_oB _ hi, b_xor, cp_oB _ hi, b_and, cl_7 i hi]
  by_cases c : i < 3
  · have e := b_sshr 4 (by decide) p hi
    rw [if_pos (by omega)] at e
    rw [cl_xor, cx_b p (by omega), decide_eq_true c, decide_eq_true (show 4 + i < 7 by omega), Bool.true_and, Bool.true_and, Bool.true_and, Bool.and_true]
    exact congrArg (fun z => cl_b L (4 + i) ^^ z) e.symm
  · rw [decide_eq_false c]
    simp
theorem cx_hi (L : Int64) (p : Int32) {i : Nat} (h7 : 7 ≤ i) (hi : i < 64) : cl_b (L ^^^ (p &&& 127).toInt64) i = cl_b L i := by
  rw [cl_xor, cx_b p hi, decide_eq_false (by omega), Bool.false_and, Bool.xor_false]
theorem cx_gr (L : Int64) (p : Int32) : cp_r (cp_g (L ^^^ (p &&& 127).toInt64)) = cp_r (cp_g L) := by
  refine b_ext fun i hi => ?_
  rw [cp_rB _ hi, cp_rB _ hi]
  by_cases c : i < 4
  · rw [cp_gB _ (by omega), cp_gB _ (by omega), cx_hi L p (by omega) (by omega)]
  · rw [decide_eq_false c, Bool.false_and, Bool.false_and]
theorem cx_go (L : Int64) (p : Int32) : cp_o (cp_g (L ^^^ (p &&& 127).toInt64)) = cp_o (cp_g L) := by
  refine b_ext fun i hi => ?_
  rw [cp_oB _ hi, cp_oB _ hi]
  by_cases c : i < 3
  · rw [cp_gB _ (by omega), cp_gB _ (by omega), cx_hi L p (by omega) (by omega)]
  · rw [decide_eq_false c, Bool.false_and, Bool.false_and]
theorem cx_s (L : Int64) (p : Int32) : cp_s (L ^^^ (p &&& 127).toInt64) = cp_s L := by
  refine b_ext fun i hi => ?_
  rw [cp_sB _ hi, cp_sB _ hi, cx_hi L p (by omega) (by omega)]
/-! ===== ranges, copy's place, a right, fresh secrets ===== -/
theorem cp_rN (L : Int64) : ∃ b, b < 16 ∧ cp_r L = nI b := pk_andE L.toInt32 4 (by decide)
theorem cp_oN (L : Int64) : ∃ a, a < 8 ∧ cp_o L = nI a := pk_andE _ 3 (by decide)
theorem cy_lo (p : Int32) : p &&& 7 = (p &&& 15) &&& 7 := by
  refine b_ext fun i hi => ?_
  rw [b_and, b_and, b_and, cl_7 i hi, cl_15 i hi]
  by_cases c : i < 3
  · rw [decide_eq_true (show i < 4 by omega), Bool.and_true]
  · rw [decide_eq_false c, Bool.and_false, Bool.and_false]
theorem cy_hi (p : Int32) : (p >>> ((3 : Int32) &&& 31)) &&& 1 = ((p &&& 15) >>> ((3 : Int32) &&& 31)) &&& 1 := by
  refine b_ext fun i hi => ?_
  rw [b_and, b_and, cl_1 i hi]
  by_cases c : i < 1
  · have e1 := b_sshr 3 (by decide) p hi
    have e2 := b_sshr 3 (by decide) (p &&& 15) hi
    rw [if_pos (by omega)] at e1 e2
    rw [b_and, cl_15 _ (by omega), decide_eq_true (show 3 + i < 4 by omega), Bool.and_true] at e2
    exact congrArg (fun z => z && decide (i < 1)) (e1.trans e2.symm)
  · rw [decide_eq_false c, Bool.and_false, Bool.and_false]
theorem cy_tab : ∀ j, j < 16 → (((nI j) >>> ((3 : Int32) &&& 31)) &&& 1) * 8 + (nI j &&& 7) = nI j := by decide +kernel
theorem cy_at (p : Int32) : ∃ j, j < 16 ∧ p &&& 15 = nI j ∧ ((p >>> ((3 : Int32) &&& 31)) &&& 1) * 8 + (p &&& 7) = nI j := by
  obtain ⟨j, hj, e⟩ := pk_andE p (m := 15) 4 (by decide)
  refine ⟨j, hj, e, ?_⟩
  rw [cy_hi, cy_lo, e]
  exact cy_tab j hj
def cq_ok (q : Int32) : Prop := ∀ b, b < 16 → ((nI b &&& q) = q ↔ ¬ (nI b &&& q) = 0)
theorem cq_1 : cq_ok 1 := by unfold cq_ok; decide +kernel
theorem cq_2 : cq_ok 2 := by unfold cq_ok; decide +kernel
theorem cq_4 : cq_ok 4 := by unfold cq_ok; decide +kernel
theorem cq_8 : cq_ok 8 := by unfold cq_ok; decide +kernel
theorem cq_and : ∀ b, b < 16 → ∀ c, c < 16 → ∃ d, d < 16 ∧ nI b &&& nI c = nI d := by
  intro b hb c hc
  obtain ⟨d, hd, e⟩ := pk_andE (nI b &&& nI c) (m := 15) 4 (by decide)
  refine ⟨d, hd, ?_⟩
  rw [← e]
  exact (by decide +kernel : ∀ b, b < 16 → ∀ c, c < 16 → nI b &&& nI c = (nI b &&& nI c) &&& 15) b hb c hc
theorem cf_inv : (1640531527 : Int32) * (-340573321) = 1 := by decide
theorem cf_ne {s : Int32} {j : Nat} (hj : j + 1 < 2 ^ 31) : ¬ s + nI (j + 1) * 1640531527 = s := by
  intro h
  have h1 : nI (j + 1) * 1640531527 = 0 := by
    have := congrArg (fun z => z - s) h
    try dsimp only at this
    rw [Int32.add_comm, Int32.add_sub_cancel, Int32.sub_self] at this
    exact this
  have h2 : nI (j + 1) = 0 := by
    rw [← Int32.mul_one (nI (j + 1)), ← cf_inv, ← Int32.mul_assoc, h1, Int32.zero_mul]
  rw [← nI_0, nI_eq hj (by decide)] at h2
  omega
theorem cf_st (s : Int32) (j : Nat) : s + nI j * 1640531527 = (s + (-1640531527)) + nI (j + 1) * 1640531527 := by
  rw [← nI_1]
  generalize nI j = x
  grind
end
