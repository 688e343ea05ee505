theorem pk_us {f : Nat → Int32} {k : Nat} {x : Int32} : upd f k x k = x := if_pos rfl
theorem pk_un {f : Nat → Int32} {k j : Nat} {x : Int32} (h : j ≠ k) : upd f k x j = f j := if_neg h
theorem pk_uLs {f : Nat → Int64} {k : Nat} {x : Int64} : vp_updL f k x k = x := if_pos rfl
theorem pk_uLn {f : Nat → Int64} {k j : Nat} {x : Int64} (h : j ≠ k) : vp_updL f k x j = f j := if_neg h
theorem pk_mul (a b : Nat) : nI a * nI b = nI (a * b) := (Int32.ofNat_mul a b).symm
theorem pk_in {x : Int32} (n N : Nat) (h : n < N) (hx : x = nI n := by rfl) (hN : N < 2 ^ 31 := by omega) : vp_in x N := by
  subst hx
  exact vp_in_nI h hN
theorem pk_cl {x : Int32} (n : Nat) (hx : x = nI n := by rfl) (h : n < 2 ^ 31 := by omega) : x.toNatClampNeg = n := by
  subst hx
  exact nI_clamp h
theorem pk_tn {n : Nat} (h : n < 2 ^ 32) : (nI n).toBitVec.toNat = n := Nat.mod_eq_of_lt h
theorem pk_and (x : Int32) {m : Int32} (k : Nat) (hm : m.toBitVec.toNat = 2 ^ k - 1) : x &&& m = nI (x.toBitVec.toNat % 2 ^ k) := by
  apply Int32.toBitVec_inj.mp
  apply BitVec.eq_of_toNat_eq
  rw [Int32.toBitVec_and, BitVec.toNat_and, hm, Nat.and_two_pow_sub_one_eq_mod]
  show _ = (BitVec.ofNat 32 _).toNat
  rw [BitVec.toNat_ofNat]
  exact (Nat.mod_eq_of_lt (Nat.lt_of_le_of_lt (Nat.mod_le _ _) x.toBitVec.isLt)).symm
theorem pk_andE (x : Int32) {m : Int32} (k : Nat) (hm : m.toBitVec.toNat = 2 ^ k - 1) : ∃ j : Nat, j < 2 ^ k ∧ x &&& m = nI j := ⟨_, Nat.mod_lt _ (Nat.two_pow_pos k), pk_and x k hm⟩
/-! ===== Int32 by its bits: bt x i ===== -/
def bt (x : Int32) (i : Nat) : Bool := x.toBitVec.getLsbD i
theorem b_ext {x y : Int32} (h : ∀ i, i < 32 → bt x i = bt y i) : x = y := Int32.toBitVec_inj.mp (BitVec.eq_of_getLsbD_eq (fun i hi => h i hi))
theorem b_or (x y : Int32) (i : Nat) : bt (x ||| y) i = (bt x i || bt y i) := by unfold bt; rw [Int32.toBitVec_or, BitVec.getLsbD_or]
theorem b_and (x y : Int32) (i : Nat) : bt (x &&& y) i = (bt x i && bt y i) := by unfold bt; rw [Int32.toBitVec_and, BitVec.getLsbD_and]
theorem b_xor (x y : Int32) (i : Nat) : bt (x ^^^ y) i = (bt x i ^^ bt y i) := by unfold bt; rw [Int32.toBitVec_xor, BitVec.getLsbD_xor]
theorem b_big {x : Int32} {i : Nat} (h : 32 ≤ i) : bt x i = false := BitVec.getLsbD_of_ge _ _ h
theorem b_0 (i : Nat) : bt 0 i = false := BitVec.getLsbD_zero
theorem s_l : ∀ n, n < 32 → ((nI n &&& 31).toBitVec.smod 32).toNat = n := by decide +kernel
theorem b_shl (n : Nat) (hn : n < 32) (x : Int32) {i : Nat} (hi : i < 32) : bt (x <<< (nI n &&& 31)) i = (decide (n ≤ i) && bt x (i - n)) := by
  unfold bt
  rw [Int32.toBitVec_shiftLeft]
  show (x.toBitVec <<< ((nI n &&& 31).toBitVec.smod 32).toNat).getLsbD i = _
  rw [s_l n hn, BitVec.getLsbD_shiftLeft]
  rcases Nat.lt_or_ge i n with h | h
  · simp [h, Nat.not_le.mpr h]
  · simp [hi, h, Nat.not_lt.mpr h]
theorem b_sshr (n : Nat) (hn : n < 32) (x : Int32) {i : Nat} (hi : i < 32) : bt (x >>> (nI n &&& 31)) i = if n + i < 32 then bt x (n + i) else bt x 31 := by
  unfold bt
  rw [Int32.toBitVec_shiftRight]
  show (x.toBitVec.sshiftRight ((nI n &&& 31).toBitVec.smod 32).toNat).getLsbD i = _
  rw [s_l n hn, BitVec.getLsbD_sshiftRight, BitVec.msb_eq_getLsbD_last]
  simp [hi]
/-! ===== Int64 by its bits ===== -/
def cl_b (x : Int64) (i : Nat) : Bool := x.toBitVec.getLsbD i
theorem cl_ext {x y : Int64} (h : ∀ i, i < 64 → cl_b x i = cl_b y i) : x = y := Int64.toBitVec_inj.mp (BitVec.eq_of_getLsbD_eq (fun i hi => h i hi))
theorem cl_or (x y : Int64) (i : Nat) : cl_b (x ||| y) i = (cl_b x i || cl_b y i) := by unfold cl_b; rw [Int64.toBitVec_or, BitVec.getLsbD_or]
theorem cl_and (x y : Int64) (i : Nat) : cl_b (x &&& y) i = (cl_b x i && cl_b y i) := by unfold cl_b; rw [Int64.toBitVec_and, BitVec.getLsbD_and]
theorem cl_xor (x y : Int64) (i : Nat) : cl_b (x ^^^ y) i = (cl_b x i ^^ cl_b y i) := by unfold cl_b; rw [Int64.toBitVec_xor, BitVec.getLsbD_xor]
theorem cl_sm : ∀ n, n < 64 → (((nI n).toInt64 &&& 63).toBitVec.smod 64).toNat = n := by decide +kernel
theorem cl_shl (n : Nat) (hn : n < 64) (x : Int64) {i : Nat} (hi : i < 64) : cl_b (x <<< ((nI n).toInt64 &&& 63)) i = (decide (n ≤ i) && cl_b x (i - n)) := by
  unfold cl_b
  rw [Int64.toBitVec_shiftLeft]
  show (x.toBitVec <<< (((nI n).toInt64 &&& 63).toBitVec.smod 64).toNat).getLsbD i = _
  rw [cl_sm n hn, BitVec.getLsbD_shiftLeft]
  rcases Nat.lt_or_ge i n with h | h
  · simp [h, Nat.not_le.mpr h]
  · simp [hi, h, Nat.not_lt.mpr h]
theorem cl_shr (n : Nat) (hn : n < 64) (x : Int64) {i : Nat} (hi : i < 64) : cl_b (x >>> ((nI n).toInt64 &&& 63)) i = if n + i < 64 then cl_b x (n + i) else cl_b x 63 := by
  unfold cl_b
  rw [Int64.toBitVec_shiftRight]
  show (x.toBitVec.sshiftRight (((nI n).toInt64 &&& 63).toBitVec.smod 64).toNat).getLsbD i = _
  rw [cl_sm n hn, BitVec.getLsbD_sshiftRight, BitVec.msb_eq_getLsbD_last]
  simp [hi]
theorem cl_lo (x : Int64) {i : Nat} (hi : i < 32) : bt x.toInt32 i = cl_b x i := by
  show (x.toBitVec.signExtend 32).getLsbD i = x.toBitVec.getLsbD i
  rw [BitVec.getLsbD_signExtend, decide_eq_true hi, Bool.true_and, if_pos (by omega)]
theorem cl_wd (x : Int32) {i : Nat} (hi : i < 64) : cl_b x.toInt64 i = if i < 32 then bt x i else bt x 31 := by
  show (x.toBitVec.signExtend 64).getLsbD i = if i < 32 then x.toBitVec.getLsbD i else x.toBitVec.getLsbD 31
  rw [BitVec.getLsbD_signExtend, decide_eq_true hi, Bool.true_and, BitVec.msb_eq_getLsbD_last]
theorem cl_15 : ∀ i, i < 32 → bt 15 i = decide (i < 4) := by decide +kernel
theorem cl_7 : ∀ i, i < 32 → bt 7 i = decide (i < 3) := by decide +kernel
theorem cl_127 : ∀ i, i < 32 → bt 127 i = decide (i < 7) := by decide +kernel
theorem cl_1 : ∀ i, i < 32 → bt 1 i = decide (i < 1) := by decide +kernel
theorem cl_L127 : ∀ i, i < 64 → cl_b 127 i = decide (i < 7) := by decide +kernel
theorem cl_L128 : ∀ i, i < 64 → cl_b 128 i = decide (i = 7) := by decide +kernel
/-! ===== the parts of a capability ===== -/
def cp_r (L : Int64) : Int32 := L.toInt32 &&& 15
def cp_o (L : Int64) : Int32 := (L.toInt32 >>> ((4 : Int32) &&& 31)) &&& 7
def cp_g (L : Int64) : Int64 := L >>> ((8 : Int32).toInt64 &&& 63)
def cp_s (L : Int64) : Int32 := (L >>> ((32 : Int32).toInt64 &&& 63)).toInt32
def cp_x (o r : Int32) : Int32 := (o <<< ((4 : Int32) &&& 31)) ||| r
def cp_m (s o r : Int32) : Int64 := ((s.toInt64 <<< ((32 : Int32).toInt64 &&& 63) ||| ((cp_x o r).toInt64 <<< ((8 : Int32).toInt64 &&& 63))) ||| 128) ||| (cp_x o r).toInt64
theorem cp_rB (L : Int64) {i : Nat} (hi : i < 32) : bt (cp_r L) i = (decide (i < 4) && cl_b L i) := by
  unfold cp_r
  rw [b_and, cl_15 i hi, cl_lo L hi, Bool.and_comm]
theorem cp_oB (L : Int64) {i : Nat} (hi : i < 32) : bt (cp_o L) i = (decide (i < 3) && cl_b L (4 + i)) := by
  unfold cp_o
  rw [b_and, cl_7 i hi]
  by_cases h : i < 3
  · rw [decide_eq_true h, Bool.and_true, Bool.true_and]
    have e := b_sshr 4 (by decide) L.toInt32 hi
    rw [if_pos (by omega), cl_lo L (by omega)] at e
    exact e
  · rw [decide_eq_false h, Bool.and_false, Bool.false_and]
theorem cp_gB (L : Int64) {i : Nat} (hi : i < 56) : cl_b (cp_g L) i = cl_b L (8 + i) := by
  have e := cl_shr 8 (by decide) L (i := i) (by omega)
  rw [if_pos (by omega)] at e
  exact e
theorem cp_sB (L : Int64) {i : Nat} (hi : i < 32) : bt (cp_s L) i = cl_b L (32 + i) := by
  unfold cp_s
  rw [cl_lo _ hi]
  have e := cl_shr 32 (by decide) L (i := i) (by omega)
  rw [if_pos (by omega)] at e
  exact e
theorem cp_fit (A B : Int64) : A &&& 127 = B &&& 127 ↔ cp_o B = cp_o A ∧ cp_r B = cp_r A := by
  constructor
  · intro h
    have k : ∀ i, i < 7 → cl_b A i = cl_b B i := by
      intro i hi
      have e := congrArg (fun z => cl_b z i) h
      try dsimp only at e
      rw [cl_and, cl_and, cl_L127 i (by omega), decide_eq_true hi, Bool.and_true, Bool.and_true] at e
      exact e
    refine ⟨b_ext fun i hi => ?_, b_ext fun i hi => ?_⟩
    · rw [cp_oB _ hi, cp_oB _ hi]
      by_cases c : i < 3
      · rw [k (4 + i) (by omega)]
      · rw [decide_eq_false c, Bool.false_and, Bool.false_and]
    · rw [cp_rB _ hi, cp_rB _ hi]
      by_cases c : i < 4
      · rw [k i (by omega)]
      · rw [decide_eq_false c, Bool.false_and, Bool.false_and]
  · intro ⟨h1, h2⟩
    refine cl_ext fun i hi => ?_
    rw [cl_and, cl_and, cl_L127 i hi]
    by_cases c : i < 4
    · have e := congrArg (fun z => bt z i) h2
      try dsimp only at e
      rw [cp_rB _ (by omega), cp_rB _ (by omega), decide_eq_true c, Bool.true_and, Bool.true_and] at e
      rw [e]
    · by_cases d : i < 7
      · have e := congrArg (fun z => bt z (i - 4)) h1
        try dsimp only at e
        rw [cp_oB _ (by omega), cp_oB _ (by omega), decide_eq_true (by omega), Bool.true_and, Bool.true_and, show 4 + (i - 4) = i by omega] at e
        rw [e]
      · rw [decide_eq_false d, Bool.and_false, Bool.and_false]
