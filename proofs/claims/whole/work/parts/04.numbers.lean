/-! NUMBERS: what the machine's words are on whole numbers -/
theorem bm_32 (z : Int) : Int32.ofInt (bm z) = Int32.ofInt z := Int32.ofInt_toInt _
theorem bl_64 (z : Int) : Int64.ofInt (bl z) = Int64.ofInt z := Int64.ofInt_toInt _
theorem bm_id {z : Int} (h1 : -2147483648 ≤ z) (h2 : z < 2147483648) : bm z = z := Int32.toInt_ofInt_of_le h1 h2
theorem bl_id {z : Int} (h1 : -9223372036854775808 ≤ z) (h2 : z < 9223372036854775808) : bl z = z := Int64.toInt_ofInt_of_le h1 h2
theorem bm_lo (z : Int) : -2147483648 ≤ bm z := Int32.minValue_le_toInt _
theorem bm_hi (z : Int) : bm z < 2147483648 := Int32.toInt_lt _
theorem bm_bm (z : Int) : bm (bm z) = bm z := bm_id (bm_lo z) (bm_hi z)
def iDiv (a b : Int) : Int := (Int32.ofInt a / Int32.ofInt b).toInt
def iRem (a b : Int) : Int := (Int32.ofInt a - Int32.ofInt a / Int32.ofInt b * Int32.ofInt b).toInt
def iAnd (a b : Int) : Int := (Int32.ofInt a &&& Int32.ofInt b).toInt
def iOr (a b : Int) : Int := (Int32.ofInt a ||| Int32.ofInt b).toInt
def iXor (a b : Int) : Int := (Int32.ofInt a ^^^ Int32.ofInt b).toInt
def iShl (a b : Int) : Int := (Int32.ofInt a <<< (Int32.ofInt b &&& 31)).toInt
def iShr (a b : Int) : Int := (Int32.ofInt a >>> (Int32.ofInt b &&& 31)).toInt
def iUshr (a b : Int) : Int := ((Int32.ofInt a).toUInt32 >>> ((Int32.ofInt b).toUInt32 &&& Int32.toUInt32 31)).toInt32.toInt
def iB (a : Int) : Int := (Int32.ofInt a).toInt8.toInt32.toInt
def iC (a : Int) : Int := ((Int32.ofInt a).toUInt32 % 65536).toInt32.toInt
def lDiv (a b : Int) : Int := (Int64.ofInt a / Int64.ofInt b).toInt
def lRem (a b : Int) : Int := (Int64.ofInt a - Int64.ofInt a / Int64.ofInt b * Int64.ofInt b).toInt
def lAnd (a b : Int) : Int := (Int64.ofInt a &&& Int64.ofInt b).toInt
def lOr (a b : Int) : Int := (Int64.ofInt a ||| Int64.ofInt b).toInt
def lShl (a b : Int) : Int := (Int64.ofInt a <<< ((Int32.ofInt b).toInt64 &&& 63)).toInt
def lShr (a b : Int) : Int := (Int64.ofInt a >>> ((Int32.ofInt b).toInt64 &&& 63)).toInt
def lCmp (a b : Int) : Int := if bl a > bl b then 1 else if bl a = bl b then 0 else -1
theorem vI_of (x : Int32) : vI x.toInt = .int x := by unfold vI; rw [Int32.ofInt_toInt]
theorem vL_of (x : Int64) : vL x.toInt = .long x := by unfold vL; rw [Int64.ofInt_toInt]
theorem eq_bm (a b : Int) : Int32.ofInt a = Int32.ofInt b ↔ bm a = bm b := Int32.toInt_inj.symm
theorem lt_bm (a b : Int) : Int32.ofInt a < Int32.ofInt b ↔ bm a < bm b := Int32.lt_iff_toInt_lt
theorem le_bm (a b : Int) : Int32.ofInt a ≤ Int32.ofInt b ↔ bm a ≤ bm b := Int32.le_iff_toInt_le
theorem eq0_bm (a : Int) : Int32.ofInt a = 0 ↔ bm a = 0 := by rw [show (0 : Int32) = Int32.ofInt 0 from rfl, eq_bm]; rfl
theorem lt0_bm (a : Int) : Int32.ofInt a < 0 ↔ bm a < 0 := by rw [show (0 : Int32) = Int32.ofInt 0 from rfl, lt_bm]; rfl
theorem le0_bm (a : Int) : Int32.ofInt a ≤ 0 ↔ bm a ≤ 0 := by rw [show (0 : Int32) = Int32.ofInt 0 from rfl, le_bm]; rfl
theorem ge0_bm (a : Int) : 0 ≤ Int32.ofInt a ↔ 0 ≤ bm a := by rw [show (0 : Int32) = Int32.ofInt 0 from rfl, le_bm]; rfl
theorem gt0_bm (a : Int) : 0 < Int32.ofInt a ↔ 0 < bm a := by rw [show (0 : Int32) = Int32.ofInt 0 from rfl, lt_bm]; rfl
theorem vI_l2i (z : Int) : (Int64.ofInt z).toInt32 = Int32.ofInt z := by simp
theorem vL_i2l (z : Int) : (Int32.ofInt z).toInt64 = Int64.ofInt (bm z) := by unfold bm; rw [← Int64.toInt_inj, Int32.toInt_toInt64, Int64.toInt_ofInt_of_le (Int.le_trans (by decide) (Int32.minValue_le_toInt _)) (Int.lt_of_lt_of_le (Int32.toInt_lt _) (by decide))]
theorem vI_lcmp (a b : Int) : .int (lg_cmp (Int64.ofInt a) (Int64.ofInt b)) = vI (lCmp a b) := by
  unfold lg_cmp lCmp vI bl
  simp only [gt_iff_lt, Int64.lt_iff_toInt_lt, ← Int64.toInt_inj]
  split
  · rfl
  · split <;> rfl
theorem cl_bm {z : Int} (h : 0 ≤ bm z) : (Int32.ofInt z).toNatClampNeg = (bm z).toNat := rfl
