/-! LEAVES: the words of wp texts; numbers; bits -/
theorem BR_i {c A B : Prop} (h1 : c → A) (h2 : ¬ c → B) : BR c A B := ⟨h1, h2⟩
theorem BR_t {c A B : Prop} (h : c) (hA : A) : BR c A B := ⟨fun _ => hA, fun hn => absurd h hn⟩
theorem BR_f {c A B : Prop} (h : ¬ c) (hB : B) : BR c A B := ⟨fun hc => absurd hc h, fun _ => hB⟩
theorem BR_if {c A B : Prop} [Decidable c] : BR c A B = if c then A else B := by by_cases h : c <;> simp [BR, h]
theorem LET_eq {α : Type} {e : α} {f : α → Prop} : LET e f = f e := rfl
theorem up_c {M : Mem} {k i a : Nat} {v : Int} (h : a ≠ k) : up M k i v a = M a := by funext j; exact up_n M v (Or.inl h)
theorem up_k (M : Mem) (k i : Nat) (v : Int) (j : Nat) : up M k i v k j = if j = i then v else M k j := by unfold up; simp
theorem up_kn {M : Mem} {k i j : Nat} {v : Int} (h : j ≠ i) : up M k i v k j = M k j := up_n M v (Or.inr h)
theorem wr_c {M : Mem} {k a : Nat} {i v : Int} (h : a ≠ k) : wr M k i v a = M a := up_c h
theorem bm_nat {n : Nat} (h : n < 2147483648) : bm (n : Int) = (n : Int) := bm_id (by omega) (by omega)
theorem wr_up {M : Mem} {k n : Nat} {i v : Int} (hi : i = (n : Int)) (hn : n < 2147483648) : wr M k i v = up M k n v := by
  subst hi
  unfold wr
  rw [bm_nat hn]
  rfl
theorem rd_at {M : Mem} {k n : Nat} {i : Int} (hi : i = (n : Int)) (hn : n < 2147483648) : rd M k i = M k n := by
  subst hi
  unfold rd
  rw [bm_nat hn]
  rfl
theorem inb_of {i : Int} {n N : Nat} (hi : i = (n : Int)) (hn : n < N) (hN : N < 2147483648) : inb i N := by
  subst hi
  unfold inb
  rw [bm_nat (by omega)]
  omega
theorem bn {i : Int} {n : Nat} (hi : i = (n : Int)) (hn : n < 2147483648) : (bm i).toNat = n := by
  subst hi
  rw [bm_nat hn]
  rfl
theorem bm_z {z w : Int} (h : z = w) (h1 : -2147483648 ≤ w) (h2 : w < 2147483648) : bm z = w := by subst h; exact bm_id h1 h2
/-- two numbers are one word -/
theorem bm_congr_add {a b c d : Int} (h1 : bm a = bm b) (h2 : bm c = bm d) : bm (a + c) = bm (b + d) := by
  have e1 := (eq_bm a b).mpr h1
  have e2 := (eq_bm c d).mpr h2
  rw [← eq_bm, Int32.ofInt_add, Int32.ofInt_add, e1, e2]
theorem bm_congr_sub {a b c d : Int} (h1 : bm a = bm b) (h2 : bm c = bm d) : bm (a - c) = bm (b - d) := by
  have e1 := (eq_bm a b).mpr h1
  have e2 := (eq_bm c d).mpr h2
  rw [← eq_bm, Int32.ofInt_sub, Int32.ofInt_sub, e1, e2]
theorem bm_congr_mul {a b c d : Int} (h1 : bm a = bm b) (h2 : bm c = bm d) : bm (a * c) = bm (b * d) := by
  have e1 := (eq_bm a b).mpr h1
  have e2 := (eq_bm c d).mpr h2
  rw [← eq_bm, Int32.ofInt_mul, Int32.ofInt_mul, e1, e2]
theorem bm_congr_neg {a b : Int} (h1 : bm a = bm b) : bm (-a) = bm (-b) := by
  have e1 := (eq_bm a b).mpr h1
  rw [← eq_bm, Int32.ofInt_neg, Int32.ofInt_neg, e1]
theorem iDiv_congr {a b c d : Int} (h1 : bm a = bm b) (h2 : bm c = bm d) : iDiv a c = iDiv b d := by
  have e1 := (eq_bm a b).mpr h1
  have e2 := (eq_bm c d).mpr h2
  unfold iDiv
  rw [e1, e2]
theorem iXor_congr {a b c d : Int} (h1 : bm a = bm b) (h2 : bm c = bm d) : iXor a c = iXor b d := by
  have e1 := (eq_bm a b).mpr h1
  have e2 := (eq_bm c d).mpr h2
  unfold iXor
  rw [e1, e2]
theorem lf_within (x a b : Int) (M : Mem) (Q : Int → Mem → Prop) : wX11_within x a b M Q = if bm a ≤ bm x ∧ bm x ≤ bm b then Q 1 M else Q 0 M := by
  unfold wX11_within
  simp only [BR_if]
  split
  · rw [if_neg (by omega)]
  · split
    · rw [if_neg (by omega)]
    · rw [if_pos (by omega)]
theorem lf_in (x a b : Int) (M : Mem) (Q : Int → Mem → Prop) : wX12_in x a b M Q = if bm a ≤ bm x ∧ bm x ≤ bm b then Q 1 M else Q 0 M := by
  unfold wX12_in
  simp only [BR_if]
  split
  · rw [if_neg (by omega)]
  · split
    · rw [if_neg (by omega)]
    · rw [if_pos (by omega)]
theorem lf_min (x y : Int) (M : Mem) (Q : Int → Mem → Prop) : wJ9_min_7cf53 x y M Q = if bm y < bm x then Q y M else Q x M := by
  unfold wJ9_min_7cf53
  rw [BR_if]
theorem lf_max (x y : Int) (M : Mem) (Q : Int → Mem → Prop) : wJ9_max_7cf53 x y M Q = if bm x < bm y then Q y M else Q x M := by
  unfold wJ9_max_7cf53
  rw [BR_if]
theorem bm1 : bm 1 = 1 := by decide +kernel
theorem bm0 : bm 0 = 0 := by decide +kernel
/-- small sets, by their bits -/
theorem ofI_nat (n : Nat) : Int32.ofInt (n : Int) = Int32.ofNat n := Int32.toBitVec_inj.mp (by simp)
theorem toI_nat {n : Nat} (h : n < 2147483648) : (Int32.ofNat n).toInt = (n : Int) := by
  rw [← ofI_nat]
  exact bm_nat h
theorem iAnd_n {k j : Nat} (hk : k < 2147483648) : iAnd k j = ((k &&& j : Nat) : Int) := by
  unfold iAnd
  rw [ofI_nat, ofI_nat, show Int32.ofNat k &&& Int32.ofNat j = Int32.ofNat (k &&& j) from Int32.toBitVec_inj.mp (by simp)]
  exact toI_nat (Nat.lt_of_le_of_lt Nat.and_le_left hk)
theorem iOr_n {k j : Nat} (hk : k < 2147483648) (hj : j < 2147483648) : iOr k j = ((k ||| j : Nat) : Int) := by
  unfold iOr
  rw [ofI_nat, ofI_nat, show Int32.ofNat k ||| Int32.ofNat j = Int32.ofNat (k ||| j) from Int32.toBitVec_inj.mp (by simp)]
  exact toI_nat (Nat.or_lt_two_pow (n := 31) hk hj)
theorem iXor_n {k j : Nat} (hk : k < 2147483648) (hj : j < 2147483648) : iXor k j = ((k ^^^ j : Nat) : Int) := by
  unfold iXor
  rw [ofI_nat, ofI_nat, show Int32.ofNat k ^^^ Int32.ofNat j = Int32.ofNat (k ^^^ j) from Int32.toBitVec_inj.mp (by simp)]
  exact toI_nat (Nat.xor_lt_two_pow (n := 31) hk hj)
def all_shr : Bool := (List.range 4096).all fun k => (List.range 12).all fun i => iAnd (iShr k i) 1 == if k.testBit i then 1 else 0
theorem all_shr_t : all_shr = true := by decide +kernel
theorem shr_bit {k i : Nat} (hk : k < 4096) (hi : i < 12) : iAnd (iShr k i) 1 = if k.testBit i then 1 else 0 := by
  have h := List.all_eq_true.mp all_shr_t k (List.mem_range.mpr hk)
  have h2 := List.all_eq_true.mp h i (List.mem_range.mpr hi)
  exact eq_of_beq h2
theorem shl_one : ∀ i, i < 12 → iShl 1 (i : Nat) = ((2 ^ i : Nat) : Int) := by decide +kernel
theorem xor_m1 {k : Nat} (h : k < 2147483648) : iXor k (-1) = -(k : Int) - 1 := by
  unfold iXor
  rw [ofI_nat, show Int32.ofInt (-1) = -1 from rfl, Int32.xor_neg_one]
  rw [Int32.toInt_not, toI_nat h]
  exact Int.bmod_eq_of_le (by omega) (by omega)
def and_not (k j : Nat) : Nat := k &&& (4294967295 ^^^ j)
theorem iAnd_not {k j : Nat} (hk : k < 2147483648) (hj : j < 2147483648) : iAnd k (iXor j (-1)) = ((and_not k j : Nat) : Int) := by
  have e : Int32.ofInt (iXor j (-1)) = Int32.ofNat (4294967295 ^^^ j) := by
    unfold iXor
    rw [Int32.ofInt_toInt, ofI_nat, show Int32.ofInt (-1) = Int32.ofNat 4294967295 from by decide +kernel]
    refine Int32.toBitVec_inj.mp ?_
    simp [Nat.xor_comm]
    rw [show (4294967295#32 : BitVec 32) = BitVec.allOnes 32 from rfl, BitVec.xor_allOnes]
  unfold iAnd and_not
  rw [e, ofI_nat, show Int32.ofNat k &&& Int32.ofNat (4294967295 ^^^ j) = Int32.ofNat (k &&& (4294967295 ^^^ j)) from Int32.toBitVec_inj.mp (by simp)]
  exact toI_nat (Nat.lt_of_le_of_lt Nat.and_le_left hk)
theorem tb_ones {i : Nat} (h : i < 32) : Nat.testBit 4294967295 i = true := by
  rw [show 4294967295 = 2 ^ 32 - 1 from rfl, Nat.testBit_two_pow_sub_one]
  exact decide_eq_true h
theorem and_not_tb {k j i : Nat} (h : i < 32) : (and_not k j).testBit i = (k.testBit i && !j.testBit i) := by
  unfold and_not
  rw [Nat.testBit_and, Nat.testBit_xor, tb_ones h]
  cases j.testBit i <;> simp
theorem and_not_le (k j : Nat) : and_not k j ≤ k := Nat.and_le_left
theorem tb_big {k i n : Nat} (hk : k < 2 ^ n) (h : n ≤ i) : k.testBit i = false := Nat.testBit_lt_two_pow (Nat.lt_of_lt_of_le hk (Nat.pow_le_pow_right (by decide) h))
theorem set_ext {k j n : Nat} (hk : k < 2 ^ n) (hj : j < 2 ^ n) (h : ∀ i, i < n → k.testBit i = j.testBit i) : k = j := by
  refine Nat.eq_of_testBit_eq fun i => ?_
  rcases Nat.lt_or_ge i n with hi | hi
  · exact h i hi
  · rw [tb_big hk hi, tb_big hj hi]
theorem or_bit_tb (k p i : Nat) : (k ||| 2 ^ p).testBit i = (k.testBit i || decide (p = i)) := by rw [Nat.testBit_or, Nat.testBit_two_pow]
theorem or_bit_lt {k p n : Nat} (hk : k < 2 ^ n) (hp : p < n) : k ||| 2 ^ p < 2 ^ n := Nat.or_lt_two_pow hk (Nat.pow_lt_pow_right (by decide) hp)
theorem lf_isIn {x i : Int} {k j : Nat} (hx : x = k) (hi : i = j) (hk : k < 4096) (hj : j < 12) (M : Mem) (Q : Int → Mem → Prop) : wX11_isIn x i M Q = if k.testBit j then Q 1 M else Q 0 M := by
  subst hx
  subst hi
  unfold wX11_isIn
  rw [BR_if, shr_bit hk hj]
  by_cases h : k.testBit j = true
  · simp only [h, if_true, bm1]
    rfl
  · simp only [h, bm0]
    rfl
/-- how many -/
def popn (k : Nat) : Nat → Nat
  | 0 => 0
  | n + 1 => popn k n + (if k.testBit n then 1 else 0)
def pop (k : Nat) : Nat := popn k 12
theorem popn_le (k : Nat) : ∀ n, popn k n ≤ n
  | 0 => Nat.le_refl 0
  | n + 1 => by
    have := popn_le k n
    unfold popn
    split <;> omega
theorem pop_le (k : Nat) : pop k ≤ 12 := popn_le k 12
def bc1 (x : Int) : Int := x - iAnd (iUshr x 1) 1431655765
def bc2 (x : Int) : Int := iAnd x 858993459 + iAnd (iUshr x 2) 858993459
def bc3 (x : Int) : Int := iAnd (x + iUshr x 4) 252645135
def bc4 (x : Int) : Int := x + iUshr x 8
def bc5 (x : Int) : Int := x + iUshr x 16
def bcf (x : Int) : Int := iAnd (bc5 (bc4 (bc3 (bc2 (bc1 x))))) 63
def all_pop : Bool := (List.range 4096).all fun k => bcf k == (pop k : Int)
theorem all_pop_t : all_pop = true := by decide +kernel
theorem lf_bitCount {x : Int} {k : Nat} (hx : x = k) (hk : k < 4096) (M : Mem) (Q : Int → Mem → Prop) : wJ6_bitCount_0f7a4 x M Q = Q (pop k) M := by
  subst hx
  have h := eq_of_beq (List.all_eq_true.mp all_pop_t k (List.mem_range.mpr hk))
  rw [← h]
  rfl
theorem lf_ones_L {Q : Int → Mem → Prop} {M : Mem} {k : Nat} (hk : k < 4096) (hQ : Q (pop k) M) : ∀ (n i : Nat), i + n = 12 → ∀ x1 x2 : Int, x1 = popn k i → x2 = i → wX12_ones_L4 Q k (n + 1) x1 x2 M
  | 0, i, hi, x1, x2, h1, h2 => by
    subst h1 h2
    obtain rfl : i = 12 := by omega
    unfold wX12_ones_L4
    exact BR_t (by decide +kernel) hQ
  | n + 1, i, hi, x1, x2, h1, h2 => by
    subst h1 h2
    unfold wX12_ones_L4
    refine BR_f (by rw [bm_nat (by omega)]; omega) ?_
    rw [LET_eq, LET_eq]
    refine lf_ones_L hk hQ n (i + 1) (by omega) _ _ ?_ (by omega)
    rw [shr_bit hk (by omega), show popn k (i + 1) = popn k i + (if k.testBit i then 1 else 0) from rfl]
    cases k.testBit i <;> rfl
theorem lf_ones {x : Int} {k : Nat} (hx : x = k) (hk : k < 4096) {M : Mem} {Q : Int → Mem → Prop} (hQ : Q (pop k) M) : wX12_ones x M Q := by
  subst hx
  exact ⟨13, lf_ones_L hk hQ 12 0 (by omega) _ _ rfl rfl⟩
