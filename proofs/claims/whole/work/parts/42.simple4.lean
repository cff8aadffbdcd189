/-! feed, count -/
theorem lAnd255 (v : Int) : lAnd v 255 = v % 256 := by
  unfold lAnd
  have h : (Int64.ofInt v &&& Int64.ofInt 255).toBitVec = BitVec.ofInt 64 v &&& 255#64 := rfl
  have hn : (BitVec.ofInt 64 v &&& 255#64).toNat = (v % 256).toNat := by
    rw [BitVec.toNat_and, BitVec.toNat_ofInt, show (255#64).toNat = 2 ^ 8 - 1 from rfl, Nat.and_two_pow_sub_one_eq_mod]
    omega
  show (Int64.ofInt v &&& Int64.ofInt 255).toBitVec.toInt = _
  rw [h, BitVec.toInt_eq_toNat_of_lt (by rw [hn]; omega), hn]
  omega
theorem iB_bmod (v : Int) : iB v = Int.bmod v 256 := by
  unfold iB
  rw [Int8.toInt_toInt32, Int32.toInt_toInt8]
  show Int.bmod (bm v) (2 ^ 8) = _
  unfold bm
  rw [Int32.toInt_ofInt]
  exact Int.bmod_bmod_of_dvd (by decide)
theorem iB2 (v : Int) : iB (iB v) = Int.bmod v 256 := by rw [iB_bmod, iB_bmod, Int.bmod_bmod]
theorem bmod_r (v : Int) : -128 ≤ Int.bmod v 256 ∧ Int.bmod v 256 < 128 ∧ Int.bmod v 256 % 256 = v % 256 := by
  refine ⟨?_, ?_, ?_⟩
  · have := Int.le_bmod (x := v) (m := 256) (by decide)
    omega
  · have := Int.bmod_lt (x := v) (m := 256) (by decide)
    omega
  · exact Int.bmod_emod
/-- the class lays bytes -/
theorem fd_c {Q : Int → Mem → Prop} {E : Mem → Prop} {M0 : Mem} {n k : Nat} {w : Int} (hn : M0 2 8 = (n : Int)) (hk : n + k ≤ 50) (hQ : ∀ M', (∀ a, a ≠ 7 → M' a = M0 a) → (∀ j, M' 7 j = if n ≤ j ∧ j < n + k then Int.bmod (lShr w (8 * ((j - n : Nat) : Int))) 256 else M0 7 j) → E M') : ∀ (m i : Nat) (M : Mem) (x : Int), i + m = k → x = (i : Int) → (∀ a, a ≠ 7 → M a = M0 a) → (∀ j, M 7 j = if n ≤ j ∧ j < n + i then Int.bmod (lShr w (8 * ((j - n : Nat) : Int))) 256 else M0 7 j) → wX11_feed_L39 Q E 1 w (k : Int) (m + 1) x M
  | 0, i, M, x, hi, hx, h1, h2 => by
    subst hx
    unfold wX11_feed_L39
    rw [bm_nat (n := k) (by omega), bm_nat (n := i) (by omega)]
    refine BR_t (by omega) (hQ M h1 ?_)
    rw [show k = i by omega]
    exact h2
  | m + 1, i, M, x, hi, hx, h1, h2 => by
    subst hx
    unfold wX11_feed_L39
    rw [bm_nat (n := k) (by omega), bm_nat (n := i) (by omega)]
    have e8 : M 2 8 = (n : Int) := by rw [h1 2 (by decide)]; exact hn
    rw [show (1 : Nat) + 1 = 2 from rfl, show (1 : Nat) + 6 = 7 from rfl, e8]
    refine BR_f (by omega) ⟨inb_of (n := n + i) (by omega) (by omega) (by decide), LET_i (LET_i ?_)⟩
    rw [wr_up (n := n + i) (by omega) (by omega), iB2]
    refine fd_c hn hk hQ m (i + 1) _ _ (by omega) (by omega) (fun a ha => by rw [up_c ha]; exact h1 a ha) (fun j => ?_)
    rw [up_k]
    by_cases hj : j = n + i
    · subst hj
      rw [if_pos rfl, if_pos (by omega), show n + i - n = i by omega]
    · rw [if_neg hj, h2]
      by_cases hj2 : n ≤ j ∧ j < n + i
      · rw [if_pos hj2, if_pos (by omega)]
      · rw [if_neg hj2, if_neg (by omega)]
theorem fd_m {Q : Int → Mem → Prop} {M0 : Mem} {n k : Nat} {w : Int} (hn : M0 126 4 = (n : Int)) (hk : n + k ≤ 50) (hQ : ∀ M', (∀ a, a ≠ 126 → M' a = M0 a) → (∀ j, M' 126 j = if j = 4 then ((n + k : Nat) : Int) else if 1460 + n ≤ j ∧ j < 1460 + n + k then lShr w (8 * ((j - (1460 + n) : Nat) : Int)) % 256 else M0 126 j) → Q ((n + k : Nat) : Int) M') : ∀ (m i : Nat) (M : Mem) (x : Int), i + m = k → x = (i : Int) → (∀ a, a ≠ 126 → M a = M0 a) → (∀ j, M 126 j = if j = 4 then ((n + i : Nat) : Int) else if 1460 + n ≤ j ∧ j < 1460 + n + i then lShr w (8 * ((j - (1460 + n) : Nat) : Int)) % 256 else M0 126 j) → wX12_feed_L38 Q 125 w (k : Int) (m + 1) x M
  | 0, i, M, x, hi, hx, h1, h2 => by
    subst hx
    unfold wX12_feed_L38
    rw [bm_nat (n := k) (by omega), bm_nat (n := i) (by omega)]
    rw [show (125 : Nat) + 1 = 126 from rfl, rd_at (i := 4) (n := 4) rfl (by decide), h2 4, if_pos rfl]
    obtain rfl : k = i := by omega
    exact BR_t (by omega) (hQ M h1 h2)
  | m + 1, i, M, x, hi, hx, h1, h2 => by
    subst hx
    unfold wX12_feed_L38
    rw [bm_nat (n := k) (by omega), bm_nat (n := i) (by omega)]
    have e4 : M 126 4 = ((n + i : Nat) : Int) := by rw [h2, if_pos rfl]
    have r4 : ∀ N : Mem, rd N 126 4 = N 126 4 := fun N => rd_at (i := 4) (n := 4) rfl (by decide)
    rw [show (125 : Nat) + 1 = 126 from rfl, r4, e4]
    refine BR_f (by omega) ⟨inb_of (n := 1460 + (n + i)) (by omega) (by omega) (by decide), LET_i (LET_i (LET_i ?_))⟩
    rw [wr_up (i := 1460 + ((n + i : Nat) : Int)) (n := 1460 + (n + i)) (by omega) (by omega), lAnd255, r4, up_kn (by omega), e4, wr_up (n := 4) (i := 4) rfl (by omega)]
    refine fd_m hn hk hQ m (i + 1) _ _ (by omega) (by omega) (fun a ha => by rw [up_c ha, up_c ha]; exact h1 a ha) (fun j => ?_)
    rw [up_k, up_k]
    by_cases hj4 : j = 4
    · rw [if_pos hj4, if_pos hj4]
      omega
    · rw [if_neg hj4, if_neg hj4]
      by_cases hj : j = 1460 + (n + i)
      · subst hj
        rw [if_pos rfl, if_pos (by omega), show 1460 + (n + i) - (1460 + n) = i by omega]
      · rw [if_neg hj, h2, if_neg hj4]
        by_cases hj2 : 1460 + n ≤ j ∧ j < 1460 + n + i
        · rw [if_pos hj2, if_pos (by omega)]
        · rw [if_neg hj2, if_neg (by omega)]
theorem st_feed {t : Int} {M : Mem} (hI : Inv t M) {w k : Int} (ek : bm k = k) : Step t M (fun M Q => wX11_feed 1 w k M Q) (fun M Q => wX12_feed 125 w k M Q) := by
  intro Q1 hQ1
  obtain ⟨n, hn, hn50, c8⟩ := hI.nt
  have r4 : ∀ N : Mem, rd N 126 4 = N 126 4 := fun N => rd_at (i := 4) (n := 4) rfl (by decide)
  simp only [wX11_feed, Nat.reduceAdd]
  refine wi_i (fun h1 => BR_f q1 ?_) (fun h1 => BR_t q0 ?_)
  rotate_left
  · refine lf_error11 (k := 1) rfl (by decide) (by decide) (hQ1 _ _ fun Q2 hQ2 => ?_)
    have hz := st_err hI (k := 1) (i := 1) rfl (by decide) hQ2
    simp only [wX12_feed, Nat.reduceAdd]
    exact mi_f h1 (BR_t q0 hz)
  have h1' := h1
  rw [bm1, li_8, ek] at h1'
  obtain ⟨c, rfl⟩ : ∃ c : Nat, k = (c : Int) := ⟨k.toNat, by omega⟩
  rw [c8, bm_id (z := (n : Int) + (c : Int)) (by omega) (by omega)]
  refine BR_i (fun h2 => ⟨c + 1, ?_⟩) (fun h2 => ?_)
  rotate_left
  · refine lf_error11 (k := 4) rfl (by decide) (by decide) (hQ1 _ _ fun Q2 hQ2 => ?_)
    have hz := st_err hI (k := 4) (i := 4) rfl (by decide) hQ2
    simp only [wX12_feed, Nat.reduceAdd]
    refine mi_t h1 (BR_f q1 (BR_f ?_ hz))
    rw [r4, up_c (by decide), hn, bm_id (z := (n : Int) + (c : Int)) (by omega) (by omega)]
    exact h2
  refine fd_c (n := n) (k := c) (M0 := M) c8 (by omega) (fun M' f1 f2 => LET_i ?_) c 0 M 0 (by omega) rfl (fun _ _ => rfl) (fun j => by rw [if_neg (by omega)])
  rw [f1 2 (by decide), c8, up_s]
  refine hQ1 _ _ fun Q2 hQ2 => ?_
  simp only [wX12_feed, Nat.reduceAdd]
  have e126 : up M' 2 8 ((n : Int) + (c : Int)) 126 = M 126 := by rw [up_c (by decide), f1 126 (by decide)]
  refine mi_t h1 (BR_f q1 (BR_t ?_ ⟨c + 1, ?_⟩))
  · rw [r4, e126, hn, bm_id (z := (n : Int) + (c : Int)) (by omega) (by omega)]
    exact h2
  refine fd_m (n := n) (k := c) (M0 := up M' 2 8 ((n : Int) + (c : Int))) (by rw [e126]; exact hn) (by omega) (fun M2 g1 g2 => ?_) c 0 _ 0 (by omega) rfl (fun _ _ => rfl) (fun j => ?_)
  rotate_left
  · by_cases hj : j = 4
    · subst hj
      rw [if_pos rfl, e126, hn]
      rfl
    · rw [if_neg hj, if_neg (by omega)]
  rw [e126] at g2
  have G : ∀ a, a ≠ 2 → a ≠ 7 → a ≠ 126 → M2 a = M a := fun a q1 q2 q3 => by rw [g1 a q3, up_c q1, f1 a q2]
  have F : ∀ j, j ≠ 4 → ¬ (1460 + n ≤ j ∧ j < 1460 + n + c) → M2 126 j = M 126 j := fun j q1 q2 => by rw [g2, if_neg q1, if_neg q2]
  have F4 : M2 126 4 = (n : Int) + (c : Int) := by rw [g2, if_pos rfl]; omega
  have Fn : ∀ i, i < c → M2 126 (1460 + n + i) = lShr w (8 * (i : Int)) % 256 := fun i hi => by
    rw [g2, if_neg (by omega), if_pos (by omega), show 1460 + n + i - (1460 + n) = i by omega]
  have C : ∀ j, M2 2 j = if j = 8 then (n : Int) + (c : Int) else M 2 j := fun j => by rw [g1 2 (by decide), up_k, f1 2 (by decide)]
  have W : ∀ j, M2 7 j = if n ≤ j ∧ j < n + c then Int.bmod (lShr w (8 * ((j - n : Nat) : Int))) 256 else M 7 j := fun j => by rw [g1 7 (by decide), up_c (by decide), f2]
  clear g1 g2 f1 f2
  obtain ⟨n0, n1, n2, n3, n4, n5⟩ := hI.1.1
  obtain ⟨b0, b1, b2, b3, b4, b5⟩ := hI.2.1.1
  have k0 := F 0 (by omega) (by omega)
  have k1 := F 1 (by omega) (by omega)
  have k2 := F 2 (by omega) (by omega)
  have k3 := F 3 (by omega) (by omega)
  have k5 := F 5 (by omega) (by omega)
  refine hQ2 _ _ (by rw [Int.natCast_add]) ((hI.book (fun y h1 h2 h3 h4 => G y (by omega) (by omega) h4) (by rw [G 103 (by decide) (by decide) (by decide)]) (by rw [G 108 (by decide) (by decide) (by decide)]) ⟨by omega, by omega, by omega, by omega, by omega, by omega⟩ ?_ (by omega) (fun i _ _ => F i (by omega) (by omega)) (G 4 (by decide) (by decide) (by decide)) ?_ ?_ ?_ ?_ ⟨?_, ?_, ?_⟩ (hI.wai (G 10 (by decide) (by decide) (by decide)) k5 (fun i _ _ => F i (by omega) (by omega))) (hI.seC (fun i _ => F i (by omega) (by omega)) (G 103 (by decide) (by decide) (by decide)) (G 104 (by decide) (by decide) (by decide)) (G 105 (by decide) (by decide) (by decide)) (G 106 (by decide) (by decide) (by decide))) (hI.ssC (fun i _ => F i (by omega) (by omega)) (G 108 (by decide) (by decide) (by decide)) (G 109 (by decide) (by decide) (by decide)))).mono (by omega))
  · unfold BkCnt
    rw [C, C, C, C, C, C, k0, k1, k2, k3, F4, k5]
    exact ⟨b0, b1, b2, b3, rfl, b5⟩
  · exact fun p hp => Or.inl ⟨by omega, G _ (by omega) (by omega) (by omega), fun i _ _ => F i (by omega) (by omega)⟩
  · exact fun p hp => Or.inl ⟨by omega, G _ (by omega) (by omega) (by omega), G _ (by omega) (by omega) (by omega), fun i _ _ => F i (by omega) (by omega), fun i _ _ => F i (by omega) (by omega)⟩
  · exact fun p hp => Or.inl ⟨by omega, G _ (by omega) (by omega) (by omega), fun i _ _ => F i (by omega) (by omega)⟩
  · exact fun p hp => Or.inl ⟨by omega, fun y _ _ => G _ (by omega) (by omega) (by omega), fun i _ _ => F i (by omega) (by omega)⟩
  · intro i hi
    by_cases hin : i < n
    · rw [F _ (by omega) (by omega)]
      exact hI.1.2.2.2.2.2.2 i (by omega)
    · have := Fn (i - n) (by omega)
      rw [show 1460 + n + (i - n) = 1460 + i by omega] at this
      rw [this]
      omega
  · intro i hi
    have := hI.2.1.2.2.2.2.2.2.1.1 i hi
    rw [show 2 + 5 = 7 from rfl] at this ⊢
    rw [W]
    split
    · exact ⟨(bmod_r _).1, (bmod_r _).2.1⟩
    · exact this
  · intro i hi
    rw [show 2 + 5 = 7 from rfl, W]
    by_cases hin : i < n
    · rw [F _ (by omega) (by omega), if_neg (by omega)]
      exact hI.2.1.2.2.2.2.2.2.1.2 i (by omega)
    · have := Fn (i - n) (by omega)
      rw [show 1460 + n + (i - n) = 1460 + i by omega] at this
      rw [this, if_pos (by omega), (bmod_r _).2.2]

theorem p2le {n m : Nat} (h : n ≤ m) : 2 ^ n ≤ 2 ^ m := Nat.pow_le_pow_right (by decide) h
/-- the likings that are on -/
theorem bits_s (f : Nat → Bool) (n : Nat) : bits f (n + 1) = bits f n ||| (if f n then 2 ^ n else 0) := rfl
theorem popn_s (k n : Nat) : popn k (n + 1) = popn k n + (if k.testBit n then 1 else 0) := rfl
theorem bits_lt {f : Nat → Bool} : ∀ n, bits f n < 2 ^ n
  | 0 => Nat.one_pos
  | n + 1 => by
    rw [bits_s]
    have h := bits_lt (f := f) n
    have h2 : 2 ^ n < 2 ^ (n + 1) := Nat.pow_lt_pow_right (by decide) (by omega)
    cases f n
    · simp
      omega
    · exact or_bit_lt (Nat.lt_trans h h2) (by omega)
theorem bits_tb {f : Nat → Bool} : ∀ n i, (bits f n).testBit i = (decide (i < n) && f i)
  | 0, i => by simp [bits]
  | n + 1, i => by
    rw [bits_s, Nat.testBit_or, bits_tb n i]
    by_cases hi : i = n
    · subst hi
      cases f i
      · simp
      · simp [Nat.testBit_two_pow_self]
    · have e : (if f n = true then 2 ^ n else 0).testBit i = false := by
        cases f n
        · simp
        · rw [if_pos rfl]
          exact Nat.testBit_two_pow_of_ne (by omega)
      rw [e]
      by_cases h : i < n
      · rw [decide_eq_true h, decide_eq_true (by omega : i < n + 1)]
        simp
      · rw [decide_eq_false h, decide_eq_false (by omega : ¬ i < n + 1)]
        simp
def nOn (f : Nat → Bool) : Nat → Nat
  | 0 => 0
  | n + 1 => nOn f n + (if f n then 1 else 0)
theorem popn_bits {f : Nat → Bool} {n : Nat} : ∀ m, m ≤ n → popn (bits f n) m = nOn f m
  | 0, _ => rfl
  | m + 1, h => by
    unfold popn nOn
    rw [popn_bits m (by omega), bits_tb, decide_eq_true (by omega : m < n), Bool.true_and]
theorem popn_zero {k n : Nat} (h : k < 2 ^ n) : ∀ m, popn k (n + m) = popn k n
  | 0 => rfl
  | m + 1 => by
    rw [show n + (m + 1) = (n + m) + 1 by omega]
    rw [popn_s, popn_zero h m, tb_big h (by omega)]
    rfl
theorem pop_bits {f : Nat → Bool} {n : Nat} (h : n ≤ 12) : pop (bits f n) = nOn f n := by
  unfold pop
  have := popn_zero (bits_lt (f := f) n) (12 - n)
  rw [show n + (12 - n) = 12 by omega] at this
  rw [this, popn_bits n (Nat.le_refl n)]
theorem lf_on_L {B nl : Nat} {M : Mem} {f : Nat → Bool} {Q : Int → Mem → Prop} (h4 : M B 4 = (nl : Int)) (hn : nl ≤ 10) (hf : ∀ l, l < nl → M (B + 21 + 2 * l) 4 = if f l then 1 else 0) (hQ : Q (bits f nl) M) : ∀ (m i : Nat) (x1 x2 : Int), i + m = nl → x1 = (bits f i : Int) → x2 = (i : Int) → wX0_likingsOn_L4 Q B (m + 1) x1 x2 M
  | 0, i, x1, x2, hi, e1, e2 => by
    subst e1 e2
    obtain rfl : i = nl := by omega
    unfold wX0_likingsOn_L4
    rw [h4]
    exact BR_t (Int.le_refl _) hQ
  | m + 1, i, x1, x2, hi, e1, e2 => by
    subst e1 e2
    unfold wX0_likingsOn_L4
    rw [h4, bm_nat (n := nl) (by omega), bm_nat (n := i) (by omega)]
    refine BR_f (by omega) ⟨inb_of rfl (by omega) (by decide), ?_⟩
    rw [Int.toNat_natCast, hf i (by omega)]
    have hb : bits f i < 4096 := Nat.lt_of_lt_of_le (bits_lt i) (p2le (m := 12) (by omega))
    cases hfi : f i
    · rw [if_neg (by decide)]
      refine BR_t q0 (LET_i (lf_on_L h4 hn hf hQ m (i + 1) _ _ (by omega) ?_ (by omega)))
      rw [bits_s, hfi]
      simp
    · rw [if_pos rfl]
      refine BR_f q1 (LET_i (LET_i (lf_on_L h4 hn hf hQ m (i + 1) _ _ (by omega) ?_ (by omega))))
      rw [bits_s, hfi, if_pos rfl, shl_one i (by omega)]
      exact iOr_n (by omega) (Nat.lt_of_le_of_lt (p2le (m := 12) (by omega)) (by decide))
theorem Inv.on {t : Int} {M : Mem} (hI : Inv t M) {nl : Nat} (hn : M 126 1 = (nl : Int)) {l : Nat} (hl : l < nl) : M (23 + 2 * l) 4 = if isOn (M 126) l then 1 else 0 := by
  have hB := (hI.2.1.2.2.2.1 l (by omega)).2.2.2.2.1
  rw [show 2 + 21 + 2 * l = 23 + 2 * l by omega] at hB
  rw [hB]
  unfold isOn
  rcases (hI.1.2.2.2.1 l (by omega)).2.2.2.1 with h | h <;> rw [h] <;> rfl
theorem lf_on {t : Int} {M : Mem} (hI : Inv t M) {nl : Nat} (hn : M 126 1 = (nl : Int)) {Q : Int → Mem → Prop} (hQ : Q (bits (isOn (M 126)) nl) M) : wX0_likingsOn 2 M Q := by
  have h10 := hI.1.1.2.1
  have h4 : M 2 4 = (nl : Int) := by rw [hI.2.1.1.2.1, hn]
  exact ⟨nl + 1, lf_on_L h4 (by omega) (fun l hl => by rw [show 2 + 21 + 2 * l = 23 + 2 * l by omega]; exact hI.on hn hl) hQ nl 0 _ _ (by omega) rfl rfl⟩
theorem cn_m {t : Int} {M : Mem} (hI : Inv t M) {nl : Nat} (hn : M 126 1 = (nl : Int)) {Q : Int → Mem → Prop} (hQ : Q (nOn (isOn (M 126)) nl) M) : ∀ (m i : Nat) (x1 x2 : Int), i + m = nl → x1 = (nOn (isOn (M 126)) i : Int) → x2 = (i : Int) → wX12_count_L66 Q 125 (m + 1) x1 x2 M
  | 0, i, x1, x2, hi, e1, e2 => by
    subst e1 e2
    obtain rfl : i = nl := by omega
    unfold wX12_count_L66
    rw [show (125 : Nat) + 1 = 126 from rfl, rd_at (i := 1) (n := 1) rfl (by decide), hn]
    exact BR_t (Int.le_refl _) hQ
  | m + 1, i, x1, x2, hi, e1, e2 => by
    subst e1 e2
    have h10 := hI.1.1.2.1
    unfold wX12_count_L66 wX12_likingIs
    rw [show (125 : Nat) + 1 = 126 from rfl, rd_at (i := 1) (n := 1) rfl (by decide), hn, bm_nat (n := nl) (by omega), bm_nat (n := i) (by omega)]
    refine BR_f (by omega) ⟨inb_of (n := 103 + 4 * i) (by omega) (by omega) (by decide), LET_i (LET_i (cn_m hI hn hQ m (i + 1) _ _ (by omega) ?_ (by omega)))⟩
    rw [rd_at (i := 100 + 4 * (i : Int) + 3) (n := 103 + 4 * i) (by omega) (by omega)]
    have e : M 126 (103 + 4 * i) = lO (M 126) i := rfl
    rw [e, show nOn (isOn (M 126)) (i + 1) = nOn (isOn (M 126)) i + (if isOn (M 126) i then 1 else 0) from rfl]
    unfold isOn
    rcases (hI.1.2.2.2.1 i (by omega)).2.2.2.1 with h | h <;> rw [h] <;> simp
theorem st_count {t : Int} {M : Mem} (hI : Inv t M) {a : Int} (ea : bm a = a) : Step t M (fun M Q => wX11_count 1 a M Q) (fun M Q => wX12_count 125 a M Q) := by
  intro Q1 hQ1
  obtain ⟨b0, b1, b2, b3, b4, b5⟩ := hI.2.1.1
  obtain ⟨nl, hnl, hn10, c4⟩ := hI.nl
  have rdM : ∀ (i : Int) (n : Nat), i = (n : Int) → n < 2147483648 → rd M 126 i = M 126 n := fun i n h1 h2 => rd_at h1 h2
  have rdE : ∀ (i : Int) (n : Nat), i = (n : Int) → n < 2147483648 → rd (up M 86 1 (M 86 1 + 1)) 126 i = M 126 n := fun i n h1 h2 => by rw [rd_at h1 h2, up_c (by decide)]
  have key : ∀ r x, r = x → (∀ Q2 : Int → Mem → Prop, Q2 x M → wX12_count 125 a M Q2) → Q1 r M := by
    intro r x hr h
    exact hQ1 _ _ fun Q2 hQ2 => h Q2 (hQ2 _ _ (by rw [hr]) (hI.mono (by omega)))
  simp only [wX11_count, Nat.reduceAdd]
  rw [ea]
  refine BR_i (fun h => key _ _ b0 fun Q2 hq => ?_) (fun h0 => BR_i (fun h => key _ _ b1 fun Q2 hq => ?_) (fun h1 => BR_i (fun h => ?_) (fun h2 => BR_i (fun h => key _ _ b2 fun Q2 hq => ?_) (fun h3 => BR_i (fun h => key _ _ b3 fun Q2 hq => ?_) (fun h4 => BR_i (fun h => key _ _ b4 fun Q2 hq => ?_) (fun h5 => BR_i (fun h => key _ _ b5 fun Q2 hq => ?_) (fun h6 => BR_i (fun h => key _ _ hI.2.2.2.2.2.1.1 fun Q2 hq => ?_) (fun h7 => ?_))))))))
  all_goals first
    | (refine lf_error11 (k := 1) rfl (by decide) (by decide) (hQ1 _ _ fun Q2 hQ2 => ?_)
       have hz := st_err hI (k := 1) (i := 1) rfl (by decide) hQ2
       simp only [wX12_count, Nat.reduceAdd, ea]
       exact BR_f h0 (BR_f h1 (BR_f h2 (BR_f h3 (BR_f h4 (BR_f h5 (BR_f h6 (BR_f h7 hz))))))))
    | (refine lf_on hI hnl ?_
       rw [lf_bitCount rfl (Nat.lt_of_lt_of_le (bits_lt nl) (p2le (m := 12) (by omega))), pop_bits (by omega)]
       refine key _ _ rfl fun Q2 hq => ?_
       simp only [wX12_count, Nat.reduceAdd, ea]
       exact BR_f h0 (BR_f h1 (BR_t h ⟨nl + 1, cn_m hI hnl hq nl 0 _ _ (by omega) rfl rfl⟩)))
    | skip
  all_goals simp only [wX12_count, Nat.reduceAdd, ea]
  · rw [rdM 0 0 rfl (by decide)]
    exact BR_t h hq
  · rw [rdM 1 1 rfl (by decide)]
    exact BR_f h0 (BR_t h hq)
  · rw [rdM 2 2 rfl (by decide)]
    exact BR_f h0 (BR_f h1 (BR_f h2 (BR_t h hq)))
  · rw [rdM 3 3 rfl (by decide)]
    exact BR_f h0 (BR_f h1 (BR_f h2 (BR_f h3 (BR_t h hq))))
  · rw [rdM 4 4 rfl (by decide)]
    exact BR_f h0 (BR_f h1 (BR_f h2 (BR_f h3 (BR_f h4 (BR_t h hq)))))
  · rw [rdM 5 5 rfl (by decide)]
    exact BR_f h0 (BR_f h1 (BR_f h2 (BR_f h3 (BR_f h4 (BR_f h5 (BR_t h hq))))))
  · exact BR_f h0 (BR_f h1 (BR_f h2 (BR_f h3 (BR_f h4 (BR_f h5 (BR_f h6 (BR_t h hq)))))))
