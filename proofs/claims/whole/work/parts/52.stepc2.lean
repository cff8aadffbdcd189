/-! THE CLASS'S WALK: musts, the step -/
theorem jb45 {r : Nat → Nat} {c v i : Nat} {M : Mem} {Q : Int → Mem → Prop} (hv : M 91 2 = (v : Int)) (hv12 : v ≤ 12) (hrow : ∀ k, k < i → M 92 k = (r k : Int)) (hi : i ≤ 12) (hr : ∀ k, k < i → r k < 12) (hc : c < 12) (h96 : M 96 i = (stb (rl r i) : Int)) (hs : stb (rl r i) < 2 ^ 12)
    (hQ : Q (if ((stb (rl r i)).testBit c && (decide (i = v) || !decide (hd (rl r i) = (c : Int)))) = true then 1 else 0) M) : wX10_isBroken_J45 Q 91 (i : Int) (c : Int) M := by
  simp only [wX10_isBroken_J45, wX10_isBroken_J63, wX10_isBroken_J64, Nat.reduceAdd]
  refine ⟨inb_of rfl (by omega) (by decide), ?_⟩
  rw [rd_at (n := i) rfl (by omega), h96, lf_isIn rfl rfl hs hc, hv, bm_nat (n := i) (by omega), bm_nat (n := v) (by omega)]
  cases ht : (stb (rl r i)).testBit c
  · rw [ht, Bool.false_and, if_neg (by decide)] at hQ
    rw [if_neg (by decide)]
    exact BR_t q0 (BR_t q0 hQ)
  · rw [ht, Bool.true_and] at hQ
    rw [if_pos rfl]
    refine BR_f q1 (BR_f q1 (BR_i (fun h => ?_) (fun h => ?_)))
    · rw [decide_eq_true (by omega : i = v), Bool.true_or, if_pos rfl] at hQ
      exact hQ
    · rw [decide_eq_false (by omega : ¬ i = v), Bool.false_or] at hQ
      refine lf_rb hrow hi hr hc ?_
      by_cases hh : hd (rl r i) = (c : Int)
      · rw [decide_eq_true hh, if_neg (by decide)] at hQ
        rw [if_pos hh]
        exact BR_f q1 hQ
      · rw [decide_eq_false hh, if_pos (by decide)] at hQ
        rw [if_neg hh]
        exact BR_t q0 hQ
theorem lf_isBroken {z : Fl} {v n i q m : Nat} {r : Nat → Nat} {M : Mem} {Q : Int → Mem → Prop} (hz : ZOk z) (hc : CB z M) (hn : M 91 1 = (n : Int)) (hv : M 91 2 = (v : Int)) (hn12 : n ≤ 12) (hv12 : v ≤ 12) (hi : i < n) (hq : (q : Int) < z 0) (hr : RowPs z r i) (hrow : ∀ k, k < i → M 92 k = (r k : Int)) (h96 : M 96 i = (stb (rl r i) : Int)) (h94 : M 94 (i + 1) = en z v (q :: rl r i)) (hm : (m : Int) < z 2) (hQ : Q (if bkAt z v n m q (rl r i) = true then 1 else 0) M) : wX10_isBroken 91 (43 + m) (i : Int) (q : Int) M Q := by
  obtain ⟨⟨s0, s7⟩, ⟨A0, A1⟩, ⟨B0, B1⟩, hne, ⟨m0, m1⟩⟩ := hz.2.2.2.2.2.2 m hm
  obtain ⟨eS, eA, eB, eM⟩ := hc.2.2.2.2.2.2 m hm
  obtain ⟨A, hA⟩ : ∃ A : Nat, mA z m = (A : Int) := ⟨(mA z m).toNat, by omega⟩
  obtain ⟨B, hB⟩ : ∃ B : Nat, mB z m = (B : Int) := ⟨(mB z m).toNat, by omega⟩
  have hz0 := hz.1
  have hr12 : ∀ k, k < i → r k < 12 := fun k hk => by have := hr k hk; omega
  have hs : stb (rl r i) < 2 ^ 12 := stb_lt _ (hr.pcs.lt hz)
  have hlen := rl_len r i
  have hen := en_nn hz v (q :: rl r i) (fun p hp => by
    rcases List.mem_cons.mp hp with rfl | hp
    · exact hq
    · exact hr.pcs p hp)
  rw [List.length_cons, hlen] at hen
  have bq : bm (q : Int) = (q : Int) := bm_nat (by omega)
  have bA : bm (A : Int) = (A : Int) := bm_nat (by omega)
  have bB : bm (B : Int) = (B : Int) := bm_nat (by omega)
  have bi : bm (i : Int) = (i : Int) := bm_nat (by omega)
  have bv : bm (v : Int) = (v : Int) := bm_nat (by omega)
  have bS : bm (mS z m) = mS z m := bm_id (by omega) (by omega)
  unfold wX10_isBroken
  rw [eS, eA, eB, hA, hB, bq, bA, bS]
  by_cases h1 : mS z m = 1
  · refine BR_t h1 ?_
    have e1 : bkAt z v n m q (rl r i) = ((decide ((q : Int) = mA z m) || decide ((q : Int) = mB z m)) && ((stb (rl r i)).testBit (if (q : Int) = mA z m then mB z m else mA z m).toNat && (decide ((rl r i).length = v) || !decide (hd (rl r i) = if (q : Int) = mA z m then mB z m else mA z m)))) := by
      unfold bkAt
      rw [if_pos h1]
    rw [e1, hA, hB, hlen] at hQ
    refine BR_i (fun hqA => ?_) (fun hqA => ?_)
    · rw [decide_eq_true hqA, Bool.true_or, Bool.true_and, if_pos hqA, Int.toNat_natCast] at hQ
      unfold wX10_isBroken_J27
      rw [eA, hA, bq, bA]
      exact BR_t hqA (jb45 hv hv12 hrow (by omega) hr12 (by omega) h96 hs hQ)
    · rw [decide_eq_false hqA, Bool.false_or, if_neg hqA, Int.toNat_natCast] at hQ
      unfold wX10_isBroken_J27
      rw [eA, eB, hA, hB, bq, bA, bB]
      refine BR_f hqA (BR_i (fun hqB => ?_) (fun hqB => ?_))
      · rw [decide_eq_true hqB, Bool.true_and] at hQ
        exact jb45 hv hv12 hrow (by omega) hr12 (by omega) h96 hs hQ
      · rw [decide_eq_false hqB, Bool.false_and, if_neg (by decide)] at hQ
        exact BR_t q0 hQ
  · refine BR_f h1 ?_
    have e1 : bkAt z v n m q (rl r i) = (if (q : Int) = mA z m then
        if mS z m = 0 then decide (hd (rl r i) = mB z m)
        else if mS z m = 2 then decide (mM z m < en z v (q :: rl r i))
        else if mS z m = 3 then decide ((rl r i).length = 0)
        else if mS z m = 4 then decide ((rl r i).length + 1 = n)
        else if mS z m = 5 then (stb (rl r i)).testBit (mB z m).toNat
        else if mS z m = 6 then decide (0 < v ∧ (rl r i).length = v)
        else decide (0 < v ∧ v ≤ (rl r i).length)
      else false) := by
      unfold bkAt
      rw [if_neg h1]
    rw [e1, hA, hB, hlen] at hQ
    refine BR_i (fun hqA => ?_) (fun hqA => by rw [if_neg hqA, if_neg (by decide)] at hQ; exact hQ)
    rw [if_pos hqA] at hQ
    refine BR_i (fun h0 => ?_) (fun h0 => BR_f h1 (BR_i (fun h2 => ?_) (fun h2 => BR_i (fun h3 => ?_) (fun h3 => BR_i (fun h4 => ?_) (fun h4 => BR_i (fun h5 => ?_) (fun h5 => BR_i (fun h6 => ?_) (fun h6 => ?_)))))))
    · rw [if_pos h0] at hQ
      refine lf_rb hrow (by omega) hr12 (by omega) ?_
      by_cases hh : hd (rl r i) = (B : Int)
      · rw [decide_eq_true hh, if_pos rfl] at hQ
        rw [if_pos hh]
        exact ⟨isB1, hQ⟩
      · rw [decide_eq_false hh, if_neg (by decide)] at hQ
        rw [if_neg hh]
        exact ⟨isB0, hQ⟩
    · rw [if_neg h0, if_pos h2] at hQ
      refine ⟨inb_of (n := i + 1) (by omega) (by omega) (by decide), ?_⟩
      rw [rd_at (i := (i : Int) + 1) (n := i + 1) (by omega) (by omega), show (91 : Nat) + 3 = 94 from rfl, h94, eM, bm_id (z := en z v (q :: rl r i)) (by omega) (by omega), bm_id (z := mM z m) (by omega) (by omega)]
      refine BR_i (fun hh => ?_) (fun hh => ?_)
      · rw [decide_eq_false (by omega), if_neg (by decide)] at hQ
        exact hQ
      · rw [decide_eq_true (by omega), if_pos rfl] at hQ
        exact hQ
    · rw [if_neg h0, if_neg h2, if_pos h3] at hQ
      rw [bi]
      refine BR_i (fun hh => ?_) (fun hh => ?_)
      · rw [decide_eq_true (by omega), if_pos rfl] at hQ
        exact hQ
      · rw [decide_eq_false (by omega), if_neg (by decide)] at hQ
        exact hQ
    · rw [if_neg h0, if_neg h2, if_neg h3, if_pos h4] at hQ
      rw [bi, hn, bm_id (z := (n : Int) - 1) (by omega) (by omega)]
      refine BR_i (fun hh => ?_) (fun hh => ?_)
      · rw [decide_eq_true (by omega), if_pos rfl] at hQ
        exact hQ
      · rw [decide_eq_false (by omega), if_neg (by decide)] at hQ
        exact hQ
    · rw [if_neg h0, if_neg h2, if_neg h3, if_neg h4, if_pos h5, Int.toNat_natCast] at hQ
      refine ⟨inb_of rfl (by omega) (by decide), ?_⟩
      rw [rd_at (n := i) rfl (by omega), show (91 : Nat) + 5 = 96 from rfl, h96, lf_isIn rfl rfl hs (by omega)]
      cases ht : (stb (rl r i)).testBit B
      · rw [ht, if_neg (by decide)] at hQ
        rw [if_neg (by decide)]
        exact ⟨isB0, hQ⟩
      · rw [ht, if_pos rfl] at hQ
        rw [if_pos rfl]
        exact ⟨isB1, hQ⟩
    · rw [if_neg h0, if_neg h2, if_neg h3, if_neg h4, if_neg h5, if_pos h6] at hQ
      rw [bi, hv, bv]
      refine BR_i (fun hh => ?_) (fun hh => BR_i (fun hh2 => ?_) (fun hh2 => ?_))
      · rw [decide_eq_false (by omega), if_neg (by decide)] at hQ
        exact hQ
      · rw [decide_eq_true (by omega), if_pos rfl] at hQ
        exact hQ
      · rw [decide_eq_false (by omega), if_neg (by decide)] at hQ
        exact hQ
    · rw [if_neg h0, if_neg h2, if_neg h3, if_neg h4, if_neg h5, if_neg h6] at hQ
      unfold wX10_isBroken_J244
      rw [bi, hv, bv]
      refine BR_i (fun hh => ?_) (fun hh => BR_i (fun hh2 => ?_) (fun hh2 => ?_))
      · rw [decide_eq_false (by omega), if_neg (by decide)] at hQ
        exact hQ
      · rw [decide_eq_false (by omega), if_neg (by decide)] at hQ
        exact hQ
      · rw [decide_eq_true (by omega), if_pos rfl] at hQ
        exact hQ
theorem broken_L {z : Fl} {v n i q nm : Nat} {r : Nat → Nat} {M : Mem} {Q : Mem → Prop} {E : Int → Mem → Prop} (hz : ZOk z) (hc : CB z M) (hn : M 91 1 = (n : Int)) (hv : M 91 2 = (v : Int)) (hn12 : n ≤ 12) (hv12 : v ≤ 12) (hi : i < n) (hq : (q : Int) < z 0) (hr : RowPs z r i) (hrow : ∀ k, k < i → M 92 k = (r k : Int)) (h96 : M 96 i = (stb (rl r i) : Int)) (h94 : M 94 (i + 1) = en z v (q :: rl r i)) (hnm : z 2 = (nm : Int)) (hQ : E (bk z v n (q :: rl r i) : Int) M) : ∀ (k m : Nat) (x6 x7 : Int), m + k = nm → x7 = (m : Int) → x6 = ((bk z v n (rl r i) ||| bits (fun m => bkAt z v n m q (rl r i)) m : Nat) : Int) → wX10_step_L208 Q E 91 (i : Int) (q : Int) (k + 1) x6 x7 M
  | 0, m, x6, x7, hm, h7, h6 => by
    subst h6 h7
    obtain rfl : m = nm := by omega
    unfold wX10_step_L208
    rw [show (91 : Nat) - 89 = 2 from rfl, hc.2.2.1, hnm]
    refine BR_t (Int.le_refl _) ?_
    rw [bk_cons, hnm, Int.toNat_natCast] at hQ
    exact hQ
  | k + 1, m, x6, x7, hm, h7, h6 => by
    subst h6 h7
    have h2 := hz.2.2.1
    unfold wX10_step_L208
    rw [show (91 : Nat) - 89 = 2 from rfl, hc.2.2.1, hnm, bm_nat (n := nm) (by omega), bm_nat (n := m) (by omega), Int.toNat_natCast, show 2 + 41 + m = 43 + m by omega]
    refine BR_f (by omega) ⟨inb_of rfl (by omega) (by decide), lf_isBroken hz hc hn hv hn12 hv12 hi hq hr hrow h96 h94 (by omega) ?_⟩
    have hb := bk_lt hz v n (rl r i)
    have hb2 : bits (fun m => bkAt z v n m q (rl r i)) m < 2 ^ 10 := Nat.lt_of_lt_of_le (bits_lt m) (p2le (by omega))
    have hb3 : bk z v n (rl r i) ||| bits (fun m => bkAt z v n m q (rl r i)) m < 2 ^ 10 := Nat.or_lt_two_pow hb hb2
    cases hk : bkAt z v n m q (rl r i)
    · rw [if_neg (by decide)]
      refine BR_t q0 (LET_i (broken_L hz hc hn hv hn12 hv12 hi hq hr hrow h96 h94 hnm hQ k (m + 1) _ _ (by omega) (by omega) ?_))
      rw [bits_s, hk]
      simp
    · rw [if_pos rfl]
      refine BR_f q1 (LET_i (LET_i (broken_L hz hc hn hv hn12 hv12 hi hq hr hrow h96 h94 hnm hQ k (m + 1) _ _ (by omega) (by omega) ?_)))
      rw [bits_s, hk, if_pos rfl, shl_one m (by omega), ← Nat.or_assoc]
      exact iOr_n (by omega) (Nat.lt_of_le_of_lt (p2le (m := 12) (by omega)) (by decide))
