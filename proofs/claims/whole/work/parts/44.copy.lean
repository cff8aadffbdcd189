/-! A BOOK IS COPIED -/
/-- where the cells lie -/
def layB (n : Nat) (ks : List (Nat × Int)) (fs : List (Nat × Nat × Bool × Int)) : Bool :=
  (List.range n).all fun a => ((List.range 13).all fun ci => !decide (lkk ks a = kO ci) || ((fin ci).all fun e => decide (e.2.2.1 ≤ a + e.2.1) && decide (lkf fs a e.1 = (true, ((a + e.2.1 - e.2.2.1 : Nat) : Int))) && decide (a + e.2.1 - e.2.2.1 < n) && decide (lkk ks (a + e.2.1 - e.2.2.1) = e.2.2.2))) &&
    (decide (lkk ks a < 5000000) || ((List.range (lkk ks a % 1000000).toNat).all fun i => decide (lkf fs a i = (true, ((a + abase (lkk ks a / 1000000 - 1).toNat + astr (lkk ks a / 1000000 - 1).toNat * i : Nat) : Int))) && decide (a + abase (lkk ks a / 1000000 - 1).toNat + astr (lkk ks a / 1000000 - 1).toNat * i < n) && decide (lkk ks (a + abase (lkk ks a / 1000000 - 1).toNat + astr (lkk ks a / 1000000 - 1).toNat * i) = akd (lkk ks a / 1000000 - 1).toNat)))
theorem fin_nz {c : Nat} {e : Nat × Nat × Nat × Int} (h : e ∈ fin c) : c < 13 ∧ e.2.2.2 ≠ 0 := by
  have hc13 : c < 13 := by
    rcases Nat.lt_or_ge c 13 with h' | h'
    · exact h'
    · obtain ⟨d, rfl⟩ : ∃ d, c = d + 13 := ⟨c - 13, by omega⟩
      simp [fin] at h
  refine ⟨hc13, ?_⟩
  have : ∀ c, c < 13 → (fin c).all (fun e => e.2.2.2 != 0) = true := by decide +kernel
  have := List.all_eq_true.mp (this c hc13) _ h
  simpa using this
theorem akd_nz (t : Nat) : akd t ≠ 0 := by
  unfold akd
  split <;> exact kO_pos _
theorem lay_has {K n : Nat} {M0 M : Mem} {ks : List (Nat × Int)} {fs : List (Nat × Nat × Bool × Int)} (h : Has K n M0 M ks fs) (hL : Lay M0) (hF : Fre M0) (hx : nx M0 = K) (hb : layB n ks fs = true) : Lay M ∧ Fre M := by
  obtain ⟨hf1, hf2⟩ := hF
  rw [hx] at hf1 hf2
  have hcell : ∀ k, 0 < k → M 0 k ≠ 0 → k < K ∨ ∃ a, a < n ∧ k = K + a := by
    intro k hk h0
    rcases Nat.lt_or_ge k K with q | q
    · exact Or.inl q
    · refine Or.inr ⟨k - K, ?_, by omega⟩
      rcases Nat.lt_or_ge (k - K) n with q2 | q2
      · exact q2
      · exact absurd ((h.ok k hk (Or.inr (by omega))).trans (hf2 k q)) h0
  have old : ∀ k, 0 < k → M0 0 k ≠ 0 → k < K := by
    intro k hk h0
    rcases Nat.lt_or_ge k K with q | q
    · exact q
    · exact absurd (hf2 k q) h0
  refine ⟨⟨?_, ?_⟩, ?_, ?_⟩
  · intro k ci j add sub kd hk hkk hm
    obtain ⟨hc13, hnz⟩ := fin_nz hm
    rcases hcell k hk (by rw [hkk]; exact kO_pos _) with q | ⟨a, ha, rfl⟩
    · rw [h.ok k hk (Or.inl q)] at hkk
      obtain ⟨q1, q2, q3⟩ := hL.1 k ci j add sub kd hk hkk hm
      have q4 := old (k + add - sub) (by omega) (by rw [q3]; exact hnz)
      exact ⟨q1, by rw [h.of k hk (Or.inl q)]; exact q2, by rw [h.ok _ (by omega) (Or.inl q4)]; exact q3⟩
    · rw [h.hk a ha] at hkk
      have b1 := List.all_eq_true.mp hb a (List.mem_range.mpr ha)
      rw [Bool.and_eq_true] at b1
      have b2 := List.all_eq_true.mp b1.1 ci (List.mem_range.mpr hc13)
      rw [decide_eq_true hkk] at b2
      have b3 := List.all_eq_true.mp b2 _ hm
      simp only [Bool.and_eq_true, decide_eq_true_eq] at b3
      obtain ⟨⟨⟨c1, c2⟩, c3⟩, c4⟩ := b3
      have e : K + a + add - sub = K + (a + add - sub) := by omega
      refine ⟨by have := h.hK; omega, ?_, ?_⟩
      · rw [h.hf a j ha, c2, e]
        unfold dv
        rw [if_pos rfl]
        omega
      · rw [e, h.hk _ c3]
        exact c4
  · intro k t n' i hk hn' hkk ht hi
    rcases hcell k hk (by rw [hkk]; exact kA_pos _ _) with q | ⟨a, ha, rfl⟩
    · rw [h.ok k hk (Or.inl q)] at hkk
      obtain ⟨q2, q3⟩ := hL.2 k t n' i hk hn' hkk ht hi
      have q4 := old (k + abase t + astr t * i) (by omega) (by rw [q3]; exact akd_nz _)
      exact ⟨by rw [h.of k hk (Or.inl q)]; exact q2, by rw [h.ok _ (by omega) (Or.inl q4)]; exact q3⟩
    · rw [h.hk a ha] at hkk
      have b1 := List.all_eq_true.mp hb a (List.mem_range.mpr ha)
      rw [Bool.and_eq_true] at b1
      have b2 := b1.2
      have e5 : ¬ lkk ks a < 5000000 := by rw [hkk]; unfold kA; omega
      have et : (lkk ks a / 1000000 - 1).toNat = t := by rw [hkk]; unfold kA; omega
      have en : (lkk ks a % 1000000).toNat = n' := by rw [hkk]; unfold kA; omega
      rw [decide_eq_false e5, Bool.false_or, et, en] at b2
      have b3 := List.all_eq_true.mp b2 i (List.mem_range.mpr hi)
      simp only [Bool.and_eq_true, decide_eq_true_eq] at b3
      obtain ⟨⟨c1, c2⟩, c3⟩ := b3
      have e : K + a + abase t + astr t * i = K + (a + abase t + astr t * i) := by omega
      refine ⟨?_, ?_⟩
      · rw [h.hf a i ha, c1, e]
        unfold dv
        rw [if_pos rfl]
        omega
      · rw [e, h.hk _ c2]
        exact c3
  · rw [hasNx h]
    have := h.hK
    omega
  · intro k hk
    rw [hasNx h] at hk
    rw [h.ok k (by have := h.hK; omega) (Or.inr hk)]
    exact hf2 k (by omega)
theorem lay0 : layB 83 ini0Ks ini0Fs = true := by decide +kernel
/-- pieces -/
theorem cf_p {Q E : Mem → Prop} {M0 : Mem} {a0 a1 n : Nat} (hs : a1 + 82 < a0 ∨ a0 + 82 < a1) (hn : M0 a0 1 = (n : Int)) (h12 : n ≤ 12) (hQ : ∀ M' : Mem, (∀ a, ¬ (a0 + 9 ≤ a ∧ a ≤ a0 + 20) → M' a = M0 a) → (∀ p, p < n → ∀ f, f < 6 → M' (a0 + 9 + p) f = M0 (a1 + 9 + p) f) → E M') : ∀ (m i : Nat) (M : Mem) (x : Int), i + m = n → x = (i : Int) → (∀ a, ¬ (a0 + 9 ≤ a ∧ a ≤ a0 + 20) → M a = M0 a) → (∀ p, p < i → ∀ f, f < 6 → M (a0 + 9 + p) f = M0 (a1 + 9 + p) f) → wX0_copyFrom_L10 Q E a0 a1 (m + 1) x M
  | 0, i, M, x, hi, hx, h1, h2 => by
    subst hx
    unfold wX0_copyFrom_L10
    rw [h1 a0 (by omega), hn]
    obtain rfl : i = n := by omega
    exact BR_t (Int.le_refl _) (hQ M h1 h2)
  | m + 1, i, M, x, hi, hx, h1, h2 => by
    subst hx
    unfold wX0_copyFrom_L10
    rw [h1 a0 (by omega), hn, bm_nat (n := n) (by omega), bm_nat (n := i) (by omega)]
    refine BR_f (by omega) ⟨inb_of rfl (by omega) (by decide), inb_of rfl (by omega) (by decide), ?_⟩
    rw [Int.toNat_natCast]
    unfold wX3_copyFrom
    refine LET_i (LET_i (LET_i (LET_i (LET_i (LET_i (LET_i ?_))))))
    simp (disch := omega) only [up_c]
    rw [h1 (a1 + 9 + i) (by omega)]
    refine cf_p hs hn h12 hQ m (i + 1) _ _ (by omega) (by omega) (fun a ha => ?_) (fun p hp f hf => ?_)
    · simp (disch := omega) only [up_c]
      exact h1 a ha
    · by_cases hpi : p = i
      · subst hpi
        rcases (show f = 0 ∨ f = 1 ∨ f = 2 ∨ f = 3 ∨ f = 4 ∨ f = 5 by omega) with rfl | rfl | rfl | rfl | rfl | rfl <;> simp (disch := omega) only [up_s, up_kn]
      · simp (disch := omega) only [up_c]
        exact h2 p (by omega) f hf
/-- likings -/
theorem cf_l {Q E : Mem → Prop} {M0 : Mem} {a0 a1 n : Nat} (hs : a1 + 82 < a0 ∨ a0 + 82 < a1) (hn : M0 a0 4 = (n : Int)) (h10 : n ≤ 10) (hok : ∀ l, l < n → isB (M0 (a1 + 21 + 2 * l) 4) ∧ 0 ≤ M0 (a1 + 21 + 2 * l) 5 ∧ M0 (a1 + 21 + 2 * l) 5 ≤ 50)
    (hQ : ∀ M' : Mem, (∀ a, ¬ (a0 + 21 ≤ a ∧ a ≤ a0 + 40) → M' a = M0 a) → (∀ l, l < n → (∀ f, f < 6 → M' (a0 + 21 + 2 * l) f = M0 (a1 + 21 + 2 * l) f) ∧ ∀ k : Nat, (k : Int) < M0 (a1 + 21 + 2 * l) 5 → M' (a0 + 22 + 2 * l) k = M0 (a1 + 22 + 2 * l) k) → E M') : ∀ (m i : Nat) (M : Mem) (x : Int), i + m = n → x = (i : Int) → (∀ a, ¬ (a0 + 21 ≤ a ∧ a ≤ a0 + 40) → M a = M0 a) → (∀ l, l < i → (∀ f, f < 6 → M (a0 + 21 + 2 * l) f = M0 (a1 + 21 + 2 * l) f) ∧ ∀ k : Nat, (k : Int) < M0 (a1 + 21 + 2 * l) 5 → M (a0 + 22 + 2 * l) k = M0 (a1 + 22 + 2 * l) k) → wX0_copyFrom_L49 Q E a0 a1 (m + 1) x M
  | 0, i, M, x, hi, hx, h1, h2 => by
    subst hx
    unfold wX0_copyFrom_L49
    rw [h1 a0 (by omega), hn]
    obtain rfl : i = n := by omega
    exact BR_t (Int.le_refl _) (hQ M h1 h2)
  | m + 1, i, M, x, hi, hx, h1, h2 => by
    subst hx
    unfold wX0_copyFrom_L49
    rw [h1 a0 (by omega), hn, bm_nat (n := n) (by omega), bm_nat (n := i) (by omega)]
    refine BR_f (by omega) ⟨inb_of rfl (by omega) (by decide), inb_of rfl (by omega) (by decide), ?_⟩
    rw [Int.toNat_natCast]
    obtain ⟨o1, o2, o3⟩ := hok i (by omega)
    obtain ⟨len, hlen⟩ : ∃ len : Nat, M0 (a1 + 21 + 2 * i) 5 = (len : Int) := ⟨(M0 (a1 + 21 + 2 * i) 5).toNat, by omega⟩
    unfold wX1_copyFrom
    refine LET_i (LET_i (LET_i (LET_i ⟨?_, LET_i ?_⟩)))
    · simp (disch := omega) only [up_c]
      rw [h1 (a1 + 21 + 2 * i) (by omega)]
      exact o1
    unfold wX1_takeText
    simp (disch := omega) only [up_c]
    rw [h1 (a1 + 21 + 2 * i) (by omega), hlen, lf_min, if_neg (by decide +kernel), lf_min, if_neg (by rw [show bm 50 = 50 from by decide +kernel, bm_nat (by omega)]; omega)]
    refine LET_i ?_
    rw [up_s, bm0, bm_nat (n := len) (by omega)]
    refine ⟨by omega, LET_i (LET_i ?_)⟩
    refine cf_l hs hn h10 hok hQ m (i + 1) _ _ (by omega) (by omega) (fun a ha => ?_) (fun p hp => ?_)
    · rw [cpy_c (by omega)]
      simp (disch := omega) only [up_c]
      exact h1 a ha
    · by_cases hpi : p = i
      · subst hpi
        refine ⟨fun f hf => ?_, fun k hk => ?_⟩
        · rw [cpy_c (by omega)]
          rcases (show f = 0 ∨ f = 1 ∨ f = 2 ∨ f = 3 ∨ f = 4 ∨ f = 5 by omega) with rfl | rfl | rfl | rfl | rfl | rfl <;> simp (disch := omega) only [up_s, up_kn]
          exact hlen.symm
        · rw [show a0 + 22 + 2 * p = a0 + 21 + 2 * p + 1 by omega, cpy_at rfl (by omega), if_pos (by omega), show a1 + 21 + 2 * p + 1 = a1 + 22 + 2 * p by omega]
          simp (disch := omega) only [up_c]
          rw [h1 (a1 + 22 + 2 * p) (by omega)]
      · refine ⟨fun f hf => ?_, fun k hk => ?_⟩
        · rw [cpy_c (by omega)]
          simp (disch := omega) only [up_c]
          exact (h2 p (by omega)).1 f hf
        · rw [cpy_c (by omega)]
          simp (disch := omega) only [up_c]
          exact (h2 p (by omega)).2 k hk
/-- musts -/
theorem cf_m {Q E : Mem → Prop} {M0 : Mem} {a0 a1 n : Nat} (hs : a1 + 82 < a0 ∨ a0 + 82 < a1) (hn : M0 a0 6 = (n : Int)) (h12 : n ≤ 10) (hQ : ∀ M' : Mem, (∀ a, ¬ (a0 + 41 ≤ a ∧ a ≤ a0 + 50) → M' a = M0 a) → (∀ p, p < n → ∀ f, f < 4 → M' (a0 + 41 + p) f = M0 (a1 + 41 + p) f) → E M') : ∀ (m i : Nat) (M : Mem) (x : Int), i + m = n → x = (i : Int) → (∀ a, ¬ (a0 + 41 ≤ a ∧ a ≤ a0 + 50) → M a = M0 a) → (∀ p, p < i → ∀ f, f < 4 → M (a0 + 41 + p) f = M0 (a1 + 41 + p) f) → wX0_copyFrom_L88 Q E a0 a1 (m + 1) x M
  | 0, i, M, x, hi, hx, h1, h2 => by
    subst hx
    unfold wX0_copyFrom_L88
    rw [h1 a0 (by omega), hn]
    obtain rfl : i = n := by omega
    exact BR_t (Int.le_refl _) (hQ M h1 h2)
  | m + 1, i, M, x, hi, hx, h1, h2 => by
    subst hx
    unfold wX0_copyFrom_L88
    rw [h1 a0 (by omega), hn, bm_nat (n := n) (by omega), bm_nat (n := i) (by omega)]
    refine BR_f (by omega) ⟨inb_of rfl (by omega) (by decide), inb_of rfl (by omega) (by decide), ?_⟩
    rw [Int.toNat_natCast]
    unfold wX2_copyFrom
    refine LET_i (LET_i (LET_i (LET_i (LET_i ?_))))
    simp (disch := omega) only [up_c]
    rw [h1 (a1 + 41 + i) (by omega)]
    refine cf_m hs hn h12 hQ m (i + 1) _ _ (by omega) (by omega) (fun a ha => ?_) (fun p hp f hf => ?_)
    · simp (disch := omega) only [up_c]
      exact h1 a ha
    · by_cases hpi : p = i
      · subst hpi
        rcases (show f = 0 ∨ f = 1 ∨ f = 2 ∨ f = 3 by omega) with rfl | rfl | rfl | rfl <;> simp (disch := omega) only [up_s, up_kn]
      · simp (disch := omega) only [up_c]
        exact h2 p (by omega) f hf
/-- a row -/
theorem cf_r {b0 b1 : Nat} {M : Mem} {Q : Mem → Prop} (hs : b1 + 1 < b0 ∨ b0 + 1 < b1) (hQ : ∀ M' : Mem, (∀ a, a ≠ b0 → a ≠ b0 + 1 → M' a = M a) → M' b0 1 = M b1 1 → M' b0 2 = M b1 2 → (∀ i, i < 12 → M' (b0 + 1) i = M (b1 + 1) i) → Q M') : wX5_copyFrom b0 b1 M Q := by
  unfold wX5_copyFrom
  refine LET_i (LET_i ⟨by decide +kernel, LET_i (hQ _ ?_ ?_ ?_ ?_)⟩)
  · intro a h1 h2
    rw [cpy_c h2]
    simp (disch := omega) only [up_c]
  · rw [cpy_c (by omega), up_kn (by decide), up_s]
  · rw [cpy_c (by omega), up_s, up_c (by omega)]
  · intro i hi
    rw [cpy_at (n := 12) (k := 12) rfl (by decide), if_pos hi]
    simp (disch := omega) only [up_c]
