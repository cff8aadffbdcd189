/-! SUMS ALONG A ROW: the class -/
def SumAt (z : Fl) (v n : Nat) (r : Nat → Nat) (b i : Nat) (M : Mem) : Prop := ∀ k, k ≤ i → ∀ l : Nat, (l : Int) < z 1 → b.testBit l = true → bm (M 100 (10 * k + l)) = sm z v n l (rl r k)
theorem SumAt.fr {z : Fl} {v n b i j : Nat} {r : Nat → Nat} {M M' : Mem} (hz : ZOk z) (h : SumAt z v n r b i M) (f : FrI j M M') (hj : i ≤ j) : SumAt z v n r b i M' := fun k hk l hl hb => by
  have := hz.2.1
  rw [f.2.2.2.2 _ (by omega)]
  exact h k hk l hl hb
theorem SumAt.cg {z : Fl} {v n b i : Nat} {r r' : Nat → Nat} {M : Mem} (h : SumAt z v n r b i M) (e : ∀ k, k < i → r' k = r k) : SumAt z v n r' b i M := fun k hk l hl hb => by
  rw [rl_congr (r := r') (r' := r) (fun j hj => e j (by omega))]
  exact h k hk l hl hb
theorem SumAt.le {z : Fl} {v n b i j : Nat} {r : Nat → Nat} {M : Mem} (h : SumAt z v n r b i M) (hj : j ≤ i) : SumAt z v n r b j M := fun k hk => h k (by omega)
theorem SumAt.zero {z : Fl} {v n b : Nat} {r : Nat → Nat} {M : Mem} (hz : ZOk z) (h : WzOk M) : SumAt z v n r b 0 M := fun k hk l hl _ => by
  have := hz.2.1
  obtain rfl : k = 0 := by omega
  rw [show 10 * 0 + l = l by omega, h.2.2.2.2.2.2 l (by omega)]
  rfl
theorem sm_cons (z : Fl) (v n l q : Nat) (L : List Nat) : sm z v n l (q :: L) = bm (sm z v n l L + term z v n l q L) := rfl
theorem sm_bm (z : Fl) (v n l : Nat) : ∀ L, bm (sm z v n l L) = sm z v n l L
  | [] => bm0
  | _ :: _ => bm_bm _
/-- what weigh writes -/
def FrS (i : Nat) (M M' : Mem) : Prop := (∀ a, a ≠ 100 → a ≠ 101 → a ≠ 102 → M' a = M a) ∧ ∀ k, k < 10 * (i + 1) → M' 100 k = M 100 k
theorem FrS.fri {i j : Nat} {M M' : Mem} (h : FrS i M M') (hj : j ≤ i) : FrI j M M' := by
  have e : ∀ a, 92 ≤ a → a ≤ 99 → M' a = M a := fun a q1 q2 => h.1 a (by omega) (by omega) (by omega)
  refine ⟨fun a ha => h.1 a (by omega) (by omega) (by omega), fun k _ => ?_, fun k _ => ?_, fun k _ => ?_, fun k hk => h.2 k (by omega)⟩
  · rw [e 92 (by decide) (by decide), e 93 (by decide) (by decide)]
    exact ⟨rfl, rfl⟩
  · rw [e 94 (by decide) (by decide), e 95 (by decide) (by decide), e 96 (by decide) (by decide), e 97 (by decide) (by decide), e 98 (by decide) (by decide)]
    exact ⟨rfl, rfl, rfl, rfl, rfl⟩
  · rw [e 99 (by decide) (by decide)]
theorem RowAt.frs {z : Fl} {v n i j : Nat} {r : Nat → Nat} {M M' : Mem} (h : RowAt z v n r i M) (f : FrS j M M') : RowAt z v n r i M' := by
  have e : ∀ a, 92 ≤ a → a ≤ 99 → M' a = M a := fun a q1 q2 => f.1 a (by omega) (by omega) (by omega)
  unfold RowAt
  rw [e 92 (by decide) (by decide), e 93 (by decide) (by decide), e 94 (by decide) (by decide), e 95 (by decide) (by decide), e 96 (by decide) (by decide), e 97 (by decide) (by decide), e 98 (by decide) (by decide), e 99 (by decide) (by decide)]
  exact h
theorem weigh_L {z : Fl} {v n i b nl : Nat} {r : Nat → Nat} {M0 : Mem} {Q : Mem → Prop} (hz : ZOk z) (hc : CB z M0) (hn : M0 91 1 = (n : Int)) (hv : M0 91 2 = (v : Int)) (hb : M0 91 3 = (b : Int)) (hb2 : b < 4096) (hn12 : n ≤ 12) (hv12 : v ≤ 12) (hi : i < n) (hr : RowPs z r (i + 1)) (hR : RowAt z v n r (i + 1) M0) (hS : SumAt z v n r b i M0) (hnl : z 1 = (nl : Int))
    (hQ : ∀ M', FrS i M0 M' → SumAt z v n r b (i + 1) M' → Q M') : ∀ (m l : Nat) (M : Mem) (x3 : Int), l + m = nl → x3 = (l : Int) → FrS i M0 M → (∀ k, k < l → b.testBit k = true → bm (M 100 (10 * (i + 1) + k)) = sm z v n k (rl r (i + 1))) → wX10_weigh_L22 Q 91 (i : Int) ((i : Int) * 10) (m + 1) x3 M
  | 0, l, M, x3, hl, h3, hf, hs => by
    subst h3
    obtain rfl : l = nl := by omega
    have hl10 := hz.2.1
    unfold wX10_weigh_L22
    rw [show (91 : Nat) - 89 = 2 from rfl, hf.1 2 (by decide) (by decide) (by decide), hc.2.1, hnl]
    refine BR_t (Int.le_refl _) (hQ M hf fun k hk k' hk' hbk => ?_)
    by_cases hki : k = i + 1
    · subst hki
      exact hs k' (by omega) hbk
    · rw [hf.2 _ (by omega)]
      exact hS k (by omega) k' hk' hbk
  | m + 1, l, M, x3, hl, h3, hf, hs => by
    subst h3
    have hl10 := hz.2.1
    have hc' : CB z M := hc.congr hz fun a ha => hf.1 a (by omega) (by omega) (by omega)
    have e91 : M 91 = M0 91 := hf.1 91 (by decide) (by decide) (by decide)
    unfold wX10_weigh_L22
    rw [show (91 : Nat) - 89 = 2 from rfl, hc'.2.1, hnl, bm_nat (n := nl) (by omega), bm_nat (n := l) (by omega), e91]
    refine BR_f (by omega) ?_
    rw [lf_isIn hb rfl hb2 (by omega)]
    cases hbl : b.testBit l
    · rw [if_neg (by decide)]
      refine BR_t q0 (LET_i (weigh_L hz hc hn hv hb hb2 hn12 hv12 hi hr hR hS hnl hQ m (l + 1) M _ (by omega) (by omega) hf fun k hk hbk => ?_))
      by_cases hkl : k = l
      · subst hkl
        rw [hbl] at hbk
        cases hbk
      · exact hs k (by omega) hbk
    · rw [if_pos rfl, Int.toNat_natCast, show 2 + 21 + 2 * l = 23 + 2 * l by omega]
      refine BR_f q1 ⟨inb_of (n := 10 * i + l) (by omega) (by omega) (by decide), inb_of rfl (by omega) (by decide), ?_⟩
      refine lf_worthAt hz hc' (by rw [e91]; exact hn) (by rw [e91]; exact hv) hn12 hv12 hi hr (hR.frs hf) (by omega) fun M' x hf' hx => ⟨inb_of (n := 10 * (i + 1) + l) (by omega) (by omega) (by decide), LET_i (LET_i ?_)⟩
      rw [wr_up (i := (i : Int) * 10 + 10 + (l : Int)) (n := 10 * (i + 1) + l) (by omega) (by omega), rd_at (i := (i : Int) * 10 + (l : Int)) (n := 10 * i + l) (by omega) (by omega)]
      refine weigh_L hz hc hn hv hb hb2 hn12 hv12 hi hr hR hS hnl hQ m (l + 1) _ _ (by omega) (by omega) ⟨fun a q1 q2 q3 => ?_, fun k hk => ?_⟩ fun k hk hbk => ?_
      · rw [up_c (by omega), hf' a q2 q3, hf.1 a q1 q2 q3]
      · rw [show (91 : Nat) + 9 = 100 from rfl, up_kn (by omega), hf' 100 (by decide) (by decide), hf.2 k hk]
      · rw [show (91 : Nat) + 9 = 100 from rfl]
        by_cases hkl : k = l
        · subst hkl
          rw [up_s]
          show _ = sm z v n k (r i :: rl r i)
          rw [sm_cons]
          refine bm_congr_add ?_ hx
          have := hS i (Nat.le_refl _) k (by omega) hbk
          rw [hf.2 _ (by omega), this, sm_bm]
        · rw [up_kn (by omega), hf' 100 (by decide) (by decide)]
          exact hs k (by omega) hbk
theorem lf_weigh {z : Fl} {v n i b : Nat} {r : Nat → Nat} {M : Mem} {Q : Mem → Prop} (hz : ZOk z) (hc : CB z M) (hn : M 91 1 = (n : Int)) (hv : M 91 2 = (v : Int)) (hb : M 91 3 = (b : Int)) (hb2 : b < 4096) (hn12 : n ≤ 12) (hv12 : v ≤ 12) (hi : i < n) (hr : RowPs z r (i + 1)) (hR : RowAt z v n r (i + 1) M) (hS : SumAt z v n r b i M)
    (hQ : ∀ M', FrS i M M' → SumAt z v n r b (i + 1) M' → Q M') : wX10_weigh 91 (i : Int) M Q := by
  obtain ⟨nl, hnl⟩ : ∃ nl : Nat, z 1 = (nl : Int) := ⟨(z 1).toNat, by have := hz.2.1; omega⟩
  unfold wX10_weigh
  rw [hn]
  refine wi_t (by rw [bm0, bm_nat (n := i) (by omega), bm_id (z := (n : Int) - 1) (by omega) (by omega)]; omega) (BR_f q1 (LET_i ⟨nl + 1, ?_⟩))
  exact weigh_L hz hc hn hv hb hb2 hn12 hv12 hi hr hR hS hnl hQ nl 0 M _ (by omega) rfl ⟨fun _ _ _ _ => rfl, fun _ _ => rfl⟩ fun k hk => by omega
theorem by1_bm (z : Fl) (v n l : Nat) (L : List Nat) : bm (by1 z v n l L) = by1 z v n l L := by
  unfold by1
  split
  · have := pop_le (bk z v n L)
    exact bm_id (by omega) (by omega)
  · exact sm_bm _ _ _ _ _
theorem lf_totalBy {z : Fl} {v n l b : Nat} {r : Nat → Nat} {M : Mem} {Q : Int → Mem → Prop} (hz : ZOk z) (hc : CB z M) (hn : M 91 1 = (n : Int)) (hn12 : n ≤ 12) (hR : RowAt z v n r n M) (hS : SumAt z v n r b n M) (hl : (l : Int) < z 1) (hbl : b.testBit l = true) (hQ : ∀ x, bm x = by1 z v n l (rl r n) → Q x M) : wX10_totalBy 91 (l : Int) M Q := by
  obtain ⟨k0, -⟩ := lik_f hc hl
  obtain ⟨⟨lk0, lk6⟩, -⟩ := hz.2.2.2.2.2.1 l hl
  have hl10 := hz.2.1
  simp only [wX10_totalBy, wX10_totalBy_J41, Nat.reduceSub]
  rw [hc.2.1]
  refine wi_t (by rw [bm0, bm_nat (n := l) (by omega), bm_id (z := z 1 - 1) (by omega) (by omega)]; omega) (BR_f q1 ⟨inb_of rfl (by omega) (by decide), ?_⟩)
  rw [bnn (n := l) (by omega), show 2 + 21 + 2 * l = 23 + 2 * l by omega, k0, bm_id (z := lK z l) (by omega) (by omega), hn]
  refine BR_i (fun h => BR_f q1 ⟨inb_of rfl (by omega) (by decide), ?_⟩) (fun h => BR_t q0 ⟨inb_of (n := 10 * n + l) (by omega) (by omega) (by decide), hQ _ ?_⟩)
  · rw [rd_at (n := n) rfl (by omega), show (91 : Nat) + 6 = 97 from rfl, (hR.2 n (Nat.le_refl _)).2.2.2.1, lf_bitCount rfl (Nat.lt_of_lt_of_le (bk_lt hz v n (rl r n)) (p2le (m := 12) (by omega)))]
    refine hQ _ ?_
    unfold by1
    rw [if_pos h]
    have := pop_le (bk z v n (rl r n))
    exact bm_id (by omega) (by omega)
  · rw [rd_at (i := (n : Int) * 10 + (l : Int)) (n := 10 * n + l) (by omega) (by omega), show (91 : Nat) + 9 = 100 from rfl, hS n (Nat.le_refl _) l hl hbl]
    unfold by1
    rw [if_neg h]
theorem wgt_bm {z : Fl} (hz : ZOk z) {l : Nat} (hl : (l : Int) < z 1) : bm (wgt z l) = wgt z l ∧ -22680 ≤ wgt z l ∧ wgt z l ≤ 22680 := by
  obtain ⟨-, hu, hd, -⟩ := hz.2.2.2.2.2.1 l hl
  have h1 : 0 ≤ 2520 / lD z l := Int.ediv_nonneg (by decide) (by omega)
  have h2 : 2520 / lD z l ≤ 2520 := Int.ediv_le_self _ (by decide)
  have h3 : wgt z l ≤ 9 * 2520 := by
    unfold wgt
    have := Int.mul_le_mul_of_nonneg_right hu.2 h1
    omega
  have h4 : -(9 * 2520) ≤ wgt z l := by
    unfold wgt
    have := Int.mul_le_mul_of_nonneg_right hu.1 h1
    omega
  exact ⟨bm_id (by omega) (by omega), by omega, by omega⟩
theorem total_L {z : Fl} {v n b nl : Nat} {r : Nat → Nat} {M : Mem} {Q : Int → Mem → Prop} (hz : ZOk z) (hc : CB z M) (hn : M 91 1 = (n : Int)) (hb : M 91 3 = (b : Int)) (hb2 : b < 4096) (hn12 : n ≤ 12) (hR : RowAt z v n r n M) (hS : SumAt z v n r b n M) (hnl : z 1 = (nl : Int)) (hQ : Q (wsum z v n (rl r n) (fun l => b.testBit l) nl) M) : ∀ (m l : Nat) (x1 x3 : Int), l + m = nl → x3 = (l : Int) → x1 = wsum z v n (rl r n) (fun l => b.testBit l) l → wX10_total_L4 Q 91 (m + 1) x1 x3 M
  | 0, l, x1, x3, hl, h3, h1 => by
    subst h3 h1
    obtain rfl : l = nl := by omega
    unfold wX10_total_L4
    rw [show (91 : Nat) - 89 = 2 from rfl, hc.2.1, hnl]
    exact BR_t (Int.le_refl _) hQ
  | m + 1, l, x1, x3, hl, h3, h1 => by
    subst h3 h1
    have hl10 := hz.2.1
    have es : wsum z v n (rl r n) (fun l => b.testBit l) (l + 1) = wsum z v n (rl r n) (fun l => b.testBit l) l + (if b.testBit l = true then by1 z v n l (rl r n) * wgt z l else 0) := rfl
    unfold wX10_total_L4
    rw [show (91 : Nat) - 89 = 2 from rfl, hc.2.1, hnl, bm_nat (n := nl) (by omega), bm_nat (n := l) (by omega)]
    refine BR_f (by omega) ?_
    rw [lf_isIn hb rfl hb2 (by omega)]
    cases hbl : b.testBit l
    · rw [if_neg (by decide)]
      refine BR_t q0 (LET_i (total_L hz hc hn hb hb2 hn12 hR hS hnl hQ m (l + 1) _ _ (by omega) (by omega) ?_))
      rw [es, hbl, if_neg (by decide), Int.add_zero]
    · rw [if_pos rfl]
      refine BR_f q1 (lf_totalBy hz hc hn hn12 hR hS (by omega) hbl fun x hx => ⟨inb_of rfl (by omega) (by decide), LET_i (LET_i (total_L hz hc hn hb hb2 hn12 hR hS hnl hQ m (l + 1) _ _ (by omega) (by omega) ?_))⟩)
      rw [Int.toNat_natCast, show 2 + 21 + 2 * l = 23 + 2 * l by omega, (lik_f hc (by omega)).2.1, hx, (wgt_bm hz (by omega)).1, es, hbl, if_pos rfl]
theorem wsum_cg {z : Fl} {v n : Nat} {L : List Nat} {f g : Nat → Bool} : ∀ {m : Nat}, (∀ l, l < m → f l = g l) → wsum z v n L f m = wsum z v n L g m
  | 0, _ => rfl
  | m + 1, h => by
    show wsum z v n L f m + _ = wsum z v n L g m + _
    rw [wsum_cg (m := m) (fun l hl => h l (by omega)), h m (by omega)]
/-- all the likings that are on -/
theorem lf_total {z : Fl} {v n nl : Nat} {r : Nat → Nat} {M : Mem} {Q : Int → Mem → Prop} (hz : ZOk z) (hc : CB z M) (hnl : z 1 = (nl : Int)) (hn : M 91 1 = (n : Int)) (hb : M 91 3 = (bits (isOn z) nl : Int)) (hn12 : n ≤ 12) (hR : RowAt z v n r n M) (hS : SumAt z v n r (bits (isOn z) nl) n M) (hQ : Q (worth z v n (rl r n)) M) : wX10_total 91 M Q := by
  have hl10 := hz.2.1
  refine ⟨nl + 1, total_L hz hc hn hb (Nat.lt_of_lt_of_le (bits_lt nl) (p2le (m := 12) (by omega))) hn12 hR hS hnl ?_ nl 0 _ _ (by omega) rfl rfl⟩
  unfold worth at hQ
  rw [hnl, Int.toNat_natCast] at hQ
  rw [wsum_cg (g := isOn z) (fun l hl => by rw [bits_tb, decide_eq_true hl, Bool.true_and])]
  exact hQ
/-- good so far -/
theorem goodb_mono {z : Fl} {v n q : Nat} {l : List Nat} (h : goodb z v n (q :: l) = true) : goodb z v n l = true := by
  unfold goodb at h ⊢
  rw [Bool.and_eq_true, decide_eq_true_eq, decide_eq_true_eq] at h ⊢
  obtain ⟨h1, h2⟩ := h
  have h3 : ∀ (f : Nat → Int) (a : Int) (k : Nat), a ≤ mxn f a k := by
    intro f a k
    induction k with
    | zero => exact Int.le_refl _
    | succ k ih =>
      have := mx_ge (mxn f a k) (f k)
      show a ≤ mx (mxn f a k) (f k)
      omega
  rw [mt_cons] at h1
  rw [bk_cons] at h2
  refine ⟨Int.le_trans (h3 _ _ _) h1, ?_⟩
  exact (Nat.or_eq_zero_iff.mp h2).1
theorem lf_notTired {z : Fl} {v n i : Nat} {r : Nat → Nat} {M : Mem} {Q : Int → Mem → Prop} (hz : ZOk z) (hc : CB z M) (hn : M 91 1 = (n : Int)) (hn12 : n ≤ 12) (hi : i ≤ n) (hr : RowPs z r i) (hR : RowAt z v n r i M) (hQ : Q (if mt z v (rl r i) ≤ z 9 then 1 else 0) M) : wX10_isNoneTooTired 91 (i : Int) M Q := by
  have hm := mt_nn hz v (rl r i) hr.pcs
  rw [rl_len] at hm
  have h9 := hz.2.2.2.1.2.2.2
  unfold wX10_isNoneTooTired
  rw [hn]
  refine wi_t (by rw [bm0, bm_nat (n := i) (by omega), bm_nat (n := n) (by omega)]; omega) (BR_f q1 ⟨inb_of rfl (by omega) (by decide), ?_⟩)
  rw [rd_at (k := 91 - 89 + 2) (i := 3) (n := 3) rfl (by decide), rd_at (n := i) rfl (by omega), show (91 : Nat) + 7 = 98 from rfl, (hR.2 i (Nat.le_refl _)).2.2.2.2.1, show (91 : Nat) - 89 + 2 = 4 from rfl, hc.2.2.2.1 3 (by decide), show z (6 + 3) = z 9 from rfl, bm_id (z := z 9) (by omega) (by omega), bm_id (z := mt z v (rl r i)) (by omega) (by omega)]
  refine BR_i (fun h => ?_) (fun h => ?_)
  · rw [if_neg (by omega)] at hQ
    exact hQ
  · rw [if_pos (by omega)] at hQ
    exact hQ
theorem lf_isGood {z : Fl} {v n i : Nat} {r : Nat → Nat} {M : Mem} {Q : Int → Mem → Prop} (hz : ZOk z) (hc : CB z M) (hn : M 91 1 = (n : Int)) (hn12 : n ≤ 12) (hi : i ≤ n) (hr : RowPs z r i) (hR : RowAt z v n r i M) (hQ : Q (if goodb z v n (rl r i) = true then 1 else 0) M) : wX10_isGood 91 (i : Int) M Q := by
  unfold wX10_isGood
  refine lf_notTired hz hc hn hn12 hi hr hR ?_
  have hb := bk_lt hz v n (rl r i)
  by_cases h : mt z v (rl r i) ≤ z 9
  · rw [if_pos h]
    refine BR_f q1 ⟨inb_of rfl (by omega) (by decide), ?_⟩
    rw [rd_at (n := i) rfl (by omega), show (91 : Nat) + 6 = 97 from rfl, (hR.2 i (Nat.le_refl _)).2.2.2.1, bm_nat (n := bk z v n (rl r i)) (by omega)]
    unfold goodb at hQ
    rw [decide_eq_true h, Bool.true_and] at hQ
    refine BR_i (fun h2 => ?_) (fun h2 => ?_)
    · rw [decide_eq_true (by omega), if_pos rfl] at hQ
      exact hQ
    · rw [decide_eq_false (by omega), if_neg (by decide)] at hQ
      exact hQ
  · rw [if_neg h]
    unfold goodb at hQ
    rw [decide_eq_false h, Bool.false_and, if_neg (by decide)] at hQ
    exact BR_t q0 hQ
/-- a walk begins -/
theorem lf_start {n : Nat} {v on : Int} {M : Mem} {Q : Mem → Prop} (hn12 : n ≤ 12) (hQ : ∀ M', M' 91 1 = (n : Int) → M' 91 2 = v → M' 91 3 = on → (∀ a, a ≠ 91 → M' a = M a) → Q M') : wX10_start 91 (n : Int) v on M Q := by
  unfold wX10_start
  rw [lf_min, if_neg (by rw [li_12, bm_nat (n := n) (by omega)]; omega), lf_max, bm0, bm_nat (n := n) (by omega)]
  have key : ∀ x : Int, x = (n : Int) → LET (up M 91 1 x) fun M_5 => LET (up M_5 91 2 v) fun M_6 => LET (up M_6 91 3 on) fun M_7 => Q M_7 := by
    intro x hx
    subst hx
    refine LET_i (LET_i (LET_i (hQ _ ?_ ?_ ?_ fun a ha => ?_)))
    · rw [up_kn (by decide), up_kn (by decide), up_s]
    · rw [up_kn (by decide), up_s]
    · rw [up_s]
    · rw [up_c ha, up_c ha, up_c ha]
  split
  · exact key _ rfl
  · exact key _ (by omega)
/-- along a row -/
theorem along_L {z : Fl} {v n b a1 : Nat} {r : Nat → Nat} {M0 : Mem} {Q : Mem → Prop} (hz : ZOk z) (hc : CB z M0) (hn : M0 91 1 = (n : Int)) (hv : M0 91 2 = (v : Int)) (hb : M0 91 3 = (b : Int)) (hb2 : b < 4096) (hn12 : n ≤ 12) (hv12 : v ≤ 12) (ha1 : a1 + 1 < 91 ∨ 102 < a1) (hr : RowPs z r n) (hrow : ∀ k, k < n → M0 (a1 + 1) k = (r k : Int)) (hQ : ∀ M', FrI 0 M0 M' → RowAt z v n r n M' → SumAt z v n r b n M' → Q M') : ∀ (m i : Nat) (M : Mem) (x3 : Int), i + m = n → x3 = (i : Int) → FrI 0 M0 M → RowAt z v n r i M → SumAt z v n r b i M → wX10_along_L15 Q 91 a1 (m + 1) x3 M
  | 0, i, M, x3, hi, h3, hf, hR, hS => by
    subst h3
    obtain rfl : i = n := by omega
    unfold wX10_along_L15
    rw [hf.1 91 (by omega), hn]
    exact BR_t (Int.le_refl _) (hQ M hf hR hS)
  | m + 1, i, M, x3, hi, h3, hf, hR, hS => by
    subst h3
    have hz0 := hz.1
    have e91 : M 91 = M0 91 := hf.1 91 (by omega)
    unfold wX10_along_L15
    rw [e91, hn, bm_nat (n := n) (by omega), bm_nat (n := i) (by omega), rd_at (n := i) rfl (by omega), hf.1 (a1 + 1) (by omega), hrow i (by omega)]
    have hc' : CB z M := hc.congr hz fun a ha => hf.1 a (by omega)
    refine BR_f (by omega) ⟨inb_of rfl (by omega) (by decide), lf_step hz hc' (by rw [e91]; exact hn) (by rw [e91]; exact hv) hn12 hv12 (by omega) (hr i (by omega)) (hr.le (by omega)) hR rfl fun M1 hR1 hf1 => ?_⟩
    have e91' : M1 91 = M0 91 := by rw [hf1.1 91 (by omega), e91]
    have hc1 : CB z M1 := hc'.congr hz fun a ha => hf1.1 a (by omega)
    refine lf_weigh hz hc1 (by rw [e91']; exact hn) (by rw [e91']; exact hv) (by rw [e91']; exact hb) hb2 hn12 hv12 (by omega) (hr.le (by omega)) hR1 (hS.fr hz hf1 (Nat.le_refl _)) fun M2 hf2 hS2 => LET_i ?_
    exact along_L hz hc hn hv hb hb2 hn12 hv12 ha1 hr hrow hQ m (i + 1) M2 _ (by omega) (by omega) ((hf.tr hf1 (Nat.le_refl _) (Nat.zero_le _)).tr (hf2.fri (Nat.le_refl _)) (Nat.le_refl _) (Nat.zero_le _)) (hR1.frs hf2) hS2
theorem lf_along {z : Fl} {v n b : Nat} {r : Nat → Nat} {M : Mem} {Q : Mem → Prop} {a1 : Nat} (hz : ZOk z) (hc : CB z M) (hw : WzOk M) (ha1 : a1 + 1 < 91 ∨ 102 < a1) (hn : M a1 1 = (n : Int)) (hv : M a1 2 = (v : Int)) (hb2 : b < 4096) (hn12 : n ≤ 12) (hv12 : v ≤ 12) (hr : RowPs z r n) (hrow : ∀ k, k < n → M (a1 + 1) k = (r k : Int))
    (hQ : ∀ M', (∀ a, ¬ (91 ≤ a ∧ a ≤ 102) → M' a = M a) → WzOk M' → M' 91 1 = (n : Int) → M' 91 2 = (v : Int) → M' 91 3 = (b : Int) → RowAt z v n r n M' → SumAt z v n r b n M' → Q M') : wX10_along 91 a1 (b : Int) M Q := by
  unfold wX10_along
  rw [hn, hv]
  refine lf_start hn12 fun M1 h1 h2 h3 h4 => ⟨n + 1, ?_⟩
  have hw1 : WzOk M1 := hw.congr fun a q1 q2 => h4 a (by omega)
  refine along_L hz (hc.congr hz fun a ha => h4 a (by omega)) h1 h2 h3 hb2 hn12 hv12 ha1 hr (fun k hk => by rw [h4 _ (by omega)]; exact hrow k hk) (fun M' hf hR hS => hQ M' (fun a ha => by rw [hf.1 a (by omega), h4 a (by omega)]) (hw1.fr hf) (by rw [hf.1 91 (by omega)]; exact h1) (by rw [hf.1 91 (by omega)]; exact h2) (by rw [hf.1 91 (by omega)]; exact h3) hR hS) n 0 M1 _ (by omega) rfl FrI.rf (RowAt.zero hw1) (SumAt.zero hz hw1)
