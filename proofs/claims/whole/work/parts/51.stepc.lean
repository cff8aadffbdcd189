/-! THE CLASS'S WALK: a step -/
theorem lf_carr {z : Fl} {M : Mem} {a b : Nat} {Q : Int → Mem → Prop} (hz : ZOk z) (hc : CB z M) (ha : (a : Int) < z 0) (hb : (b : Int) < z 0) (hQ : Q (car z a b) M) : wX3_carriedTo (11 + a) (11 + b) M Q := by
  have pa := (hz.2.2.2.2.1 a ha).2.2.2.2.1
  have pb := (hz.2.2.2.2.1 b hb).2.2.2.2.1
  have ea : M (11 + a) 4 = (((pThi z a).toNat : Nat) : Int) := by
    rw [hc.2.2.2.2.1 a ha 4 (by decide), show z (20 + 6 * a + 4) = pThi z a by unfold pThi; congr 1; omega]
    omega
  have eb : M (11 + b) 4 = (((pThi z b).toNat : Nat) : Int) := by
    rw [hc.2.2.2.2.1 b hb 4 (by decide), show z (20 + 6 * b + 4) = pThi z b by unfold pThi; congr 1; omega]
    omega
  unfold wX3_carriedTo
  have hx : (pThi z a).toNat ^^^ (pThi z b).toNat < 2 ^ 12 := Nat.xor_lt_two_pow (by omega) (by omega)
  rw [lf_bitCount (k := (pThi z a).toNat ^^^ (pThi z b).toNat) (by rw [ea, eb]; exact iXor_n (by omega) (by omega)) hx]
  exact hQ
theorem plays_in {z : Fl} {M : Mem} {q j : Nat} {Q : Int → Mem → Prop} (hz : ZOk z) (hc : CB z M) (hq : (q : Int) < z 0) (hj : j < 8) (h1 : plays z q j = true → Q 1 M) (h0 : plays z q j = false → Q 0 M) : wX11_isIn (M (11 + q) 3) (j : Int) M Q := by
  have pq := (hz.2.2.2.2.1 q hq).2.2.2.1
  have eq : M (11 + q) 3 = (((pPla z q).toNat : Nat) : Int) := by
    rw [hc.2.2.2.2.1 q hq 3 (by decide), show z (20 + 6 * q + 3) = pPla z q by unfold pPla; congr 1; omega]
    omega
  rw [lf_isIn eq rfl (by omega) (by omega)]
  unfold plays at h1 h0
  cases h : (pPla z q).toNat.testBit j
  · rw [if_neg (by decide)]
    exact h0 h
  · rw [if_pos rfl]
    exact h1 h
/-- tiring -/
theorem tire_L {z : Fl} {v i q : Nat} {l : List Nat} {M0 : Mem} {Q : Mem → Prop} {E : Int → Mem → Prop} {g : Int} (hz : ZOk z) (hc : CB z M0) (hq : (q : Int) < z 0) (hl : Pcs z l) (hi : i < 12) (hll : l.length = i) (hg : g = gp z v q l) (h99 : ∀ j, j < 8 → M0 99 (8 * i + j) = ti z v j l)
    (hQ : ∀ M', (∀ a, a ≠ 99 → M' a = M0 a) → (∀ k, k < 8 * (i + 1) → M' 99 k = M0 99 k) → (∀ j, j < 8 → M' 99 (8 * (i + 1) + j) = ti z v j (q :: l)) → E (mt z v (q :: l)) M') : ∀ (m j : Nat) (M : Mem) (x5 x6 : Int), j + m = 8 → x6 = (j : Int) → x5 = mxn (fun k => ti z v k (q :: l)) (mt z v l) j → (∀ a, a ≠ 99 → M a = M0 a) → (∀ k, k < 8 * (i + 1) → M 99 k = M0 99 k) → (∀ k, k < j → M 99 (8 * (i + 1) + k) = ti z v k (q :: l)) → wX10_tire_L17 Q E 91 (i : Int) (11 + q) g ((i : Int) * 8) (m + 1) x5 x6 M
  | 0, j, M, x5, x6, hj, h6, h5, f1, f2, f3 => by
    subst h6 h5
    obtain rfl : j = 8 := by omega
    unfold wX10_tire_L17
    exact BR_t (by decide +kernel) (hQ M f1 f2 f3)
  | m + 1, j, M, x5, x6, hj, h6, h5, f1, f2, f3 => by
    subst h6
    have hc' : CB z M := hc.congr hz fun a ha => f1 a (by omega)
    have hqL : Pcs z (q :: l) := fun p hp => by
      rcases List.mem_cons.mp hp with rfl | hp
      · exact hq
      · exact hl p hp
    have b0 := ti_nn hz v j l hl
    have b1 := ti_nn hz v j (q :: l) hqL
    have b2 := gp_nn hz v q l
    have b3 := mt_nn hz v l hl
    have b5 := mxn_nn (f := fun k => ti z v k (q :: l)) (a := mt z v l) (c := 99 * ((q :: l).length : Int)) (by rw [List.length_cons]; omega) j (fun k _ => ti_nn hz v k (q :: l) hqL)
    rw [List.length_cons] at b1 b5
    have hp := hz.2.2.2.2.1 q hq
    obtain ⟨r6, r7, r8, r9⟩ := hz.2.2.2.1
    have p0 : M (11 + q) 0 = pMin z q := hc'.2.2.2.2.1 q hq 0 (by decide)
    have p5 : M (11 + q) 5 = pEff z q := by rw [hc'.2.2.2.2.1 q hq 5 (by decide)]; unfold pEff; congr 1; omega
    have e7 : rd M 4 1 = z 7 := by rw [rd_at (i := 1) (n := 1) rfl (by decide)]; exact hc'.2.2.2.1 1 (by decide)
    have e99 : rd M 99 ((i : Int) * 8 + (j : Int)) = ti z v j l := by
      rw [rd_at (n := 8 * i + j) (by omega) (by omega), f2 _ (by omega)]
      exact h99 j (by omega)
    have k1 : 0 ≤ gp z v q l * z 7 := Int.mul_nonneg b2.1 r7.1
    have k2 : gp z v q l * z 7 ≤ 108 * 9 := Int.mul_le_mul b2.2 r7.2 r7.1 (by decide)
    have hpm := hp.1
    have k3 : 0 ≤ (gp z v q l + pMin z q) * z 7 := Int.mul_nonneg (by omega) r7.1
    have k4 : (gp z v q l + pMin z q) * z 7 ≤ 168 * 9 := Int.mul_le_mul (by omega) r7.2 r7.1 (by decide)
    unfold wX10_tire_L17
    simp only [wX10_tire_J50, wX10_tire_J95, Nat.reduceSub, Nat.reduceAdd]
    rw [bm_nat (n := j) (by omega)]
    have fin : ∀ x9 : Int, x9 = ti z v j (q :: l) → inb ((i : Int) * 8 + 8 + (j : Int)) 104 ∧ LET (wr M 99 ((i : Int) * 8 + 8 + (j : Int)) x9) (fun M_15 => wJ9_max_7cf53 x5 x9 M_15 (fun r_17 M_16 => LET ((j : Int) + 1) (fun x6_18 => wX10_tire_L17 Q E 91 (i : Int) (11 + q) g ((i : Int) * 8) (m + 1) r_17 x6_18 M_16))) := by
      intro x9 h9
      subst h9
      refine ⟨inb_of (n := 8 * (i + 1) + j) (by omega) (by omega) (by decide), LET_i ?_⟩
      rw [wr_up (n := 8 * (i + 1) + j) (by omega) (by omega), lf_max, h5, bm_id (z := mxn (fun k => ti z v k (q :: l)) (mt z v l) j) (by omega) (by omega), bm_id (z := ti z v j (q :: l)) (by omega) (by omega)]
      have nxt : ∀ x : Int, x = mxn (fun k => ti z v k (q :: l)) (mt z v l) (j + 1) → LET ((j : Int) + 1) (fun x6_18 => wX10_tire_L17 Q E 91 (i : Int) (11 + q) g ((i : Int) * 8) (m + 1) x x6_18 (up M 99 (8 * (i + 1) + j) (ti z v j (q :: l)))) := by
        intro x hx
        refine LET_i (tire_L hz hc hq hl hi hll hg h99 hQ m (j + 1) _ _ _ (by omega) (by omega) hx (fun a ha => by rw [up_c ha]; exact f1 a ha) (fun k hk => by rw [up_kn (by omega)]; exact f2 k hk) (fun k hk => ?_))
        by_cases hkj : k = j
        · subst hkj
          rw [up_s]
        · rw [up_kn (by omega)]
          exact f3 k (by omega)
      have em : mxn (fun k => ti z v k (q :: l)) (mt z v l) (j + 1) = mx (mxn (fun k => ti z v k (q :: l)) (mt z v l) j) (ti z v j (q :: l)) := rfl
      split
      · refine nxt _ ?_
        rw [em]
        unfold mx
        rw [if_pos (by assumption)]
      · refine nxt _ ?_
        rw [em]
        unfold mx
        rw [if_neg (by assumption)]
    subst hg
    refine BR_f (by omega) (plays_in hz hc' hq (by omega) (fun hp1 => BR_f q1 ⟨inb_of (n := 8 * i + j) (by omega) (by omega) (by decide), ?_⟩) (fun hp0 => BR_t q0 ⟨inb_of (n := 8 * i + j) (by omega) (by omega) (by decide), ?_⟩))
    · rw [e99, e7, lf_max, bm0, bm_id (z := ti z v j l - gp z v q l * z 7) (by omega) (by omega), p5]
      have et : ti z v j (q :: l) = mx 0 (ti z v j l - gp z v q l * z 7) + pEff z q := by rw [ti_cons, if_pos hp1]
      split
      · refine BR_f q1 (LET_i (fin _ ?_))
        rw [et]
        unfold mx
        rw [if_pos (by assumption)]
      · refine BR_f q1 (LET_i (fin _ ?_))
        rw [et]
        unfold mx
        rw [if_neg (by assumption)]
    · rw [e99, e7, p0, lf_max, bm0, bm_id (z := ti z v j l - (gp z v q l + pMin z q) * z 7) (by omega) (by omega)]
      have et : ti z v j (q :: l) = mx 0 (ti z v j l - (gp z v q l + pMin z q) * z 7) := by rw [ti_cons, if_neg (by rw [hp0]; decide)]
      split
      · refine BR_t q0 (fin _ ?_)
        rw [et]
        unfold mx
        rw [if_pos (by assumption)]
      · refine BR_t q0 (fin _ ?_)
        rw [et]
        unfold mx
        rw [if_neg (by assumption)]
/-- right behind -/
theorem lf_rb {r : Nat → Nat} {c : Nat} {M : Mem} {Q : Int → Mem → Prop} {i : Nat} (hrow : ∀ k, k < i → M 92 k = (r k : Int)) (hi : i ≤ 12) (hr : ∀ k, k < i → r k < 12) (hc : c < 12) (hQ : Q (if hd (rl r i) = (c : Int) then 1 else 0) M) : wX10_isRightBehind 91 (i : Int) (c : Int) M Q := by
  unfold wX10_isRightBehind
  rw [bm_nat (n := i) (by omega), bm_nat (n := c) (by omega)]
  cases i with
  | zero =>
    have e : hd (rl r 0) = -1 := rfl
    rw [e, if_neg (by omega)] at hQ
    exact BR_t (by decide) hQ
  | succ k =>
    rw [show (((k + 1 : Nat) : Int) - 1) = (k : Int) by omega, rd_at (n := k) rfl (by omega), show (91 : Nat) + 1 = 92 from rfl, hrow k (by omega)]
    have e : hd (rl r (k + 1)) = (r k : Int) := rfl
    rw [e] at hQ
    have := hr k (by omega)
    rw [bm_nat (n := r k) (by omega)]
    refine BR_f (by omega) ⟨inb_of rfl (by omega) (by decide), BR_i (fun h => ?_) (fun h => ?_)⟩
    · rw [if_pos h] at hQ
      exact hQ
    · rw [if_neg h] at hQ
      exact hQ
