/-! tell, sheets -/
theorem st_tell {t : Int} {M : Mem} (hI : Inv t M) (x : Int) : Step t M (fun M Q => wX11_tell 1 x M Q) (fun M Q => wX12_tell 125 x M Q) := by
  intro Q1 hQ1
  obtain ⟨n, hn, hn12, c2⟩ := hI.nw
  simp only [wX11_tell, Nat.reduceAdd]
  rw [c2, bm_nat (by omega)]
  refine BR_i (fun h => ⟨inb_of rfl (by omega) (by decide), LET_i (LET_i ?_)⟩) (fun h => ?_)
  · rw [wr_up rfl (by omega), up_c (a := 2) (k := 10) (by decide), c2, up_s]
    refine hQ1 _ _ fun Q2 hQ2 => ?_
    have e126 : up (up M 10 n x) 2 13 ((n : Int) + 1) 126 = M 126 := by rw [up_c (by decide), up_c (by decide)]
    simp only [wX12_tell, Nat.reduceAdd]
    rw [rd_at (i := 5) (n := 5) rfl (by decide), e126, hn, bm_nat (by omega)]
    refine BR_f (by omega) ⟨inb_of (n := 1510 + n) (by omega) (by omega) (by decide), LET_i (LET_i ?_)⟩
    have rd5 : ∀ N : Mem, rd N 126 5 = N 126 5 := fun N => rd_at (i := 5) (n := 5) rfl (by decide)
    rw [wr_up (i := 1510 + (n : Int)) (n := 1510 + n) (by omega) (by omega), wr_up (i := 5) (n := 5) rfl (by decide)]
    simp (disch := omega) only [rd5, up_s, up_kn, up_c, hn]
    generalize hM2 : up (up (up (up M 10 n x) 2 13 ((n : Int) + 1)) 126 (1510 + n) x) 126 5 ((n : Int) + 1) = M2
    have G : ∀ a, a ≠ 2 → a ≠ 10 → a ≠ 126 → M2 a = M a := fun a _ _ _ => by subst hM2; simp (disch := omega) only [up_c]
    have F : ∀ j, j ≠ 5 → j ≠ 1510 + n → M2 126 j = M 126 j := fun j _ _ => by subst hM2; simp (disch := omega) only [up_kn, up_c]
    have F5 : M2 126 5 = (n : Int) + 1 := by subst hM2; rw [up_s]
    have Fn : M2 126 (1510 + n) = x := by subst hM2; rw [up_kn (by omega), up_s]
    have C : ∀ j, M2 2 j = if j = 13 then (n : Int) + 1 else M 2 j := fun j => by subst hM2; simp (disch := omega) only [up_c, up_k]
    have W : ∀ j, M2 10 j = if j = n then x else M 10 j := fun j => by subst hM2; simp (disch := omega) only [up_c, up_k]
    clear hM2
    obtain ⟨n0, n1, n2, n3, n4, n5⟩ := hI.1.1
    obtain ⟨b0, b1, b2, b3, b4, b5⟩ := hI.2.1.1
    have k0 := F 0 (by omega) (by omega)
    have k1 := F 1 (by omega) (by omega)
    have k2 := F 2 (by omega) (by omega)
    have k3 := F 3 (by omega) (by omega)
    have k4 := F 4 (by omega) (by omega)
    refine hQ2 _ _ rfl ((hI.book (fun y h1 h2 h3 h4 => G y (by omega) (by omega) h4) (by rw [G 103 (by decide) (by decide) (by decide)]) (by rw [G 108 (by decide) (by decide) (by decide)]) ⟨by omega, by omega, by omega, by omega, by omega, by omega⟩ ?_ (by omega) (fun i _ _ => F i (by omega) (by omega)) (G 4 (by decide) (by decide) (by decide)) ?_ ?_ ?_ ?_ (hI.tap (G 7 (by decide) (by decide) (by decide)) k4 (fun i _ _ => F i (by omega) (by omega))) ?_ (hI.seC (fun i _ => F i (by omega) (by omega)) (G 103 (by decide) (by decide) (by decide)) (G 104 (by decide) (by decide) (by decide)) (G 105 (by decide) (by decide) (by decide)) (G 106 (by decide) (by decide) (by decide))) (hI.ssC (fun i _ => F i (by omega) (by omega)) (G 108 (by decide) (by decide) (by decide)) (G 109 (by decide) (by decide) (by decide)))).mono (by omega))
    · unfold BkCnt
      rw [C, C, C, C, C, C, k0, k1, k2, k3, k4, F5]
      exact ⟨b0, b1, b2, b3, b4, rfl⟩
    · exact fun p hp => Or.inl ⟨by omega, G _ (by omega) (by omega) (by omega), fun i _ _ => F i (by omega) (by omega)⟩
    · exact fun p hp => Or.inl ⟨by omega, G _ (by omega) (by omega) (by omega), G _ (by omega) (by omega) (by omega), fun i _ _ => F i (by omega) (by omega), fun i _ _ => F i (by omega) (by omega)⟩
    · exact fun p hp => Or.inl ⟨by omega, G _ (by omega) (by omega) (by omega), fun i _ _ => F i (by omega) (by omega)⟩
    · exact fun p hp => Or.inl ⟨by omega, fun y _ _ => G _ (by omega) (by omega) (by omega), fun i _ _ => F i (by omega) (by omega)⟩
    · intro i hi
      rw [F5] at hi
      rw [W]
      by_cases hin : i = n
      · subst hin
        rw [if_pos rfl, Fn]
      · rw [if_neg hin, F _ (by omega) (by omega)]
        exact hI.2.1.2.2.2.2.2.2.2 i (by omega)
  · refine lf_error11 (k := 4) rfl (by decide) (by decide) (hQ1 _ _ fun Q2 hQ2 => ?_)
    simp only [wX12_tell, Nat.reduceAdd]
    rw [rd_at (i := 5) (n := 5) rfl (by decide), up_c (by decide), hn, bm_nat (by omega)]
    exact BR_t (by omega) (st_err hI (k := 4) (i := 4) rfl (by decide) hQ2)
theorem Inv.shs {t : Int} {M M2 : Mem} (hI : Inv t M) (F : ∀ a, ¬ (117 ≤ a ∧ a ≤ 124) → ¬ (144 ≤ a ∧ a ≤ 147) → M2 a = M a) (hs : ShOk M2) : Inv t M2 := by
  obtain ⟨i1, i2, i3, i4, i5, i6, i7, i8, i9, i10⟩ := hI
  have e126 : M2 126 = M 126 := F 126 (by decide) (by decide)
  refine ⟨by rw [e126]; exact i1, ?_, ?_, ?_, hs, ?_, ?_, ?_, ?_, ?_⟩
  · rw [e126]
    exact i2.congr i1.1 (fun a q1 q2 => F a (by omega) (by omega))
  · exact i3.congr (F 1 (by decide) (by decide)) (F 0 (by decide) (by decide)) (by rw [F 125 (by decide) (by decide)]) (F 127 (by decide) (by decide)) (fun a _ _ q => F a (by omega) (by omega))
  · exact i4.congr (by rw [F 1 (by decide) (by decide)]) (F 0 (by decide) (by decide)) (by rw [F 103 (by decide) (by decide)]) (by rw [F 108 (by decide) (by decide)])
  · exact i6.congr (by rw [F 114 (by decide) (by decide)]) (by rw [F 125 (by decide) (by decide)]) (F 115 (by decide) (by decide)) (F 143 (by decide) (by decide))
  · intro j
    rw [F 86 (by decide) (by decide), F 128 (by decide) (by decide)]
    exact i7 j
  · rw [e126]
    exact i8.congr (fun j _ => by rw [F 103 (by decide) (by decide)]) (F 104 (by decide) (by decide)) (F 105 (by decide) (by decide)) (F 106 (by decide) (by decide))
  · rw [e126]
    exact i9.congr (fun j _ => by rw [F 108 (by decide) (by decide)]) (F 109 (by decide) (by decide))
  · exact i10.congr (fun a q1 q2 => F a (by omega) (by omega))
theorem lf_noSh {x : Int} (ex : bm x = x) {M : Mem} {Q : Int → Mem → Prop} (h1 : 0 ≤ x ∧ x ≤ 3 → Q 0 M) (h2 : ¬ (0 ≤ x ∧ x ≤ 3) → Q 1 M) : wX11_isNoSheet x M Q := by
  unfold wX11_isNoSheet
  refine wi_i (fun h => BR_f q1 (h1 ?_)) (fun h => BR_t q0 (h2 ?_))
  · rw [bm0, ex] at h
    first | (rw [li_3] at h; exact h) | (rw [show bm (4 - 1) = 3 from by decide +kernel] at h; exact h)
  · rw [bm0, ex] at h
    first | (rw [li_3] at h; exact h) | (rw [show bm (4 - 1) = 3 from by decide +kernel] at h; exact h)
theorem lf_isSh {x : Int} (ex : bm x = x) {M : Mem} {Q : Int → Mem → Prop} (h1 : 0 ≤ x ∧ x ≤ 3 → Q 1 M) (h2 : ¬ (0 ≤ x ∧ x ≤ 3) → Q 0 M) : wX12_isSheet x M Q := by
  unfold wX12_isSheet
  refine mi_i (fun h => ⟨isB1, h1 ?_⟩) (fun h => ⟨isB0, h2 ?_⟩)
  · rw [bm0, ex] at h
    first | (rw [li_3] at h; exact h) | (rw [show bm (4 - 1) = 3 from by decide +kernel] at h; exact h)
  · rw [bm0, ex] at h
    first | (rw [li_3] at h; exact h) | (rw [show bm (4 - 1) = 3 from by decide +kernel] at h; exact h)
/-- a sheet holds so many numbers from a place on -/
theorem lf_holds {B : Nat} {M : Mem} {i n : Int} {L : Nat} (hL : M B 2 = (L : Int)) (hL2 : L ≤ 24) (ei : bm i = i) (en : bm n = n) {Q : Int → Mem → Prop} (h1 : 0 ≤ i ∧ 0 ≤ n ∧ n ≤ L ∧ i ≤ L - n → Q 1 M) (h0 : ¬ (0 ≤ i ∧ 0 ≤ n ∧ n ≤ L ∧ i ≤ L - n) → Q 0 M) : wX8_holds B i n M Q := by
  have hb := bmb n
  rw [en] at hb
  unfold wX8_holds
  rw [hL, ei, en, bm_nat (n := L) (by omega)]
  refine BR_i (fun h => h0 (by omega)) (fun h => BR_i (fun h' => h0 (by omega)) (fun h' => BR_i (fun h'' => h0 (by omega)) (fun h'' => ?_)))
  rw [bm_id (z := (L : Int) - n) (by omega) (by omega)]
  exact BR_i (fun g => h0 (by omega)) (fun g => h1 (by omega))
theorem lf_numF {t : Int} {M : Mem} (hI : Inv t M) {a i : Int} (ea : bm a = a) (ei : bm i = i) {Q : Int → Mem → Prop} (h1 : ¬ (0 ≤ a ∧ a ≤ 3) → Q 1 M) (h2 : ∀ k : Nat, a = (k : Int) → k < 4 → M 144 k = 0 → Q 2 M) (h3 : ∀ k : Nat, a = (k : Int) → k < 4 → M 144 k ≠ 0 → ¬ (0 ≤ i ∧ i < M 145 k) → Q 1 M) (h0 : ∀ k : Nat, a = (k : Int) → k < 4 → M 144 k ≠ 0 → (0 ≤ i ∧ i < M 145 k) → Q 0 M) : wX11_numberFault 1 a i M Q := by
  simp only [wX11_numberFault, Nat.reduceAdd]
  refine lf_noSh ea (fun h => BR_t q0 ?_) (fun h => BR_f q1 (h1 h))
  obtain ⟨k, rfl⟩ : ∃ k : Nat, a = (k : Int) := ⟨a.toNat, by omega⟩
  rw [bnn (by omega)]
  obtain ⟨s1, s2, s3, s4, s5, s6⟩ := hI.2.2.2.2.1 k (by omega)
  obtain ⟨L, hL⟩ : ∃ L : Nat, M 145 k = (L : Int) := ⟨(M 145 k).toNat, by omega⟩
  rw [s1]
  have hbm : bm (M 144 k) = M 144 k := bm_id (by omega) (by omega)
  rw [hbm]
  refine ⟨inb_of rfl (by omega) (by decide), BR_i (fun h' => h2 k rfl (by omega) h') (fun h' => ⟨inb_of rfl (by omega) (by decide), lf_holds (L := L) (by rw [s2, hL]) (by omega) ei bm1 (fun g => BR_f q1 (h0 k rfl (by omega) h' (by omega))) (fun g => BR_t q0 (h3 k rfl (by omega) h' (by omega)))⟩)⟩
theorem lf_ref {t : Int} {M : Mem} (hI : ShOk M) {a i : Int} (ea : bm a = a) (ei : bm i = i) {Q : Int → Mem → Prop} (h1 : ¬ (0 ≤ a ∧ a ≤ 3) → Q 1 M) (h2 : ∀ k : Nat, a = (k : Int) → k < 4 → M 144 k = 0 → Q 2 M) (h3 : ∀ k : Nat, a = (k : Int) → k < 4 → M 144 k ≠ 0 → ¬ (0 ≤ i ∧ i < M 145 k) → Q 1 M) (h0 : ∀ k : Nat, a = (k : Int) → k < 4 → M 144 k ≠ 0 → (0 ≤ i ∧ i < M 145 k) → Q 0 M) : wX12_refused 125 a i M Q := by
  simp only [wX12_refused, Nat.reduceAdd]
  refine lf_isSh ea (fun h => BR_f q1 ?_) (fun h => BR_t q0 (h1 h))
  obtain ⟨k, rfl⟩ : ∃ k : Nat, a = (k : Int) := ⟨a.toNat, by omega⟩
  obtain ⟨s1, s2, s3, s4, s5, s6⟩ := hI k (by omega)
  rw [rd_at (k := 144) rfl (by omega), rd_at (k := 145) rfl (by omega)]
  have hbm : bm (M 144 k) = M 144 k := bm_id (by omega) (by omega)
  rw [hbm]
  refine ⟨inb_of rfl (by omega) (by decide), BR_i (fun h' => h2 k rfl (by omega) h') (fun h' => ⟨inb_of rfl (by omega) (by decide), mi_i (fun g => BR_f q1 (h0 k rfl (by omega) h' ?_)) (fun g => BR_t q0 (h3 k rfl (by omega) h' ?_))⟩)⟩
  · rw [bm0, ei, bm_id (z := M 145 k - 1) (by omega) (by omega)] at g
    omega
  · rw [bm0, ei, bm_id (z := M 145 k - 1) (by omega) (by omega)] at g
    omega
theorem ShOk.er {M : Mem} {k : Nat} {v : Int} (h : ShOk M) : ShOk (up M 86 k v) := h.congr (fun a q1 q2 => up_c (by omega)) (up_c (by decide)) (up_c (by decide)) (up_c (by decide))
theorem st_get {t : Int} {M : Mem} (hI : Inv t M) {a i : Int} (ea : bm a = a) (ei : bm i = i) : Step t M (fun M Q => wX11_get 1 a i M Q) (fun M Q => wX12_get 125 a i M Q) := by
  intro Q1 hQ1
  have hS := hI.2.2.2.2.1
  have sb : ∀ k : Nat, k < 4 → 0 ≤ M 145 k ∧ M 145 k ≤ 24 := fun k hk => ⟨(hS k hk).2.2.2.1, (hS k hk).2.2.2.2.1⟩
  simp only [wX11_get, Nat.reduceAdd]
  refine lf_numF hI ea ei (fun h => BR_f q1 ?_) (fun k hk hk4 hb => BR_f (by decide +kernel) ?_) (fun k hk hk4 hb hr => BR_f q1 ?_) (fun k hk hk4 hb hr => BR_t q0 ?_)
  · refine lf_error11 (k := 1) rfl (by decide) (by decide) (hQ1 _ _ fun Q2 hQ2 => ?_)
    have hz := st_err hI (k := 1) (i := 1) rfl (by decide) hQ2
    simp only [wX12_get, Nat.reduceAdd]
    exact lf_ref (t := t) hS.er ea ei (fun _ => BR_f (by decide +kernel) hz) (fun k e h4 _ => absurd (by omega) h) (fun k e h4 _ _ => absurd (by omega) h) (fun k e h4 _ _ => absurd (by omega) h)
  · subst hk
    refine lf_error11 (k := 2) rfl (by decide) (by decide) (hQ1 _ _ fun Q2 hQ2 => ?_)
    have hz := st_err hI (k := 2) (i := 2) rfl (by decide) hQ2
    have e : ∀ j, up M 86 2 (M 86 2 + 1) 144 j = M 144 j := fun j => by rw [up_c (by decide)]
    simp only [wX12_get, Nat.reduceAdd]
    exact lf_ref (t := t) hS.er ea ei (fun h => absurd (by omega) h) (fun k e h4 _ => BR_f (by decide +kernel) hz) (fun k' e' h4 h _ => by rw [e] at h; exact absurd (by rw [show k' = k by omega]; exact hb) h) (fun k' e' h4 h _ => by rw [e] at h; exact absurd (by rw [show k' = k by omega]; exact hb) h)
  · subst hk
    refine lf_error11 (k := 1) rfl (by decide) (by decide) (hQ1 _ _ fun Q2 hQ2 => ?_)
    have hz := st_err hI (k := 1) (i := 1) rfl (by decide) hQ2
    have e : ∀ j, up M 86 1 (M 86 1 + 1) 144 j = M 144 j := fun j => by rw [up_c (by decide)]
    have e' : ∀ j, up M 86 1 (M 86 1 + 1) 145 j = M 145 j := fun j => by rw [up_c (by decide)]
    simp only [wX12_get, Nat.reduceAdd]
    exact lf_ref (t := t) hS.er ea ei (fun h => absurd (by omega) h) (fun k' e1 h4 h => by rw [e, show k' = k by omega] at h; exact absurd h hb) (fun k' e1 h4 h _ => BR_f (by decide +kernel) hz) (fun k' e1 h4 h h' => by rw [e', show k' = k by omega] at h'; exact absurd h' hr)
  · subst hk
    have hb2 := sb k hk4
    obtain ⟨j, rfl⟩ : ∃ j : Nat, i = (j : Int) := ⟨i.toNat, by omega⟩
    rw [bnn (by omega), rd_at rfl (by omega)]
    refine ⟨inb_of rfl (by omega) (by decide), inb_of rfl (by omega) (by decide), hQ1 _ _ fun Q2 hQ2 => ?_⟩
    simp only [wX12_get, Nat.reduceAdd]
    refine lf_ref (t := t) hS ea ei (fun h => absurd (by omega) h) (fun k' e1 h4 h => by rw [show k' = k by omega] at h; exact absurd h hb) (fun k' e1 h4 h h' => by rw [show k' = k by omega] at h'; exact absurd hr h') (fun k' e1 h4 h h' => BR_t (by decide +kernel) ⟨inb_of (n := 24 * k + j) (by omega) (by omega) (by decide), hQ2 _ _ ?_ (hI.mono (by omega))⟩)
    rw [rd_at (n := 24 * k + j) (by omega) (by omega), show 117 + 2 * k + 1 = 118 + 2 * k by omega, ((hS k hk4).2.2.2.2.2 j (by omega)).1]
theorem bm_iShr (a b : Int) : bm (iShr a b) = iShr a b := by unfold bm iShr; rw [Int32.ofInt_toInt]
theorem st_put {t : Int} {M : Mem} (hI : Inv t M) {a i : Int} (x : Int) (ea : bm a = a) (ei : bm i = i) : Step t M (fun M Q => wX11_put 1 a i x M Q) (fun M Q => wX12_put 125 a i x M Q) := by
  intro Q1 hQ1
  have hS := hI.2.2.2.2.1
  have sb : ∀ k : Nat, k < 4 → 0 ≤ M 145 k ∧ M 145 k ≤ 24 := fun k hk => ⟨(hS k hk).2.2.2.1, (hS k hk).2.2.2.2.1⟩
  simp only [wX11_put, Nat.reduceAdd]
  refine lf_numF hI ea ei (fun h => BR_f q1 ?_) (fun k hk hk4 hb => BR_f (by decide +kernel) ?_) (fun k hk hk4 hb hr => BR_f q1 ?_) (fun k hk hk4 hb hr => BR_t q0 ?_)
  · refine lf_error11 (k := 1) rfl (by decide) (by decide) (hQ1 _ _ fun Q2 hQ2 => ?_)
    have hz := st_err hI (k := 1) (i := 1) rfl (by decide) hQ2
    simp only [wX12_put, Nat.reduceAdd]
    exact lf_ref (t := t) hS.er ea ei (fun _ => BR_f (by decide +kernel) hz) (fun k e h4 _ => absurd (by omega) h) (fun k e h4 _ _ => absurd (by omega) h) (fun k e h4 _ _ => absurd (by omega) h)
  · subst hk
    refine lf_error11 (k := 2) rfl (by decide) (by decide) (hQ1 _ _ fun Q2 hQ2 => ?_)
    have hz := st_err hI (k := 2) (i := 2) rfl (by decide) hQ2
    have e : ∀ j, up M 86 2 (M 86 2 + 1) 144 j = M 144 j := fun j => by rw [up_c (by decide)]
    simp only [wX12_put, Nat.reduceAdd]
    exact lf_ref (t := t) hS.er ea ei (fun h => absurd (by omega) h) (fun k e h4 _ => BR_f (by decide +kernel) hz) (fun k' e' h4 h _ => by rw [e] at h; exact absurd (by rw [show k' = k by omega]; exact hb) h) (fun k' e' h4 h _ => by rw [e] at h; exact absurd (by rw [show k' = k by omega]; exact hb) h)
  · subst hk
    refine lf_error11 (k := 1) rfl (by decide) (by decide) (hQ1 _ _ fun Q2 hQ2 => ?_)
    have hz := st_err hI (k := 1) (i := 1) rfl (by decide) hQ2
    have e : ∀ j, up M 86 1 (M 86 1 + 1) 144 j = M 144 j := fun j => by rw [up_c (by decide)]
    have e' : ∀ j, up M 86 1 (M 86 1 + 1) 145 j = M 145 j := fun j => by rw [up_c (by decide)]
    simp only [wX12_put, Nat.reduceAdd]
    exact lf_ref (t := t) hS.er ea ei (fun h => absurd (by omega) h) (fun k' e1 h4 h => by rw [e, show k' = k by omega] at h; exact absurd h hb) (fun k' e1 h4 h _ => BR_f (by decide +kernel) hz) (fun k' e1 h4 h h' => by rw [e', show k' = k by omega] at h'; exact absurd h' hr)
  · subst hk
    have hb2 := sb k hk4
    obtain ⟨j, rfl⟩ : ∃ j : Nat, i = (j : Int) := ⟨i.toNat, by omega⟩
    obtain ⟨s1, s2, s3, s4, s5, s6⟩ := hS k hk4
    obtain ⟨L, hL⟩ : ∃ L : Nat, M 145 k = (L : Int) := ⟨(M 145 k).toNat, by omega⟩
    rw [bnn (by omega)]
    simp only [wX8_write, Nat.reduceAdd]
    refine ⟨inb_of rfl (by omega) (by decide), lf_holds (L := L) (by rw [s2, hL]) (by omega) ei bm1 (fun g => BR_f q1 (LET_i ⟨inb_of rfl (by omega) (by decide), LET_i ?_⟩)) (fun g => absurd (by omega) g)⟩
    rw [wr_up rfl (by omega), s1, show 117 + 2 * k + 1 = 118 + 2 * k by omega]
    generalize hv : iShr (iShl x (32 - M 144 k)) (32 - M 144 k) = v
    refine hQ1 _ _ fun Q2 hQ2 => ?_
    have hc : ∀ z, (z = 144 ∨ z = 145 ∨ z = 146) → up M (118 + 2 * k) j v z = M z := fun z hz => up_c (by omega)
    have hS2 : ∀ k', k' < 4 → k' ≠ k → ShOk1 (up M (118 + 2 * k) j v) k' := by
      intro k' h4 hne
      unfold ShOk1
      rw [up_c (by omega), up_c (a := 118 + 2 * k') (by omega), hc 144 (by omega), hc 145 (by omega), hc 146 (by omega)]
      exact hS k' h4
    simp only [wX12_put, wX12_refused, Nat.reduceAdd]
    refine lf_isSh ea (fun _ => BR_f q1 ?_) (fun h => absurd (by omega) h)
    rw [rd_at (k := 144) rfl (by omega), rd_at (k := 145) rfl (by omega), hc 144 (by omega), hc 145 (by omega)]
    refine ⟨inb_of rfl (by omega) (by decide), BR_f (by rw [bm_id (z := M 144 k) (by omega) (by omega)]; exact hb) ⟨inb_of rfl (by omega) (by decide), mi_t ?_ (BR_f q1 (BR_t (by decide +kernel) ⟨inb_of rfl (by omega) (by decide), LET_i ⟨inb_of (n := 24 * k + j) (by omega) (by omega) (by decide), LET_i ?_⟩⟩))⟩⟩
    · rw [bm0, ei, bm_id (z := M 145 k - 1) (by omega) (by omega)]
      omega
    · rw [rd_at (k := 144) (i := (k : Int)) rfl (by omega), hc 144 (by omega), hv, wr_up (n := 24 * k + j) (by omega) (by omega)]
      refine hQ2 _ _ rfl ((hI.shs (fun z h1 h2 => by rw [up_c (by omega), up_c (by omega)]) (fun k' h4 => ?_)).mono (by omega))
      unfold ShOk1
      by_cases hk' : k' = k
      · subst hk'
        refine ⟨by rw [up_c (by omega), up_c (by omega), up_c (a := 144) (by decide), hc 144 (by omega)]; exact s1, by rw [up_c (by omega), up_c (by omega), up_c (a := 145) (by decide), hc 145 (by omega)]; exact s2, by rw [up_c (a := 144) (by decide), hc 144 (by omega)]; exact s3, by rw [up_c (a := 145) (by decide), hc 145 (by omega)]; exact s4, by rw [up_c (a := 145) (by decide), hc 145 (by omega)]; exact s5, fun y hy => ?_⟩
        rw [up_c (by omega), up_k, up_k, hc 146 (by omega)]
        by_cases hyj : y = j
        · subst hyj
          rw [if_pos rfl, if_pos rfl]
          exact ⟨rfl, by rw [← hv]; exact bm_iShr _ _⟩
        · rw [if_neg hyj, if_neg (by omega)]
          exact s6 y hy
      · obtain ⟨u1, u2, u3, u4, u5, u6⟩ := hS2 k' h4 hk'
        refine ⟨by rw [up_c (by omega), up_c (a := 144) (by decide)]; exact u1, by rw [up_c (by omega), up_c (a := 145) (by decide)]; exact u2, by rw [up_c (a := 144) (by decide)]; exact u3, by rw [up_c (a := 145) (by decide)]; exact u4, by rw [up_c (a := 145) (by decide)]; exact u5, fun y hy => ?_⟩
        rw [up_c (by omega), up_kn (by omega)]
        exact u6 y hy
