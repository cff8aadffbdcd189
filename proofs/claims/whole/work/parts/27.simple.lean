/-! as, must, tell, count -/
theorem isOf_0 {Q : Int → Mem → Prop} {x : Int} {M : Mem} {N : Nat} (x3 : Int) (h3 : bm x3 < 7) (h3' : bm (x3 + 1) < 7) (ex : bm x = x) (h1 : x = 0 → Q 1 M) (h2 : x ≠ 0 → Q 0 M) : wX1_isOf_L7 Q x (N + 2) 0 x3 M := by
  unfold wX1_isOf_L7
  refine BR_f (by omega) (BR_f (by rw [bm0]; omega) (BR_i (fun c => h1 (by rw [bm0, ex] at c; omega)) (fun c => ⟨⟨by rw [bm0]; omega, by rw [bm0]; omega⟩, LET_i (LET_i ?_)⟩)))
  rw [show tabV 1 0 = -1 from by decide +kernel]
  unfold wX1_isOf_L7
  exact BR_f (by omega) (BR_t (by decide +kernel) (h2 (by rw [bm0, ex] at c; omega)))
theorem isOf_k {Q : Int → Mem → Prop} {x : Int} {M : Mem} {N k : Nat} (hk : k = 1 ∨ k = 2 ∨ k = 3 ∨ k = 4 ∨ k = 6) (x3 : Int) (h3 : bm x3 < 7) (h3' : bm (x3 + 1) < 7) (h3'' : bm (x3 + 1 + 1) < 7) (ex : bm x = x) (h1 : x = k ∨ x = 0 → Q 1 M) (h2 : ¬ (x = k ∨ x = 0) → Q 0 M) : wX1_isOf_L7 Q x (N + 3) k x3 M := by
  unfold wX1_isOf_L7
  refine BR_f (by omega) (BR_f (by rw [bm_nat (by omega)]; omega) (BR_i (fun c => h1 (by rw [bm_nat (by omega), ex] at c; omega)) (fun c => ⟨inb_of rfl (by omega) (by decide), LET_i (LET_i ?_)⟩)))
  have ht : tabV 1 (k : Int) = 0 := by rcases hk with rfl | rfl | rfl | rfl | rfl <;> decide +kernel
  rw [ht]
  rw [bm_nat (by omega), ex] at c
  exact isOf_0 _ h3' h3'' ex (fun h => h1 (Or.inr h)) (fun h => h2 (by omega))
theorem lf_isOf {B k : Nat} {x : Int} {M : Mem} {Q : Int → Mem → Prop} (hk : M B 0 = (k : Int)) (h6 : k ≤ 6) (ex : bm x = x) (h1 : x = k ∨ x = 0 ∨ (x = 1 ∧ k = 5) → Q 1 M) (h2 : ¬ (x = k ∨ x = 0 ∨ (x = 1 ∧ k = 5)) → Q 0 M) : wX1_isOf B x M Q := by
  unfold wX1_isOf
  rw [hk]
  refine LET_i ⟨4, ?_⟩
  rcases (show k = 0 ∨ k = 5 ∨ (k = 1 ∨ k = 2 ∨ k = 3 ∨ k = 4 ∨ k = 6) by omega) with rfl | rfl | hk
  · exact isOf_0 _ (by decide +kernel) (by decide +kernel) ex (fun h => h1 (by omega)) (fun h => h2 (by omega))
  · unfold wX1_isOf_L7
    refine BR_f (by decide +kernel) (BR_f (by decide +kernel) (BR_i (fun c => h1 (by rw [bm_nat (by omega), ex] at c; omega)) (fun c => ⟨inb_of rfl (by omega) (by decide), LET_i (LET_i ?_)⟩)))
    rw [bm_nat (by omega), ex] at c
    rw [show tabV 1 ((5 : Nat) : Int) = ((1 : Nat) : Int) from by decide +kernel]
    exact isOf_k (Or.inl rfl) _ (by decide +kernel) (by decide +kernel) (by decide +kernel) ex (fun h => h1 (by omega)) (fun h => h2 (by omega))
  · exact isOf_k (N := 1) hk _ (by decide +kernel) (by decide +kernel) (by decide +kernel) ex (fun h => h1 (by omega)) (fun h => h2 (by omega))
theorem st_as {t : Int} {M : Mem} (hI : Inv t M) {a b : Int} (ea : bm a = a) (eb : bm b = b) : Step t M (fun M Q => wX11_as 1 a b M Q) (fun M Q => wX12_as 125 a b M Q) := by
  intro Q1 hQ1
  obtain ⟨n, hn, hn10, c2⟩ := hI.nl
  have hE : ¬ ((bm 0 ≤ bm a ∧ bm a ≤ bm ((n : Int) - 1)) ∧ (bm 0 ≤ bm b ∧ bm b ≤ bm 6)) → wX11_error 1 1 M (fun r M1 => Q1 r M1) := by
    intro hno
    refine lf_error11 (k := 1) rfl (by decide) (by decide) (hQ1 _ _ fun Q2 hQ2 => ?_)
    have hz := st_err hI (k := 1) (i := 1) rfl (by decide) hQ2
    simp only [wX12_as, wX12_as_J18]
    exact lf_isLik (n := n) (by rw [up_c (by decide)]; exact hn) (fun h1 => BR_f q1 (mi_i (fun h2 => absurd ⟨h1, h2⟩ hno) (fun h2 => BR_t q0 hz))) (fun h1 => BR_t q0 hz)
  simp only [wX11_as, wX11_as_J18, Nat.reduceAdd]
  refine lf_noLik c2 (fun h1 => BR_t q0 (wi_i (fun h2 => BR_f q1 ?_) (fun h2 => BR_t q0 (hE (fun h => h2 h.2))))) (fun h1 => BR_f q1 (hE (fun h => h1 h.1)))
  obtain ⟨l, rfl, hl⟩ := rg ea (bm_id (by omega) (by omega)) h1
  obtain ⟨j, rfl, hj⟩ := rg eb li_6 h2
  have hL := hI.1.2.2.2.1 l (by omega)
  have hB := hI.2.1.2.2.2.1 l (by omega)
  obtain ⟨k, hk⟩ : ∃ k : Nat, lK (M 126) l = (k : Int) := ⟨(lK (M 126) l).toNat, by have := hL.1; omega⟩
  have hk6 : k ≤ 6 := by have := hL.1; omega
  have e0 : M (23 + 2 * l) 0 = (k : Int) := by have := hB.1; rw [show 2 + 21 + 2 * l = 23 + 2 * l by omega] at this; rw [this, hk]
  have e1 : M (23 + 2 * l) 1 = lU (M 126) l := by have := hB.2.1; rwa [show 2 + 21 + 2 * l = 23 + 2 * l by omega] at this
  have e2 : M (23 + 2 * l) 2 = lD (M 126) l := by have := hB.2.2.1; rwa [show 2 + 21 + 2 * l = 23 + 2 * l by omega] at this
  rw [bnn (by omega)]
  refine ⟨inb_of rfl (by omega) (by decide), lf_isOf e0 hk6 eb (fun hy => BR_f q1 ?_) (fun hy => BR_t q0 ?_)⟩
  · refine hQ1 _ _ fun Q2 hQ2 => ?_
    simp only [wX12_as, wX12_as_J50, wX12_as_J54, wX12_as_J55, wX12_likingIs, Nat.reduceAdd]
    refine lf_isLik hn (fun _ => BR_f q1 (mi_t h2 (BR_f q1 ⟨inb_of (n := 100 + 4 * l) (by omega) (by omega) (by decide), ?_⟩))) (fun h => absurd h1 h)
    rw [rd_at (i := 100 + 4 * (l : Int) + 0) (n := 100 + 4 * l) (by omega) (by omega), rd_at (i := 100 + 4 * (l : Int) + 1) (n := 101 + 4 * l) (by omega) (by omega), rd_at (i := 100 + 4 * (l : Int) + 2) (n := 102 + 4 * l) (by omega) (by omega), show M 126 (100 + 4 * l) = (k : Int) from hk]
    have fin : BR (bm 1 = 0) (wX12_error 125 5 M fun r_10 M_9 => Q2 r_10 M_9) (inb (100 + 4 * (l : Int) + 1) 1522 ∧ inb (100 + 4 * (l : Int) + 2) 1522 ∧ Q2 (100 * M 126 (101 + 4 * l) + M 126 (102 + 4 * l)) M) :=
      BR_f q1 ⟨inb_of (n := 101 + 4 * l) (by omega) (by omega) (by decide), inb_of (n := 102 + 4 * l) (by omega) (by omega) (by decide), hQ2 _ _ (by rw [e1, e2]; rfl) (hI.mono (by omega))⟩
    rw [bm_nat (n := j) (by omega), bm_nat (n := k) (by omega)]
    exact BR_i (fun _ => fin) (fun c1 => BR_i (fun _ => fin) (fun c2 => BR_i (fun _ => BR_i (fun _ => fin) (fun c4 => by omega)) (fun c3 => by omega)))
  · refine lf_error11 (k := 5) rfl (by decide) (by decide) (hQ1 _ _ fun Q2 hQ2 => ?_)
    have hz := st_err hI (k := 5) (i := 5) rfl (by decide) hQ2
    simp only [wX12_as, wX12_as_J50, wX12_as_J54, wX12_as_J55, wX12_likingIs, Nat.reduceAdd]
    refine lf_isLik (n := n) (by rw [up_c (by decide)]; exact hn) (fun _ => BR_f q1 (mi_t h2 (BR_f q1 ⟨inb_of (n := 100 + 4 * l) (by omega) (by omega) (by decide), ?_⟩))) (fun h => absurd h1 h)
    rw [rd_at (i := 100 + 4 * (l : Int) + 0) (n := 100 + 4 * l) (by omega) (by omega), up_c (a := 126) (k := 86) (by decide), show M 126 (100 + 4 * l) = (k : Int) from hk, bm_nat (n := j) (by omega), bm_nat (n := k) (by omega)]
    exact BR_f (by omega) (BR_f (by omega) (BR_i (fun _ => BR_f (by omega) (BR_t q0 hz)) (fun _ => BR_t q0 hz)))
theorem st_must {t : Int} {M : Mem} (hI : Inv t M) {a b c : Int} (ea : bm a = a) (ec : bm c = c) : Step t M (fun M Q => wX11_must 1 a b c M Q) (fun M Q => wX12_must 125 a b c M Q) := by
  intro Q1 hQ1
  obtain ⟨np, hnp, hnp12, c1⟩ := hI.np
  obtain ⟨n, hn, hn10, c2⟩ := hI.nm
  have d4 : 0 ≤ bm b → bm (iDiv b 100) = bm b / 100 ∧ bm (iRem b 100) = bm b % 100 := by
    intro h
    have k1 : iDiv b 100 = bm b / 100 := iDiv_nn (d := 100) h (by decide) (by decide)
    have k2 : iRem b 100 = bm b % 100 := iRem_nn (d := 100) h (by decide) (by decide)
    rw [bm_iDiv, bm_iRem]
    exact ⟨k1, k2⟩
  have hE : ¬ ((bm 0 ≤ bm a ∧ bm a ≤ bm 7) ∧ (bm 0 ≤ bm c ∧ bm c ≤ bm 999) ∧ 0 ≤ bm b ∧ bm (iDiv b 100) < np ∧ bm (iRem b 100) < np ∧ bm (iDiv b 100) ≠ bm (iRem b 100)) → wX11_error 1 1 M (fun r M1 => Q1 r M1) := by
    intro hno
    refine lf_error11 (k := 1) rfl (by decide) (by decide) (hQ1 _ _ fun Q2 hQ2 => ?_)
    have hz := st_err hI (k := 1) (i := 1) rfl (by decide) hQ2
    have hnp' : up M 86 1 (M 86 1 + 1) 126 0 = (np : Int) := by rw [up_c (by decide)]; exact hnp
    simp only [wX12_must, wX12_must_J58]
    refine mi_i (fun h1 => BR_f q1 (BR_i (fun _ => hz) (fun h2 => lf_isPc hnp' (fun h3 => BR_f q1 (lf_isPc hnp' (fun h4 => BR_f q1 (BR_i (fun _ => hz) (fun h5 => mi_i (fun h6 => absurd ⟨h1, h6, by omega, ?_, ?_, h5⟩ hno) (fun _ => BR_t q0 hz)))) (fun _ => BR_t q0 hz))) (fun _ => BR_t q0 hz)))) (fun _ => BR_t q0 hz)
    · have := h3.2
      rw [bm_id (z := (np : Int) - 1) (by omega) (by omega)] at this
      omega
    · have := h4.2
      rw [bm_id (z := (np : Int) - 1) (by omega) (by omega)] at this
      omega
  simp only [wX11_must, wX11_must_J37, wX11_must_J38, wX11_must_J79, wX11_must_J80, wX11_must_J92, wX11_forget, Nat.reduceAdd]
  have hm1 : bm (M 2 1) = (np : Int) := by rw [c1, bm_nat (by omega)]
  have bad : ∀ x : Int, wX11_error 1 1 M (fun r M1 => Q1 r M1) → BR (bm x = 0) (wX11_error 1 1 M fun r_6 M_5 => Q1 r_6 M_5) (BR (bm 0 = 0) (wX11_error 1 1 M fun r_6 M_5 => Q1 r_6 M_5) (BR (bm (M 2 6) < 10) (inb (M 2 6) 10 ∧ LET (up M (43 + (bm (M 2 6)).toNat) 0 a) fun M_13 => LET (up M_13 (43 + (bm (M 2 6)).toNat) 1 (iDiv b 100)) fun M_14 => LET (up M_14 (43 + (bm (M 2 6)).toNat) 2 (iRem b 100)) fun M_15 => LET (up M_15 (43 + (bm (M 2 6)).toNat) 3 c) fun M_16 => LET (up M_16 103 3 0) fun M_2 => LET (up M_2 108 1 0) fun M_4 => LET (up M_4 2 6 (M_4 2 6 + 1)) fun M_19 => Q1 (M_4 2 6) M_19) (wX11_error 1 4 M fun r_21 M_20 => Q1 r_21 M_20))) :=
    fun x h => BR_i (fun _ => h) (fun _ => BR_t q0 h)
  refine LET_i (LET_i (wi_i (fun h1 => BR_f q1 (wi_i (fun h2 => BR_f q1 (BR_i (fun h3 => bad _ (hE (by omega))) (fun h3 => BR_i (fun h4 => bad _ (hE (by omega))) (fun h4 => BR_i (fun h5 => bad _ (hE (by omega))) (fun h5 => BR_i (fun h6 => bad _ (hE (by omega))) (fun h6 => BR_f q1 (BR_f q1 ?_))))))) (fun h2 => BR_t q0 (BR_i (fun _ => bad _ (hE (fun h => h2 h.2.1))) (fun _ => BR_i (fun _ => bad _ (hE (fun h => h2 h.2.1))) (fun _ => BR_i (fun _ => bad _ (hE (fun h => h2 h.2.1))) (fun _ => BR_i (fun _ => bad _ (hE (fun h => h2 h.2.1))) (fun _ => BR_t q0 (hE (fun h => h2 h.2.1))))))))))
    (fun h1 => BR_t q0 (BR_i (fun _ => bad _ (hE (fun h => h1 h.1))) (fun _ => BR_i (fun _ => bad _ (hE (fun h => h1 h.1))) (fun _ => BR_i (fun _ => bad _ (hE (fun h => h1 h.1))) (fun _ => BR_i (fun _ => bad _ (hE (fun h => h1 h.1))) (fun _ => BR_t q0 (hE (fun h => h1 h.1))))))))))
  obtain ⟨d4, d5⟩ := d4 (by omega)
  have h1' := h1
  have h2' := h2
  rw [bm0, li_7, ea] at h1'
  rw [bm0, li_999, ec] at h2'
  have mchk : ∀ M1 : Mem, M1 126 0 = (np : Int) → ∀ A B : Prop, B → ∀ Q : Int → Mem → Prop, Q 1 M1 → (bm 0 ≤ bm (iDiv b 100) ∧ bm (iDiv b 100) ≤ bm ((np : Int) - 1)) ∧ (bm 0 ≤ bm (iRem b 100) ∧ bm (iRem b 100) ≤ bm ((np : Int) - 1)) := by
    intro M1 _ A B _ Q _
    rw [bm0, bm_id (z := (np : Int) - 1) (by omega) (by omega)]
    omega
  refine BR_i (fun h7 => ⟨?_, ?_⟩) (fun h7 => ?_)
  · rw [c2, bm_nat (by omega)] at h7
    exact inb_of c2 (by omega) (by decide)
  · rw [c2, bm_nat (by omega)] at h7
    rw [c2, bnn (by omega)]
    have key : ∀ r M1, r = (n : Int) → (∀ x, x ≠ 2 → x ≠ 43 + n → x ≠ 103 → x ≠ 108 → M1 x = M x) → (∀ j, M1 2 j = if j = 6 then (n : Int) + 1 else M 2 j) → (M1 (43 + n) 0 = a ∧ M1 (43 + n) 1 = iDiv b 100 ∧ M1 (43 + n) 2 = iRem b 100 ∧ M1 (43 + n) 3 = c) → (∀ j, M1 103 j = if j = 3 then 0 else M 103 j) → (∀ j, M1 108 j = if j = 1 then 0 else M 108 j) → Q1 r M1 := by
      intro r M1 hr f1 f2 f3 f4 f5
      refine hQ1 _ _ fun Q2 hQ2 => ?_
      have gf : M1 126 = M 126 := f1 126 (by decide) (by omega) (by decide) (by decide)
      have g0 : M1 126 2 = (n : Int) := by rw [gf]; exact hn
      have g1 : rd M1 126 2 = (n : Int) := by rw [rd_at (i := 2) (n := 2) rfl (by decide)]; exact g0
      have gp : M1 126 0 = (np : Int) := by rw [gf]; exact hnp
      obtain ⟨w1, w2⟩ := mchk M1 gp True True trivial (fun _ _ => True) trivial
      simp only [wX12_must, wX12_must_J58, Nat.reduceAdd]
      refine mi_t h1 (BR_f q1 (BR_f h3 (lf_isPc gp (fun _ => BR_f q1 (lf_isPc gp (fun _ => BR_f q1 (BR_f h6 (mi_t h2 (BR_f q1 (BR_f ?_ ?_))))) (fun h => absurd w2 h))) (fun h => absurd w1 h))))
      · rw [g1, bm_nat (by omega)]
        omega
      rw [g1]
      refine LET_i ⟨inb_of (n := 1200 + 4 * n) (by omega) (by omega) (by decide), ?_⟩
      rw [wr_up (n := 1200 + 4 * n) (by omega) (by omega)]
      refine LET_i ⟨inb_of (n := 1201 + 4 * n) (by omega) (by omega) (by decide), ?_⟩
      rw [wr_up (n := 1201 + 4 * n) (by omega) (by omega)]
      refine LET_i ⟨inb_of (n := 1202 + 4 * n) (by omega) (by omega) (by decide), ?_⟩
      rw [wr_up (n := 1202 + 4 * n) (by omega) (by omega)]
      refine LET_i ⟨inb_of (n := 1203 + 4 * n) (by omega) (by omega) (by decide), ?_⟩
      rw [wr_up (n := 1203 + 4 * n) (by omega) (by omega)]
      refine LET_i ?_
      rw [wr_up (i := 2) (n := 2) rfl (by omega), rd_at (i := 2) (n := 2) rfl (by omega)]
      refine LET_i ?_
      rw [rd_at (i := 2) (n := 2) rfl (by omega)]
      simp (disch := omega) only [up_s, up_kn]
      rw [g0]
      generalize hM2 : up (up (up (up (up M1 126 (1200 + 4 * n) a) 126 (1201 + 4 * n) (iDiv b 100)) 126 (1202 + 4 * n) (iRem b 100)) 126 (1203 + 4 * n) c) 126 2 (↑n + 1) = M2
      have E : ∀ x, x ≠ 126 → M2 x = M1 x := fun x hx => by subst hM2; simp (disch := omega) only [up_c]
      have F : ∀ j, j ≠ 2 → (j < 1200 + 4 * n ∨ 1204 + 4 * n ≤ j) → M2 126 j = M 126 j := fun j _ _ => by
        subst hM2
        simp (disch := omega) only [up_kn]
        rw [gf]
      have e1 : M2 126 2 = (n : Int) + 1 := by subst hM2; simp (disch := omega) only [up_s]
      have x0 : M2 126 (1200 + 4 * n) = a := by subst hM2; simp (disch := omega) only [up_s, up_kn]
      have x1 : M2 126 (1201 + 4 * n) = iDiv b 100 := by subst hM2; simp (disch := omega) only [up_s, up_kn]
      have x2 : M2 126 (1202 + 4 * n) = iRem b 100 := by subst hM2; simp (disch := omega) only [up_s, up_kn]
      have x3 : M2 126 (1203 + 4 * n) = c := by subst hM2; simp (disch := omega) only [up_s, up_kn]
      clear hM2
      have G : ∀ x, x ≠ 2 → x ≠ 43 + n → x ≠ 103 → x ≠ 108 → x ≠ 126 → M2 x = M x := fun x q1 q2 q3 q4 q5 => by rw [E x q5]; exact f1 x q1 q2 q3 q4
      obtain ⟨n0, n1, n2, n3, n4, n5⟩ := hI.1.1
      obtain ⟨b0, b1, b2, b3, b4, b5⟩ := hI.2.1.1
      have k0 : M2 126 0 = M 126 0 := F 0 (by omega) (by omega)
      have k1 : M2 126 1 = M 126 1 := F 1 (by omega) (by omega)
      have k3 : M2 126 3 = M 126 3 := F 3 (by omega) (by omega)
      have k4 : M2 126 4 = M 126 4 := F 4 (by omega) (by omega)
      have k5 : M2 126 5 = M 126 5 := F 5 (by omega) (by omega)
      have y2 : ∀ j, M2 2 j = if j = 6 then (n : Int) + 1 else M 2 j := fun j => by rw [E 2 (by decide)]; exact f2 j
      refine hQ2 _ _ (by rw [hr]; congr 1; omega) ((hI.book (M2 := M2) (fun x h1 h2 h3 h4 => G x (by omega) (by omega) h2 h3 h4) ?_ ?_ ⟨by omega, by omega, by omega, by omega, by omega, by omega⟩ ?_ (by omega) (fun i _ _ => F i (by omega) (by omega)) (G 4 (by omega) (by omega) (by omega) (by omega) (by omega)) ?_ ?_ ?_ ?_ (hI.tap (G 7 (by omega) (by omega) (by omega) (by omega) (by omega)) k4 (fun i _ _ => F i (by omega) (by omega))) (hI.wai (G 10 (by omega) (by omega) (by omega) (by omega) (by omega)) k5 (fun i _ _ => F i (by omega) (by omega))) (SeOk.off ?_) (SsOk.off ?_)).mono (by omega))
      · rw [E 103 (by decide), f4]
        rfl
      · rw [E 108 (by decide), f5]
        rfl
      · unfold BkCnt
        rw [y2, y2, y2, y2, y2, y2, k0, k1, e1, k3, k4, k5]
        exact ⟨b0, b1, rfl, b3, b4, b5⟩
      · exact fun p hp => Or.inl ⟨by omega, G _ (by omega) (by omega) (by omega) (by omega) (by omega), fun i _ _ => F i (by omega) (by omega)⟩
      · exact fun p hp => Or.inl ⟨by omega, G _ (by omega) (by omega) (by omega) (by omega) (by omega), G _ (by omega) (by omega) (by omega) (by omega) (by omega), fun i _ _ => F i (by omega) (by omega), fun i _ _ => F i (by omega) (by omega)⟩
      · intro m hm
        by_cases hmn : m = n
        · subst hmn
          have z4 : iDiv b 100 = bm b / 100 := by rw [← d4, bm_iDiv]
          have z5 : iRem b 100 = bm b % 100 := by rw [← d5, bm_iRem]
          refine Or.inr ⟨?_, ?_⟩
          · unfold MustOk mS mA mB mM
            rw [x0, x1, x2, x3, k0, z4, z5]
            refine ⟨by omega, by omega, by omega, by omega, by omega⟩
          · unfold BkMust mS mA mB mM
            rw [show 2 + 41 + m = 43 + m by omega, E (43 + m) (by omega), x0, x1, x2, x3]
            exact f3
        · exact Or.inl ⟨by omega, G _ (by omega) (by omega) (by omega) (by omega) (by omega), fun i _ _ => F i (by omega) (by omega)⟩
      · exact fun p hp => Or.inl ⟨by omega, fun x _ _ => G _ (by omega) (by omega) (by omega) (by omega) (by omega), fun i _ _ => F i (by omega) (by omega)⟩
      · rw [E 103 (by decide), f4]
        rfl
      · rw [E 108 (by decide), f5]
        rfl
    refine LET_i (LET_i (LET_i (LET_i (LET_i (LET_i (LET_i (key _ _ ?_ ?_ ?_ ?_ ?_ ?_)))))))
    · simp (disch := omega) only [up_c, up_kn]
      exact c2
    · intro x x1 x2 x3 x4
      simp (disch := omega) only [up_c]
    · intro j
      simp (disch := omega) only [up_c, up_k, c2]
    · simp (disch := omega) only [up_c, up_k]
      simp
    · intro j
      simp (disch := omega) only [up_c, up_k]
    · intro j
      simp (disch := omega) only [up_c, up_k]
  · rw [c2, bm_nat (by omega)] at h7
    refine lf_error11 (k := 4) rfl (by decide) (by decide) (hQ1 _ _ fun Q2 hQ2 => ?_)
    have hz := st_err hI (k := 4) (i := 4) rfl (by decide) hQ2
    have gp : up M 86 4 (M 86 4 + 1) 126 0 = (np : Int) := by rw [up_c (by decide)]; exact hnp
    obtain ⟨w1, w2⟩ := mchk _ gp True True trivial (fun _ _ => True) trivial
    simp only [wX12_must, wX12_must_J58, Nat.reduceAdd]
    refine mi_t h1 (BR_f q1 (BR_f h3 (lf_isPc gp (fun _ => BR_f q1 (lf_isPc gp (fun _ => BR_f q1 (BR_f h6 (mi_t h2 (BR_f q1 (BR_t ?_ hz))))) (fun h => absurd w2 h))) (fun h => absurd w1 h))))
    rw [rd_at (i := 2) (n := 2) rfl (by decide), up_c (by decide), hn, bm_nat (by omega)]
    omega
