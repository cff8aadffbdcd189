/-! liking, turn, as, must -/
theorem Inv.book {t : Int} {M M2 : Mem} (hI : Inv t M) (F : ∀ x, (x < 2 ∨ 84 < x) → x ≠ 103 → x ≠ 108 → x ≠ 126 → M2 x = M x) (h3 : M2 103 13 = M 103 13) (h8 : M2 108 7 = M 108 7)
    (hc : CntOk (M2 126)) (hbc : BkCnt 2 M2 (M2 126)) (h0 : M 126 0 ≤ M2 126 0) (hr : ∀ i, 6 ≤ i → i < 10 → M2 126 i = M 126 i) (hr2 : M2 4 = M 4)
    (hp : ∀ p : Nat, (p : Int) < M2 126 0 → ((p : Int) < M 126 0 ∧ M2 (11 + p) = M (11 + p) ∧ ∀ i, 20 + 6 * p ≤ i → i < 26 + 6 * p → M2 126 i = M 126 i) ∨ (PieceOk (M2 126) p ∧ BkPiece 2 M2 (M2 126) p))
    (hl : ∀ l : Nat, (l : Int) < M2 126 1 → ((l : Int) < M 126 1 ∧ M2 (23 + 2 * l) = M (23 + 2 * l) ∧ M2 (24 + 2 * l) = M (24 + 2 * l) ∧ (∀ i, 100 + 4 * l ≤ i → i < 104 + 4 * l → M2 126 i = M 126 i) ∧ ∀ i, 150 + 105 * l ≤ i → i < 255 + 105 * l → M2 126 i = M 126 i) ∨ (LikOk (M2 126) l ∧ BkLik 2 M2 (M2 126) l))
    (hm : ∀ m : Nat, (m : Int) < M2 126 2 → ((m : Int) < M 126 2 ∧ M2 (43 + m) = M (43 + m) ∧ ∀ i, 1200 + 4 * m ≤ i → i < 1204 + 4 * m → M2 126 i = M 126 i) ∨ (MustOk (M2 126) m ∧ BkMust 2 M2 (M2 126) m))
    (hq : ∀ p : Nat, (p : Int) < M2 126 3 → ((p : Int) < M 126 3 ∧ (∀ a, 53 + 4 * p ≤ a → a ≤ 56 + 4 * p → M2 a = M a) ∧ ∀ i, 1240 + 27 * p ≤ i → i < 1267 + 27 * p → M2 126 i = M 126 i) ∨ (PastOk (M2 126) p ∧ BkPast 2 M2 (M2 126) p))
    (ht : TapOk (M2 126) ∧ BkTap 2 M2 (M2 126)) (hw : ∀ i : Nat, (i : Int) < M2 126 5 → M2 10 i = M2 126 (1510 + i)) (hse : SeOk (vw (M2 126)) M2) (hss : SsOk (vw (M2 126)) M2) : Inv t M2 := by
  have hf := hI.1
  have hb := hI.2.1
  refine hI.flat F h3 h8 ?_ ?_ hse hss
  · refine hf.upd hc ?_ h0 ?_ ?_ ?_ ?_ ht.1
    · have := hf.2.1
      unfold RulOk at this ⊢
      rw [hr 6 (by decide) (by decide), hr 7 (by decide) (by decide), hr 8 (by decide) (by decide), hr 9 (by decide) (by decide)]
      exact this
    · exact fun p q => (hp p q).imp (fun a => ⟨a.1, a.2.2⟩) (fun a => a.1)
    · exact fun p q => (hl p q).imp (fun a => ⟨a.1, a.2.2.2⟩) (fun a => a.1)
    · exact fun p q => (hm p q).imp (fun a => ⟨a.1, a.2.2⟩) (fun a => a.1)
    · exact fun p q => (hq p q).imp (fun a => ⟨a.1, a.2.2⟩) (fun a => a.1)
  · refine Bk.upd hf hb hbc ?_ ?_ ?_ ?_ ?_ ht.2 ?_
    · intro i hi
      rw [show 2 + 2 = 4 from rfl, hr2, hr (6 + i) (by omega) (by omega)]
      exact hb.2.1 i hi
    · intro p q
      exact (hp p q).imp (fun a => ⟨a.1, by rw [show 2 + 9 + p = 11 + p by omega]; exact a.2.1, a.2.2⟩) (fun a => a.2)
    · intro p q
      exact (hl p q).imp (fun a => ⟨a.1, by rw [show 2 + 21 + 2 * p = 23 + 2 * p by omega]; exact a.2.1, by rw [show 2 + 22 + 2 * p = 24 + 2 * p by omega]; exact a.2.2.1, a.2.2.2⟩) (fun a => a.2)
    · intro p q
      exact (hm p q).imp (fun a => ⟨a.1, by rw [show 2 + 41 + p = 43 + p by omega]; exact a.2.1, a.2.2⟩) (fun a => a.2)
    · intro p q
      exact (hq p q).imp (fun a => ⟨a.1, fun x h1 h2 => a.2.1 x (by omega) (by omega), a.2.2⟩) (fun a => a.2)
    · exact hw
theorem Inv.tap {t : Int} {M : Mem} (hI : Inv t M) {M2 : Mem} (h7 : M2 7 = M 7) (h4 : M2 126 4 = M 126 4) (e : ∀ i, 1460 ≤ i → i < 1510 → M2 126 i = M 126 i) : TapOk (M2 126) ∧ BkTap 2 M2 (M2 126) := by
  have hc := hI.1.1.2.2.2.2.1
  refine ⟨hI.1.2.2.2.2.2.2.cg h4 hc.2 e, ?_⟩
  have bt := hI.2.1.2.2.2.2.2.2.1
  unfold BkTap
  rw [show 2 + 5 = 7 from rfl, h7, h4]
  exact ⟨bt.1, fun i hi => by rw [e _ (by omega) (by omega)]; exact bt.2 i hi⟩
theorem Inv.wai {t : Int} {M : Mem} (hI : Inv t M) {M2 : Mem} (h10 : M2 10 = M 10) (h5 : M2 126 5 = M 126 5) (e : ∀ i, 1510 ≤ i → i < 1522 → M2 126 i = M 126 i) : ∀ i : Nat, (i : Int) < M2 126 5 → M2 10 i = M2 126 (1510 + i) := by
  intro i hi
  have hc := hI.1.1.2.2.2.2.2
  rw [h5] at hi
  rw [h10, e _ (by omega) (by omega)]
  exact hI.2.1.2.2.2.2.2.2.2 i hi
theorem wd_div : ∀ d : Nat, 1 ≤ d → d ≤ 9 → iDiv 2520 d = 2520 / (d : Int) := by
  intro d h1 h2
  rw [iDiv_nn (by decide +kernel) (by omega) (by omega), show bm 2520 = 2520 from by decide +kernel]
theorem st_liking {t : Int} {M : Mem} (hI : Inv t M) {a b c : Int} (ea : bm a = a) (eb : bm b = b) (ec : bm c = c) : Step t M (fun M Q => wX11_liking 1 a b c M Q) (fun M Q => wX12_liking 125 a b c M Q) := by
  intro Q1 hQ1
  obtain ⟨n, hn, hn10, c2⟩ := hI.nl
  have hE : ¬ ((bm 0 ≤ bm a ∧ bm a ≤ bm 6) ∧ (bm (-9) ≤ bm b ∧ bm b ≤ bm 9) ∧ (bm 1 ≤ bm c ∧ bm c ≤ bm 9)) → wX11_error 1 1 M (fun r M1 => Q1 r M1) := by
    intro hno
    refine lf_error11 (k := 1) rfl (by decide) (by decide) (hQ1 _ _ fun Q2 hQ2 => ?_)
    have hz := st_err hI (k := 1) (i := 1) rfl (by decide) hQ2
    simp only [wX12_liking, wX12_liking_J31]
    exact mi_i (fun h1 => BR_f q1 (mi_i (fun h2 => BR_f q1 (mi_i (fun h3 => absurd ⟨h1, h2, h3⟩ hno) (fun _ => BR_t q0 hz))) (fun _ => BR_t q0 hz))) (fun _ => BR_t q0 hz)
  simp only [wX11_liking, wX11_liking_J31, wX11_forget, wX1_become, wX1_become_J31, Nat.reduceAdd]
  refine wi_i (fun h1 => BR_f q1 (wi_i (fun h2 => BR_f q1 (wi_i (fun h3 => BR_f q1 (BR_i (fun h4 => ⟨?_, ?_⟩) (fun h4 => ?_))) (fun h => BR_t q0 (hE (fun q => h q.2.2))))) (fun h => BR_t q0 (hE (fun q => h q.2.1))))) (fun h => BR_t q0 (hE (fun q => h q.1)))
  · rw [c2, bm_nat (by omega)] at h4
    exact inb_of c2 (by omega) (by decide)
  · rw [c2, bm_nat (by omega)] at h4
    rw [c2, bnn (by omega)]
    obtain ⟨d, rfl⟩ : ∃ d : Nat, c = (d : Int) := ⟨c.toNat, by rw [bm1, ec] at h3; omega⟩
    rw [bm0, li_6, ea] at h1
    rw [li_n9, li_9, eb] at h2
    rw [bm1, li_9, ec] at h3
    refine LET_i (LET_i (LET_i (BR_f (by rw [ec]; omega) ⟨by rw [ec]; omega, ?_⟩)))
    rw [wd_div d (by omega) (by omega)]
    have key : ∀ r M1, r = (n : Int) → (∀ x, x ≠ 2 → x ≠ 23 + 2 * n → x ≠ 103 → x ≠ 108 → M1 x = M x) → (∀ j, M1 2 j = if j = 4 then (n : Int) + 1 else M 2 j) → (M1 (23 + 2 * n) 0 = a ∧ M1 (23 + 2 * n) 1 = b ∧ M1 (23 + 2 * n) 2 = (d : Int) ∧ M1 (23 + 2 * n) 3 = b * (2520 / (d : Int)) ∧ M1 (23 + 2 * n) 4 = 1 ∧ M1 (23 + 2 * n) 5 = 0) → (∀ j, M1 103 j = if j = 3 then 0 else M 103 j) → (∀ j, M1 108 j = if j = 1 then 0 else M 108 j) → Q1 r M1 := by
      intro r M1 hr f1 f2 f3 f4 f5
      refine hQ1 _ _ fun Q2 hQ2 => ?_
      have g0 : M1 126 1 = (n : Int) := by rw [f1 126 (by decide) (by omega) (by decide) (by decide)]; exact hn
      have g1 : rd M1 126 1 = (n : Int) := by rw [rd_at (i := 1) (n := 1) rfl (by decide)]; exact g0
      simp only [wX12_liking, wX12_liking_J31, Nat.reduceAdd]
      refine mi_t (by rw [bm0, li_6, ea]; exact h1) (BR_f q1 (mi_t (by rw [li_n9, li_9, eb]; exact h2) (BR_f q1 (mi_t (by rw [bm1, li_9, ec]; exact h3) (BR_f q1 (BR_f ?_ ?_))))))
      · rw [g1, bm_nat (by omega)]
        omega
      rw [g1]
      refine LET_i ⟨inb_of (n := 100 + 4 * n) (by omega) (by omega) (by decide), ?_⟩
      rw [wr_up (n := 100 + 4 * n) (by omega) (by omega)]
      refine LET_i ⟨inb_of (n := 101 + 4 * n) (by omega) (by omega) (by decide), ?_⟩
      rw [wr_up (n := 101 + 4 * n) (by omega) (by omega)]
      refine LET_i ⟨inb_of (n := 102 + 4 * n) (by omega) (by omega) (by decide), ?_⟩
      rw [wr_up (n := 102 + 4 * n) (by omega) (by omega)]
      refine LET_i ⟨inb_of (n := 103 + 4 * n) (by omega) (by omega) (by decide), ?_⟩
      rw [wr_up (n := 103 + 4 * n) (by omega) (by omega)]
      refine LET_i ?_
      rw [rd_at (i := 1) (n := 1) rfl (by decide)]
      simp (disch := omega) only [up_kn]
      rw [g0]
      refine ⟨inb_of (n := 150 + 105 * n) (by omega) (by omega) (by decide), ?_⟩
      rw [wr_up (n := 150 + 105 * n) (by omega) (by omega)]
      refine LET_i ?_
      rw [wr_up (i := 1) (n := 1) rfl (by omega), rd_at (i := 1) (n := 1) rfl (by omega)]
      refine LET_i ?_
      rw [rd_at (i := 1) (n := 1) rfl (by omega)]
      simp (disch := omega) only [up_s, up_kn]
      rw [g0]
      generalize hM2 : up (up (up (up (up (up M1 126 (100 + 4 * n) a) 126 (101 + 4 * n) b) 126 (102 + 4 * n) ↑d) 126 (103 + 4 * n) 1) 126 (150 + 105 * n) 0) 126 1 (↑n + 1) = M2
      have E : ∀ x, x ≠ 126 → M2 x = M1 x := fun x hx => by subst hM2; simp (disch := omega) only [up_c]
      have F : ∀ j, j ≠ 1 → j ≠ 100 + 4 * n → j ≠ 101 + 4 * n → j ≠ 102 + 4 * n → j ≠ 103 + 4 * n → j ≠ 150 + 105 * n → M2 126 j = M 126 j := fun j _ _ _ _ _ _ => by
        subst hM2
        simp (disch := omega) only [up_kn]
        rw [f1 126 (by decide) (by omega) (by decide) (by decide)]
      have e1 : M2 126 1 = (n : Int) + 1 := by subst hM2; simp (disch := omega) only [up_s]
      have x0 : M2 126 (100 + 4 * n) = a := by subst hM2; simp (disch := omega) only [up_s, up_kn]
      have x1 : M2 126 (101 + 4 * n) = b := by subst hM2; simp (disch := omega) only [up_s, up_kn]
      have x2 : M2 126 (102 + 4 * n) = d := by subst hM2; simp (disch := omega) only [up_s, up_kn]
      have x3 : M2 126 (103 + 4 * n) = 1 := by subst hM2; simp (disch := omega) only [up_s, up_kn]
      have x4 : M2 126 (150 + 105 * n) = 0 := by subst hM2; simp (disch := omega) only [up_s, up_kn]
      clear hM2
      have G : ∀ x, x ≠ 2 → x ≠ 23 + 2 * n → x ≠ 103 → x ≠ 108 → x ≠ 126 → M2 x = M x := fun x q1 q2 q3 q4 q5 => by rw [E x q5]; exact f1 x q1 q2 q3 q4
      obtain ⟨n0, n1, n2, n3, n4, n5⟩ := hI.1.1
      obtain ⟨b0, b1, b2, b3, b4, b5⟩ := hI.2.1.1
      have k0 : M2 126 0 = M 126 0 := F 0 (by omega) (by omega) (by omega) (by omega) (by omega) (by omega)
      have k2 : M2 126 2 = M 126 2 := F 2 (by omega) (by omega) (by omega) (by omega) (by omega) (by omega)
      have k3 : M2 126 3 = M 126 3 := F 3 (by omega) (by omega) (by omega) (by omega) (by omega) (by omega)
      have k4 : M2 126 4 = M 126 4 := F 4 (by omega) (by omega) (by omega) (by omega) (by omega) (by omega)
      have k5 : M2 126 5 = M 126 5 := F 5 (by omega) (by omega) (by omega) (by omega) (by omega) (by omega)
      have y2 : ∀ j, M2 2 j = if j = 4 then (n : Int) + 1 else M 2 j := fun j => by rw [E 2 (by decide)]; exact f2 j
      refine hQ2 _ _ (by rw [hr]; congr 1; omega) ((hI.book (M2 := M2) (fun x h1 h2 h3 h4 => G x (by omega) (by omega) h2 h3 h4) ?_ ?_ ⟨by omega, by omega, by omega, by omega, by omega, by omega⟩ ?_ (by omega) (fun i _ _ => F i (by omega) (by omega) (by omega) (by omega) (by omega) (by omega)) (G 4 (by omega) (by omega) (by omega) (by omega) (by omega)) ?_ ?_ ?_ ?_ (hI.tap (G 7 (by omega) (by omega) (by omega) (by omega) (by omega)) k4 (fun i _ _ => F i (by omega) (by omega) (by omega) (by omega) (by omega) (by omega))) (hI.wai (G 10 (by omega) (by omega) (by omega) (by omega) (by omega)) k5 (fun i _ _ => F i (by omega) (by omega) (by omega) (by omega) (by omega) (by omega))) (SeOk.off ?_) (SsOk.off ?_)).mono (by omega))
      · rw [E 103 (by decide), f4]
        rfl
      · rw [E 108 (by decide), f5]
        rfl
      · unfold BkCnt
        rw [y2, y2, y2, y2, y2, y2, k0, e1, k2, k3, k4, k5]
        exact ⟨b0, rfl, b2, b3, b4, b5⟩
      · exact fun p hp => Or.inl ⟨by omega, G _ (by omega) (by omega) (by omega) (by omega) (by omega), fun i _ _ => F i (by omega) (by omega) (by omega) (by omega) (by omega) (by omega)⟩
      · intro l hl
        by_cases hln : l = n
        · subst hln
          refine Or.inr ⟨⟨?_, ?_, ?_, ?_, ?_, ?_, ?_, ?_⟩, ?_⟩
          · unfold lK
            rw [x0]
            exact h1
          · unfold lU
            rw [x1]
            exact h2
          · unfold lD
            rw [x2]
            omega
          · unfold lO
            rw [x3]
            exact isB1
          · unfold tN
            rw [x4]
            decide
          · unfold tN
            rw [x4]
            decide
          · unfold tN
            rw [x4]
            intro k hk
            omega
          · unfold tN
            rw [x4]
            intro h
            exact absurd rfl h
          · obtain ⟨p0, p1, p2, p3, p4, p5⟩ := f3
            unfold BkLik wgt lK lU lD lO tN
            rw [show 2 + 21 + 2 * l = 23 + 2 * l by omega, E (23 + 2 * l) (by omega), x0, x1, x2, x3, x4]
            exact ⟨p0, p1, p2, p3, p4, p5, fun k hk => by omega⟩
        · exact Or.inl ⟨by omega, G _ (by omega) (by omega) (by omega) (by omega) (by omega), G _ (by omega) (by omega) (by omega) (by omega) (by omega), fun i _ _ => F i (by omega) (by omega) (by omega) (by omega) (by omega) (by omega), fun i _ _ => F i (by omega) (by omega) (by omega) (by omega) (by omega) (by omega)⟩
      · exact fun p hp => Or.inl ⟨by omega, G _ (by omega) (by omega) (by omega) (by omega) (by omega), fun i _ _ => F i (by omega) (by omega) (by omega) (by omega) (by omega) (by omega)⟩
      · exact fun p hp => Or.inl ⟨by omega, fun x _ _ => G _ (by omega) (by omega) (by omega) (by omega) (by omega), fun i _ _ => F i (by omega) (by omega) (by omega) (by omega) (by omega) (by omega)⟩
      · rw [E 103 (by decide), f4]
        rfl
      · rw [E 108 (by decide), f5]
        rfl
    refine LET_i (LET_i (LET_i (LET_i (LET_i (LET_i (key _ _ ?_ ?_ ?_ ?_ ?_ ?_))))))
    · simp (disch := omega) only [up_c, up_kn]
      exact c2
    · intro x x1 x2 x3 x4
      simp (disch := omega) only [up_c]
    · intro j
      simp (disch := omega) only [up_c, up_k, c2]
    · simp (disch := omega) only [up_c, up_k]
      simp
    · intro j
      simp (disch := omega) only [up_c, up_k]
    · intro j
      simp (disch := omega) only [up_c, up_k]
  · rw [c2, bm_nat (by omega)] at h4
    refine lf_error11 (k := 4) rfl (by decide) (by decide) (hQ1 _ _ fun Q2 hQ2 => ?_)
    have hz := st_err hI (k := 4) (i := 4) rfl (by decide) hQ2
    simp only [wX12_liking, wX12_liking_J31, Nat.reduceAdd]
    refine mi_t h1 (BR_f q1 (mi_t h2 (BR_f q1 (mi_t h3 (BR_f q1 (BR_t ?_ hz))))))
    rw [rd_at (i := 1) (n := 1) rfl (by decide), up_c (by decide), hn, bm_nat (by omega)]
    omega
theorem lf_noLik {x : Int} {M : Mem} {n : Nat} (hn : M 2 4 = (n : Int)) {Q : Int → Mem → Prop} (h1 : bm 0 ≤ bm x ∧ bm x ≤ bm ((n : Int) - 1) → Q 0 M) (h2 : ¬ (bm 0 ≤ bm x ∧ bm x ≤ bm ((n : Int) - 1)) → Q 1 M) : wX11_isNoLiking 1 x M Q := by
  simp only [wX11_isNoLiking, Nat.reduceAdd]
  rw [hn]
  exact wi_i (fun h => BR_f q1 (h1 h)) (fun h => BR_t q0 (h2 h))
theorem lf_isLik {x : Int} {M : Mem} {n : Nat} (hn : M 126 1 = (n : Int)) {Q : Int → Mem → Prop} (h1 : bm 0 ≤ bm x ∧ bm x ≤ bm ((n : Int) - 1) → Q 1 M) (h2 : ¬ (bm 0 ≤ bm x ∧ bm x ≤ bm ((n : Int) - 1)) → Q 0 M) : wX12_isLiking 125 x M Q := by
  simp only [wX12_isLiking, Nat.reduceAdd]
  rw [rd_at (i := 1) (n := 1) rfl (by decide), hn]
  exact mi_i (fun h => ⟨isB1, h1 h⟩) (fun h => ⟨isB0, h2 h⟩)
theorem lf_isPc {x : Int} {M : Mem} {n : Nat} (hn : M 126 0 = (n : Int)) {Q : Int → Mem → Prop} (h1 : bm 0 ≤ bm x ∧ bm x ≤ bm ((n : Int) - 1) → Q 1 M) (h2 : ¬ (bm 0 ≤ bm x ∧ bm x ≤ bm ((n : Int) - 1)) → Q 0 M) : wX12_isPiece 125 x M Q := by
  simp only [wX12_isPiece, Nat.reduceAdd]
  rw [rd_at (i := 0) (n := 0) rfl (by decide), hn]
  exact mi_i (fun h => ⟨isB1, h1 h⟩) (fun h => ⟨isB0, h2 h⟩)
theorem st_turn {t : Int} {M : Mem} (hI : Inv t M) {a b : Int} (ea : bm a = a) (hb : b = 0 ∨ b = 1) : Step t M (fun M Q => wX11_turn 1 a b M Q) (fun M Q => wX12_turn 125 a b M Q) := by
  intro Q1 hQ1
  obtain ⟨n, hn, hn10, c2⟩ := hI.nl
  have eb : bm b = b := by rcases hb with rfl | rfl <;> decide +kernel
  simp only [wX11_turn, wX11_turn_J37, wX11_forget, Nat.reduceAdd]
  refine lf_noLik c2 (fun h1 => BR_t q0 ?_) (fun h1 => BR_f q1 ?_)
  · obtain ⟨l, rfl, hl⟩ := rg ea (bm_id (by omega) (by omega)) h1
    rw [bnn (by omega)]
    have hL := hI.1.2.2.2.1 l (by omega)
    have hB := hI.2.1.2.2.2.1 l (by omega)
    have e4 : M (23 + 2 * l) 4 = lO (M 126) l := by
      have := hB.2.2.2.2.1
      rwa [show 2 + 21 + 2 * l = 23 + 2 * l by omega] at this
    have key : ∀ r, r = (if bm (M (23 + 2 * l) 4) = bm b then 0 else 1) → Q1 r (up (up (up M (23 + 2 * l) 4 b) 103 3 0) 108 1 0) := by
      intro r hr
      refine hQ1 _ _ fun Q2 hQ2 => ?_
      simp only [wX12_turn, wX12_turn_J23, wX12_become, Nat.reduceAdd]
      refine lf_isLik (n := n) (by simp (disch := omega) only [up_c]; exact hn) (fun _ => BR_f q1 ?_) (fun h => absurd h1 h)
      have fin : ∀ z, z = b → inb (100 + 4 * (l : Int) + 3) 1522 ∧ LET (rd (up (up (up M (23 + 2 * l) 4 b) 103 3 0) 108 1 0) 126 (100 + 4 * (l : Int) + 3)) fun x3_3 => inb (100 + 4 * (l : Int) + 3) 1522 ∧ LET (wr (up (up (up M (23 + 2 * l) 4 b) 103 3 0) 108 1 0) 126 (100 + 4 * (l : Int) + 3) z) fun M_6 => BR (bm x3_3 = bm z) (Q2 0 M_6) (Q2 1 M_6) := by
        intro z hz
        subst hz
        refine ⟨inb_of (n := 103 + 4 * l) (by omega) (by omega) (by decide), LET_i ⟨inb_of (n := 103 + 4 * l) (by omega) (by omega) (by decide), LET_i ?_⟩⟩
        rw [rd_at (n := 103 + 4 * l) (by omega) (by omega), wr_up (n := 103 + 4 * l) (by omega) (by omega)]
        simp (disch := omega) only [up_c]
        rw [BR_if, show M 126 (103 + 4 * l) = M (23 + 2 * l) 4 from e4.symm]
        have hinv : Inv t (up (up (up (up M (23 + 2 * l) 4 z) 103 3 0) 108 1 0) 126 (103 + 4 * l) z) := by
          generalize hM2 : up (up (up (up M (23 + 2 * l) 4 z) 103 3 0) 108 1 0) 126 (103 + 4 * l) z = M2
          have G : ∀ x, x ≠ 23 + 2 * l → x ≠ 103 → x ≠ 108 → x ≠ 126 → M2 x = M x := fun x _ _ _ _ => by subst hM2; simp (disch := omega) only [up_c]
          have F : ∀ j, j ≠ 103 + 4 * l → M2 126 j = M 126 j := fun j _ => by subst hM2; simp (disch := omega) only [up_c, up_kn]
          have F1 : M2 126 (103 + 4 * l) = z := by subst hM2; simp only [up_s]
          have G1 : ∀ j, M2 (23 + 2 * l) j = if j = 4 then z else M (23 + 2 * l) j := fun j => by subst hM2; simp (disch := omega) only [up_c, up_k]
          have s3 : M2 103 3 = 0 := by subst hM2; simp (disch := omega) only [up_c, up_s]
          have s8 : M2 108 1 = 0 := by subst hM2; simp (disch := omega) only [up_c, up_s]
          have s3' : M2 103 13 = M 103 13 := by subst hM2; simp (disch := omega) only [up_c, up_kn]
          have s8' : M2 108 7 = M 108 7 := by subst hM2; simp (disch := omega) only [up_c, up_kn]
          clear hM2
          obtain ⟨n0, n1, n2, n3, n4, n5⟩ := hI.1.1
          have k0 := F 0 (by omega)
          have k1 := F 1 (by omega)
          have k2 := F 2 (by omega)
          have k3 := F 3 (by omega)
          have k4 := F 4 (by omega)
          have k5 := F 5 (by omega)
          refine hI.book (fun x h1 h2 h3 h4 => G x (by omega) h2 h3 h4) s3' s8' ⟨by omega, by omega, by omega, by omega, by omega, by omega⟩ ?_ (by omega) (fun i _ _ => F i (by omega)) (G 4 (by omega) (by omega) (by omega) (by omega)) ?_ ?_ ?_ ?_ (hI.tap (G 7 (by omega) (by omega) (by omega) (by omega)) k4 (fun i _ _ => F i (by omega))) (hI.wai (G 10 (by omega) (by omega) (by omega) (by omega)) k5 (fun i _ _ => F i (by omega))) (SeOk.off s3) (SsOk.off s8)
          · unfold BkCnt
            rw [G 2 (by omega) (by omega) (by omega) (by omega), k0, k1, k2, k3, k4, k5]
            exact hI.2.1.1
          · exact fun p hp => Or.inl ⟨by omega, G _ (by omega) (by omega) (by omega) (by omega), fun i _ _ => F i (by omega)⟩
          · intro p hp
            by_cases hpl : p = l
            · subst hpl
              have ek : lK (M2 126) p = lK (M 126) p := F _ (by omega)
              have eu : lU (M2 126) p = lU (M 126) p := F _ (by omega)
              have ed : lD (M2 126) p = lD (M 126) p := F _ (by omega)
              have eo : lO (M2 126) p = z := F1
              have en : tN (M2 126) p = tN (M 126) p := F _ (by omega)
              obtain ⟨a1, a2, a3, a4, t1, t2, t3, t4⟩ := hL
              have ewv : ∀ k : Nat, (k : Int) < tN (M 126) p → tW (M2 126) p k = tW (M 126) p k ∧ tV (M2 126) p k = tV (M 126) p k := fun k hk => ⟨F _ (by omega), F _ (by omega)⟩
              refine Or.inr ⟨⟨by rw [ek]; exact a1, by rw [eu]; exact a2, by rw [ed]; exact a3, by rw [eo]; exact hb, by rw [en]; exact t1, by rw [en]; exact t2, ?_, ?_⟩, ?_⟩
              · intro k hk
                rw [en] at hk
                rw [ek, (ewv k hk).1, (ewv k hk).2]
                exact t3 k hk
              · intro h
                rw [en] at h ⊢
                rw [← t4 h]
                exact dp_cg (fun k hk => F _ (by omega))
              · obtain ⟨b1, b2, b3, b4, b5, b6, b7⟩ := hB
                rw [show 2 + 21 + 2 * p = 23 + 2 * p by omega] at b1 b2 b3 b4 b5 b6
                rw [show 2 + 22 + 2 * p = 24 + 2 * p by omega] at b7
                unfold BkLik wgt at *
                rw [show 2 + 21 + 2 * p = 23 + 2 * p by omega, show 2 + 22 + 2 * p = 24 + 2 * p by omega, G1, G1, G1, G1, G1, G1, ek, eu, ed, eo, en, G (24 + 2 * p) (by omega) (by omega) (by omega) (by omega)]
                refine ⟨b1, b2, b3, b4, rfl, b6, fun k hk => ?_⟩
                rw [(ewv k hk).1, (ewv k hk).2]
                exact b7 k hk
            · exact Or.inl ⟨by omega, G _ (by omega) (by omega) (by omega) (by omega), G _ (by omega) (by omega) (by omega) (by omega), fun i _ _ => F i (by omega), fun i _ _ => F i (by omega)⟩
          · exact fun p hp => Or.inl ⟨by omega, G _ (by omega) (by omega) (by omega) (by omega), fun i _ _ => F i (by omega)⟩
          · exact fun p hp => Or.inl ⟨by omega, fun x _ _ => G _ (by omega) (by omega) (by omega) (by omega), fun i _ _ => F i (by omega)⟩
        split
        · rw [if_pos (by assumption)] at hr
          exact hQ2 _ _ (by rw [hr]) (hinv.mono (by omega))
        · rw [if_neg (by assumption)] at hr
          exact hQ2 _ _ (by rw [hr]) (hinv.mono (by omega))
      rcases hb with rfl | rfl
      · exact BR_t q0 (fin 0 rfl)
      · exact BR_f q1 (fin 1 rfl)
    refine ⟨inb_of rfl (by omega) (by decide), BR_i (fun c => ⟨hb, LET_i (LET_i (LET_i (BR_t q0 (key _ ?_))))⟩) (fun c => ⟨hb, LET_i (LET_i (LET_i (BR_f q1 (key _ ?_))))⟩)⟩
    · rw [if_pos c]
    · rw [if_neg c]
  · refine lf_error11 (k := 1) rfl (by decide) (by decide) (hQ1 _ _ fun Q2 hQ2 => ?_)
    simp only [wX12_turn, Nat.reduceAdd]
    exact lf_isLik (n := n) (by rw [up_c (by decide)]; exact hn) (fun h => absurd h h1) (fun _ => BR_t q0 (st_err hI (k := 1) (i := 1) rfl (by decide) hQ2))
