/-! piece, pieceIs -/
theorem bnn {n : Nat} (h : n < 2147483648) : (bm (n : Int)).toNat = n := by rw [bm_nat h]; rfl
theorem st_piece {t : Int} {M : Mem} (hI : Inv t M) {a b c d : Int} (eb : bm b = b) (ec : bm c = c) (ed : bm d = d) : Step t M (fun M Q => wX11_piece 1 a b c d M Q) (fun M Q => wX12_piece 125 a b c d M Q) := by
  intro Q1 hQ1
  obtain ⟨⟨hcnt, hrul, hpo, hlo, hmo, hqo, hto⟩, ⟨bcnt, brul, bp, bl, bmu, bq, bt, bw⟩, i3, i4, i5, i6, i7, i8, i9, i10⟩ := id hI
  obtain ⟨n, hn⟩ : ∃ n : Nat, M 126 0 = (n : Int) := ⟨(M 126 0).toNat, by have := hcnt.1; omega⟩
  have hn12 : n ≤ 12 := by have := hcnt.1; omega
  have c2 : M 2 1 = (n : Int) := by rw [bcnt.1, hn]
  have hE : ¬ (0 ≤ bm a ∧ (bm 1 ≤ bm (iDiv a 1000) ∧ bm (iDiv a 1000) ≤ bm 60) ∧ bm (iDiv (iRem a 1000) 10) ≤ 11 ∧ (bm 0 ≤ bm b ∧ bm b ≤ bm 255) ∧ (bm 0 ≤ bm c ∧ bm c ≤ bm 255) ∧ (bm 0 ≤ bm d ∧ bm d ≤ bm 99)) → wX11_error 1 1 M (fun r M1 => Q1 r M1) := by
    intro hno
    refine lf_error11 (k := 1) rfl (by decide) (by decide) (hQ1 _ _ fun Q2 hQ2 => ?_)
    have hz := st_err hI (k := 1) (i := 1) rfl (by decide) hQ2
    simp only [wX12_piece, wX12_piece_J64, wX12_piece_J65, wX12_piece_J76]
    refine mi_i (fun h1 => BR_f q1 (BR_i (fun h2 => BR_i (fun _ => hz) (fun _ => BR_t q0 hz)) (fun h2 => mi_i (fun h3 => BR_f q1 (mi_i (fun h4 => BR_f q1 (mi_i (fun h5 => BR_f q1 (BR_t (by omega) hz)) (fun _ => BR_t q0 (BR_i (fun _ => hz) (fun _ => BR_t q0 hz))))) (fun _ => BR_t q0 (BR_i (fun _ => hz) (fun _ => BR_t q0 hz))))) (fun _ => BR_t q0 (BR_i (fun _ => hz) (fun _ => BR_t q0 hz)))))) (fun _ => BR_t q0 (BR_i (fun _ => hz) (fun _ => BR_t q0 hz)))
  simp only [wX11_piece, wX11_piece_J43, wX11_piece_J44, wX11_piece_J84, wX11_forget, Nat.reduceAdd]
  refine LET_i (LET_i (BR_i (fun h1 => BR_t q0 (hE (by omega))) (fun h1 => wi_i (fun h2 => BR_f q1 (BR_i (fun h3 => BR_t q0 (hE (by omega))) (fun h3 => BR_f q1 (wi_i (fun h4 => BR_f q1 (wi_i (fun h5 => BR_f q1 (wi_i (fun h6 => BR_f q1 (BR_i (fun h7 => ⟨?_, ?_⟩) (fun h7 => ?_))) (fun h6 => BR_t q0 (hE (by omega))))) (fun h5 => BR_t q0 (hE (by omega))))) (fun h4 => BR_t q0 (hE (by omega))))))) (fun h2 => BR_t q0 (BR_t q0 (hE (by omega)))))))
  · rw [c2, bm_nat (by omega)] at h7
    exact inb_of c2 (by omega) (by decide)
  · rw [c2, bm_nat (by omega)] at h7
    rw [c2, bnn (by omega)]
    have key : ∀ r M1, r = (n : Int) → (∀ x, x ≠ 2 → x ≠ 11 + n → x ≠ 103 → x ≠ 108 → M1 x = M x) → (∀ j, M1 2 j = if j = 1 then (n : Int) + 1 else M 2 j) → (M1 (11 + n) 0 = iDiv a 1000 ∧ M1 (11 + n) 1 = iDiv (iRem a 1000) 10 ∧ M1 (11 + n) 2 = iRem a 10 ∧ M1 (11 + n) 3 = b ∧ M1 (11 + n) 4 = c ∧ M1 (11 + n) 5 = d) → (∀ j, M1 103 j = if j = 3 then 0 else M 103 j) → (∀ j, M1 108 j = if j = 1 then 0 else M 108 j) → Q1 r M1 := by
      intro r M1 hr f1 f2 f3 f4 f5
      refine hQ1 _ _ fun Q2 hQ2 => ?_
      have g0 : M1 126 0 = (n : Int) := by rw [f1 126 (by decide) (by omega) (by decide) (by decide)]; exact hn
      have g1 : rd M1 126 0 = (n : Int) := by rw [rd_at (i := 0) (n := 0) rfl (by decide)]; exact g0
      simp only [wX12_piece, wX12_piece_J64, wX12_piece_J65, wX12_piece_J76, Nat.reduceAdd]
      refine mi_t h2 (BR_f q1 (BR_f (by omega) (mi_t h4 (BR_f q1 (mi_t h5 (BR_f q1 (mi_t h6 (BR_f q1 (BR_f (by omega) (BR_f q1 (BR_f ?_ ?_)))))))))))
      · rw [g1, bm_nat (by omega)]
        omega
      rw [g1]
      refine LET_i ⟨inb_of (n := 20 + 6 * n) (by omega) (by omega) (by decide), ?_⟩
      rw [wr_up (n := 20 + 6 * n) (by omega) (by omega)]
      refine LET_i ⟨inb_of (n := 21 + 6 * n) (by omega) (by omega) (by decide), ?_⟩
      rw [wr_up (n := 21 + 6 * n) (by omega) (by omega)]
      refine LET_i ⟨inb_of (n := 22 + 6 * n) (by omega) (by omega) (by decide), ?_⟩
      rw [wr_up (n := 22 + 6 * n) (by omega) (by omega)]
      refine LET_i ⟨inb_of (n := 23 + 6 * n) (by omega) (by omega) (by decide), ?_⟩
      rw [wr_up (n := 23 + 6 * n) (by omega) (by omega)]
      refine LET_i ⟨inb_of (n := 24 + 6 * n) (by omega) (by omega) (by decide), ?_⟩
      rw [wr_up (n := 24 + 6 * n) (by omega) (by omega)]
      refine LET_i ⟨inb_of (n := 25 + 6 * n) (by omega) (by omega) (by decide), ?_⟩
      rw [wr_up (n := 25 + 6 * n) (by omega) (by omega)]
      refine LET_i ?_
      rw [wr_up (i := 0) (n := 0) rfl (by omega), rd_at (i := 0) (n := 0) rfl (by omega)]
      refine LET_i ?_
      rw [rd_at (i := 0) (n := 0) rfl (by omega)]
      simp (disch := omega) only [up_s, up_kn]
      rw [g0]
      refine hQ2 _ _ (by rw [hr]; congr 1; omega) ((Inv.piece hI hn (by omega) ?_ ?_ ?_ ?_ ?_ ?_ ?_ ?_).mono (by omega))
      · intro x q1 q2 q3 q4 q5
        simp (disch := omega) only [up_c]
        exact f1 x q1 q2 q3 q4
      · intro j
        simp (disch := omega) only [up_c]
        exact f2 j
      · unfold BkPiece pMin pKey pLoud pPla pThi pEff
        simp (disch := omega) only [up_c, up_s, up_kn]
        exact f3
      · intro j
        simp (disch := omega) only [up_c]
        exact f4 j
      · intro j
        simp (disch := omega) only [up_c]
        exact f5 j
      · intro j q1 q2
        simp (disch := omega) only [up_kn]
        rw [f1 126 (by decide) (by omega) (by decide) (by decide)]
      · simp (disch := omega) only [up_s]
      · unfold PieceOk pMin pKey pLoud pPla pThi pEff
        simp (disch := omega) only [up_s, up_kn]
        have k1 : iRem a 1000 = bm a % 1000 := iRem_nn (a := a) (d := 1000) (by omega) (by decide) (by decide)
        have k2 : iRem a 10 = bm a % 10 := iRem_nn (a := a) (d := 10) (by omega) (by decide) (by decide)
        have k3 : iDiv (iRem a 1000) 10 = bm (iRem a 1000) / 10 := iDiv_nn (a := iRem a 1000) (d := 10) (by rw [bm_iRem]; omega) (by decide) (by decide)
        rw [bm_iRem] at k3
        rw [bm1, li_60, bm_iDiv] at h2
        rw [bm_iDiv] at h3
        rw [bm0, li_255, eb] at h4
        rw [bm0, li_255, ec] at h5
        rw [bm0, li_99, ed] at h6
        refine ⟨h2, ⟨by omega, by omega⟩, ⟨by omega, by omega⟩, h4, h5, h6⟩
    refine LET_i (LET_i (LET_i (LET_i (LET_i (LET_i (LET_i (LET_i (LET_i (key _ _ ?_ ?_ ?_ ?_ ?_ ?_)))))))))
    · simp (disch := omega) only [up_c, up_k]
      exact c2
    · intro x x1 x2 x3 x4
      simp (disch := omega) only [up_c]
    · intro j
      simp (disch := omega) only [up_c, up_k, c2]
    · simp (disch := omega) only [up_c, up_k]
      simp
    · intro j
      simp (disch := omega) only [up_c, up_k]
    · intro j
      simp (disch := omega) only [up_c, up_k]
  · rw [c2, bm_nat (by omega)] at h7
    refine lf_error11 (k := 4) rfl (by decide) (by decide) (hQ1 _ _ fun Q2 hQ2 => ?_)
    have hz := st_err hI (k := 4) (i := 4) rfl (by decide) hQ2
    simp only [wX12_piece, wX12_piece_J64, wX12_piece_J65, wX12_piece_J76, Nat.reduceAdd]
    refine mi_t h2 (BR_f q1 (BR_f (by omega) (mi_t h4 (BR_f q1 (mi_t h5 (BR_f q1 (mi_t h6 (BR_f q1 (BR_f (by omega) (BR_f q1 (BR_t ?_ hz)))))))))))
    rw [rd_at (i := 0) (n := 0) rfl (by decide), up_c (by decide), hn, bm_nat (by omega)]
    omega
