/-! PARTS OF THE BOOK that change, the rest as it was -/
theorem FlOk.upd {s s' : Fl} (h : FlOk s) (hc : CntOk s') (hr : RulOk s') (h0 : s 0 ≤ s' 0)
    (hp : ∀ p : Nat, (p : Int) < s' 0 → ((p : Int) < s 0 ∧ ∀ i, 20 + 6 * p ≤ i → i < 26 + 6 * p → s' i = s i) ∨ PieceOk s' p)
    (hl : ∀ l : Nat, (l : Int) < s' 1 → ((l : Int) < s 1 ∧ (∀ i, 100 + 4 * l ≤ i → i < 104 + 4 * l → s' i = s i) ∧ ∀ i, 150 + 105 * l ≤ i → i < 255 + 105 * l → s' i = s i) ∨ LikOk s' l)
    (hm : ∀ m : Nat, (m : Int) < s' 2 → ((m : Int) < s 2 ∧ ∀ i, 1200 + 4 * m ≤ i → i < 1204 + 4 * m → s' i = s i) ∨ MustOk s' m)
    (hq : ∀ p : Nat, (p : Int) < s' 3 → ((p : Int) < s 3 ∧ ∀ i, 1240 + 27 * p ≤ i → i < 1267 + 27 * p → s' i = s i) ∨ PastOk s' p) (ht : TapOk s') : FlOk s' := by
  obtain ⟨-, -, xp, xl, xm, xq, -⟩ := h
  refine ⟨hc, hr, fun p q => ?_, fun l q => ?_, fun m q => ?_, fun p q => ?_, ht⟩
  · rcases hp p q with ⟨a, b⟩ | a
    · exact (xp p a).cg b
    · exact a
  · rcases hl l q with ⟨a, b, c⟩ | a
    · exact (xl l a).cg b c
    · exact a
  · rcases hm m q with ⟨a, b⟩ | a
    · exact (xm m a).cg h0 b
    · exact a
  · rcases hq p q with ⟨a, b⟩ | a
    · exact (xq p a).cg h0 b
    · exact a
theorem Bk.upd {B : Nat} {M M' : Mem} {s s' : Fl} (hs : FlOk s) (h : Bk B M s) (hc : BkCnt B M' s') (hr : ∀ i, i < 4 → M' (B + 2) i = s' (6 + i))
    (hp : ∀ p : Nat, (p : Int) < s' 0 → ((p : Int) < s 0 ∧ M' (B + 9 + p) = M (B + 9 + p) ∧ ∀ i, 20 + 6 * p ≤ i → i < 26 + 6 * p → s' i = s i) ∨ BkPiece B M' s' p)
    (hl : ∀ l : Nat, (l : Int) < s' 1 → ((l : Int) < s 1 ∧ M' (B + 21 + 2 * l) = M (B + 21 + 2 * l) ∧ M' (B + 22 + 2 * l) = M (B + 22 + 2 * l) ∧ (∀ i, 100 + 4 * l ≤ i → i < 104 + 4 * l → s' i = s i) ∧ ∀ i, 150 + 105 * l ≤ i → i < 255 + 105 * l → s' i = s i) ∨ BkLik B M' s' l)
    (hm : ∀ m : Nat, (m : Int) < s' 2 → ((m : Int) < s 2 ∧ M' (B + 41 + m) = M (B + 41 + m) ∧ ∀ i, 1200 + 4 * m ≤ i → i < 1204 + 4 * m → s' i = s i) ∨ BkMust B M' s' m)
    (hq : ∀ p : Nat, (p : Int) < s' 3 → ((p : Int) < s 3 ∧ (∀ a, B + 51 + 4 * p ≤ a → a ≤ B + 54 + 4 * p → M' a = M a) ∧ ∀ i, 1240 + 27 * p ≤ i → i < 1267 + 27 * p → s' i = s i) ∨ BkPast B M' s' p)
    (ht : BkTap B M' s') (hw : ∀ i : Nat, (i : Int) < s' 5 → M' (B + 8) i = s' (1510 + i)) : Bk B M' s' := by
  obtain ⟨-, -, xp, xl, xm, xq, -, -⟩ := h
  obtain ⟨-, -, -, sl, -, sq, -⟩ := hs
  refine ⟨hc, hr, fun p q => ?_, fun l q => ?_, fun m q => ?_, fun p q => ?_, ht, hw⟩
  · rcases hp p q with ⟨a, b, c⟩ | a
    · exact (xp p a).cg b c
    · exact a
  · rcases hl l q with ⟨a, b, c, d, e⟩ | a
    · exact (xl l a).cg (sl l a).2.2.2.2.2.1 b c d e
    · exact a
  · rcases hm m q with ⟨a, b, c⟩ | a
    · exact (xm m a).cg b c
    · exact a
  · rcases hq p q with ⟨a, b, c⟩ | a
    · exact (xq p a).cg ⟨(sq p a).2.1.2, (sq p a).2.2.1.2⟩ b c
    · exact a
theorem vw_eq {s s' : Fl} (h : ∀ i, (i ≤ 2 ∨ (6 ≤ i ∧ i < 1240)) → s' i = s i) : vw s' = vw s := by
  funext i
  unfold vw
  split
  · exact h i ‹_›
  · rfl
theorem Inv.np {t : Int} {M : Mem} (h : Inv t M) : ∃ n : Nat, M 126 0 = (n : Int) ∧ n ≤ 12 ∧ M 2 1 = (n : Int) := by
  have h1 := h.1.1.1
  have h2 := h.2.1.1.1
  exact ⟨(M 126 0).toNat, by omega, by omega, by omega⟩
theorem Inv.nl {t : Int} {M : Mem} (h : Inv t M) : ∃ n : Nat, M 126 1 = (n : Int) ∧ n ≤ 10 ∧ M 2 4 = (n : Int) := by
  have h1 := h.1.1.2.1
  have h2 := h.2.1.1.2.1
  exact ⟨(M 126 1).toNat, by omega, by omega, by omega⟩
theorem Inv.nm {t : Int} {M : Mem} (h : Inv t M) : ∃ n : Nat, M 126 2 = (n : Int) ∧ n ≤ 10 ∧ M 2 6 = (n : Int) := by
  have h1 := h.1.1.2.2.1
  have h2 := h.2.1.1.2.2.1
  exact ⟨(M 126 2).toNat, by omega, by omega, by omega⟩
theorem Inv.nq {t : Int} {M : Mem} (h : Inv t M) : ∃ n : Nat, M 126 3 = (n : Int) ∧ n ≤ 8 ∧ M 2 11 = (n : Int) := by
  have h1 := h.1.1.2.2.2.1
  have h2 := h.2.1.1.2.2.2.1
  exact ⟨(M 126 3).toNat, by omega, by omega, by omega⟩
theorem Inv.nt {t : Int} {M : Mem} (h : Inv t M) : ∃ n : Nat, M 126 4 = (n : Int) ∧ n ≤ 50 ∧ M 2 8 = (n : Int) := by
  have h1 := h.1.1.2.2.2.2.1
  have h2 := h.2.1.1.2.2.2.2.1
  exact ⟨(M 126 4).toNat, by omega, by omega, by omega⟩
theorem Inv.nw {t : Int} {M : Mem} (h : Inv t M) : ∃ n : Nat, M 126 5 = (n : Int) ∧ n ≤ 12 ∧ M 2 13 = (n : Int) := by
  have h1 := h.1.1.2.2.2.2.2
  have h2 := h.2.1.1.2.2.2.2.2
  exact ⟨(M 126 5).toNat, by omega, by omega, by omega⟩
theorem BkPiece.at {B p : Nat} {M : Mem} {s : Fl} (h : BkPiece B M s p) {f : Nat} (hf : f < 6) : M (B + 9 + p) f = s (20 + 6 * p + f) := by
  obtain ⟨h0, h1, h2, h3, h4, h5⟩ := h
  rcases (show f = 0 ∨ f = 1 ∨ f = 2 ∨ f = 3 ∨ f = 4 ∨ f = 5 by omega) with rfl | rfl | rfl | rfl | rfl | rfl
  · exact h0
  · rw [h1]; unfold pKey; congr 1; omega
  · rw [h2]; unfold pLoud; congr 1; omega
  · rw [h3]; unfold pPla; congr 1; omega
  · rw [h4]; unfold pThi; congr 1; omega
  · rw [h5]; unfold pEff; congr 1; omega
theorem rg {a : Int} {m : Int} (ea : bm a = a) (hm : bm m = m) (h : bm 0 ≤ bm a ∧ bm a ≤ bm m) : ∃ k : Nat, a = (k : Int) ∧ (k : Int) ≤ m := by
  rw [bm0, ea, hm] at h
  exact ⟨a.toNat, by omega, by omega⟩
theorem st_pieceIs {t : Int} {M : Mem} (hI : Inv t M) {a b : Int} (ea : bm a = a) (eb : bm b = b) : Step t M (fun M Q => wX11_pieceIs 1 a b M Q) (fun M Q => wX12_pieceIs 125 a b M Q) := by
  intro Q1 hQ1
  obtain ⟨n, hn, hn12, c2⟩ := hI.np
  have hE : ¬ ((bm 0 ≤ bm a ∧ bm a ≤ bm ((n : Int) - 1)) ∧ (bm 0 ≤ bm b ∧ bm b ≤ bm 5)) → wX11_error 1 1 M (fun r M1 => Q1 r M1) := by
    intro hno
    refine lf_error11 (k := 1) rfl (by decide) (by decide) (hQ1 _ _ fun Q2 hQ2 => ?_)
    have hz := st_err hI (k := 1) (i := 1) rfl (by decide) hQ2
    simp only [wX12_pieceIs, wX12_pieceIs_J26, wX12_isPiece, Nat.reduceAdd]
    rw [rd_at (i := 0) (n := 0) rfl (by decide), up_c (by decide), hn]
    exact mi_i (fun h1 => ⟨isB1, BR_f q1 (mi_i (fun h2 => absurd ⟨h1, h2⟩ hno) (fun h2 => BR_t q0 hz))⟩) (fun h1 => ⟨isB0, BR_t q0 hz⟩)
  simp only [wX11_pieceIs, wX11_pieceIs_J26, Nat.reduceAdd]
  rw [c2]
  refine wi_i (fun h1 => BR_f q1 (wi_i (fun h2 => BR_f q1 ?_) (fun h2 => BR_t q0 (hE (fun h => h2 h.2))))) (fun h1 => BR_t q0 (hE (fun h => h1 h.1)))
  obtain ⟨p, rfl, hp⟩ := rg ea (bm_id (by omega) (by omega)) h1
  obtain ⟨k, rfl, hk⟩ := rg eb li_5 h2
  have key : Q1 (M (11 + p) k) M := by
    refine hQ1 _ _ fun Q2 hQ2 => ?_
    simp only [wX12_pieceIs, wX12_pieceIs_J26, wX12_isPiece, wX12_of, Nat.reduceAdd]
    rw [rd_at (i := 0) (n := 0) rfl (by decide), hn]
    refine mi_t h1 ⟨isB1, BR_f q1 (mi_t h2 (BR_f q1 ⟨inb_of (n := 20 + 6 * p + k) (by omega) (by omega) (by decide), hQ2 _ _ ?_ (hI.mono (by omega))⟩))⟩
    rw [rd_at (n := 20 + 6 * p + k) (by omega) (by omega), ← (hI.2.1.2.2.1 p (by omega)).at (f := k) (by omega)]
  refine ⟨inb_of rfl (by omega) (by decide), ?_⟩
  rw [bnn (by omega)]
  rcases (show k = 0 ∨ k = 1 ∨ k = 2 ∨ k = 3 ∨ k = 4 ∨ k = 5 by omega) with rfl | rfl | rfl | rfl | rfl | rfl
  · exact BR_t (by decide +kernel) key
  · exact BR_f (by decide +kernel) (BR_t (by decide +kernel) key)
  · exact BR_f (by decide +kernel) (BR_f (by decide +kernel) (BR_t (by decide +kernel) key))
  · exact BR_f (by decide +kernel) (BR_f (by decide +kernel) (BR_f (by decide +kernel) (BR_t (by decide +kernel) key)))
  · exact BR_f (by decide +kernel) (BR_f (by decide +kernel) (BR_f (by decide +kernel) (BR_f (by decide +kernel) (BR_t (by decide +kernel) key))))
  · exact BR_f (by decide +kernel) (BR_f (by decide +kernel) (BR_f (by decide +kernel) (BR_f (by decide +kernel) (BR_f (by decide +kernel) key))))
theorem st_told {t : Int} {M : Mem} (hI : Inv t M) {a : Int} (ea : bm a = a) : Step t M (fun M Q => wX11_told 1 a M Q) (fun M Q => wX12_told 125 a M Q) := by
  intro Q1 hQ1
  simp only [wX11_told, Nat.reduceAdd]
  refine wi_i (fun h1 => BR_f q1 ?_) (fun h1 => BR_t q0 ?_)
  · have h2 := h1
    rw [bm1, li_6, ea] at h2
    obtain ⟨k, rfl⟩ : ∃ k : Nat, a = (k : Int) := ⟨a.toNat, by omega⟩
    refine ⟨inb_of rfl (by omega) (by decide), hQ1 _ _ fun Q2 hQ2 => ?_⟩
    simp only [wX12_told, Nat.reduceAdd]
    refine mi_t h1 (BR_f q1 ⟨inb_of rfl (by omega) (by decide), hQ2 _ _ ?_ (hI.mono (by omega))⟩)
    rw [rd_at rfl (by omega), rd_at rfl (by omega), hI.2.2.2.2.2.2.1 k]
  · refine lf_error11 (k := 1) rfl (by decide) (by decide) (hQ1 _ _ fun Q2 hQ2 => ?_)
    simp only [wX12_told, Nat.reduceAdd]
    exact mi_f h1 (BR_t q0 (st_err hI (k := 1) (i := 1) rfl (by decide) hQ2))
theorem st_trace {t : Int} {M : Mem} (hI : Inv t M) {a : Int} (ea : bm a = a) : Step t M (fun M Q => wX11_trace 1 a M Q) (fun M Q => wX12_trace 125 a M Q) := by
  intro Q1 hQ1
  obtain ⟨v1, v2, v3, v4⟩ := hI.2.2.2.2.2.1
  simp only [wX11_trace, Nat.reduceAdd]
  rw [v1]
  refine wi_i (fun h1 => BR_f q1 ?_) (fun h1 => BR_t q0 ?_)
  · have h2 := h1
    rw [bm0, bm_id (z := M 125 33 - 1) (by omega) (by omega), ea] at h2
    obtain ⟨k, rfl⟩ : ∃ k : Nat, a = (k : Int) := ⟨a.toNat, by omega⟩
    refine ⟨inb_of rfl (by omega) (by decide), hQ1 _ _ fun Q2 hQ2 => ?_⟩
    simp only [wX12_trace, Nat.reduceAdd]
    refine mi_t h1 (BR_f q1 ⟨inb_of rfl (by omega) (by decide), hQ2 _ _ ?_ (hI.mono (by omega))⟩)
    rw [rd_at rfl (by omega), rd_at rfl (by omega), v4 k (by omega)]
  · refine lf_error11 (k := 2) rfl (by decide) (by decide) (hQ1 _ _ fun Q2 hQ2 => ?_)
    simp only [wX12_trace, Nat.reduceAdd]
    rw [up_c (a := 125) (by decide)]
    exact mi_f h1 (BR_t q0 (st_err hI (k := 2) (i := 2) rfl (by decide) hQ2))
theorem st_rule {t : Int} {M : Mem} (hI : Inv t M) {a b : Int} (ea : bm a = a) (eb : bm b = b) : Step t M (fun M Q => wX11_rule 1 a b M Q) (fun M Q => wX12_rule 125 a b M Q) := by
  intro Q1 hQ1
  have hE : ¬ ((bm 0 ≤ bm a ∧ bm a ≤ bm 3) ∧ (bm 0 ≤ bm b ∧ bm b ≤ bm (if bm a = 2 then 60 else if bm a = 3 then 999 else 9))) → wX11_error 1 1 M (fun r M1 => Q1 r M1) := by
    intro hno
    refine lf_error11 (k := 1) rfl (by decide) (by decide) (hQ1 _ _ fun Q2 hQ2 => ?_)
    have hz := st_err hI (k := 1) (i := 1) rfl (by decide) hQ2
    simp only [wX12_rule, wX12_rule_J23, wX12_rule_J54, Nat.reduceAdd]
    refine BR_i (fun c => ?_) (fun c => BR_i (fun c' => ?_) (fun c' => ?_))
    · rw [if_pos c] at hno
      exact mi_i (fun h1 => BR_f q1 (mi_i (fun h2 => absurd ⟨h1, h2⟩ hno) (fun h2 => BR_t q0 hz))) (fun h1 => BR_t q0 hz)
    · rw [if_neg c, if_pos c'] at hno
      exact mi_i (fun h1 => BR_f q1 (mi_i (fun h2 => absurd ⟨h1, h2⟩ hno) (fun h2 => BR_t q0 hz))) (fun h1 => BR_t q0 hz)
    · rw [if_neg c, if_neg c'] at hno
      exact mi_i (fun h1 => BR_f q1 (mi_i (fun h2 => absurd ⟨h1, h2⟩ hno) (fun h2 => BR_t q0 hz))) (fun h1 => BR_t q0 hz)
  simp only [wX11_rule, wX11_rule_J22, wX11_forget, Nat.reduceAdd]
  refine wi_i (fun h1 => BR_f q1 ?_) (fun h1 => BR_t q0 (hE (fun h => h1 h.1)))
  obtain ⟨k, rfl, hk⟩ := rg ea li_3 h1
  have htab : tabV 0 (k : Int) = if bm (k : Int) = 2 then 60 else if bm (k : Int) = 3 then 999 else 9 := by
    rcases (show k = 0 ∨ k = 1 ∨ k = 2 ∨ k = 3 by omega) with rfl | rfl | rfl | rfl <;> decide +kernel
  rw [htab]
  refine ⟨inb_of rfl (by omega) (by decide), wi_i (fun h2 => BR_f q1 ⟨inb_of rfl (by omega) (by decide), LET_i ⟨inb_of rfl (by omega) (by decide), LET_i (LET_i (LET_i ?_))⟩⟩) (fun h2 => BR_t q0 (hE (fun h => h2 h.2)))⟩
  rw [rd_at rfl (by omega), wr_up rfl (by omega)]
  refine hQ1 _ _ fun Q2 hQ2 => ?_
  simp only [wX12_rule, wX12_rule_J23, wX12_rule_J54, wX12_become, Nat.reduceAdd]
  have fin : inb (6 + (k : Int)) 1522 ∧ LET (rd (up (up (up M 4 k b) 103 3 0) 108 1 0) 126 (6 + (k : Int))) fun x3_3 => inb (6 + (k : Int)) 1522 ∧ LET (wr (up (up (up M 4 k b) 103 3 0) 108 1 0) 126 (6 + (k : Int)) b) fun M_6 => Q2 x3_3 M_6 := by
    refine ⟨inb_of (n := 6 + k) (by omega) (by omega) (by decide), LET_i ⟨inb_of (n := 6 + k) (by omega) (by omega) (by decide), LET_i ?_⟩⟩
    rw [rd_at (n := 6 + k) (by omega) (by omega), wr_up (n := 6 + k) (by omega) (by omega)]
    simp (disch := omega) only [up_c]
    have br := hI.2.1.2.1
    refine hQ2 _ _ (by rw [br k (by omega)]) ((Inv.flat hI ?_ ?_ ?_ ?_ ?_ (SeOk.off ?_) (SsOk.off ?_)).mono (by omega))
    · intro x h1 h2 h3 h4
      simp (disch := omega) only [up_c]
    · simp (disch := omega) only [up_c, up_kn]
    · simp (disch := omega) only [up_c, up_kn]
    · have F : ∀ j, j ≠ 6 + k → up (up (up (up M 4 k b) 103 3 0) 108 1 0) 126 (6 + k) b 126 j = M 126 j := fun j hj => by simp (disch := omega) only [up_c, up_kn]
      have F6 : up (up (up (up M 4 k b) 103 3 0) 108 1 0) 126 (6 + k) b 126 (6 + k) = b := by simp only [up_s]
      obtain ⟨⟨hcnt, hrul, hpo, hlo, hmo, hqo, hto⟩, -⟩ := id hI
      refine hI.1.upd ?_ ?_ (by rw [F 0 (by omega)]; omega) ?_ ?_ ?_ ?_ ?_
      · unfold CntOk
        rw [F 0 (by omega), F 1 (by omega), F 2 (by omega), F 3 (by omega), F 4 (by omega), F 5 (by omega)]
        exact hcnt
      · unfold RulOk at hrul ⊢
        rcases (show k = 0 ∨ k = 1 ∨ k = 2 ∨ k = 3 by omega) with rfl | rfl | rfl | rfl
        · rw [F6, F 7 (by decide), F 8 (by decide), F 9 (by decide)]
          rw [if_neg (by decide +kernel), if_neg (by decide +kernel), bm0, eb, li_9] at h2
          exact ⟨h2, hrul.2⟩
        · rw [F6, F 6 (by decide), F 8 (by decide), F 9 (by decide)]
          rw [if_neg (by decide +kernel), if_neg (by decide +kernel), bm0, eb, li_9] at h2
          exact ⟨hrul.1, h2, hrul.2.2⟩
        · rw [F6, F 6 (by decide), F 7 (by decide), F 9 (by decide)]
          rw [if_pos (by decide +kernel), bm0, eb, li_60] at h2
          exact ⟨hrul.1, hrul.2.1, h2, hrul.2.2.2⟩
        · rw [F6, F 6 (by decide), F 7 (by decide), F 8 (by decide)]
          rw [if_neg (by decide +kernel), if_pos (by decide +kernel), bm0, eb, li_999] at h2
          exact ⟨hrul.1, hrul.2.1, hrul.2.2.1, h2⟩
      · intro p hp
        rw [F 0 (by omega)] at hp
        exact Or.inl ⟨hp, fun i _ _ => F i (by omega)⟩
      · intro p hp
        rw [F 1 (by omega)] at hp
        exact Or.inl ⟨hp, fun i _ _ => F i (by omega), fun i _ _ => F i (by omega)⟩
      · intro p hp
        rw [F 2 (by omega)] at hp
        exact Or.inl ⟨hp, fun i _ _ => F i (by omega)⟩
      · intro p hp
        rw [F 3 (by omega)] at hp
        exact Or.inl ⟨hp, fun i _ _ => F i (by omega)⟩
      · exact hto.cg (F 4 (by omega)) hcnt.2.2.2.2.1.2 (fun i _ _ => F i (by omega))
    · have F : ∀ j, j ≠ 6 + k → up (up (up (up M 4 k b) 103 3 0) 108 1 0) 126 (6 + k) b 126 j = M 126 j := fun j hj => by simp (disch := omega) only [up_c, up_kn]
      have F6 : up (up (up (up M 4 k b) 103 3 0) 108 1 0) 126 (6 + k) b 126 (6 + k) = b := by simp only [up_s]
      have G : ∀ x, x ≠ 4 → x ≠ 103 → x ≠ 108 → x ≠ 126 → up (up (up (up M 4 k b) 103 3 0) 108 1 0) 126 (6 + k) b x = M x := fun x _ _ _ _ => by simp (disch := omega) only [up_c]
      have G4 : ∀ j, up (up (up (up M 4 k b) 103 3 0) 108 1 0) 126 (6 + k) b 4 j = if j = k then b else M 4 j := fun j => by simp (disch := omega) only [up_c, up_k]
      obtain ⟨bcnt, brul, bp, bl, bmu, bq, bt, bw⟩ := hI.2.1
      obtain ⟨n0, n1, n2, n3, n4, n5⟩ := hI.1.1
      refine Bk.upd hI.1 hI.2.1 ?_ ?_ ?_ ?_ ?_ ?_ ?_ ?_
      · unfold BkCnt
        rw [G 2 (by decide) (by decide) (by decide) (by decide), F 0 (by omega), F 1 (by omega), F 2 (by omega), F 3 (by omega), F 4 (by omega), F 5 (by omega)]
        exact bcnt
      · intro i hi
        rw [show 2 + 2 = 4 from rfl, G4]
        by_cases hik : i = k
        · subst hik
          rw [if_pos rfl, F6]
        · rw [if_neg hik, F _ (by omega)]
          exact brul i hi
      · intro p hp
        rw [F 0 (by omega)] at hp
        exact Or.inl ⟨hp, G _ (by omega) (by omega) (by omega) (by omega), fun i _ _ => F i (by omega)⟩
      · intro p hp
        rw [F 1 (by omega)] at hp
        exact Or.inl ⟨hp, G _ (by omega) (by omega) (by omega) (by omega), G _ (by omega) (by omega) (by omega) (by omega), fun i _ _ => F i (by omega), fun i _ _ => F i (by omega)⟩
      · intro p hp
        rw [F 2 (by omega)] at hp
        exact Or.inl ⟨hp, G _ (by omega) (by omega) (by omega) (by omega), fun i _ _ => F i (by omega)⟩
      · intro p hp
        rw [F 3 (by omega)] at hp
        exact Or.inl ⟨hp, fun a _ _ => G _ (by omega) (by omega) (by omega) (by omega), fun i _ _ => F i (by omega)⟩
      · unfold BkTap
        rw [G (2 + 5) (by omega) (by omega) (by omega) (by omega), F 4 (by omega)]
        exact ⟨bt.1, fun i hi => by rw [F _ (by omega)]; exact bt.2 i hi⟩
      · intro i hi
        rw [F 5 (by omega)] at hi
        rw [G (2 + 8) (by omega) (by omega) (by omega) (by omega), F _ (by omega)]
        exact bw i hi
    · simp (disch := omega) only [up_c, up_s]
    · simp (disch := omega) only [up_c, up_s]
  have c1 : ∀ z : Int, z = (if bm (k : Int) = 2 then 60 else if bm (k : Int) = 3 then 999 else 9) → wX12_in b 0 z (up (up (up M 4 k b) 103 3 0) 108 1 0) (fun r_6 M_5 => BR (bm r_6 = 0) (wX12_error 125 1 M_5 fun r_4 M_3 => Q2 r_4 M_3) (inb (6 + (k : Int)) 1522 ∧ LET (rd M_5 126 (6 + (k : Int))) fun x3_3 => inb (6 + (k : Int)) 1522 ∧ LET (wr M_5 126 (6 + (k : Int)) b) fun M_6 => Q2 x3_3 M_6)) := by
    intro z hz
    subst hz
    exact mi_t h2 (BR_f q1 fin)
  refine BR_i (fun c => mi_t h1 (BR_f q1 (c1 _ ?_))) (fun c => BR_i (fun c' => mi_t h1 (BR_f q1 (c1 _ ?_))) (fun c' => mi_t h1 (BR_f q1 (c1 _ ?_))))
  · rw [if_pos c]
  · rw [if_neg c, if_pos c']
  · rw [if_neg c, if_neg c']
