/-! text: a call -/
/-- what a call may write as it likes -/
def sc (x : Nat) : Prop := (87 ≤ x ∧ x ≤ 93) ∨ x = 101 ∨ x = 102 ∨ x = 107 ∨ (110 ≤ x ∧ x ≤ 113) ∨ x = 116 ∨ x = 125 ∨ (129 ≤ x ∧ x ≤ 142) ∨ x = 147
theorem Inv.flat2 {t : Int} {M M2 : Mem} (hI : Inv t M) (F : ∀ x, (x < 2 ∨ 84 < x) → ¬ sc x → x ≠ 103 → x ≠ 108 → x ≠ 126 → M2 x = M x) (F2 : M2 125 2 = M 125 2) (F33 : M2 125 33 = M 125 33) (h3 : M2 103 13 = M 103 13) (h8 : M2 108 7 = M 108 7) (hf : FlOk (M2 126)) (hb : Bk 2 M2 (M2 126)) (hse : SeOk (vw (M2 126)) M2) (hss : SsOk (vw (M2 126)) M2) : Inv t M2 := by
  obtain ⟨i1, i2, i3, i4, i5, i6, i7, i8, i9, i10⟩ := hI
  have g : ∀ x, (x < 2 ∨ 84 < x) → ¬ sc x → x ≠ 103 → x ≠ 108 → x ≠ 126 → M2 x = M x := F
  refine ⟨hf, hb, ?_, ?_, ?_, ?_, ?_, hse, hss, ?_⟩
  · exact i3.congr (g 1 (by omega) (by unfold sc; omega) (by decide) (by decide) (by decide)) (g 0 (by omega) (by unfold sc; omega) (by decide) (by decide) (by decide)) F2 (g 127 (by omega) (by unfold sc; omega) (by decide) (by decide) (by decide)) (fun a _ _ q => g a (by omega) (by unfold sc; omega) (by omega) (by omega) (by omega))
  · exact i4.congr (by rw [g 1 (by omega) (by unfold sc; omega) (by decide) (by decide) (by decide)]) (g 0 (by omega) (by unfold sc; omega) (by decide) (by decide) (by decide)) h3 h8
  · exact i5.congr (fun a q1 q2 => g a (by omega) (by unfold sc; omega) (by omega) (by omega) (by omega)) (g 144 (by omega) (by unfold sc; omega) (by decide) (by decide) (by decide)) (g 145 (by omega) (by unfold sc; omega) (by decide) (by decide) (by decide)) (g 146 (by omega) (by unfold sc; omega) (by decide) (by decide) (by decide))
  · exact i6.congr (by rw [g 114 (by omega) (by unfold sc; omega) (by decide) (by decide) (by decide)]) F33 (g 115 (by omega) (by unfold sc; omega) (by decide) (by decide) (by decide)) (g 143 (by omega) (by unfold sc; omega) (by decide) (by decide) (by decide))
  · intro j
    rw [g 86 (by omega) (by unfold sc; omega) (by decide) (by decide) (by decide), g 128 (by omega) (by unfold sc; omega) (by decide) (by decide) (by decide)]
    exact i7 j
  · exact i10.congr (fun a q1 q2 => g a (by omega) (by unfold sc; omega) (by omega) (by omega) (by omega))
theorem Inv.book2 {t : Int} {M M2 : Mem} (hI : Inv t M) (F : ∀ x, (x < 2 ∨ 84 < x) → ¬ sc x → x ≠ 103 → x ≠ 108 → x ≠ 126 → M2 x = M x) (F2 : M2 125 2 = M 125 2) (F33 : M2 125 33 = M 125 33) (h3 : M2 103 13 = M 103 13) (h8 : M2 108 7 = M 108 7)
    (hc : CntOk (M2 126)) (hbc : BkCnt 2 M2 (M2 126)) (h0 : M 126 0 ≤ M2 126 0) (hr : ∀ i, 6 ≤ i → i < 10 → M2 126 i = M 126 i) (hr2 : M2 4 = M 4)
    (hp : ∀ p : Nat, (p : Int) < M2 126 0 → ((p : Int) < M 126 0 ∧ M2 (11 + p) = M (11 + p) ∧ ∀ i, 20 + 6 * p ≤ i → i < 26 + 6 * p → M2 126 i = M 126 i) ∨ (PieceOk (M2 126) p ∧ BkPiece 2 M2 (M2 126) p))
    (hl : ∀ l : Nat, (l : Int) < M2 126 1 → ((l : Int) < M 126 1 ∧ M2 (23 + 2 * l) = M (23 + 2 * l) ∧ M2 (24 + 2 * l) = M (24 + 2 * l) ∧ (∀ i, 100 + 4 * l ≤ i → i < 104 + 4 * l → M2 126 i = M 126 i) ∧ ∀ i, 150 + 105 * l ≤ i → i < 255 + 105 * l → M2 126 i = M 126 i) ∨ (LikOk (M2 126) l ∧ BkLik 2 M2 (M2 126) l))
    (hm : ∀ m : Nat, (m : Int) < M2 126 2 → ((m : Int) < M 126 2 ∧ M2 (43 + m) = M (43 + m) ∧ ∀ i, 1200 + 4 * m ≤ i → i < 1204 + 4 * m → M2 126 i = M 126 i) ∨ (MustOk (M2 126) m ∧ BkMust 2 M2 (M2 126) m))
    (hq : ∀ p : Nat, (p : Int) < M2 126 3 → ((p : Int) < M 126 3 ∧ (∀ a, 53 + 4 * p ≤ a → a ≤ 56 + 4 * p → M2 a = M a) ∧ ∀ i, 1240 + 27 * p ≤ i → i < 1267 + 27 * p → M2 126 i = M 126 i) ∨ (PastOk (M2 126) p ∧ BkPast 2 M2 (M2 126) p))
    (ht : TapOk (M2 126) ∧ BkTap 2 M2 (M2 126)) (hw : ∀ i : Nat, (i : Int) < M2 126 5 → M2 10 i = M2 126 (1510 + i)) (hse : SeOk (vw (M2 126)) M2) (hss : SsOk (vw (M2 126)) M2) : Inv t M2 := by
  have hf := hI.1
  have hb := hI.2.1
  refine hI.flat2 F F2 F33 h3 h8 ?_ ?_ hse hss
  · refine hf.upd hc ?_ h0 ?_ ?_ ?_ ?_ ht.1
    · have := hf.2.1
      unfold RulOk at this ⊢
      rw [hr 6 (by decide) (by decide), hr 7 (by decide) (by decide), hr 8 (by decide) (by decide), hr 9 (by decide) (by decide)]
      exact this
    · exact fun p q => (hp p q).imp (fun a => ⟨a.1, a.2.2⟩) (fun a => a.1)
    · exact fun p q => (hl p q).imp (fun a => ⟨a.1, a.2.2.2⟩) (fun a => a.1)
    · exact fun p q => (hm p q).imp (fun a => ⟨a.1, a.2.2⟩) (fun a => a.1)
    · exact fun p q => (hq p q).imp (fun a => ⟨a.1, a.2.2⟩) (fun a => a.1)
  · refine Bk.upd hf hb hbc ?_ ?_ ?_ ?_ ?_ ht.2 ?_
    · intro i hi
      rw [show 2 + 2 = 4 from rfl, hr2, hr (6 + i) (by omega) (by omega)]
      exact hb.2.1 i hi
    · intro p q
      exact (hp p q).imp (fun a => ⟨a.1, by rw [show 2 + 9 + p = 11 + p by omega]; exact a.2.1, a.2.2⟩) (fun a => a.2)
    · intro p q
      exact (hl p q).imp (fun a => ⟨a.1, by rw [show 2 + 21 + 2 * p = 23 + 2 * p by omega]; exact a.2.1, by rw [show 2 + 22 + 2 * p = 24 + 2 * p by omega]; exact a.2.2.1, a.2.2.2⟩) (fun a => a.2)
    · intro p q
      exact (hm p q).imp (fun a => ⟨a.1, by rw [show 2 + 41 + p = 43 + p by omega]; exact a.2.1, a.2.2⟩) (fun a => a.2)
    · intro p q
      exact (hq p q).imp (fun a => ⟨a.1, fun x h1 h2 => a.2.1 x (by omega) (by omega), a.2.2⟩) (fun a => a.2)
    · exact hw
theorem Inv.seC {t : Int} {M M2 : Mem} (hI : Inv t M) (hv : ∀ i, (i ≤ 2 ∨ (6 ≤ i ∧ i < 1240)) → M2 126 i = M 126 i) (h1 : M2 103 = M 103) (h2 : M2 104 = M 104) (h3 : M2 105 = M 105) (h4 : M2 106 = M 106) : SeOk (vw (M2 126)) M2 := by
  rw [vw_eq hv]
  exact hI.2.2.2.2.2.2.2.1.congr (fun j _ => by rw [h1]) h2 h3 h4
theorem Inv.ssC {t : Int} {M M2 : Mem} (hI : Inv t M) (hv : ∀ i, (i ≤ 2 ∨ (6 ≤ i ∧ i < 1240)) → M2 126 i = M 126 i) (h1 : M2 108 = M 108) (h2 : M2 109 = M 109) : SsOk (vw (M2 126)) M2 := by
  rw [vw_eq hv]
  exact hI.2.2.2.2.2.2.2.2.1.congr (fun j _ => by rw [h1]) h2
/-- the reference's copy of steps -/
theorem lp_txt {Q : Int → Mem → Prop} {M0 : Mem} {c len : Nat} {x3 : Int} (hx : x3 + 1 = (c : Int)) (hc : c + 2 * len ≤ 1522) (hl : len ≤ 50) (h7 : M0 125 7 = (len : Int)) (hQ : ∀ M', (∀ a, a ≠ 126 → M' a = M0 a) → (∀ j, M' 126 j = if c ≤ j ∧ j < c + 2 * len then M0 129 (j - c) else M0 126 j) → Q (M0 125 6) M') : ∀ (m i : Nat) (M : Mem) (x4 : Int), i + m = 2 * len → x4 = (i : Int) → (∀ a, a ≠ 126 → M a = M0 a) → (∀ j, M 126 j = if c ≤ j ∧ j < c + i then M0 129 (j - c) else M0 126 j) → wX12_text_L133 Q 125 x3 (m + 1) x4 M
  | 0, i, M, x4, hi, h4, h1, h2 => by
    subst h4
    unfold wX12_text_L133
    rw [h1 125 (by decide), h7, bm_nat (n := i) (by omega), bm_id (z := 2 * (len : Int)) (by omega) (by omega)]
    refine BR_t (by omega) (hQ M h1 ?_)
    rw [show 2 * len = i by omega]
    exact h2
  | m + 1, i, M, x4, hi, h4, h1, h2 => by
    subst h4
    unfold wX12_text_L133
    rw [h1 125 (by decide), h7, bm_nat (n := i) (by omega), bm_id (z := 2 * (len : Int)) (by omega) (by omega)]
    refine BR_f (by omega) ⟨inb_of rfl (by omega) (by decide), inb_of (n := c + i) (by omega) (by omega) (by decide), LET_i (LET_i ?_)⟩
    rw [show (125 : Nat) + 1 = 126 from rfl, show (125 : Nat) + 4 = 129 from rfl, wr_up (n := c + i) (by omega) (by omega), rd_at (n := i) rfl (by omega), h1 129 (by decide)]
    refine lp_txt hx hc hl h7 hQ m (i + 1) _ _ (by omega) (by omega) (fun a ha => by rw [up_c ha]; exact h1 a ha) (fun j => ?_)
    rw [up_k]
    by_cases hj : j = c + i
    · subst hj
      rw [if_pos rfl, if_pos (by omega), show c + i - c = i by omega]
    · rw [if_neg hj, h2]
      by_cases hj2 : c ≤ j ∧ j < c + i
      · rw [if_pos hj2, if_pos (by omega)]
      · rw [if_neg hj2, if_neg (by omega)]
theorem st_text {t : Int} {M : Mem} (hI : Inv t M) {a : Int} (ea : bm a = a) : Step t M (fun M Q => wX11_text 1 a M Q) (fun M Q => wX12_text 125 a M Q) := by
  intro Q1 hQ1
  obtain ⟨nl, hn, hn10, c2⟩ := hI.nl
  obtain ⟨n, hnt, hn50, c8⟩ := hI.nt
  simp only [wX11_text, Nat.reduceAdd]
  refine lf_noLik c2 (fun h1 => BR_t q0 ?_) (fun h1 => BR_f q1 ?_)
  rotate_left
  · refine lf_error11 (k := 1) rfl (by decide) (by decide) (hQ1 _ _ fun Q2 hQ2 => ?_)
    simp only [wX12_text]
    exact lf_isLik (n := nl) (by rw [up_c (by decide)]; exact hn) (fun h => absurd h h1) (fun _ => BR_t q0 (st_err hI (k := 1) (i := 1) rfl (by decide) hQ2))
  obtain ⟨l, rfl, hl⟩ := rg ea (bm_id (by omega) (by omega)) h1
  have hL := hI.1.2.2.2.1 l (by omega)
  have hB := hI.2.1.2.2.2.1 l (by omega)
  obtain ⟨k, hk⟩ : ∃ k : Nat, lK (M 126) l = (k : Int) := ⟨(lK (M 126) l).toNat, by have := hL.1; omega⟩
  have hk6 : k ≤ 6 := by have := hL.1; omega
  have e0 : M (23 + 2 * l) 0 = (k : Int) := by have := hB.1; rw [show 2 + 21 + 2 * l = 23 + 2 * l by omega] at this; rw [this, hk]
  rw [bnn (by omega)]
  refine ⟨inb_of rfl (by omega) (by decide), lf_names e0 hk6 ?_⟩
  -- the reference's beginning
  have mst : ∀ (M1 : Mem) (Q2 : Int → Mem → Prop), M1 126 = M 126 → (BR (bm (up M1 125 8 (k : Int) 125 8) = 0) (wX12_error 125 5 (up M1 125 8 (k : Int)) fun r_7 M_6 => Q2 r_7 M_6) (BR (bm (up M1 125 8 (k : Int) 125 8) = 6) (wX12_error 125 5 (up M1 125 8 (k : Int)) fun r_7 M_6 => Q2 r_7 M_6) (wX12_whole 125 (up (up (up (up (up M1 125 8 (k : Int)) 125 4 0) 125 5 0) 125 6 0) 125 7 0) fun r_13 M_12 => BR (bm r_13 = 0) (wX12_text_J90 Q2 125 (l : Int) M_12) (BR (bm (M_12 125 4) = bm (rd M_12 126 4)) (wX12_text_J91 Q2 125 (l : Int) 1 M_12) (wX12_text_J90 Q2 125 (l : Int) M_12))))) → wX12_text 125 (l : Int) M1 Q2 := by
    intro M1 Q2 h126 hh
    simp only [wX12_text, wX12_text_J40, wX12_likingIs, Nat.reduceAdd]
    refine lf_isLik (n := nl) (by rw [h126]; exact hn) (fun _ => BR_f q1 ⟨inb_of (n := 100 + 4 * l) (by omega) (by omega) (by decide), ?_⟩) (fun h => absurd h1 h)
    rw [rd_at (n := 100 + 4 * l) (by omega) (by omega), h126, show M 126 (100 + 4 * l) = (k : Int) from hk]
    exact LET_i hh
  unfold wJ0_isEmpty_aae02
  by_cases hk06 : k = 0 ∨ k = 6
  · rw [if_pos hk06]
    refine BR_t (by decide +kernel) (BR_f q1 (lf_error11 (k := 5) rfl (by decide) (by decide) (hQ1 _ _ fun Q2 hQ2 => ?_)))
    refine mst _ Q2 (by rw [up_c (by decide)]) ?_
    have hz : wX12_error 125 5 (up (up M 86 5 (M 86 5 + 1)) 125 8 (k : Int)) fun r_7 M_6 => Q2 r_7 M_6 := by
      refine lf_error12 (k := 5) rfl (by decide) (hQ2 _ _ rfl ?_)
      refine ((hI.er (k := 5)).flat2 (fun x hx hs h3 h8 h126 => ?_) ?_ ?_ ?_ ?_ ?_ ?_ ?_ ?_).mono (by omega)
      · have h125 : x ≠ 125 := fun e => hs (by subst e; unfold sc; omega)
        unfold erk
        by_cases hx2 : x = 128
        · subst hx2
          funext j
          simp (disch := omega) only [up_c, up_k]
        · simp (disch := omega) only [up_c]
      · unfold erk
        simp (disch := omega) only [up_c, up_kn]
      · unfold erk
        simp (disch := omega) only [up_c, up_kn]
      · unfold erk
        simp (disch := omega) only [up_c]
      · unfold erk
        simp (disch := omega) only [up_c]
      · rw [up_c (by decide), up_c (by decide), up_c (by decide)]
        exact hI.1
      · rw [up_c (by decide), up_c (by decide), up_c (by decide)]
        exact hI.2.1.congr hI.1.1 (fun x h1 h2 => by simp (disch := omega) only [up_c])
      · refine hI.seC (fun i _ => ?_) ?_ ?_ ?_ ?_
        all_goals simp (disch := omega) only [up_c]
      · refine hI.ssC (fun i _ => ?_) ?_ ?_
        all_goals simp (disch := omega) only [up_c]
    rw [up_s, bm_nat (n := k) (by omega)]
    exact BR_i (fun _ => hz) (fun _ => BR_i (fun _ => hz) (fun _ => by omega))
  · rw [if_neg hk06]
    have hk5 : (k : Int) = 1 ∨ (k : Int) = 2 ∨ (k : Int) = 3 ∨ (k : Int) = 4 ∨ (k : Int) = 5 := by omega
    have hlen : bm (sLen (nmZ (k : Int))) ≠ 0 := by
      rcases hk5 with h | h | h | h | h <;> rw [h] <;> decide +kernel
    refine BR_f hlen (BR_t q0 (lf_names e0 hk6 ?_))
    rw [if_neg hk06]
    obtain ⟨bt1, bt2⟩ := hI.2.1.2.2.2.2.2.2.1
    rw [show 2 + 5 = 7 from rfl] at bt1 bt2
    have hT : Tap (M 126) (fun i => M 126 (1460 + i)) n := ⟨hn50, hnt, fun i hi => ⟨rfl, hI.1.2.2.2.2.2.2 i (by omega)⟩⟩
    -- the reference reads on
    have mrd : ∀ (M1 : Mem) (Q2 : Int → Mem → Prop), M1 126 = M 126 → (∀ s' M2, prs (fun i => M 126 (1460 + i)) n (k : Int) 40 0 (0, 0, 0, []) = (true, s') → FrM (up (up (up (up (up M1 125 8 (k : Int)) 125 4 0) 125 5 0) 125 6 0) 125 7 0) M2 → RM (M 126) (k : Int) M2 s' → (BR (bm (M2 125 4) = bm (rd M2 126 4)) (wX12_text_J91 Q2 125 (l : Int) 1 M2) (wX12_text_J90 Q2 125 (l : Int) M2))) → (∀ s' M2, prs (fun i => M 126 (1460 + i)) n (k : Int) 40 0 (0, 0, 0, []) = (false, s') → FrM (up (up (up (up (up M1 125 8 (k : Int)) 125 4 0) 125 5 0) 125 6 0) 125 7 0) M2 → M2 125 4 = (s'.1 : Int) → M2 126 = M 126 → wX12_text_J90 Q2 125 (l : Int) M2) → wX12_text 125 (l : Int) M1 Q2 := by
      intro M1 Q2 h126 g1 g0
      refine mst M1 Q2 h126 ?_
      rw [up_s, bm_nat (n := k) (by omega)]
      refine BR_f (by omega) (BR_f (by omega) ?_)
      unfold wX12_whole
      refine sm_all hT hk5 40 40 0 0 (by decide) (by decide) (by decide) (by decide) (0, 0, 0, []) _ _ ?_ (Nat.zero_le _) rfl (Nat.le_refl _) (fun s' M2 e hF hR => BR_f q1 (g1 s' M2 e hF hR)) (fun s' M2 e hF h4 h6 => BR_t q0 (g0 s' M2 e hF h4 h6))
      refine ⟨?_, trivial, ?_, ?_, ?_, ?_, ?_⟩
      · simp (disch := omega) only [up_s, up_kn]
        rfl
      · simp (disch := omega) only [up_s, up_kn]
        rfl
      · simp (disch := omega) only [up_s, up_kn]
        rfl
      · simp (disch := omega) only [up_s, up_kn]
        rfl
      · simp (disch := omega) only [up_s, up_kn]
      · simp (disch := omega) only [up_c]
        exact h126
    -- a tape that tells no text
    have bad : ∀ (M1 M2 : Mem), (∀ x, (x < 111 ∨ 113 < x) → M1 x = up M 2 8 0 x) → FrM (up (up (up (up (up M1 125 8 (k : Int)) 125 4 0) 125 5 0) 125 6 0) 125 7 0) M2 → M2 126 = M 126 → Inv t (up M2 126 4 0) := by
      intro M1 M2 h1 hF h6
      have G : ∀ x, x ≠ 125 → x ≠ 129 → (x < 111 ∨ 113 < x) → M2 x = up M 2 8 0 x := fun x q1 q2 q3 => by
        rw [hF.1 x q1 q2]
        simp (disch := omega) only [up_c]
        exact h1 x q3
      have G2 : ∀ j, j ≠ 4 → j ≠ 5 → j ≠ 6 → j ≠ 7 → j ≠ 8 → M2 125 j = M 125 j := fun j q4 q5 q6 q7 q8 => by
        rw [hF.2 j q4 q5 q6 q7]
        simp (disch := omega) only [up_kn]
        rw [h1 125 (by decide), up_c (by decide)]
      have G1 : ∀ x, x ≠ 126 → x ≠ 125 → x ≠ 129 → x ≠ 2 → (x < 111 ∨ 113 < x) → up M2 126 4 0 x = M x := fun x q0 q1 q2 q3 q4 => by rw [up_c q0, G x q1 q2 q4, up_c q3]
      have S : ∀ j, up M2 126 4 0 126 j = if j = 4 then 0 else M 126 j := fun j => by rw [up_k, h6]
      have C : ∀ j, up M2 126 4 0 2 j = if j = 8 then 0 else M 2 j := fun j => by rw [up_c (by decide), G 2 (by decide) (by decide) (by decide), up_k]
      have D : ∀ j, j ≠ 4 → j ≠ 5 → j ≠ 6 → j ≠ 7 → j ≠ 8 → up M2 126 4 0 125 j = M 125 j := fun j q4 q5 q6 q7 q8 => by rw [up_c (by decide)]; exact G2 j q4 q5 q6 q7 q8
      generalize up M2 126 4 0 = M3 at G1 S C D
      have S' : ∀ j, j ≠ 4 → M3 126 j = M 126 j := fun j hj => by rw [S, if_neg hj]
      have g : ∀ x, x ≠ 126 → x ≠ 125 → x ≠ 129 → x ≠ 2 → ¬ (111 ≤ x ∧ x ≤ 113) → M3 x = M x := fun x q1 q2 q3 q4 q5 => G1 x q1 q2 q3 q4 (by omega)
      obtain ⟨n0, n1, n2, n3, n4, n5⟩ := hI.1.1
      obtain ⟨b0, b1, b2, b3, b4, b5⟩ := hI.2.1.1
      have k0 := S' 0 (by decide)
      have k1 := S' 1 (by decide)
      have k2 := S' 2 (by decide)
      have k3 := S' 3 (by decide)
      have k4 : M3 126 4 = 0 := by rw [S]; rfl
      have k5 := S' 5 (by decide)
      refine hI.book2 (fun x hx hs h3 h8 h126 => ?_) (D 2 (by decide) (by decide) (by decide) (by decide) (by decide)) (D 33 (by decide) (by decide) (by decide) (by decide) (by decide)) ?_ ?_ ⟨by omega, by omega, by omega, by omega, by omega, by omega⟩ ?_ (by omega) (fun i _ _ => S' i (by omega)) (g 4 (by decide) (by decide) (by decide) (by decide) (by decide)) ?_ ?_ ?_ ?_ ⟨?_, ?_, ?_⟩ (hI.wai (g 10 (by decide) (by decide) (by decide) (by decide) (by decide)) k5 (fun i _ _ => S' i (by omega))) ?_ ?_
      · unfold sc at hs
        exact g x h126 (by omega) (by omega) (by omega) (by omega)
      · rw [g 103 (by decide) (by decide) (by decide) (by decide) (by decide)]
      · rw [g 108 (by decide) (by decide) (by decide) (by decide) (by decide)]
      · unfold BkCnt
        rw [C, C, C, C, C, C, k0, k1, k2, k3, k4, k5]
        exact ⟨b0, b1, b2, b3, rfl, b5⟩
      · exact fun p hp => Or.inl ⟨by omega, g _ (by omega) (by omega) (by omega) (by omega) (by omega), fun i _ _ => S' i (by omega)⟩
      · exact fun p hp => Or.inl ⟨by omega, g _ (by omega) (by omega) (by omega) (by omega) (by omega), g _ (by omega) (by omega) (by omega) (by omega) (by omega), fun i _ _ => S' i (by omega), fun i _ _ => S' i (by omega)⟩
      · exact fun p hp => Or.inl ⟨by omega, g _ (by omega) (by omega) (by omega) (by omega) (by omega), fun i _ _ => S' i (by omega)⟩
      · exact fun p hp => Or.inl ⟨by omega, fun x _ _ => g _ (by omega) (by omega) (by omega) (by omega) (by omega), fun i _ _ => S' i (by omega)⟩
      · intro i hi
        rw [k4] at hi
        omega
      · rw [show 2 + 5 = 7 from rfl, g 7 (by decide) (by decide) (by decide) (by decide) (by decide)]
        exact bt1
      · intro i hi
        rw [k4] at hi
        omega
      · exact hI.seC (fun i _ => S' i (by omega)) (g 103 (by decide) (by decide) (by decide) (by decide) (by decide)) (g 104 (by decide) (by decide) (by decide) (by decide) (by decide)) (g 105 (by decide) (by decide) (by decide) (by decide) (by decide)) (g 106 (by decide) (by decide) (by decide) (by decide) (by decide))
      · exact hI.ssC (fun i _ => S' i (by omega)) (g 108 (by decide) (by decide) (by decide) (by decide) (by decide)) (g 109 (by decide) (by decide) (by decide) (by decide) (by decide))
    have badC : ∀ (M' : Mem) (p : Nat), p ≤ n → (∀ x, (x < 111 ∨ 113 < x) → M' x = M x) → ∀ x, (x < 111 ∨ 113 < x) → up M' 2 8 0 x = up M 2 8 0 x := by
      intro M' p hp hc x hx
      funext j
      by_cases h2 : x = 2
      · subst h2
        rw [up_k, up_k, hc 2 (by decide)]
      · rw [up_c h2, up_c h2, hc x hx]
    refine lf_tape (b := fun i => M 126 (1460 + i)) hk5 c8 hn50 rfl bt1 (fun i hi => bt2 i (by omega)) (fun s' M' e hc hlen hcd hpn => LET_i ?_) (fun s' M' e hc hpn => LET_i ?_) (fun s' M' e hc => LET_i ?_)
    · obtain ⟨⟨a1, a2, a3, a4, a5, a6⟩, a7⟩ := prs_ok _ _ _ _ e (Nat.zero_le _)
      dsimp only at a1 a3 a4 a5 a6 a7
      simp only [List.length_nil] at a4
      have hg : bm (s'.2.2.1 : Int) = (s'.2.2.1 : Int) := bm_nat (by omega)
      have hl50 : s'.2.2.2.length ≤ 50 := by omega
      simp only [wX1_takeText, wX11_forget, Nat.reduceAdd]
      rw [lf_min, if_neg (by decide +kernel), lf_min, up_c (a := 111) (by decide), hlen, if_neg (by rw [show bm 50 = 50 from by decide +kernel, bm_nat (by omega)]; omega)]
      refine BR_f (by rw [hg]; omega) (LET_i ?_)
      rw [up_s, bm0, bm_nat (n := s'.2.2.2.length) (by omega)]
      refine ⟨by omega, LET_i (LET_i (LET_i ?_))⟩
      generalize hM1 : up (up (cpy (up (up M' 2 8 0) (23 + 2 * l) 5 (s'.2.2.2.length : Int)) 112 (23 + 2 * l + 1) 0 0 (s'.2.2.2.length : Int)) 103 3 0) 108 1 0 = M1
      have C1 : ∀ x, (x < 111 ∨ 113 < x) → x ≠ 2 → x ≠ 23 + 2 * l → x ≠ 24 + 2 * l → x ≠ 103 → x ≠ 108 → M1 x = M x := by
        intro x q1 q2 q3 q4 q5 q6
        subst hM1
        rw [up_c q6, up_c q5, cpy_c (by omega), up_c q3, up_c q2, hc x q1]
      have C2 : ∀ j, M1 2 j = if j = 8 then 0 else M 2 j := by
        intro j
        subst hM1
        rw [up_c (by decide), up_c (by decide), cpy_c (by omega), up_c (by omega), up_k, hc 2 (by decide)]
      have C3 : ∀ j, M1 (23 + 2 * l) j = if j = 5 then (s'.2.2.2.length : Int) else M (23 + 2 * l) j := by
        intro j
        subst hM1
        rw [up_c (by omega), up_c (by omega), cpy_c (by omega), up_k, up_c (by omega), hc (23 + 2 * l) (by omega)]
      have C4 : ∀ j, j < s'.2.2.2.length → M1 (24 + 2 * l) j = M' 112 j := by
        intro j hj
        subst hM1
        rw [up_c (by omega), up_c (by omega), show 24 + 2 * l = 23 + 2 * l + 1 by omega, cpy_at rfl (by omega), if_pos hj, up_c (by omega), up_c (by omega)]
      have C5 : ∀ j, M1 103 j = if j = 3 then 0 else M 103 j := by
        intro j
        subst hM1
        rw [up_c (by decide), up_k, cpy_c (by omega), up_c (by omega), up_c (by decide), hc 103 (by decide)]
      have C6 : ∀ j, M1 108 j = if j = 1 then 0 else M 108 j := by
        intro j
        subst hM1
        rw [up_k, up_c (by decide), cpy_c (by omega), up_c (by omega), up_c (by decide), hc 108 (by decide)]
      clear hM1
      have C126 : M1 126 = M 126 := C1 126 (by decide) (by decide) (by omega) (by omega) (by decide) (by decide)
      refine hQ1 _ _ fun Q2 hQ2 => mrd M1 Q2 C126 (fun s'' M2 e2 hF hR => ?_) (fun s'' M2 e2 _ _ _ => absurd (e.symm.trans e2) (fun h => Bool.false_ne_true (congrArg Prod.fst h).symm))
      obtain rfl : s' = s'' := (congrArg Prod.snd (e.symm.trans e2))
      obtain ⟨r1, r2, r3, r4, r5, r6, r7⟩ := hR
      rw [r3, rd_at (i := 4) (n := 4) rfl (by decide), r7, hnt, hpn]
      simp only [wX12_text_J91, Nat.reduceAdd]
      refine BR_t (by trivial) (LET_i (BR_f q1 (LET_i ⟨inb_of (n := 150 + 105 * l) (by omega) (by omega) (by decide), LET_i ⟨2 * s'.2.2.2.length + 1, ?_⟩⟩)))
      rw [wr_up (i := 4) (n := 4) rfl (by decide), wr_up (n := 150 + 105 * l) (by omega) (by omega), up_c (a := 125) (k := 126) (by decide), r1]
      have G : ∀ x, x ≠ 125 → x ≠ 129 → M2 x = M1 x := fun x q1 q2 => by
        rw [hF.1 x q1 q2]
        simp (disch := omega) only [up_c]
      have G2 : ∀ j, j ≠ 4 → j ≠ 5 → j ≠ 6 → j ≠ 7 → j ≠ 8 → M2 125 j = M 125 j := fun j q4 q5 q6 q7 q8 => by
        rw [hF.2 j q4 q5 q6 q7]
        simp (disch := omega) only [up_kn]
        rw [C1 125 (by decide) (by decide) (by omega) (by omega) (by decide) (by decide)]
      refine lp_txt (c := 151 + 105 * l) (len := s'.2.2.2.length) (M0 := up (up M2 126 4 0) 126 (150 + 105 * l) (s'.2.2.2.length : Int)) (by omega) (by omega) hl50 ?_ (fun M3 y1 y2 => ?_) (2 * s'.2.2.2.length) 0 _ _ (by omega) rfl (fun _ _ => rfl) (fun j => by rw [if_neg (by omega)])
      · rw [up_c (by decide), up_c (by decide)]
        exact r1
      · rw [up_c (by decide), up_c (by decide), r5]
        have g : ∀ x, x ≠ 126 → x ≠ 125 → x ≠ 129 → x ≠ 2 → ¬ (111 ≤ x ∧ x ≤ 113) → x ≠ 23 + 2 * l → x ≠ 24 + 2 * l → x ≠ 103 → x ≠ 108 → M3 x = M x := fun x q1 q2 q3 q4 q5 q6 q7 q8 q9 => by
          rw [y1 x q1, up_c q1, up_c q1, G x q2 q3]
          exact C1 x (by omega) q4 q6 q7 q8 q9
        have gC : ∀ x, x ≠ 126 → x ≠ 125 → x ≠ 129 → M3 x = M1 x := fun x q1 q2 q3 => by rw [y1 x q1, up_c q1, up_c q1, G x q2 q3]
        have S0 : ∀ j, j ≠ 4 → j ≠ 150 + 105 * l → ¬ (151 + 105 * l ≤ j ∧ j < 151 + 105 * l + 2 * s'.2.2.2.length) → M3 126 j = M 126 j := fun j q1 q2 q3 => by
          rw [y2, if_neg q3, up_kn q2, up_kn q1, r7]
        have S1 : M3 126 4 = 0 := by rw [y2, if_neg (by omega), up_kn (by omega), up_s]
        have S2 : M3 126 (150 + 105 * l) = (s'.2.2.2.length : Int) := by rw [y2, if_neg (by omega), up_s]
        have S3 : ∀ i, i < 2 * s'.2.2.2.length → M3 126 (151 + 105 * l + i) = M2 129 i := fun i hi => by
          rw [y2, if_pos (by omega), show 151 + 105 * l + i - (151 + 105 * l) = i by omega, up_c (by decide), up_c (by decide)]
        have D : ∀ j, j ≠ 4 → j ≠ 5 → j ≠ 6 → j ≠ 7 → j ≠ 8 → M3 125 j = M 125 j := fun j q4 q5 q6 q7 q8 => by rw [y1 125 (by decide), up_c (by decide), up_c (by decide)]; exact G2 j q4 q5 q6 q7 q8
        obtain ⟨n0, n1, n2, n3, n4, n5⟩ := hI.1.1
        obtain ⟨b0, b1, b2, b3, b4, b5⟩ := hI.2.1.1
        have k0 := S0 0 (by omega) (by omega) (by omega)
        have k1 := S0 1 (by omega) (by omega) (by omega)
        have k2 := S0 2 (by omega) (by omega) (by omega)
        have k3 := S0 3 (by omega) (by omega) (by omega)
        have k5 := S0 5 (by omega) (by omega) (by omega)
        have y22 : ∀ j, M3 2 j = if j = 8 then 0 else M 2 j := fun j => by rw [gC 2 (by decide) (by decide) (by decide)]; exact C2 j
        refine hQ2 _ _ rfl ((hI.book2 (fun x hx hs h3 h8 h126 => ?_) (D 2 (by decide) (by decide) (by decide) (by decide) (by decide)) (D 33 (by decide) (by decide) (by decide) (by decide) (by decide)) ?_ ?_ ⟨by omega, by omega, by omega, by omega, by omega, by omega⟩ ?_ (by omega) (fun i _ _ => S0 i (by omega) (by omega) (by omega)) (g 4 (by decide) (by decide) (by decide) (by decide) (by decide) (by omega) (by omega) (by decide) (by decide)) ?_ ?_ ?_ ?_ ⟨?_, ?_, ?_⟩ (hI.wai (g 10 (by decide) (by decide) (by decide) (by decide) (by decide) (by omega) (by omega) (by decide) (by decide)) k5 (fun i _ _ => S0 i (by omega) (by omega) (by omega))) (SeOk.off ?_) (SsOk.off ?_)).mono (by omega))
        · unfold sc at hs
          exact g x h126 (by omega) (by omega) (by omega) (by omega) (by omega) (by omega) h3 h8
        · rw [gC 103 (by decide) (by decide) (by decide), C5]
          rfl
        · rw [gC 108 (by decide) (by decide) (by decide), C6]
          rfl
        · unfold BkCnt
          rw [y22, y22, y22, y22, y22, y22, k0, k1, k2, k3, S1, k5]
          exact ⟨b0, b1, b2, b3, rfl, b5⟩
        · exact fun p hp => Or.inl ⟨by omega, g _ (by omega) (by omega) (by omega) (by omega) (by omega) (by omega) (by omega) (by omega) (by omega), fun i _ _ => S0 i (by omega) (by omega) (by omega)⟩
        · intro p hp
          by_cases hpl : p = l
          · subst hpl
            have ek : lK (M3 126) p = (k : Int) := by unfold lK; rw [S0 _ (by omega) (by omega) (by omega)]; exact hk
            have eu : lU (M3 126) p = lU (M 126) p := S0 _ (by omega) (by omega) (by omega)
            have ed : lD (M3 126) p = lD (M 126) p := S0 _ (by omega) (by omega) (by omega)
            have eo : lO (M3 126) p = lO (M 126) p := S0 _ (by omega) (by omega) (by omega)
            have en : tN (M3 126) p = (s'.2.2.2.length : Int) := S2
            have ew : ∀ i, i < s'.2.2.2.length → tW (M3 126) p i = M2 129 (2 * i) := fun i hi => S3 (2 * i) (by omega)
            have ev : ∀ i, i < s'.2.2.2.length → tV (M3 126) p i = M2 129 (2 * i + 1) := fun i hi => by
              have := S3 (2 * i + 1) (by omega)
              rw [← this]
              unfold tV
              congr 1
              omega
            obtain ⟨h1, h2, h3, h4, -⟩ := hL
            refine Or.inr ⟨⟨by rw [ek]; omega, by rw [eu]; exact h2, by rw [ed]; exact h3, by rw [eo]; exact h4, by rw [en]; omega, by rw [en]; omega, fun i hi => ?_, fun _ => ?_⟩, ?_⟩
            · rw [en] at hi
              rw [ek, ew i (by omega), ev i (by omega)]
              exact a6 (fun x hx => absurd hx List.not_mem_nil) _ (cs_sd hcd r2 i (by omega)).2
            · rw [en, show ((s'.2.2.2.length : Int)).toNat = s'.2.2.2.length from rfl, dp_sd r2 (fun i hi => ew i hi)]
              exact a7 0 rfl
            · obtain ⟨p1, p2, p3, p4, p5, p6, p7⟩ := hB
              rw [show 2 + 21 + 2 * p = 23 + 2 * p by omega] at p1 p2 p3 p4 p5 p6
              unfold BkLik wgt at *
              rw [show 2 + 21 + 2 * p = 23 + 2 * p by omega, show 2 + 22 + 2 * p = 24 + 2 * p by omega, gC (23 + 2 * p) (by omega) (by omega) (by omega), gC (24 + 2 * p) (by omega) (by omega) (by omega), C3, C3, C3, C3, C3, C3, eu, ed, eo, en, ek]
              refine ⟨e0, p2, p3, p4, p5, rfl, fun i hi => ?_⟩
              rw [C4 i (by omega), ew i (by omega), ev i (by omega)]
              exact (cs_sd hcd r2 i (by omega)).1
          · exact Or.inl ⟨by omega, g _ (by omega) (by omega) (by omega) (by omega) (by omega) (by omega) (by omega) (by omega) (by omega), g _ (by omega) (by omega) (by omega) (by omega) (by omega) (by omega) (by omega) (by omega) (by omega), fun i _ _ => S0 i (by omega) (by omega) (by omega), fun i _ _ => S0 i (by omega) (by omega) (by omega)⟩
        · exact fun p hp => Or.inl ⟨by omega, g _ (by omega) (by omega) (by omega) (by omega) (by omega) (by omega) (by omega) (by omega) (by omega), fun i _ _ => S0 i (by omega) (by omega) (by omega)⟩
        · exact fun p hp => Or.inl ⟨by omega, fun x _ _ => g _ (by omega) (by omega) (by omega) (by omega) (by omega) (by omega) (by omega) (by omega) (by omega), fun i _ _ => S0 i (by omega) (by omega) (by omega)⟩
        · intro i hi
          rw [S1] at hi
          omega
        · rw [show 2 + 5 = 7 from rfl, g 7 (by decide) (by decide) (by decide) (by decide) (by decide) (by omega) (by omega) (by decide) (by decide)]
          exact bt1
        · intro i hi
          rw [S1] at hi
          omega
        · rw [gC 103 (by decide) (by decide) (by decide), C5]
          rfl
        · rw [gC 108 (by decide) (by decide) (by decide), C6]
          rfl
    · have hle := (prs_ok _ _ _ _ e (Nat.zero_le _)).1.2.1
      refine BR_t (by rw [bm_id (by omega) (by omega)]; omega) (hQ1 _ _ fun Q2 hQ2 => mrd _ Q2 (by rw [up_c (by decide), hc 126 (by decide)]) (fun s'' M2 e2 hF hR => ?_) (fun s'' M2 e2 _ _ _ => absurd (e.symm.trans e2) (fun h => Bool.false_ne_true (congrArg Prod.fst h).symm)))
      obtain rfl : s' = s'' := (congrArg Prod.snd (e.symm.trans e2))
      obtain ⟨r1, r2, r3, r4, r5, r6, r7⟩ := hR
      rw [r3, rd_at (i := 4) (n := 4) rfl (by decide), r7, hnt, bm_nat (n := s'.1) (by omega), bm_nat (n := n) (by omega)]
      simp only [wX12_text_J90, wX12_text_J91, Nat.reduceAdd]
      refine BR_f (by omega) (LET_i (BR_t q0 ?_))
      rw [wr_up (i := 4) (n := 4) rfl (by decide), up_c (a := 125) (k := 126) (by decide), r3]
      exact hQ2 _ _ rfl ((bad _ M2 (badC M' _ hle hc) hF r7).mono (by omega))
    · have hle := prs_le (b := fun i => M 126 (1460 + i)) (n := n) (kd := (k : Int)) 40 0 (0, 0, 0, []) (Nat.zero_le _)
      rw [e] at hle
      dsimp only at hle
      refine BR_t (by rw [bm_id (by omega) (by omega)]; omega) (hQ1 _ _ fun Q2 hQ2 => mrd _ Q2 (by rw [up_c (by decide), hc 126 (by decide)]) (fun s'' M2 e2 _ _ => absurd (e.symm.trans e2) (fun h => Bool.false_ne_true (congrArg Prod.fst h))) (fun s'' M2 e2 hF h4 h6 => ?_))
      obtain rfl : s' = s'' := (congrArg Prod.snd (e.symm.trans e2))
      simp only [wX12_text_J90, wX12_text_J91, Nat.reduceAdd]
      refine LET_i (BR_t q0 ?_)
      rw [wr_up (i := 4) (n := 4) rfl (by decide), up_c (a := 125) (k := 126) (by decide), h4]
      exact hQ2 _ _ rfl ((bad _ M2 (badC M' _ hle hc) hF h6).mono (by omega))
