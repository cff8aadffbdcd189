/-! TOOLS to go through wp texts -/
section Tools
variable {x a b : Int} {M : Mem} {Q : Int → Mem → Prop}
theorem LET_i {α : Type} {e : α} {f : α → Prop} (h : f e) : LET e f := h
theorem wi_i (h1 : bm a ≤ bm x ∧ bm x ≤ bm b → Q 1 M) (h2 : ¬ (bm a ≤ bm x ∧ bm x ≤ bm b) → Q 0 M) : wX11_within x a b M Q := by
  rw [lf_within]
  split
  · exact h1 ‹_›
  · exact h2 ‹_›
theorem wi_t (h : bm a ≤ bm x ∧ bm x ≤ bm b) (k : Q 1 M) : wX11_within x a b M Q := wi_i (fun _ => k) (fun hn => absurd h hn)
theorem wi_f (h : ¬ (bm a ≤ bm x ∧ bm x ≤ bm b)) (k : Q 0 M) : wX11_within x a b M Q := wi_i (fun hp => absurd hp h) (fun _ => k)
theorem mi_i (h1 : bm a ≤ bm x ∧ bm x ≤ bm b → Q 1 M) (h2 : ¬ (bm a ≤ bm x ∧ bm x ≤ bm b) → Q 0 M) : wX12_in x a b M Q := by
  rw [lf_in]
  split
  · exact h1 ‹_›
  · exact h2 ‹_›
theorem mi_t (h : bm a ≤ bm x ∧ bm x ≤ bm b) (k : Q 1 M) : wX12_in x a b M Q := mi_i (fun _ => k) (fun hn => absurd h hn)
theorem mi_f (h : ¬ (bm a ≤ bm x ∧ bm x ≤ bm b)) (k : Q 0 M) : wX12_in x a b M Q := mi_i (fun hp => absurd hp h) (fun _ => k)
theorem q1 : ¬ bm 1 = 0 := by decide +kernel
theorem q0 : bm 0 = 0 := by decide +kernel
theorem isB0 : isB 0 := Or.inl rfl
theorem isB1 : isB 1 := Or.inr rfl
theorem bmb (z : Int) : -2147483648 ≤ bm z ∧ bm z < 2147483648 := ⟨bm_lo z, bm_hi z⟩
end Tools
theorem li_n9 : bm (-9) = -9 := by decide +kernel
theorem li_n1 : bm (-1) = -1 := by decide +kernel
theorem li_2 : bm 2 = 2 := by decide +kernel
theorem li_3 : bm 3 = 3 := by decide +kernel
theorem li_4 : bm 4 = 4 := by decide +kernel
theorem li_5 : bm 5 = 5 := by decide +kernel
theorem li_6 : bm 6 = 6 := by decide +kernel
theorem li_7 : bm 7 = 7 := by decide +kernel
theorem li_8 : bm 8 = 8 := by decide +kernel
theorem li_9 : bm 9 = 9 := by decide +kernel
theorem li_10 : bm 10 = 10 := by decide +kernel
theorem li_11 : bm 11 = 11 := by decide +kernel
theorem li_12 : bm 12 = 12 := by decide +kernel
theorem li_20 : bm 20 = 20 := by decide +kernel
theorem li_60 : bm 60 = 60 := by decide +kernel
theorem li_99 : bm 99 = 99 := by decide +kernel
theorem li_255 : bm 255 = 255 := by decide +kernel
theorem li_999 : bm 999 = 999 := by decide +kernel
theorem iDiv_nn {a : Int} {d : Nat} (h : 0 ≤ bm a) (hd : 0 < d) (hd2 : d < 2147483648) : iDiv a d = bm a / d := by
  unfold iDiv
  have e1 : (Int32.ofInt a).toInt = bm a := rfl
  have e2 : (Int32.ofInt (d : Int)).toInt = d := bm_nat hd2
  rw [Int32.toInt_div, e1, e2, Int.tdiv_eq_ediv_of_nonneg h]
  have hb := bm_hi a
  have h1 : bm a / (d : Int) ≤ bm a := Int.ediv_le_self _ h
  have h0 : 0 ≤ bm a / (d : Int) := Int.ediv_nonneg h (by omega)
  exact Int.bmod_eq_of_le (by omega) (by omega)
theorem iRem_nn {a : Int} {d : Nat} (h : 0 ≤ bm a) (hd : 0 < d) (hd2 : d < 2147483648) : iRem a d = bm a % d := by
  have e0 : Int32.ofInt a / Int32.ofInt d = Int32.ofInt (bm a / d) := by
    rw [← iDiv_nn h hd hd2]
    unfold iDiv
    rw [Int32.ofInt_toInt]
  unfold iRem
  rw [e0, show Int32.ofInt a = Int32.ofInt (bm a) from (bm_32 a).symm, ← Int32.ofInt_mul, ← Int32.ofInt_sub]
  have e3 : bm a - bm a / (d : Int) * (d : Int) = bm a % (d : Int) := by rw [Int.emod_def, Int.mul_comm]
  rw [e3]
  have h1 := Int.emod_nonneg (bm a) (b := (d : Int)) (by omega)
  have h2 := Int.emod_lt_of_pos (bm a) (b := (d : Int)) (by omega)
  exact bm_id (by omega) (by omega)
/-- the book alone has changed, and its flat twin -/
theorem Inv.flat {t : Int} {M M2 : Mem} (hI : Inv t M) (F : ∀ x, (x < 2 ∨ 84 < x) → x ≠ 103 → x ≠ 108 → x ≠ 126 → M2 x = M x) (h3 : M2 103 13 = M 103 13) (h8 : M2 108 7 = M 108 7) (hf : FlOk (M2 126)) (hb : Bk 2 M2 (M2 126)) (hse : SeOk (vw (M2 126)) M2) (hss : SsOk (vw (M2 126)) M2) : Inv t M2 := by
  obtain ⟨i1, i2, i3, i4, i5, i6, i7, i8, i9, i10⟩ := hI
  refine ⟨hf, hb, ?_, ?_, ?_, ?_, ?_, hse, hss, ?_⟩
  · exact i3.congr (F 1 (by omega) (by decide) (by decide) (by decide)) (F 0 (by omega) (by decide) (by decide) (by decide)) (by rw [F 125 (by omega) (by decide) (by decide) (by decide)]) (F 127 (by omega) (by decide) (by decide) (by decide)) (fun a _ _ q => F a (by omega) (by omega) (by omega) (by omega))
  · exact i4.congr (by rw [F 1 (by omega) (by decide) (by decide) (by decide)]) (F 0 (by omega) (by decide) (by decide) (by decide)) h3 h8
  · exact i5.congr (fun a q1 q2 => F a (by omega) (by omega) (by omega) (by omega)) (F 144 (by omega) (by decide) (by decide) (by decide)) (F 145 (by omega) (by decide) (by decide) (by decide)) (F 146 (by omega) (by decide) (by decide) (by decide))
  · exact i6.congr (by rw [F 114 (by omega) (by decide) (by decide) (by decide)]) (by rw [F 125 (by omega) (by decide) (by decide) (by decide)]) (F 115 (by omega) (by decide) (by decide) (by decide)) (F 143 (by omega) (by decide) (by decide) (by decide))
  · intro j
    rw [F 86 (by omega) (by decide) (by decide) (by decide), F 128 (by omega) (by decide) (by decide) (by decide)]
    exact i7 j
  · exact i10.congr (fun a q1 q2 => F a (by omega) (by omega) (by omega) (by omega))
/-- a flat row with a piece more -/
theorem Inv.piece {t : Int} {M M2 : Mem} {n : Nat} (hI : Inv t M) (hn : M 126 0 = (n : Int)) (h12 : n < 12) (F : ∀ x, x ≠ 2 → x ≠ 11 + n → x ≠ 103 → x ≠ 108 → x ≠ 126 → M2 x = M x) (F2 : ∀ j, M2 2 j = if j = 1 then (n : Int) + 1 else M 2 j) (F3 : BkPiece 2 M2 (M2 126) n) (F4 : ∀ j, M2 103 j = if j = 3 then 0 else M 103 j) (F5 : ∀ j, M2 108 j = if j = 1 then 0 else M 108 j)
    (F6 : ∀ j, j ≠ 0 → (j < 20 + 6 * n ∨ 26 + 6 * n ≤ j) → M2 126 j = M 126 j) (F0 : M2 126 0 = (n : Int) + 1) (ok : PieceOk (M2 126) n) : Inv t M2 := by
  refine hI.flat (fun x h1 h2 h3 h4 => F x (by omega) (by omega) h2 h3 h4) (by rw [F4]; simp) (by rw [F5]; simp) ?_ ?_ (SeOk.off (by rw [F4]; simp)) (SsOk.off (by rw [F5]; simp))
  · obtain ⟨⟨hcnt, hrul, hpo, hlo, hmo, hqo, hto⟩, -⟩ := hI
    obtain ⟨n0, n1, n2, n3, n4, n5⟩ := hcnt
    have e1 : M2 126 1 = M 126 1 := F6 1 (by omega) (by omega)
    have e2 : M2 126 2 = M 126 2 := F6 2 (by omega) (by omega)
    have e3 : M2 126 3 = M 126 3 := F6 3 (by omega) (by omega)
    have e4 : M2 126 4 = M 126 4 := F6 4 (by omega) (by omega)
    have e5 : M2 126 5 = M 126 5 := F6 5 (by omega) (by omega)
    refine ⟨⟨by omega, by omega, by omega, by omega, by omega, by omega⟩, ?_, ?_, ?_, ?_, ?_, ?_⟩
    · unfold RulOk
      rw [F6 6 (by omega) (by omega), F6 7 (by omega) (by omega), F6 8 (by omega) (by omega), F6 9 (by omega) (by omega)]
      exact hrul
    · intro p hp
      by_cases hpn : p = n
      · subst hpn
        exact ok
      · exact (hpo p (by omega)).cg (fun i q1 q2 => F6 i (by omega) (by omega))
    · intro l hl
      exact (hlo l (by omega)).cg (fun i q1 q2 => F6 i (by omega) (by omega)) (fun i q1 q2 => F6 i (by omega) (by omega))
    · intro m hm
      exact (hmo m (by omega)).cg (by omega) (fun i q1 q2 => F6 i (by omega) (by omega))
    · intro p hp
      exact (hqo p (by omega)).cg (by omega) (fun i q1 q2 => F6 i (by omega) (by omega))
    · exact hto.cg e4 (by omega) (fun i q1 q2 => F6 i (by omega) (by omega))
  · obtain ⟨⟨hcnt, hrul, hpo, hlo, hmo, hqo, hto⟩, ⟨⟨b0, b1, b2, b3, b4, b5⟩, brul, bp, bl, bmu, bq, bt, bw⟩, -⟩ := hI
    obtain ⟨n0, n1, n2, n3, n4, n5⟩ := hcnt
    have e1 : M2 126 1 = M 126 1 := F6 1 (by omega) (by omega)
    have e2 : M2 126 2 = M 126 2 := F6 2 (by omega) (by omega)
    have e3 : M2 126 3 = M 126 3 := F6 3 (by omega) (by omega)
    have e4 : M2 126 4 = M 126 4 := F6 4 (by omega) (by omega)
    have e5 : M2 126 5 = M 126 5 := F6 5 (by omega) (by omega)
    have g : ∀ x, 2 < x → x ≤ 84 → x ≠ 11 + n → M2 x = M x := fun x q1 q2 q3 => F x (by omega) q3 (by omega) (by omega) (by omega)
    refine ⟨?_, ?_, ?_, ?_, ?_, ?_, ?_, ?_⟩
    · unfold BkCnt
      rw [F2, F2, F2, F2, F2, F2, F0, e1, e2, e3, e4, e5]
      exact ⟨rfl, b1, b2, b3, b4, b5⟩
    · intro i hi
      rw [g (2 + 2) (by omega) (by omega) (by omega), F6 (6 + i) (by omega) (by omega)]
      exact brul i hi
    · intro p hp
      by_cases hpn : p = n
      · subst hpn
        exact F3
      · exact (bp p (by omega)).cg (g _ (by omega) (by omega) (by omega)) (fun i q1 q2 => F6 i (by omega) (by omega))
    · intro l hl
      exact (bl l (by omega)).cg (hlo l (by omega)).2.2.2.2.2.1 (g _ (by omega) (by omega) (by omega)) (g _ (by omega) (by omega) (by omega)) (fun i q1 q2 => F6 i (by omega) (by omega)) (fun i q1 q2 => F6 i (by omega) (by omega))
    · intro m hm
      exact (bmu m (by omega)).cg (g _ (by omega) (by omega) (by omega)) (fun i q1 q2 => F6 i (by omega) (by omega))
    · intro p hp
      exact (bq p (by omega)).cg ⟨(hqo p (by omega)).2.1.2, (hqo p (by omega)).2.2.1.2⟩ (fun a q1 q2 => g a (by omega) (by omega) (by omega)) (fun i q1 q2 => F6 i (by omega) (by omega))
    · unfold BkTap
      rw [g (2 + 5) (by omega) (by omega) (by omega), e4]
      exact ⟨bt.1, fun i hi => by rw [F6 _ (by omega) (by omega)]; exact bt.2 i hi⟩
    · intro i hi
      rw [g (2 + 8) (by omega) (by omega) (by omega), F6 _ (by omega) (by omega)]
      exact bw i (by omega)
theorem bm_iDiv (a b : Int) : bm (iDiv a b) = iDiv a b := by unfold bm iDiv; rw [Int32.ofInt_toInt]
theorem bm_iRem (a b : Int) : bm (iRem a b) = iRem a b := by unfold bm iRem; rw [Int32.ofInt_toInt]
