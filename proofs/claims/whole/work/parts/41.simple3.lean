/-! sheet, move, count -/
theorem cz {Q : Mem → Prop} {M0 : Mem} {B : Nat} (hQ : ∀ M', (∀ a, a ≠ B + 1 → M' a = M0 a) → (∀ j, M' (B + 1) j = if j < 24 then 0 else M0 (B + 1) j) → Q M') : ∀ (m i : Nat) (M : Mem) (x : Int), i + m = 24 → x = (i : Int) → (∀ a, a ≠ B + 1 → M a = M0 a) → (∀ j, M (B + 1) j = if j < i then 0 else M0 (B + 1) j) → wX8_become_L12 Q B (m + 1) x M
  | 0, i, M, x, hi, hx, h1, h2 => by
    subst hx
    unfold wX8_become_L12
    rw [bm_nat (by omega)]
    refine BR_t (by omega) (hQ M h1 ?_)
    rw [show 24 = i by omega]
    exact h2
  | m + 1, i, M, x, hi, hx, h1, h2 => by
    subst hx
    unfold wX8_become_L12
    rw [bm_nat (by omega)]
    refine BR_f (by omega) ⟨inb_of rfl (by omega) (by decide), LET_i (LET_i ?_)⟩
    rw [wr_up rfl (by omega)]
    refine cz hQ m (i + 1) _ _ (by omega) (by omega) (fun a ha => by rw [up_c ha]; exact h1 a ha) (fun j => ?_)
    rw [up_k]
    by_cases hj : j = i
    · rw [if_pos hj, if_pos (by omega)]
    · rw [if_neg hj, h2]
      by_cases hj2 : j < i
      · rw [if_pos hj2, if_pos (by omega)]
      · rw [if_neg hj2, if_neg (by omega)]
theorem mz {Q : Int → Mem → Prop} {M0 : Mem} {k : Nat} (hk : k < 4) (hQ : ∀ M', (∀ a, a ≠ 146 → M' a = M0 a) → (∀ j, M' 146 j = if 24 * k ≤ j ∧ j < 24 * k + 24 then 0 else M0 146 j) → Q 1 M') : ∀ (m i : Nat) (M : Mem) (x : Int), i + m = 24 → x = (i : Int) → (∀ a, a ≠ 146 → M a = M0 a) → (∀ j, M 146 j = if 24 * k ≤ j ∧ j < 24 * k + i then 0 else M0 146 j) → wX12_sheet_L90 Q 125 (k : Int) (m + 1) x M
  | 0, i, M, x, hi, hx, h1, h2 => by
    subst hx
    unfold wX12_sheet_L90
    rw [bm_nat (n := i) (by omega)]
    refine BR_t (by omega) (hQ M h1 ?_)
    rw [show 24 * k + 24 = 24 * k + i by omega]
    exact h2
  | m + 1, i, M, x, hi, hx, h1, h2 => by
    subst hx
    unfold wX12_sheet_L90
    rw [bm_nat (n := i) (by omega)]
    refine BR_f (by omega) ⟨inb_of (n := 24 * k + i) (by omega) (by omega) (by decide), LET_i (LET_i ?_)⟩
    rw [show (125 : Nat) + 21 = 146 from rfl, wr_up (n := 24 * k + i) (by omega) (by omega)]
    refine mz hk hQ m (i + 1) _ _ (by omega) (by omega) (fun a ha => by rw [up_c ha]; exact h1 a ha) (fun j => ?_)
    rw [up_k]
    by_cases hj : j = 24 * k + i
    · rw [if_pos hj, if_pos (by omega)]
    · rw [if_neg hj, h2]
      by_cases hj2 : 24 * k ≤ j ∧ j < 24 * k + i
      · rw [if_pos hj2, if_pos (by omega)]
      · rw [if_neg hj2, if_neg (by omega)]
theorem st_sheet {t : Int} {M : Mem} (hI : Inv t M) {a b n : Int} (ea : bm a = a) (eb : bm b = b) (en : bm n = n) : Step t M (fun M Q => wX11_sheet 1 a b n M Q) (fun M Q => wX12_sheet 125 a b n M Q) := by
  intro Q1 hQ1
  have hS := hI.2.2.2.2.1
  have hw : ∀ x, bm b = x ↔ b = x := fun x => by rw [eb]
  have h4 : bm 4 = 4 := li_4
  have d8 : bm 8 = 8 := li_8
  -- errors
  have e1 : (¬ (0 ≤ a ∧ a ≤ 3) ∨ ¬ (b = 0 ∨ b = 8 ∨ b = 16 ∨ b = 32)) → wX11_error 1 1 M (fun r M1 => Q1 r M1) := by
    intro hno
    refine lf_error11 (k := 1) rfl (by decide) (by decide) (hQ1 _ _ fun Q2 hQ2 => ?_)
    have hz := st_err hI (k := 1) (i := 1) rfl (by decide) hQ2
    simp only [wX12_sheet, wX12_sheet_J29]
    rw [eb]
    exact lf_isSh ea (fun h => BR_f q1 (BR_i (fun h' => by omega) (fun _ => BR_i (fun h' => by omega) (fun _ => BR_i (fun h' => by omega) (fun _ => BR_i (fun h' => by omega) (fun _ => hz)))))) (fun _ => BR_t q0 hz)
  have pre : ∀ (M1 : Mem) (Q2 : Int → Mem → Prop), 0 ≤ a ∧ a ≤ 3 → (b = 0 ∨ b = 8 ∨ b = 16 ∨ b = 32) → wX12_sheet_J35 Q2 125 a b n M1 → wX12_sheet 125 a b n M1 Q2 := by
    intro M1 Q2 ha hb hh
    simp only [wX12_sheet]
    rw [eb]
    exact lf_isSh ea (fun _ => BR_f q1 (BR_i (fun _ => hh) (fun _ => BR_i (fun _ => hh) (fun _ => BR_i (fun _ => hh) (fun _ => BR_i (fun _ => hh) (fun _ => by omega)))))) (fun h => absurd ha h)
  have main : 0 ≤ a ∧ a ≤ 3 → (b = 0 ∨ b = 8 ∨ b = 16 ∨ b = 32) → ∀ L : Nat, (b = 0 → L = 0) → (b ≠ 0 → n = (L : Int)) → L ≤ 24 → wX8_become (117 + 2 * a.toNat) b (L : Int) M (fun M_8 => Q1 1 M_8) := by
    intro ha hb L hL0 hLn hL
    obtain ⟨k, rfl⟩ : ∃ k : Nat, a = (k : Int) := ⟨a.toNat, by omega⟩
    rw [show ((k : Int)).toNat = k from rfl]
    unfold wX8_become
    refine LET_i (LET_i ⟨25, cz (M0 := up (up M (117 + 2 * k) 1 b) (117 + 2 * k) 2 (L : Int)) (fun M1 f1 f2 => ?_) 24 0 _ _ (by omega) rfl (fun _ _ => rfl) (fun j => by rw [if_neg (by omega)])⟩)
    refine hQ1 _ _ fun Q2 hQ2 => pre M1 Q2 ha hb ?_
    have g : ∀ x, x ≠ 117 + 2 * k → x ≠ 118 + 2 * k → M1 x = M x := fun x q1 q2 => by rw [f1 x (by omega), up_c q1, up_c q1]
    have gB : ∀ j, M1 (117 + 2 * k) j = if j = 2 then (L : Int) else if j = 1 then b else M (117 + 2 * k) j := fun j => by rw [f1 _ (by omega), up_k, up_k]
    have gN : ∀ j, j < 24 → M1 (118 + 2 * k) j = 0 := fun j hj => by rw [show 118 + 2 * k = 117 + 2 * k + 1 by omega, f2, if_pos hj]
    have fin : ∀ x : Int, x = (L : Int) → inb (k : Int) 4 ∧ LET (wr (up M1 144 k b) 145 (k : Int) x) (fun M_10 => ∃ N_16, wX12_sheet_L90 Q2 125 (k : Int) N_16 0 M_10) := by
      intro x hx
      subst hx
      refine ⟨inb_of rfl (by omega) (by decide), LET_i ?_⟩
      rw [wr_up rfl (by omega)]
      refine ⟨25, mz (M0 := up (up M1 144 k b) 145 k (L : Int)) (by omega) (fun M2 y1 y2 => ?_) 24 0 _ _ (by omega) rfl (fun _ _ => rfl) (fun j => by rw [if_neg (by omega)])⟩
      refine hQ2 _ _ rfl ((hI.shs (fun z h1 h2 => by rw [y1 z (by omega), up_c (by omega), up_c (by omega), g z (by omega) (by omega)]) (fun k' h4 => ?_)).mono (by omega))
      unfold ShOk1
      have z144 : ∀ j, M2 144 j = if j = k then b else M 144 j := fun j => by rw [y1 144 (by decide), up_c (by decide), up_k, g 144 (by omega) (by omega)]
      have z145 : ∀ j, M2 145 j = if j = k then (L : Int) else M 145 j := fun j => by rw [y1 145 (by decide), up_k, up_c (by decide), g 145 (by omega) (by omega)]
      have z146 : ∀ j, M2 146 j = if 24 * k ≤ j ∧ j < 24 * k + 24 then 0 else M 146 j := fun j => by rw [y2, up_c (by decide), up_c (by decide), g 146 (by omega) (by omega)]
      have zc : ∀ x, 117 ≤ x → x ≤ 124 → M2 x = M1 x := fun x q1 q2 => by rw [y1 x (by omega), up_c (by omega), up_c (by omega)]
      rw [zc (117 + 2 * k') (by omega) (by omega), zc (118 + 2 * k') (by omega) (by omega), z144, z145]
      by_cases hk' : k' = k
      · subst hk'
        rw [if_pos rfl, if_pos rfl, gB, gB]
        refine ⟨rfl, rfl, hb, by omega, by omega, fun i hi => ?_⟩
        rw [gN i hi, z146, if_pos (by omega)]
        exact ⟨rfl, bm0⟩
      · rw [if_neg hk', if_neg hk', g _ (by omega) (by omega), g _ (by omega) (by omega)]
        obtain ⟨s1, s2, s3, s4, s5, s6⟩ := hS k' h4
        refine ⟨s1, s2, s3, s4, s5, fun i hi => ?_⟩
        rw [z146, if_neg (by omega)]
        exact s6 i hi
    have j65 : wX12_sheet_J65 Q2 125 (k : Int) b n M1 := by
      simp only [wX12_sheet_J65, wX12_sheet_J86, Nat.reduceAdd]
      rw [wr_up (k := 144) rfl (by omega), eb]
      refine ⟨inb_of rfl (by omega) (by decide), LET_i (BR_i (fun h => fin 0 (by rw [hL0 h]; rfl)) (fun h => fin n (hLn h)))⟩
    simp only [wX12_sheet_J35, wX12_sheet_J49]
    rw [eb, en]
    exact BR_i (fun _ => BR_i (fun _ => j65) (fun h => absurd ‹b = 0› h)) (fun h0 => BR_i (fun _ => BR_i (fun h => absurd h h0) (fun _ => BR_i (fun _ => j65) (fun h => by have := hLn h0; omega))) (fun h => by have := hLn h0; omega))
  simp only [wX11_sheet, wX11_sheet_J22, wX11_sheet_J27, wX11_sheet_J61, wX11_sheet_J77, wX11_sheet_J93, wX11_sheet_J41, Nat.reduceAdd]
  have j61 : 0 ≤ a ∧ a ≤ 3 → (b = 0 ∨ b = 8 ∨ b = 16 ∨ b = 32) → (b = 0 ∨ 0 ≤ n) → BR (bm b = 0) (inb a 4 ∧ BR (bm b = 0) (wX8_become (117 + 2 * (bm a).toNat) b 0 M fun M_8 => Q1 1 M_8) (wX8_become (117 + 2 * (bm a).toNat) b n M fun M_8 => Q1 1 M_8)) (BR (bm n ≤ 24) (inb a 4 ∧ BR (bm b = 0) (wX8_become (117 + 2 * (bm a).toNat) b 0 M fun M_8 => Q1 1 M_8) (wX8_become (117 + 2 * (bm a).toNat) b n M fun M_8 => Q1 1 M_8)) (wX11_error 1 1 M fun r_10 M_9 => Q1 r_10 M_9)) := by
    intro ha hb hn0
    rw [eb, en, ea]
    have hin : inb a 4 := by unfold inb; rw [ea]; omega
    refine BR_i (fun h0 => ⟨hin, BR_t h0 (main ha hb 0 (fun _ => rfl) (fun h => absurd h0 h) (by decide))⟩) (fun h0 => BR_i (fun h24 => ⟨hin, BR_f h0 ?_⟩) (fun h24 => ?_))
    · obtain ⟨L, rfl⟩ : ∃ L : Nat, n = (L : Int) := ⟨n.toNat, by omega⟩
      exact main ha hb L (fun h => absurd h h0) (fun _ => rfl) (by omega)
    · refine lf_error11 (k := 1) rfl (by decide) (by decide) (hQ1 _ _ fun Q2 hQ2 => pre _ Q2 ha hb ?_)
      have hz := st_err hI (k := 1) (i := 1) rfl (by decide) hQ2
      simp only [wX12_sheet_J35, wX12_sheet_J49]
      rw [eb, en]
      exact BR_f h0 (BR_t (by omega) (BR_f h0 (BR_f h24 hz)))
  have j27 : (b = 0 ∨ b = 8 ∨ b = 16 ∨ b = 32) → ∀ z : Int, z = 1 → wX11_isNoSheet a M (fun r_2 M_1 => BR (bm r_2 = 0) (BR (bm z = 0) (wX11_error 1 1 M_1 fun r_4 M_3 => Q1 r_4 M_3) (BR (bm b = 0) (BR (bm b = 0) (inb a 4 ∧ BR (bm b = 0) (wX8_become (117 + 2 * (bm a).toNat) b 0 M_1 fun M_8 => Q1 1 M_8) (wX8_become (117 + 2 * (bm a).toNat) b n M_1 fun M_8 => Q1 1 M_8)) (BR (bm n ≤ 24) (inb a 4 ∧ BR (bm b = 0) (wX8_become (117 + 2 * (bm a).toNat) b 0 M_1 fun M_8 => Q1 1 M_8) (wX8_become (117 + 2 * (bm a).toNat) b n M_1 fun M_8 => Q1 1 M_8)) (wX11_error 1 1 M_1 fun r_10 M_9 => Q1 r_10 M_9))) (BR (0 ≤ bm n) (BR (bm b = 0) (inb a 4 ∧ BR (bm b = 0) (wX8_become (117 + 2 * (bm a).toNat) b 0 M_1 fun M_8 => Q1 1 M_8) (wX8_become (117 + 2 * (bm a).toNat) b n M_1 fun M_8 => Q1 1 M_8)) (BR (bm n ≤ 24) (inb a 4 ∧ BR (bm b = 0) (wX8_become (117 + 2 * (bm a).toNat) b 0 M_1 fun M_8 => Q1 1 M_8) (wX8_become (117 + 2 * (bm a).toNat) b n M_1 fun M_8 => Q1 1 M_8)) (wX11_error 1 1 M_1 fun r_10 M_9 => Q1 r_10 M_9))) (wX11_error 1 3 M_1 fun r_12 M_11 => Q1 r_12 M_11)))) (wX11_error 1 1 M_1 fun r_4 M_3 => Q1 r_4 M_3)) := by
    intro hb z hz
    subst hz
    refine lf_noSh ea (fun ha => BR_t q0 (BR_f q1 (BR_i (fun h0 => j61 ha hb (Or.inl (by rw [eb] at h0; exact h0))) (fun h0 => BR_i (fun hn0 => j61 ha hb (Or.inr (by rw [en] at hn0; exact hn0))) (fun hn0 => ?_))))) (fun ha => BR_f q1 (e1 (Or.inl ha)))
    refine lf_error11 (k := 3) rfl (by decide) (by decide) (hQ1 _ _ fun Q2 hQ2 => pre _ Q2 ha hb ?_)
    have hz := st_err hI (k := 3) (i := 3) rfl (by decide) hQ2
    simp only [wX12_sheet_J35]
    exact BR_f h0 (BR_f hn0 hz)
  rw [eb] at j27 ⊢
  refine BR_i (fun h => j27 (by omega) 1 rfl) (fun h0 => BR_i (fun h => j27 (by omega) 1 rfl) (fun h8 => BR_i (fun h => j27 (by omega) 1 rfl) (fun h16 => BR_i (fun h => j27 (by omega) 1 rfl) (fun h32 => ?_))))
  exact lf_noSh ea (fun ha => BR_t q0 (BR_t q0 (e1 (Or.inr (by omega))))) (fun ha => BR_f q1 (e1 (Or.inl ha)))
theorem ma1 {Q : Int → Mem → Prop} {E : Mem → Prop} {M0 : Mem} {k i n k' j : Nat} (hk : k < 4) (hin : i + n ≤ 24) (hQ : ∀ M', (∀ a, a ≠ 147 → M' a = M0 a) → (∀ y, y < n → M' 147 y = M0 146 (24 * k + i + y)) → E M') : ∀ (m c : Nat) (M : Mem) (x : Int), c + m = n → x = (c : Int) → (∀ a, a ≠ 147 → M a = M0 a) → (∀ y, y < c → M 147 y = M0 146 (24 * k + i + y)) → wX12_move_L115 Q E 125 (k : Int) (i : Int) (k' : Int) (j : Int) (n : Int) (m + 1) x M
  | 0, c, M, x, hi, hx, h1, h2 => by
    subst hx
    unfold wX12_move_L115
    rw [bm_nat (n := c) (by omega), bm_nat (n := n) (by omega)]
    exact BR_t (by omega) (hQ M h1 (fun y hy => h2 y (by omega)))
  | m + 1, c, M, x, hi, hx, h1, h2 => by
    subst hx
    unfold wX12_move_L115
    rw [bm_nat (n := c) (by omega), bm_nat (n := n) (by omega)]
    refine BR_f (by omega) ⟨inb_of (n := 24 * k + i + c) (by omega) (by omega) (by decide), inb_of rfl (by omega) (by decide), LET_i (LET_i ?_)⟩
    rw [show (125 : Nat) + 22 = 147 from rfl, show (125 : Nat) + 21 = 146 from rfl, wr_up (n := c) rfl (by omega), rd_at (n := 24 * k + i + c) (by omega) (by omega), h1 146 (by decide)]
    refine ma1 hk hin hQ m (c + 1) _ _ (by omega) (by omega) (fun a ha => by rw [up_c ha]; exact h1 a ha) (fun y hy => ?_)
    rw [up_k]
    by_cases hyc : y = c
    · subst hyc
      rw [if_pos rfl]
    · rw [if_neg hyc]
      exact h2 y (by omega)
theorem ma2 {Q : Int → Mem → Prop} {M0 : Mem} {n k' j : Nat} (hk : k' < 4) (hin : j + n ≤ 24) (hQ : ∀ M', (∀ a, a ≠ 146 → M' a = M0 a) → (∀ y, M' 146 y = if 24 * k' + j ≤ y ∧ y < 24 * k' + j + n then M0 147 (y - (24 * k' + j)) else M0 146 y) → Q (n : Int) M') : ∀ (m c : Nat) (M : Mem) (x : Int), c + m = n → x = (c : Int) → (∀ a, a ≠ 146 → M a = M0 a) → (∀ y, M 146 y = if 24 * k' + j ≤ y ∧ y < 24 * k' + j + c then M0 147 (y - (24 * k' + j)) else M0 146 y) → wX12_move_L152 Q 125 (k' : Int) (j : Int) (n : Int) (m + 1) x M
  | 0, c, M, x, hi, hx, h1, h2 => by
    subst hx
    unfold wX12_move_L152
    rw [bm_nat (n := c) (by omega), bm_nat (n := n) (by omega)]
    refine BR_t (by omega) (hQ M h1 ?_)
    rw [show n = c by omega]
    exact h2
  | m + 1, c, M, x, hi, hx, h1, h2 => by
    subst hx
    unfold wX12_move_L152
    rw [bm_nat (n := c) (by omega), bm_nat (n := n) (by omega)]
    refine BR_f (by omega) ⟨inb_of rfl (by omega) (by decide), inb_of (n := 24 * k' + j + c) (by omega) (by omega) (by decide), LET_i (LET_i ?_)⟩
    rw [show (125 : Nat) + 22 = 147 from rfl, show (125 : Nat) + 21 = 146 from rfl, wr_up (n := 24 * k' + j + c) (by omega) (by omega), rd_at (n := c) rfl (by omega), h1 147 (by decide)]
    refine ma2 hk hin hQ m (c + 1) _ _ (by omega) (by omega) (fun a ha => by rw [up_c ha]; exact h1 a ha) (fun y => ?_)
    rw [up_k]
    by_cases hyc : y = 24 * k' + j + c
    · subst hyc
      rw [if_pos rfl, if_pos (by omega), show 24 * k' + j + c - (24 * k' + j) = c by omega]
    · rw [if_neg hyc, h2]
      by_cases h3 : 24 * k' + j ≤ y ∧ y < 24 * k' + j + c
      · rw [if_pos h3, if_pos (by omega)]
      · rw [if_neg h3, if_neg (by omega)]
theorem st_move {t : Int} {M : Mem} (hI : Inv t M) {a i b j n : Int} (ea : bm a = a) (ei : bm i = i) (eb : bm b = b) (ej : bm j = j) (en : bm n = n) : Step t M (fun M Q => wX11_move 1 a i b j n M Q) (fun M Q => wX12_move 125 a i b j n M Q) := by
  intro Q1 hQ1
  have hS := hI.2.2.2.2.1
  have hn := bmb n
  rw [en] at hn
  -- the reference's road
  have mod : ∀ (M1 : Mem) (Q2 : Int → Mem → Prop), M1 144 = M 144 → M1 145 = M 145 → (¬ (0 ≤ a ∧ a ≤ 3) ∨ ¬ (0 ≤ b ∧ b ≤ 3) → wX12_error 125 1 M1 fun r M2 => Q2 r M2) → (∀ k k' : Nat, a = (k : Int) → b = (k' : Int) → k < 4 → k' < 4 → (M 144 k = 0 ∨ M 144 k' = 0 → wX12_error 125 2 M1 fun r M2 => Q2 r M2) ∧ (M 144 k ≠ 0 → M 144 k' ≠ 0 → M 144 k ≠ M 144 k' → wX12_error 125 5 M1 fun r M2 => Q2 r M2) ∧ (M 144 k ≠ 0 → M 144 k' ≠ 0 → M 144 k = M 144 k' → ¬ (0 ≤ n ∧ 0 ≤ i ∧ 0 ≤ j ∧ i ≤ M 145 k - n ∧ j ≤ M 145 k' - n) → wX12_error 125 1 M1 fun r M2 => Q2 r M2) ∧ (M 144 k ≠ 0 → M 144 k' ≠ 0 → M 144 k = M 144 k' → 0 ≤ n ∧ 0 ≤ i ∧ 0 ≤ j ∧ i ≤ M 145 k - n ∧ j ≤ M 145 k' - n → ∃ N_39, wX12_move_L115 Q2 (fun M_30 => ∃ N_38, wX12_move_L152 Q2 125 b j n N_38 0 M_30) 125 a i b j n N_39 0 M1)) → wX12_move 125 a i b j n M1 Q2 := by
    intro M1 Q2 f4 f5 hno hyes
    simp only [wX12_move, wX12_move_J14, wX12_move_J38, wX12_move_J106, Nat.reduceAdd]
    refine lf_isSh ea (fun ha => BR_f q1 (lf_isSh eb (fun hb => BR_f q1 ?_) (fun hb => BR_t q0 (hno (Or.inr hb))))) (fun ha => BR_t q0 (hno (Or.inl ha)))
    obtain ⟨k, rfl⟩ : ∃ k : Nat, a = (k : Int) := ⟨a.toNat, by omega⟩
    obtain ⟨k', rfl⟩ : ∃ k' : Nat, b = (k' : Int) := ⟨b.toNat, by omega⟩
    obtain ⟨y1, y2, y3, y4⟩ := hyes k k' rfl rfl (by omega) (by omega)
    obtain ⟨s1, s2, s3, s4, s5, s6⟩ := hS k (by omega)
    obtain ⟨u1, u2, u3, u4, u5, u6⟩ := hS k' (by omega)
    have ik : inb (k : Int) 4 := inb_of rfl (by omega) (by decide)
    have ik' : inb (k' : Int) 4 := inb_of rfl (by omega) (by decide)
    rw [rd_at (k := 144) (i := (k : Int)) rfl (by omega), rd_at (k := 144) (i := (k' : Int)) rfl (by omega), rd_at (k := 145) (i := (k : Int)) rfl (by omega), rd_at (k := 145) (i := (k' : Int)) rfl (by omega), f4, f5, bm_id (z := M 144 k) (by omega) (by omega), bm_id (z := M 144 k') (by omega) (by omega), en, ei, ej]
    refine ⟨ik, BR_i (fun h => y1 (Or.inl h)) (fun h1 => ⟨ik', BR_i (fun h => y1 (Or.inr h)) (fun h2 => ⟨ik, ik', BR_i (fun h3 => BR_i (fun h => y3 h1 h2 h3 (by omega)) (fun h4 => BR_i (fun h => y3 h1 h2 h3 (by omega)) (fun h5 => BR_i (fun h => y3 h1 h2 h3 (by omega)) (fun h6 => ⟨ik, ?_⟩)))) (fun h3 => y2 h1 h2 h3)⟩)⟩)⟩
    rw [bm_id (z := M 145 k - n) (by omega) (by omega), bm_id (z := M 145 k' - n) (by omega) (by omega)]
    exact BR_i (fun h => y3 h1 h2 h3 (by omega)) (fun h7 => ⟨ik', BR_i (fun h8 => y4 h1 h2 h3 (by omega)) (fun h8 => y3 h1 h2 h3 (by omega))⟩)
  have up4 : ∀ (k : Nat) (v : Int), up M 86 k v 144 = M 144 ∧ up M 86 k v 145 = M 145 := fun k v => ⟨up_c (by decide), up_c (by decide)⟩
  simp only [wX11_move, wX11_move_J14, wX11_move_J52, wX11_move_J100, Nat.reduceAdd]
  have er1 : (¬ (0 ≤ a ∧ a ≤ 3) ∨ ¬ (0 ≤ b ∧ b ≤ 3)) → wX11_error 1 1 M (fun r M1 => Q1 r M1) := by
    intro hno
    refine lf_error11 (k := 1) rfl (by decide) (by decide) (hQ1 _ _ fun Q2 hQ2 => mod _ Q2 (up4 _ _).1 (up4 _ _).2 (fun _ => st_err hI (k := 1) (i := 1) rfl (by decide) hQ2) (fun k k' e1 e2 h1 h2 => by omega))
  refine lf_noSh ea (fun ha => BR_t q0 (lf_noSh eb (fun hb => BR_t q0 ?_) (fun hb => BR_f q1 (er1 (Or.inr hb))))) (fun ha => BR_f q1 (er1 (Or.inl ha)))
  obtain ⟨k, rfl⟩ : ∃ k : Nat, a = (k : Int) := ⟨a.toNat, by omega⟩
  obtain ⟨k', rfl⟩ : ∃ k' : Nat, b = (k' : Int) := ⟨b.toNat, by omega⟩
  obtain ⟨s1, s2, s3, s4, s5, s6⟩ := hS k (by omega)
  obtain ⟨u1, u2, u3, u4, u5, u6⟩ := hS k' (by omega)
  obtain ⟨L, hL⟩ : ∃ L : Nat, M 145 k = (L : Int) := ⟨(M 145 k).toNat, by omega⟩
  obtain ⟨L', hL'⟩ : ∃ L' : Nat, M 145 k' = (L' : Int) := ⟨(M 145 k').toNat, by omega⟩
  rw [bnn (n := k) (by omega), bnn (n := k') (by omega), s1, u1, bm_id (z := M 144 k) (by omega) (by omega), bm_id (z := M 144 k') (by omega) (by omega)]
  have er2 : (M 144 k = 0 ∨ M 144 k' = 0) → wX11_error 1 2 M (fun r M1 => Q1 r M1) := by
    intro hz
    refine lf_error11 (k := 2) rfl (by decide) (by decide) (hQ1 _ _ fun Q2 hQ2 => mod _ Q2 (up4 _ _).1 (up4 _ _).2 (fun h => by omega) (fun k1 k1' e1 e2 h1 h2 => ?_))
    obtain rfl : k1 = k := by omega
    obtain rfl : k1' = k' := by omega
    exact ⟨fun _ => st_err hI (k := 2) (i := 2) rfl (by decide) hQ2, fun h h' => by omega, fun h h' => by omega, fun h h' => by omega⟩
  have er3 : M 144 k ≠ 0 → M 144 k' ≠ 0 → M 144 k = M 144 k' → ¬ (0 ≤ n ∧ 0 ≤ i ∧ 0 ≤ j ∧ i ≤ M 145 k - n ∧ j ≤ M 145 k' - n) → wX11_error 1 1 M (fun r M1 => Q1 r M1) := by
    intro z1 z2 z3 z4
    refine lf_error11 (k := 1) rfl (by decide) (by decide) (hQ1 _ _ fun Q2 hQ2 => mod _ Q2 (up4 _ _).1 (up4 _ _).2 (fun h => by omega) (fun k1 k1' e1 e2 h1 h2 => ?_))
    obtain rfl : k1 = k := by omega
    obtain rfl : k1' = k' := by omega
    exact ⟨fun h => by omega, fun h h' h'' => absurd z3 h'', fun _ _ _ _ => st_err hI (k := 1) (i := 1) rfl (by decide) hQ2, fun _ _ _ h => absurd h z4⟩
  refine ⟨inb_of rfl (by omega) (by decide), inb_of rfl (by omega) (by decide), BR_i (fun h => er2 (Or.inl h)) (fun h1 => BR_i (fun h => er2 (Or.inr h)) (fun h2 => BR_i (fun h3 => lf_holds (L := L) (by rw [s2, hL]) (by omega) ei en (fun g1 => BR_f q1 (lf_holds (L := L') (by rw [u2, hL']) (by omega) ej en (fun g2 => BR_f q1 ⟨?_, LET_i ?_⟩) (fun g2 => BR_t q0 (er3 h1 h2 h3 (by omega))))) (fun g1 => BR_t q0 (er3 h1 h2 h3 (by omega)))) (fun h3 => ?_)))⟩
  · rw [ei, ej, en]
    omega
  · obtain ⟨i', rfl⟩ : ∃ i' : Nat, i = (i' : Int) := ⟨i.toNat, by omega⟩
    obtain ⟨j', rfl⟩ : ∃ j' : Nat, j = (j' : Int) := ⟨j.toNat, by omega⟩
    obtain ⟨n', rfl⟩ : ∃ n' : Nat, n = (n' : Int) := ⟨n.toNat, by omega⟩
    generalize hM1 : cpy M (117 + 2 * k + 1) (117 + 2 * k' + 1) (i' : Int) (j' : Int) (n' : Int) = M1
    have g : ∀ x, x ≠ 118 + 2 * k' → M1 x = M x := fun x hx => by subst hM1; exact cpy_c (by omega)
    have gc : ∀ y, M1 (118 + 2 * k') y = if j' ≤ y ∧ y < j' + n' then M (118 + 2 * k) (i' + (y - j')) else M (118 + 2 * k') y := fun y => by
      subst hM1
      unfold cpy va_cpy
      rw [if_pos (by omega), bnn (n := i') (by omega), bnn (n := j') (by omega), bnn (n := n') (by omega), show 117 + 2 * k + 1 = 118 + 2 * k by omega, show 117 + 2 * k' + 1 = 118 + 2 * k' by omega]
    clear hM1
    refine hQ1 _ _ fun Q2 hQ2 => mod M1 Q2 (g 144 (by omega)) (g 145 (by omega)) (fun h => by omega) (fun k1 k1' e1 e2 q1 q2 => ?_)
    obtain rfl : k1 = k := by omega
    obtain rfl : k1' = k' := by omega
    refine ⟨fun h => by omega, fun _ _ h => absurd h3 h, fun _ _ _ h => absurd (by omega) h, fun _ _ _ _ => ⟨n' + 1, ?_⟩⟩
    refine ma1 (M0 := M1) (by omega) (by omega) (fun M2 y1 y2 => ⟨n' + 1, ?_⟩) n' 0 M1 _ (by omega) rfl (fun _ _ => rfl) (fun y hy => absurd hy (Nat.not_lt_zero y))
    refine ma2 (M0 := M2) (by omega) (by omega) (fun M3 w1 w2 => ?_) n' 0 M2 _ (by omega) rfl (fun _ _ => rfl) (fun y => by rw [if_neg (by omega)])
    refine hQ2 _ _ rfl ((hI.shs (fun z h1 h2 => by rw [w1 z (by omega), y1 z (by omega), g z (by omega)]) (fun c h4 => ?_)).mono (by omega))
    have zc : ∀ x, x ≠ 146 → x ≠ 147 → M3 x = M1 x := fun x p1 p2 => by rw [w1 x p1, y1 x p2]
    unfold ShOk1
    rw [zc (117 + 2 * c) (by omega) (by omega), zc (118 + 2 * c) (by omega) (by omega), zc 144 (by decide) (by decide), zc 145 (by decide) (by decide), g (117 + 2 * c) (by omega), g 144 (by omega), g 145 (by omega)]
    obtain ⟨v1, v2, v3, v4, v5, v6⟩ := hS c h4
    refine ⟨v1, v2, v3, v4, v5, fun y hy => ?_⟩
    rw [w2]
    by_cases hck : c = k1'
    · subst hck
      rw [gc]
      by_cases hyy : j' ≤ y ∧ y < j' + n'
      · have h6 := s6 (i' + (y - j')) (by omega)
        rw [if_pos hyy, if_pos (by omega), y2 _ (by omega), g 146 (by omega), show 24 * k1 + i' + (24 * c + y - (24 * c + j')) = 24 * k1 + (i' + (y - j')) by omega]
        exact h6
      · rw [if_neg hyy, if_neg (by omega), y1 146 (by decide), g 146 (by omega)]
        exact v6 y hy
    · rw [g (118 + 2 * c) (by omega), if_neg (by omega), y1 146 (by decide), g 146 (by omega)]
      exact v6 y hy
  · refine lf_error11 (k := 5) rfl (by decide) (by decide) (hQ1 _ _ fun Q2 hQ2 => mod _ Q2 (up4 _ _).1 (up4 _ _).2 (fun h => by omega) (fun k1 k1' e1 e2 y1 y2 => ?_))
    obtain rfl : k1 = k := by omega
    obtain rfl : k1' = k' := by omega
    exact ⟨fun h => by omega, fun _ _ _ => st_err hI (k := 5) (i := 5) rfl (by decide) hQ2, fun _ _ h => absurd h h3, fun _ _ h => absurd h h3⟩
