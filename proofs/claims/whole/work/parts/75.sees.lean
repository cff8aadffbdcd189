/-! THE REFERENCE SEES ALL ROWS -/
def gdc (z : Fl) (n : Nat) (c : Cand) : Bool := goodb z c.2 n c.1.reverse
def brc (z : Fl) (n j : Nat) (c : Cand) : Bool := decide (mt z c.2 c.1.reverse ≤ z 9) && decide (bk z c.2 n c.1.reverse = j)
def RBest (z : Fl) (n : Nat) (Ls : List Cand) (M : Mem) : Prop := ∃ b, IsBest z n Ls b ∧ (∀ i, i < n → M 136 i = (b.1.getD i 0 : Nat)) ∧ M 125 19 = (n : Int) ∧ M 125 20 = (b.2 : Int) ∧ M 125 21 = cwo z n b ∧ M 125 23 = (cnt (fun d => decide (cwo z n d = cwo z n b)) Ls : Int) ∧ ∀ i, i < n → M 137 i = if fixb z n Ls b i = true then 1 else 0
def RS (z : Fl) (n : Nat) (As : List Cand) (M : Mem) : Prop := M 125 22 = ((As.filter (gdc z n)).length : Int) ∧ (As.filter (gdc z n) = [] → M 125 23 = 0) ∧ (As.filter (gdc z n) ≠ [] → RBest z n (As.filter (gdc z n)) M) ∧ ∀ j, j < 1024 → M 138 j = if As.any (brc z n j) = true then 1 else 0
theorem RBest.congr {z : Fl} {n : Nat} {Ls : List Cand} {M M' : Mem} (h : RBest z n Ls M) (h1 : M' 136 = M 136) (h2 : M' 137 = M 137) (h3 : ∀ j, 19 ≤ j → j ≤ 23 → j ≠ 22 → M' 125 j = M 125 j) : RBest z n Ls M' := by
  obtain ⟨b, a1, a2, a3, a4, a5, a6, a7⟩ := h
  refine ⟨b, a1, fun i hi => by rw [h1]; exact a2 i hi, by rw [h3 19 (by decide) (by decide) (by decide)]; exact a3, by rw [h3 20 (by decide) (by decide) (by decide)]; exact a4, by rw [h3 21 (by decide) (by decide) (by decide)]; exact a5, by rw [h3 23 (by decide) (by decide) (by decide)]; exact a6, fun i hi => by rw [h2]; exact a7 i hi⟩
theorem RS.congr {z : Fl} {n : Nat} {As : List Cand} {M M' : Mem} (h : RS z n As M) (h1 : M' 136 = M 136) (h2 : M' 137 = M 137) (h4 : M' 138 = M 138) (h3 : ∀ j, 19 ≤ j → j ≤ 23 → M' 125 j = M 125 j) : RS z n As M' := by
  obtain ⟨a1, a2, a3, a4⟩ := h
  refine ⟨by rw [h3 22 (by decide) (by decide)]; exact a1, fun e => by rw [h3 23 (by decide) (by decide)]; exact a2 e, fun e => (a3 e).congr h1 h2 fun j q1 q2 _ => h3 j q1 q2, fun j hj => by rw [h4]; exact a4 j hj⟩
/-- what seeing one leaves -/
def FrO (M M' : Mem) : Prop := (∀ a, a ≠ 125 → ¬ (129 ≤ a ∧ a ≤ 131) → ¬ (133 ≤ a ∧ a ≤ 138) → M' a = M a) ∧ ∀ j, (j < 19 ∨ 23 < j) → M' 125 j = M 125 j
theorem FrO.rf {M : Mem} : FrO M M := ⟨fun _ _ _ _ => rfl, fun _ _ => rfl⟩
theorem FrO.tr {M M' M'' : Mem} (h : FrO M M') (h' : FrO M' M'') : FrO M M'' := ⟨fun a q1 q2 q3 => by rw [h'.1 a q1 q2 q3, h.1 a q1 q2 q3], fun j hj => by rw [h'.2 j hj, h.2 j hj]⟩
theorem FrL.o {M M' : Mem} (h : FrL M M') : FrO M M' := ⟨fun a _ _ q3 => h a (by omega) (by omega) (by omega), fun j _ => by rw [h 125 (by decide) (by decide) (by decide)]⟩
theorem FrP.o {M M' : Mem} (h : FrP M M') : FrO M M' := ⟨fun a _ q2 _ => h a (by omega) (by omega), fun j _ => by rw [h 125 (by decide) (by decide)]⟩
theorem RB.fro {v n : Nat} {r : Nat → Nat} {M M' : Mem} (h : RB v n r M) (f : FrO M M') : RB v n r M' := by
  unfold RB
  rw [f.2 13 (by decide), f.2 14 (by decide), f.1 132 (by decide) (by decide) (by decide)]
  exact h
theorem MB.fro {z : Fl} {M M' : Mem} (h : MB z M) (f : FrO M M') : MB z M' := h.congr (f.1 126 (by decide) (by decide) (by decide))
theorem ib_L {n : Nat} {r : Nat → Nat} {M0 : Mem} {l1 : Int} {Q : Mem → Prop} {E : Mem → Prop} (hn : M0 125 13 = (n : Int)) (hn12 : n ≤ 12) (hr : ∀ i, i < n → M0 132 i = (r i : Int)) (hQ : ∀ M', (∀ a, a ≠ 136 → a ≠ 137 → M' a = M0 a) → (∀ i, i < n → M' 136 i = (r i : Int) ∧ M' 137 i = 1) → E M') : ∀ (m i : Nat) (M : Mem) (x3 : Int), i + m = n → x3 = (i : Int) → (∀ a, a ≠ 136 → a ≠ 137 → M a = M0 a) → (∀ j, j < i → M 136 j = (r j : Int) ∧ M 137 j = 1) → wX12_isBest_L2 Q E 125 l1 (m + 1) x3 M
  | 0, i, M, x3, hi, h3, f1, f2 => by
    subst h3
    obtain rfl : i = n := by omega
    unfold wX12_isBest_L2
    rw [f1 125 (by decide) (by decide), hn]
    exact BR_t (Int.le_refl _) (hQ M f1 f2)
  | m + 1, i, M, x3, hi, h3, f1, f2 => by
    subst h3
    unfold wX12_isBest_L2
    rw [f1 125 (by decide) (by decide), hn, bm_nat (n := n) (by omega), bm_nat (n := i) (by omega), rd_at (n := i) rfl (by omega), show (125 : Nat) + 7 = 132 from rfl, f1 132 (by decide) (by decide), hr i (by omega), wr_up (n := i) rfl (by omega), show (125 : Nat) + 11 = 136 from rfl]
    refine BR_f (by omega) ⟨inb_of rfl (by omega) (by decide), inb_of rfl (by omega) (by decide), LET_i ⟨inb_of rfl (by omega) (by decide), LET_i (LET_i ?_)⟩⟩
    rw [wr_up (n := i) rfl (by omega), show (125 : Nat) + 12 = 137 from rfl]
    refine ib_L hn hn12 hr hQ m (i + 1) _ _ (by omega) (by omega) (fun a q1 q2 => by rw [up_c q2, up_c q1]; exact f1 a q1 q2) fun j hj => ?_
    rw [up_c (by decide), up_k, up_k, up_c (by decide)]
    by_cases hji : j = i
    · subst hji
      rw [if_pos rfl, if_pos rfl]
      exact ⟨rfl, rfl⟩
    · rw [if_neg hji, if_neg hji]
      exact f2 j (by omega)
theorem mf_isBest {v n : Nat} {r : Nat → Nat} {M : Mem} {w : Int} {Q : Mem → Prop} (hR : RB v n r M) (hn12 : n ≤ 12) (hQ : ∀ M', (∀ a, a ≠ 125 → a ≠ 136 → a ≠ 137 → M' a = M a) → (∀ j, j ≠ 19 → j ≠ 20 → j ≠ 21 → j ≠ 23 → M' 125 j = M 125 j) → M' 125 19 = (n : Int) → M' 125 20 = (v : Int) → M' 125 21 = w → M' 125 23 = 1 → (∀ i, i < n → M' 136 i = (r i : Int) ∧ M' 137 i = 1) → Q M') : wX12_isBest 125 w M Q := by
  refine ⟨n + 1, ib_L hR.1 hn12 hR.2.2 (fun M1 f1 f2 => LET_i (LET_i (LET_i (LET_i (hQ _ (fun a q1 q2 q3 => ?_) (fun j q1 q2 q3 q4 => ?_) ?_ ?_ ?_ ?_ (fun i hi => ?_)))))) n 0 M _ (by omega) rfl (fun _ _ _ => rfl) (fun j hj => by omega)⟩
  · simp (disch := omega) only [up_c]
    exact f1 a q2 q3
  · simp (disch := omega) only [up_kn]
    rw [f1 125 (by decide) (by decide)]
  · simp (disch := omega) only [up_kn, up_s]
    rw [f1 125 (by decide) (by decide)]
    exact hR.1
  · simp (disch := omega) only [up_kn, up_s]
    rw [f1 125 (by decide) (by decide)]
    exact hR.2.1
  · simp (disch := omega) only [up_kn, up_s]
  · simp (disch := omega) only [up_s]
  · simp (disch := omega) only [up_c]
    exact f2 i hi
theorem so_L {n : Nat} {r P : Nat → Nat} {fx : Nat → Bool} {M0 : Mem} {Q : Mem → Prop} (hn : M0 125 13 = (n : Int)) (hn12 : n ≤ 12) (hr : ∀ i, i < n → M0 132 i = (r i : Int) ∧ r i < 12) (hP : ∀ i, i < n → M0 136 i = (P i : Int) ∧ P i < 12) (hx : ∀ i, i < n → M0 137 i = if fx i = true then 1 else 0) (hQ : ∀ M', (∀ a, a ≠ 137 → M' a = M0 a) → (∀ i, i < n → M' 137 i = if (fx i && decide (r i = P i)) = true then 1 else 0) → Q M') : ∀ (m i : Nat) (M : Mem) (x4 : Int), i + m = n → x4 = (i : Int) → (∀ a, a ≠ 137 → M a = M0 a) → (∀ j, j < i → M 137 j = if (fx j && decide (r j = P j)) = true then 1 else 0) → (∀ j, i ≤ j → M 137 j = M0 137 j) → wX12_seesOne_L98 Q 125 (m + 1) x4 M
  | 0, i, M, x4, hi, h4, f1, f2, f3 => by
    subst h4
    obtain rfl : i = n := by omega
    unfold wX12_seesOne_L98
    rw [f1 125 (by decide), hn]
    exact BR_t (Int.le_refl _) (hQ M f1 f2)
  | m + 1, i, M, x4, hi, h4, f1, f2, f3 => by
    subst h4
    obtain ⟨r1, r2⟩ := hr i (by omega)
    obtain ⟨p1, p2⟩ := hP i (by omega)
    have nxt : ∀ x : Int, isB x → x = (if (fx i && decide (r i = P i)) = true then 1 else 0) → wX12_seesOne_J145 Q (fun x4' M' => wX12_seesOne_L98 Q 125 (m + 1) x4' M') 125 (i : Int) x (i : Int) 137 M := by
      intro x hb hx'
      unfold wX12_seesOne_J145
      refine ⟨inb_of rfl (by omega) (by decide), hb, LET_i (LET_i ?_)⟩
      rw [wr_up (n := i) rfl (by omega)]
      refine so_L hn hn12 hr hP hx hQ m (i + 1) _ _ (by omega) (by omega) (fun a ha => by rw [up_c ha]; exact f1 a ha) (fun j hj => ?_) (fun j hj => by rw [up_kn (by omega)]; exact f3 j (by omega))
      by_cases hji : j = i
      · subst hji
        rw [up_s]
        exact hx'
      · rw [up_kn hji]
        exact f2 j (by omega)
    unfold wX12_seesOne_L98 wX12_seesOne_J144
    rw [f1 125 (by decide), hn, bm_nat (n := n) (by omega), bm_nat (n := i) (by omega), rd_at (k := 125 + 12) (n := i) rfl (by omega), show (125 : Nat) + 12 = 137 from rfl, f3 i (Nat.le_refl i), hx i (by omega), rd_at (k := 125 + 7) (n := i) rfl (by omega), rd_at (k := 125 + 11) (n := i) rfl (by omega), show (125 : Nat) + 7 = 132 from rfl, show (125 : Nat) + 11 = 136 from rfl, f1 132 (by decide), f1 136 (by decide), r1, p1, bm_nat (n := r i) (by omega), bm_nat (n := P i) (by omega)]
    refine BR_f (by omega) ⟨inb_of rfl (by omega) (by decide), ?_⟩
    cases hfx : fx i
    · rw [hfx] at nxt
      rw [if_neg (by decide)]
      exact BR_t q0 (nxt 0 isB0 rfl)
    · rw [hfx] at nxt
      rw [if_pos rfl]
      refine BR_f q1 ⟨inb_of rfl (by omega) (by decide), inb_of rfl (by omega) (by decide), BR_i (fun h => nxt 1 isB1 ?_) (fun h => nxt 0 isB0 ?_)⟩
      · rw [decide_eq_true (by omega : r i = P i)]
        rfl
      · rw [decide_eq_false (by omega : ¬ r i = P i)]
        rfl
theorem filter_c {α : Type} {p : α → Bool} {a : α} {l : List α} : (a :: l).filter p = if p a = true then a :: l.filter p else l.filter p := by
  by_cases h : p a = true
  · rw [if_pos h, List.filter_cons_of_pos h]
  · rw [if_neg h, List.filter_cons_of_neg h]
theorem mf_seesOne {z : Fl} {v n : Nat} {r : Nat → Nat} {As : List Cand} {M : Mem} {Q : Mem → Prop} (hz : ZOk z) (hb : MB z M) (hR : RB v n r M) (hn12 : n ≤ 12) (hvn : v < n) (hr : RowPs z r n) (hi : Inj r n) (hS : RS z n As M) (hl : ∀ d ∈ As, d.1.length = n) (hPl : ∀ d ∈ As, ∀ i, i < n → d.1.getD i 0 < 12) (hlt : ∀ d ∈ As, cLt d ((rl r n).reverse, v)) (hlen : As.length < 1000000)
    (hQ : ∀ M', FrO M M' → RS z n (((rl r n).reverse, v) :: As) M' → Q M') : wX12_seesOne 125 M Q := by
  have hz0 := hz.1
  have hcw : cwo z n ((rl r n).reverse, v) = worth z v n (rl r n) := by
    unfold cwo
    rw [List.reverse_reverse]
  have hgc : gdc z n ((rl r n).reverse, v) = goodb z v n (rl r n) := by
    unfold gdc
    rw [List.reverse_reverse]
  have hbc : ∀ j, brc z n j ((rl r n).reverse, v) = (decide (mt z v (rl r n) ≤ z 9) && decide (bk z v n (rl r n) = j)) := fun j => by
    unfold brc
    rw [List.reverse_reverse]
  have hwb := worth_b hz v n (rl r n)
  have hm := mt_nn hz v (rl r n) hr.pcs
  rw [rl_len] at hm
  have h9 := hz.2.2.2.1.2.2.2
  have hbk := bk_lt hz v n (rl r n)
  have r12 : ∀ i, i < n → r i < 12 := fun i hi => by have := hr i hi; omega
  obtain ⟨s1, s2, s3, s4⟩ := hS
  have hfl := List.length_filter_le (gdc z n) As
  unfold wX12_seesOne
  refine mf_layRow hz hb hR hn12 (by omega) hr fun M1 fl hL => ?_
  have e1 : ∀ a, a ≠ 133 → a ≠ 134 → a ≠ 135 → M1 a = M a := fl
  have hb1 := hb.fro fl.o
  have hR1 := hR.fro fl.o
  refine mf_greatest hz hR1 hn12 hr hL ?_
  rw [rd_at (i := 9) (n := 9) rfl (by decide), show (125 : Nat) + 1 = 126 from rfl, hb1 9 (by omega), bm_id (z := z 9) (by omega) (by omega), bm_id (z := mt z v (rl r n)) (by omega) (by omega)]
  refine BR_i (fun hmt => mf_broken hz hb1 hR1 hn12 (by omega) hr hi hL ⟨inb_of rfl (by omega) (by decide), LET_i ?_⟩) (fun hmt => hQ M1 fl.o ?_)
  · rw [wr_up (n := bk z v n (rl r n)) rfl (by omega), show (125 : Nat) + 13 = 138 from rfl, bm_nat (n := bk z v n (rl r n)) (by omega)]
    generalize hM2 : up M1 138 (bk z v n (rl r n)) 1 = M2
    have f2 : ∀ a, a ≠ 138 → M2 a = M1 a := fun a ha => by subst hM2; exact up_c ha
    have f2b : ∀ j, M2 138 j = if j = bk z v n (rl r n) then 1 else M1 138 j := fun j => by subst hM2; rw [up_k]
    clear hM2
    have o2 : FrO M M2 := fl.o.tr ⟨fun a _ _ q3 => f2 a (by omega), fun j _ => by rw [f2 125 (by decide)]⟩
    have hbrk : ∀ j, j < 1024 → M2 138 j = if (((rl r n).reverse, v) :: As).any (brc z n j) = true then 1 else 0 := by
      intro j hj
      rw [f2b, e1 138 (by decide) (by decide) (by decide), s4 j hj, List.any_cons, hbc, decide_eq_true hmt, Bool.true_and]
      by_cases hjb : j = bk z v n (rl r n)
      · rw [if_pos hjb, decide_eq_true hjb.symm, Bool.true_or, if_pos rfl]
      · rw [if_neg hjb, decide_eq_false (fun e => hjb e.symm), Bool.false_or]
    refine BR_i (fun h0 => LET_i ?_) (fun h0 => hQ M2 o2 ?_)
    · have hgd : goodb z v n (rl r n) = true := by
        unfold goodb
        rw [decide_eq_true hmt, decide_eq_true (by omega)]
        rfl
      have hft : (((rl r n).reverse, v) :: As).filter (gdc z n) = ((rl r n).reverse, v) :: As.filter (gdc z n) := by rw [filter_c, hgc, if_pos hgd]
      have x22 : M2 125 22 = M 125 22 := by rw [f2 125 (by decide), e1 125 (by decide) (by decide) (by decide)]
      rw [x22, s1]
      generalize hM3 : up M2 125 22 (((As.filter (gdc z n)).length : Int) + 1) = M3
      have f3 : ∀ a, a ≠ 125 → M3 a = M2 a := fun a ha => by subst hM3; exact up_c ha
      have f3b : ∀ j, M3 125 j = if j = 22 then ((As.filter (gdc z n)).length : Int) + 1 else M2 125 j := fun j => by subst hM3; rw [up_k]
      clear hM3
      have o3 : FrO M M3 := o2.tr ⟨fun a q1 _ _ => f3 a q1, fun j hj => by rw [f3b, if_neg (by omega)]⟩
      have hL3 : LaidAt z v r n M3 := (hL.congr (f2 133 (by decide)) (f2 134 (by decide)) (f2 135 (by decide))).congr (f3 133 (by decide)) (f3 134 (by decide)) (f3 135 (by decide))
      refine mf_worthNow hz (hb.fro o3) (hR.fro o3) hn12 hvn hr hi hL3 fun M4 fp => ?_
      have o4 : FrO M M4 := o3.tr fp.o
      have hR4 := hR.fro o4
      have e125 : M4 125 = M3 125 := fp 125 (by decide) (by decide)
      have x4j : ∀ j, j ≠ 22 → M4 125 j = M 125 j := fun j hj => by rw [e125, f3b, if_neg hj, f2 125 (by decide), e1 125 (by decide) (by decide) (by decide)]
      have x422 : M4 125 22 = ((As.filter (gdc z n)).length : Int) + 1 := by rw [e125, f3b, if_pos rfl]
      have x4a : ∀ a, 136 ≤ a → a ≤ 137 → M4 a = M a := fun a q1 q2 => by rw [fp a (by omega) (by omega), f3 a (by omega), f2 a (by omega), e1 a (by omega) (by omega) (by omega)]
      have x4b : M4 138 = M2 138 := by rw [fp 138 (by decide) (by decide), f3 138 (by decide)]
      have j68 : (∀ d ∈ As.filter (gdc z n), cwo z n d < cwo z n ((rl r n).reverse, v)) → wX12_seesOne_J68 Q 125 (worth z v n (rl r n)) M4 := by
        intro hm
        unfold wX12_seesOne_J68
        refine mf_isBest hR4 hn12 fun M5 g1 g2 g3 g4 g5 g6 g7 => hQ M5 (o4.tr ⟨fun a q1 _ q3 => g1 a q1 (by omega) (by omega), fun j hj => g2 j (by omega) (by omega) (by omega) (by omega)⟩) ⟨?_, ?_, fun _ => ?_, ?_⟩
        · rw [hft, g2 22 (by decide) (by decide) (by decide) (by decide), x422, List.length_cons]
          omega
        · rw [hft]
          intro e
          cases e
        · rw [hft]
          have hcb : IsBest z n (((rl r n).reverse, v) :: As.filter (gdc z n)) ((rl r n).reverse, v) := isBest_iff.mpr ⟨List.mem_cons_self, fun d hd => by
            rcases List.mem_cons.mp hd with rfl | hd
            · exact Or.inl rfl
            · exact Or.inr (Or.inl (hm d hd))⟩
          refine ⟨((rl r n).reverse, v), hcb, fun i hi => ?_, g3, g4, by rw [g5, hcw], ?_, fun i hi => ?_⟩
          · rw [(g7 i hi).1]
            exact congrArg _ (rl_get hi).symm
          · rw [g6, cnt_s, cnt_0 fun d hd => decide_eq_false (by have := hm d hd; omega), decide_eq_true rfl]
            rfl
          · rw [(g7 i hi).2, if_pos]
            refine fixb_iff.mpr fun d hd he => ?_
            rcases List.mem_cons.mp hd with rfl | hd
            · rfl
            · have := hm d hd
              omega
        · intro j hj
          rw [g1 138 (by decide) (by decide) (by decide), x4b]
          exact hbrk j hj
      rw [x422, bm_id (z := ((As.filter (gdc z n)).length : Int) + 1) (by omega) (by omega)]
      refine BR_i (fun h1 => j68 fun d hd => ?_) (fun h1 => ?_)
      · have : As.filter (gdc z n) = [] := List.length_eq_zero_iff.mp (by omega)
        rw [this] at hd
        cases hd
      · have hne : As.filter (gdc z n) ≠ [] := fun e => h1 (by rw [e]; rfl)
        obtain ⟨b, b1, b2, b3, b4, b5, b6, b7⟩ := s3 hne
        have hbA : b ∈ As := (List.mem_filter.mp b1.1).1
        have hwb2 : -487049291366400 ≤ cwo z n b ∧ cwo z n b ≤ 487049291366400 := worth_b hz _ _ _
        have hcl := hlt b hbA
        rw [x4j 21 (by decide), b5, lc_le, lc_eq, bl_id (z := worth z v n (rl r n)) (by omega) (by omega), bl_id (z := cwo z n b) (by omega) (by omega)]
        refine BR_i (fun h2 => BR_i (fun h3 => LET_i ⟨n + 1, ?_⟩) (fun h3 => hQ M4 o4 ⟨?_, ?_, fun _ => ?_, ?_⟩)) (fun h2 => j68 fun d hd => ?_)
        · -- as much
          rw [x4j 23 (by decide)]
          generalize hM5 : up M4 125 23 (M 125 23 + 1) = M5
          have f5 : ∀ a, a ≠ 125 → M5 a = M4 a := fun a ha => by subst hM5; exact up_c ha
          have f5b : ∀ j, M5 125 j = if j = 23 then M 125 23 + 1 else M4 125 j := fun j => by subst hM5; rw [up_k]
          clear hM5
          refine so_L (n := n) (r := r) (P := fun i => b.1.getD i 0) (fx := fixb z n (As.filter (gdc z n)) b) (by rw [f5b, if_neg (by decide)]; exact hR4.1) hn12 (fun i hi => ⟨by rw [f5 132 (by decide)]; exact hR4.2.2 i hi, r12 i hi⟩) (fun i hi => ⟨by rw [f5 136 (by decide), x4a 136 (by decide) (by decide)]; exact b2 i hi, hPl b hbA i hi⟩) (fun i hi => by rw [f5 137 (by decide), x4a 137 (by decide) (by decide)]; exact b7 i hi) (fun M6 g1 g2 => hQ M6 (o4.tr ⟨fun a q1 _ q3 => by rw [g1 a (by omega), f5 a q1], fun j hj => by rw [g1 125 (by decide), f5b, if_neg (by omega)]⟩) ⟨?_, ?_, fun _ => ?_, ?_⟩) n 0 M5 _ (by omega) rfl (fun _ _ => rfl) (fun j hj => by omega) (fun _ _ => rfl)
          · rw [hft, g1 125 (by decide), f5b, if_neg (by decide), x422, List.length_cons]
            omega
          · rw [hft]
            intro e
            cases e
          · rw [hft]
            have hcb : IsBest z n (((rl r n).reverse, v) :: As.filter (gdc z n)) b := isBest_iff.mpr ⟨List.mem_cons_of_mem _ b1.1, fun d hd => by
              rcases List.mem_cons.mp hd with rfl | hd
              · exact Or.inr (Or.inr ⟨by rw [hcw]; exact h3, hcl⟩)
              · exact (isBest_iff.mp b1).2 d hd⟩
            have xj : ∀ j, j ≠ 23 → j ≠ 22 → M6 125 j = M 125 j := fun j q1 q2 => by rw [g1 125 (by decide), f5b, if_neg q1, x4j j q2]
            refine ⟨b, hcb, fun i hi => ?_, by rw [xj 19 (by decide) (by decide)]; exact b3, by rw [xj 20 (by decide) (by decide)]; exact b4, by rw [xj 21 (by decide) (by decide)]; exact b5, ?_, fun i hi => ?_⟩
            · rw [g1 136 (by decide), f5 136 (by decide), x4a 136 (by decide) (by decide)]
              exact b2 i hi
            · rw [g1 125 (by decide), f5b, if_pos rfl, cnt_s, decide_eq_true (by rw [hcw]; exact h3), b6]
              simp
            · rw [g2 i hi]
              congr 1
              refine propext ?_
              rw [Bool.and_eq_true, decide_eq_true_eq, fixb_iff, fixb_iff]
              constructor
              · rintro ⟨q1, q2⟩ d hd he
                rcases List.mem_cons.mp hd with rfl | hd
                · show (rl r n).reverse.getD i 0 = _
                  rw [rl_get hi]
                  exact q2
                · exact q1 d hd he
              · intro q
                refine ⟨fun d hd he => q d (List.mem_cons_of_mem _ hd) he, ?_⟩
                have := q ((rl r n).reverse, v) List.mem_cons_self (by rw [hcw]; exact h3)
                change (rl r n).reverse.getD i 0 = _ at this
                rw [rl_get hi] at this
                exact this
          · intro j hj
            rw [g1 138 (by decide), f5 138 (by decide), x4b]
            exact hbrk j hj
        · rw [hft, x422, List.length_cons]
          omega
        · rw [hft]
          intro e
          cases e
        · rw [hft]
          have hcb : IsBest z n (((rl r n).reverse, v) :: As.filter (gdc z n)) b := isBest_iff.mpr ⟨List.mem_cons_of_mem _ b1.1, fun d hd => by
            rcases List.mem_cons.mp hd with rfl | hd
            · exact Or.inr (Or.inl (by rw [hcw]; omega))
            · exact (isBest_iff.mp b1).2 d hd⟩
          refine ⟨b, hcb, fun i hi => by rw [x4a 136 (by decide) (by decide)]; exact b2 i hi, by rw [x4j 19 (by decide)]; exact b3, by rw [x4j 20 (by decide)]; exact b4, by rw [x4j 21 (by decide)]; exact b5, ?_, fun i hi => ?_⟩
          · rw [x4j 23 (by decide), b6, cnt_s, decide_eq_false (by rw [hcw]; omega)]
            simp
          · rw [x4a 137 (by decide) (by decide), b7 i hi]
            congr 1
            refine propext ?_
            rw [fixb_iff, fixb_iff]
            refine ⟨fun q d hd he => ?_, fun q d hd he => q d (List.mem_cons_of_mem _ hd) he⟩
            rcases List.mem_cons.mp hd with rfl | hd
            · rw [hcw] at he
              omega
            · exact q d hd he
        · intro j hj
          rw [x4b]
          exact hbrk j hj
        · rw [hcw]
          rcases b1.2 d hd with q | ⟨q, _⟩ <;> omega
    · have hgd : ¬ goodb z v n (rl r n) = true := by
        unfold goodb
        rw [decide_eq_false (p := bk z v n (rl r n) = 0) (by omega)]
        simp
      have hft : (((rl r n).reverse, v) :: As).filter (gdc z n) = As.filter (gdc z n) := by rw [filter_c, hgc, if_neg hgd]
      have ex : ∀ a, a = 125 ∨ a = 136 ∨ a = 137 → M2 a = M a := fun a ha => by rw [f2 a (by omega), e1 a (by omega) (by omega) (by omega)]
      refine ⟨by rw [hft, ex 125 (by omega)]; exact s1, fun e => by rw [hft] at e; rw [ex 125 (by omega)]; exact s2 e, fun e => by rw [hft] at e ⊢; exact (s3 e).congr (ex 136 (by omega)) (ex 137 (by omega)) fun j _ _ _ => by rw [ex 125 (by omega)], hbrk⟩
  · have hgd : ¬ goodb z v n (rl r n) = true := by
      unfold goodb
      rw [decide_eq_false hmt]
      simp
    have hft : (((rl r n).reverse, v) :: As).filter (gdc z n) = As.filter (gdc z n) := by rw [filter_c, hgc, if_neg hgd]
    have ex : ∀ a, a = 125 ∨ a = 136 ∨ a = 137 ∨ a = 138 → M1 a = M a := fun a ha => e1 a (by omega) (by omega) (by omega)
    refine ⟨by rw [hft, ex 125 (by omega)]; exact s1, fun e => by rw [hft] at e; rw [ex 125 (by omega)]; exact s2 e, fun e => by rw [hft] at e ⊢; exact (s3 e).congr (ex 136 (by omega)) (ex 137 (by omega)) fun j _ _ _ => by rw [ex 125 (by omega)], fun j hj => ?_⟩
    rw [ex 138 (by omega), s4 j hj, List.any_cons, hbc, decide_eq_false hmt, Bool.false_and, Bool.false_or]
