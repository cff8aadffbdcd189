/-! PLAIN: the reference; both sides -/
def FrY (M M' : Mem) : Prop := (∀ a, a ≠ 125 → ¬ (129 ≤ a ∧ a ≤ 142) → M' a = M a) ∧ ∀ j, j ≠ 13 → j ≠ 14 → M' 125 j = M 125 j
theorem FrY.rf {M : Mem} : FrY M M := ⟨fun _ _ _ => rfl, fun _ _ _ => rfl⟩
theorem FrY.tr {M M' M'' : Mem} (h : FrY M M') (h' : FrY M' M'') : FrY M M'' := ⟨fun a q1 q2 => by rw [h'.1 a q1 q2, h.1 a q1 q2], fun j q1 q2 => by rw [h'.2 j q1 q2, h.2 j q1 q2]⟩
theorem FrY.scr {M M' : Mem} (h : FrY M M') : Scr M M' := ⟨fun a _ _ _ _ q5 q6 _ => h.1 a q5 q6, h.2 2 (by decide) (by decide), h.2 33 (by decide) (by decide)⟩
theorem FrL.y {M M' : Mem} (h : FrL M M') : FrY M M' := ⟨fun a _ q => h a (by omega) (by omega) (by omega), fun j _ _ => by rw [h 125 (by decide) (by decide) (by decide)]⟩
theorem FrP.y {M M' : Mem} (h : FrP M M') : FrY M M' := ⟨fun a _ q => h a (by omega) (by omega), fun j _ _ => by rw [h 125 (by decide) (by decide)]⟩
theorem ad30_L {s : Fl} {p o n : Nat} {M0 : Mem} {y1 y3 : Int} {Q : Mem → Prop} {E : Mem → Prop} (hp : p < 8) (ho : o = 0 ∨ o = 13) (h126 : M0 126 = s) (h13 : M0 125 13 = (n : Int)) (hn12 : n ≤ 12) (hQ : ∀ M' : Mem, (∀ a, a ≠ 132 → M' a = M0 a) → (∀ i, i < n → M' 132 i = s (1242 + 27 * p + o + i)) → E M') : ∀ (m i : Nat) (M : Mem) (x2 x4 : Int), i + m = n → x4 = (i : Int) → x2 = ((1241 + 27 * p + o : Nat) : Int) → (∀ a, a ≠ 132 → M a = M0 a) → (∀ j, j < i → M 132 j = s (1242 + 27 * p + o + j)) → wX12_adds_L30 Q E 125 y1 x2 y3 (m + 1) x4 M
  | 0, i, M, x2, x4, hi, h4, h2, f1, f2 => by
    subst h4 h2
    obtain rfl : i = n := by omega
    unfold wX12_adds_L30
    rw [f1 125 (by decide), h13]
    exact BR_t (Int.le_refl _) (hQ M f1 f2)
  | m + 1, i, M, x2, x4, hi, h4, h2, f1, f2 => by
    subst h4
    unfold wX12_adds_L30
    rw [f1 125 (by decide), h13, bm_nat (n := n) (by omega), bm_nat (n := i) (by omega), rd_at (i := x2 + 1 + (i : Int)) (n := 1242 + 27 * p + o + i) (by omega) (by omega), show (125 : Nat) + 1 = 126 from rfl, f1 126 (by decide), h126, wr_up (n := i) rfl (by omega), show (125 : Nat) + 7 = 132 from rfl]
    refine BR_f (by omega) ⟨inb_of (n := 1242 + 27 * p + o + i) (by omega) (by omega) (by decide), inb_of rfl (by omega) (by decide), LET_i (LET_i (ad30_L hp ho h126 h13 hn12 hQ m (i + 1) _ _ _ (by omega) (by omega) h2 (fun a ha => by rw [up_c ha]; exact f1 a ha) fun j hj => ?_))⟩
    by_cases hji : j = i
    · subst hji
      rw [up_s]
    · rw [up_kn hji]
      exact f2 j (by omega)
theorem ad70_L {s z : Fl} {p o nl : Nat} {sg : Int} {M0 : Mem} {Q : Mem → Prop} (hz : ZOk z) (hb : MB z M0) (hnl : z 1 = (nl : Int)) (hp : p < 8) (hR : RB (qV s p) (qN s p o) (qR s p o) M0) (hn12 : qN s p o ≤ 12) (hvn : qV s p < qN s p o) (hr : RowPs z (qR s p o) (qN s p o)) (hij : Inj (qR s p o) (qN s p o)) (hL : LaidAt z (qV s p) (qR s p o) (qN s p o) M0) (hsg : bm sg = sg) (hQ : ∀ M' : Mem, (∀ a, a ≠ 130 → a ≠ 131 → a ≠ 142 → M' a = M0 a) → (∀ j, (j < 10 * p ∨ 10 * p + nl ≤ j) → M' 142 j = M0 142 j) → (∀ l, l < nl → M' 142 (10 * p + l) = M0 142 (10 * p + l) + sg * (qB s z p o l * wgt z l)) → Q M') : ∀ (m l : Nat) (M : Mem) (x4 : Int), l + m = nl → x4 = (l : Int) → (∀ a, a ≠ 130 → a ≠ 131 → a ≠ 142 → M a = M0 a) → (∀ j, (j < 10 * p ∨ 10 * p + l ≤ j) → M 142 j = M0 142 j) → (∀ l', l' < l → M 142 (10 * p + l') = M0 142 (10 * p + l') + sg * (qB s z p o l' * wgt z l')) → wX12_adds_L70 Q 125 (p : Int) sg (m + 1) x4 M
  | 0, l, M, x4, hl, h4, f1, f2, f3 => by
    subst h4
    obtain rfl : l = nl := by omega
    unfold wX12_adds_L70
    rw [rd_at (i := 1) (n := 1) rfl (by decide), show (125 : Nat) + 1 = 126 from rfl, f1 126 (by decide) (by decide) (by decide), hb 1 (by omega), hnl]
    exact BR_t (Int.le_refl _) (hQ M f1 f2 f3)
  | m + 1, l, M, x4, hl, h4, f1, f2, f3 => by
    subst h4
    have hl10 := hz.2.1
    have hb' : MB z M := hb.congr (f1 126 (by decide) (by decide) (by decide))
    unfold wX12_adds_L70
    rw [rd_at (i := 1) (n := 1) rfl (by decide), show (125 : Nat) + 1 = 126 from rfl, hb' 1 (by omega), hnl, bm_nat (n := nl) (by omega), bm_nat (n := l) (by omega)]
    refine BR_f (by omega) ⟨inb_of (n := 10 * p + l) (by omega) (by omega) (by decide), mf_share hz hb' (hR.congr (f1 125 (by decide) (by decide) (by decide)) (f1 132 (by decide) (by decide) (by decide))) hn12 hvn hr hij (hL.congr (f1 133 (by decide) (by decide) (by decide)) (f1 134 (by decide) (by decide) (by decide)) (f1 135 (by decide) (by decide) (by decide))) (by omega) fun M2 fp => ⟨inb_of (n := 10 * p + l) (by omega) (by omega) (by decide), LET_i (LET_i ?_)⟩⟩
    rw [rd_at (i := 10 * (p : Int) + (l : Int)) (n := 10 * p + l) (by omega) (by omega), wr_up (i := 10 * (p : Int) + (l : Int)) (n := 10 * p + l) (by omega) (by omega), show (125 : Nat) + 17 = 142 from rfl, hsg, f2 (10 * p + l) (by omega)]
    refine ad70_L hz hb hnl hp hR hn12 hvn hr hij hL hsg hQ m (l + 1) _ _ (by omega) (by omega) (fun a q1 q2 q3 => by rw [up_c q3, fp a q1 q2]; exact f1 a q1 q2 q3) (fun j hj => by rw [up_kn (by omega), fp 142 (by decide) (by decide)]; exact f2 j (by omega)) fun l' hl' => ?_
    by_cases hll : l' = l
    · subst hll
      rw [up_s]
      rfl
    · rw [up_kn (by omega), fp 142 (by decide) (by decide)]
      exact f3 l' (by omega)
theorem mf_adds {s z : Fl} {p o nl : Nat} {sg x2 : Int} {M : Mem} {Q : Mem → Prop} (hz : ZOk z) (hz0 : z 0 = s 0) (hb : MB z M) (h126 : M 126 = s) (hnl : z 1 = (nl : Int)) (hp : p < 8) (ho : o = 0 ∨ o = 13) (hpo : PastOk s p) (hx : x2 = ((1241 + 27 * p + o : Nat) : Int)) (hsg : bm sg = sg) (hQ : ∀ M' : Mem, FrY M M' → (∀ j, (j < 10 * p ∨ 10 * p + nl ≤ j) → M' 142 j = M 142 j) → (∀ l, l < nl → M' 142 (10 * p + l) = M 142 (10 * p + l) + sg * (qB s z p o l * wgt z l)) → Q M') : wX12_adds 125 (p : Int) x2 sg M Q := by
  obtain ⟨v1, n1, n2, n3, r1, r2, r3⟩ := past_row (z := z) (o := o) hpo hz0 ho
  unfold wX12_adds
  rw [rd_at (i := 1240 + 27 * (p : Int)) (n := 1240 + 27 * p) (by omega) (by omega), show (125 : Nat) + 1 = 126 from rfl, h126, v1]
  refine ⟨inb_of (n := 1240 + 27 * p) (by omega) (by omega) (by decide), LET_i ⟨inb_of hx (by omega) (by decide), LET_i ?_⟩⟩
  rw [rd_at hx (by omega), up_c (a := 126) (k := 125) (by decide), h126, n1]
  generalize hM1 : up (up M 125 14 (qV s p : Int)) 125 13 (qN s p o : Int) = M1
  have G : ∀ a, a ≠ 125 → M1 a = M a := fun a ha => by subst hM1; rw [up_c ha, up_c ha]
  have G2 : ∀ j, j ≠ 13 → j ≠ 14 → M1 125 j = M 125 j := fun j q1 q2 => by subst hM1; rw [up_kn q1, up_kn q2]
  have G13 : M1 125 13 = (qN s p o : Int) := by subst hM1; rw [up_s]
  have G14 : M1 125 14 = (qV s p : Int) := by subst hM1; rw [up_kn (by decide), up_s]
  clear hM1
  refine ⟨qN s p o + 1, ad30_L (s := s) (p := p) (o := o) hp ho (by rw [G 126 (by decide)]; exact h126) G13 n2 (fun M2 a1 a2 => ?_) (qN s p o) 0 M1 _ _ (by omega) rfl hx (fun _ _ => rfl) (fun j hj => by omega)⟩
  have hb2 : MB z M2 := (hb.congr (G 126 (by decide))).congr (a1 126 (by decide))
  have hR2 : RB (qV s p) (qN s p o) (qR s p o) M2 := ⟨by rw [a1 125 (by decide)]; exact G13, by rw [a1 125 (by decide)]; exact G14, fun i hi => by rw [a2 i hi, r1 i hi]⟩
  refine mf_layRow hz hb2 hR2 n2 (by omega) r2 fun M3 fl hL => ?_
  have f3 : FrY M M3 := ⟨fun a q1 q2 => by rw [fl a (by omega) (by omega) (by omega), a1 a (by omega), G a q1], fun j q1 q2 => by rw [fl 125 (by decide) (by decide) (by decide), a1 125 (by decide), G2 j q1 q2]⟩
  have e142 : M3 142 = M 142 := by rw [fl 142 (by decide) (by decide) (by decide), a1 142 (by decide), G 142 (by decide)]
  refine ⟨nl + 1, ad70_L (M0 := M3) hz (hb2.congr (fl 126 (by decide) (by decide) (by decide))) hnl hp (hR2.congr (fl 125 (by decide) (by decide) (by decide)) (fl 132 (by decide) (by decide) (by decide))) n2 n3 r2 r3 hL hsg (fun M4 c1 c2 c3 => hQ M4 (f3.tr ⟨fun a _ q2 => c1 a (by omega) (by omega) (by omega), fun j _ _ => by rw [c1 125 (by decide) (by decide) (by decide)]⟩) (fun j hj => by rw [c2 j hj, e142]) (fun l hl => by rw [c3 l hl, e142])) nl 0 M3 _ (by omega) rfl (fun _ _ _ _ => rfl) (fun _ _ => rfl) (fun l' hl' => by omega)⟩
theorem p17_L {M0 : Mem} {y : Int} {Q : Int → Mem → Prop} {E : Mem → Prop} (hQ : ∀ M' : Mem, (∀ a, a ≠ 142 → M' a = M0 a) → (∀ j, j < 80 → M' 142 j = 0) → E M') : ∀ (m j : Nat) (M : Mem) (x2 : Int), j + m = 80 → x2 = (j : Int) → (∀ a, a ≠ 142 → M a = M0 a) → (∀ i, i < j → M 142 i = 0) → wX12_plain_L17 Q E 125 y (m + 1) x2 M
  | 0, j, M, x2, hj, h2, f1, f2 => by
    subst h2
    obtain rfl : j = 80 := by omega
    unfold wX12_plain_L17
    exact BR_t (by decide +kernel) (hQ M f1 f2)
  | m + 1, j, M, x2, hj, h2, f1, f2 => by
    subst h2
    unfold wX12_plain_L17
    rw [bm_nat (n := j) (by omega), wr_up (n := j) rfl (by omega), show (125 : Nat) + 17 = 142 from rfl]
    refine BR_f (by omega) ⟨inb_of rfl (by omega) (by decide), LET_i (LET_i (p17_L hQ m (j + 1) _ _ (by omega) (by omega) (fun a ha => by rw [up_c ha]; exact f1 a ha) fun i hi => ?_))⟩
    by_cases hij : i = j
    · subst hij
      rw [up_s]
    · rw [up_kn hij]
      exact f2 i (by omega)
theorem p38_L {s z : Fl} {nq nl : Nat} {M0 : Mem} {y : Int} {Q : Int → Mem → Prop} {E : Mem → Prop} (hz : ZOk z) (hz0 : z 0 = s 0) (hb : MB z M0) (h126 : M0 126 = s) (hnl : z 1 = (nl : Int)) (hq : s 3 = (nq : Int)) (hq8 : nq ≤ 8) (hpo : ∀ p : Nat, (p : Int) < s 3 → PastOk s p) (hQ : ∀ M' : Mem, FrY M0 M' → (∀ p l, p < nq → l < nl → M' 142 (10 * p + l) = lean1 s z p l) → E M') : ∀ (m p : Nat) (M : Mem) (x2 : Int), p + m = nq → x2 = (p : Int) → FrY M0 M → (∀ p' l, p' < p → l < nl → M 142 (10 * p' + l) = lean1 s z p' l) → (∀ j, 10 * p ≤ j → j < 80 → M 142 j = 0) → wX12_plain_L38 Q E 125 y (m + 1) x2 M
  | 0, p, M, x2, hp, h2, f1, f2, f3 => by
    subst h2
    obtain rfl : p = nq := by omega
    unfold wX12_plain_L38
    rw [rd_at (i := 3) (n := 3) rfl (by decide), show (125 : Nat) + 1 = 126 from rfl, f1.1 126 (by decide) (by decide), h126, hq]
    exact BR_t (Int.le_refl _) (hQ M f1 f2)
  | m + 1, p, M, x2, hp, h2, f1, f2, f3 => by
    subst h2
    have hl10 := hz.2.1
    have hpok := hpo p (by omega)
    have e126 : M 126 = s := by rw [f1.1 126 (by decide) (by decide)]; exact h126
    unfold wX12_plain_L38
    rw [rd_at (i := 3) (n := 3) rfl (by decide), show (125 : Nat) + 1 = 126 from rfl, e126, hq, bm_nat (n := nq) (by omega), bm_nat (n := p) (by omega)]
    refine BR_f (by omega) (mf_adds (s := s) (z := z) (o := 0) hz hz0 (hb.congr (f1.1 126 (by decide) (by decide))) e126 hnl (by omega) (Or.inl rfl) hpok (by omega) bm1 fun M1 a1 a2 a3 => ?_)
    have e126' : M1 126 = s := by rw [a1.1 126 (by decide) (by decide)]; exact e126
    refine mf_adds (s := s) (z := z) (o := 13) hz hz0 ((hb.congr (f1.1 126 (by decide) (by decide))).congr (a1.1 126 (by decide) (by decide))) e126' hnl (by omega) (Or.inr rfl) hpok (by omega) li_n1 fun M2 b1 b2 b3 => LET_i ?_
    refine p38_L hz hz0 hb h126 hnl hq hq8 hpo hQ m (p + 1) M2 _ (by omega) (by omega) (f1.tr (a1.tr b1)) (fun p' l hp' hl => ?_) (fun j h1 h2 => by rw [b2 j (by omega), a2 j (by omega)]; exact f3 j (by omega) h2)
    by_cases hpp : p' = p
    · subst hpp
      rw [b3 l hl, a3 l hl, f3 _ (by omega) (by omega)]
      unfold lean1
      rw [Int.sub_mul]
      omega
    · rw [b2 _ (by omega), a2 _ (by omega)]
      exact f2 p' l (by omega) hl
theorem tm24_L {z : Fl} {p nl set : Nat} {g : Nat → Nat → Int} {M : Mem} {Q : Int → Mem → Prop} {E : Int → Mem → Prop} (hz : ZOk z) (hb : MB z M) (hnl : z 1 = (nl : Int)) (hp : p < 8) (hs : set < 4096) (hg : ∀ l, l < nl → M 142 (10 * p + l) = g p l) (hQ : E (tsum (g p) set nl) M) : ∀ (m j : Nat) (l4 x6 : Int), j + m = nl → x6 = (j : Int) → l4 = tsum (g p) set j → wX12_tells_L24 Q E 125 (set : Int) (p : Int) (m + 1) l4 x6 M
  | 0, j, l4, x6, hj, h6, h4 => by
    subst h6 h4
    obtain rfl : j = nl := by omega
    unfold wX12_tells_L24
    rw [rd_at (i := 1) (n := 1) rfl (by decide), show (125 : Nat) + 1 = 126 from rfl, hb 1 (by omega), hnl]
    exact BR_t (Int.le_refl _) hQ
  | m + 1, j, l4, x6, hj, h6, h4 => by
    subst h6 h4
    have hl10 := hz.2.1
    have e : tsum (g p) set (j + 1) = tsum (g p) set j + (if set.testBit j then g p j else 0) := rfl
    unfold wX12_tells_L24 wX12_tells_J63
    rw [rd_at (i := 1) (n := 1) rfl (by decide), show (125 : Nat) + 1 = 126 from rfl, hb 1 (by omega), hnl, bm_nat (n := nl) (by omega), bm_nat (n := j) (by omega), shr_bit hs (by omega)]
    refine BR_f (by omega) ?_
    cases hbt : set.testBit j
    · rw [hbt, if_neg (by decide)] at e
      rw [if_neg (by decide)]
      exact BR_f (by decide +kernel) (LET_i (LET_i (tm24_L hz hb hnl hp hs hg hQ m (j + 1) _ _ (by omega) (by omega) e.symm)))
    · rw [hbt, if_pos rfl] at e
      rw [if_pos rfl]
      refine BR_t (by decide +kernel) ⟨inb_of (n := 10 * p + j) (by omega) (by omega) (by decide), LET_i (LET_i (tm24_L hz hb hnl hp hs hg hQ m (j + 1) _ _ (by omega) (by omega) ?_))⟩
      rw [rd_at (i := 10 * (p : Int) + (j : Int)) (n := 10 * p + j) (by omega) (by omega), show (125 : Nat) + 17 = 142 from rfl, hg j (by omega), e]
theorem tm4_L {z : Fl} {nq nl set : Nat} {g : Nat → Nat → Int} {M : Mem} {Q : Int → Mem → Prop} (hz : ZOk z) (hb : MB z M) (hnl : z 1 = (nl : Int)) (h3 : M 126 3 = (nq : Int)) (hq8 : nq ≤ 8) (hs : set < 4096) (hg : ∀ p l, p < nq → l < nl → M 142 (10 * p + l) = g p l) (hgb : ∀ p l, p < nq → l < nl → -97409858273280 ≤ g p l ∧ g p l ≤ 97409858273280) (hQ : Q (if tellB g nl set nq = true then 1 else 0) M) : ∀ (m p : Nat) (x2 x3 : Int), p + m = nq → x3 = (p : Int) → x2 = (if tellB g nl set p = true then 1 else 0) → wX12_tells_L4 Q 125 (set : Int) (m + 1) x2 x3 M
  | 0, p, x2, x3, hp, h3', hx => by
    subst h3' hx
    obtain rfl : p = nq := by omega
    unfold wX12_tells_L4
    rw [rd_at (i := 3) (n := 3) rfl (by decide), show (125 : Nat) + 1 = 126 from rfl, h3]
    refine BR_t (Int.le_refl _) ⟨?_, hQ⟩
    split
    · exact isB1
    · exact isB0
  | m + 1, p, x2, x3, hp, h3', hx => by
    subst h3' hx
    have hl10 := hz.2.1
    have hbd := tsum_b (set := set) (n := nl) (f := g p) fun j hj => hgb p j (by omega) hj
    have e : tellB g nl set (p + 1) = (tellB g nl set p && decide (0 < tsum (g p) set nl)) := rfl
    unfold wX12_tells_L4 wX12_tells_J84
    rw [rd_at (i := 3) (n := 3) rfl (by decide), show (125 : Nat) + 1 = 126 from rfl, h3, bm_nat (n := nq) (by omega), bm_nat (n := p) (by omega)]
    refine BR_f (by omega) ?_
    by_cases ht : tellB g nl set p = true
    · rw [if_pos ht]
      refine BR_f q1 ⟨nl + 1, tm24_L hz hb hnl (by omega) hs (fun l hl => hg p l (by omega) hl) ?_ nl 0 _ _ (by omega) rfl rfl⟩
      rw [lc_le, bl0, bl_id (z := tsum (g p) set nl) (by omega) (by omega)]
      refine BR_i (fun h => LET_i (tm4_L hz hb hnl h3 hq8 hs hg hgb hQ m (p + 1) _ _ (by omega) (by omega) ?_)) (fun h => LET_i (tm4_L hz hb hnl h3 hq8 hs hg hgb hQ m (p + 1) _ _ (by omega) (by omega) ?_))
      · rw [e, decide_eq_false (by omega : ¬ 0 < tsum (g p) set nl), Bool.and_false, if_neg (by decide)]
      · rw [e, ht, decide_eq_true (by omega : 0 < tsum (g p) set nl)]
        rfl
    · rw [if_neg ht]
      have hf := tell_mono (g := g) (nl := nl) (set := set) (nq := nq) p (by omega) (by simpa using ht)
      rw [hf, if_neg (by decide)] at hQ
      exact BR_t bm0 ⟨isB0, hQ⟩
theorem pm94_L {z : Fl} {nq nl : Nat} {g : Nat → Nat → Int} {M : Mem} {y : Int} {Q : Int → Mem → Prop} {E : Int → Int → Mem → Prop} (hz : ZOk z) (hb : MB z M) (hnl : z 1 = (nl : Int)) (h3 : M 126 3 = (nq : Int)) (hq8 : nq ≤ 8) (hg : ∀ p l, p < nq → l < nl → M 142 (10 * p + l) = g p l) (hgb : ∀ p l, p < nq → l < nl → -97409858273280 ≤ g p l ∧ g p l ≤ 97409858273280) (hQ : E ((pls (fun s => tellB g nl s nq) (2 ^ nl)).1 : Int) (oI (pls (fun s => tellB g nl s nq) (2 ^ nl)).2) M) : ∀ (m s : Nat) (x2 x3 x4 : Int), s + m = 2 ^ nl → x4 = (s : Int) → x2 = ((pls (fun s => tellB g nl s nq) s).1 : Int) → x3 = oI (pls (fun s => tellB g nl s nq) s).2 → wX12_plain_L94 Q E 125 y (m + 1) x2 x3 x4 M
  | 0, s, x2, x3, x4, hs, h4, h2, h3' => by
    subst h4 h2 h3'
    have hl10 := hz.2.1
    obtain rfl : s = 2 ^ nl := by omega
    unfold wX12_plain_L94
    rw [rd_at (i := 1) (n := 1) rfl (by decide), show (125 : Nat) + 1 = 126 from rfl, hb 1 (by omega), hnl, shl_13 nl (by omega)]
    exact BR_t (Int.le_refl _) hQ
  | m + 1, s, x2, x3, x4, hs, h4, h2, h3' => by
    subst h4 h2 h3'
    have hl10 := hz.2.1
    have hp : 2 ^ nl ≤ 1024 := Nat.le_trans (p2le (m := 10) (by omega)) (by decide)
    have hps := pop_le s
    unfold wX12_plain_L94 wX12_tells
    rw [rd_at (i := 1) (n := 1) rfl (by decide), show (125 : Nat) + 1 = 126 from rfl, hb 1 (by omega), hnl, shl_13 nl (by omega), bm_nat (n := 2 ^ nl) (by omega), bm_nat (n := s) (by omega)]
    refine BR_f (by omega) ⟨nq + 1, tm4_L (g := g) hz hb hnl h3 hq8 (by omega) hg hgb ?_ nq 0 _ _ (by omega) rfl rfl⟩
    by_cases ht : tellB g nl s nq = true
    · rw [if_pos ht]
      refine BR_f q1 (LET_i ?_)
      unfold wX12_plain_J135 wX12_plain_J141
      cases ho : (pls (fun s => tellB g nl s nq) s).2 with
      | none =>
        have e := pls_n (b := fun s => tellB g nl s nq) ht ho
        refine BR_t (by decide +kernel) (LET_i (pm94_L hz hb hnl h3 hq8 hg hgb hQ m (s + 1) _ _ _ (by omega) (by omega) ?_ ?_))
        · rw [e]
          rfl
        · rw [e]
          rfl
      | some c =>
        have hc' := (pls_b (b := fun s => tellB g nl s nq) s).2 c ho
        have hpc := pop_le c
        show BR (bm (c : Int) < 0) _ _
        rw [bm_nat (n := c) (by omega)]
        refine BR_f (by omega) (lf_ones rfl (by omega) ?_)
        show wX12_ones (c : Int) M _
        refine lf_ones rfl (by omega) ?_
        rw [bm_nat (n := pop s) (by omega), bm_nat (n := pop c) (by omega)]
        refine BR_i (fun h => LET_i (pm94_L hz hb hnl h3 hq8 hg hgb hQ m (s + 1) _ _ _ (by omega) (by omega) ?_ ?_)) (fun h => LET_i (pm94_L hz hb hnl h3 hq8 hg hgb hQ m (s + 1) _ _ _ (by omega) (by omega) ?_ ?_))
        · rw [pls_k (b := fun s => tellB g nl s nq) ht ho (by omega)]
          rfl
        · rw [pls_k (b := fun s => tellB g nl s nq) ht ho (by omega)]
        · rw [pls_t (b := fun s => tellB g nl s nq) ht ho (by omega)]
          rfl
        · rw [pls_t (b := fun s => tellB g nl s nq) ht ho (by omega)]
          rfl
    · rw [if_neg ht]
      refine BR_t q0 (LET_i (pm94_L hz hb hnl h3 hq8 hg hgb hQ m (s + 1) _ _ _ (by omega) (by omega) ?_ ?_))
      · rw [pls_f (b := fun s => tellB g nl s nq) ht]
      · rw [pls_f (b := fun s => tellB g nl s nq) ht]
theorem st_plain {t : Int} {M : Mem} (hI : Inv t M) {a : Int} (_ea : bm a = a) : Step t M (fun M Q => wX11_plain 1 a M Q) (fun M Q => wX12_plain 125 a M Q) := by
  intro Q1 hQ1
  have hz := hI.zok
  have hl10 := hz.2.1
  obtain ⟨nl, hnl⟩ : ∃ nl : Nat, vw (M 126) 1 = (nl : Int) := ⟨(vw (M 126) 1).toNat, by omega⟩
  obtain ⟨nq, hq, hq8, h11⟩ := hI.nq
  have hz0 : vw (M 126) 0 = M 126 0 := vw_at (by omega)
  have hp : 2 ^ nl ≤ 1024 := Nat.le_trans (p2le (m := 10) (by omega)) (by decide)
  have hp0 : 0 < 2 ^ nl := Nat.two_pow_pos nl
  unfold wX11_plain
  refine wi_i (fun h => BR_f q1 ?_) (fun h => BR_t q0 (lf_error11 (k := 1) rfl (by decide) (by decide) (hQ1 _ _ fun Q2 hQ2 => ?_)))
  · unfold wX11_weighPasts
    rw [show M (1 + 1) 4 = (nl : Int) by rw [← hnl]; exact hI.cb.2.1, shl_13 nl (by omega), show ((2 ^ nl : Nat) : Int) - 1 = ((2 ^ nl - 1 : Nat) : Int) by omega]
    refine LET_i ⟨nq + 1, wp14_L (s := M 126) (M0 := M) hz hz0 hI.cb hnl hq hq8 hI.1.2.2.2.2.2.1 hI.2.1.2.2.2.2.2.1 h11 (fun M1 a1 a2 a3 => LET_i ?_) nq 0 M _ (by omega) rfl (fun _ _ _ => rfl) hI.wz (fun p' l hp' => by omega)⟩
    have hgb : ∀ p l, p < nq → l < nl → -97409858273280 ≤ lean1 (M 126) (vw (M 126)) p l ∧ lean1 (M 126) (vw (M 126)) p l ≤ 97409858273280 := fun p l _ hl => lean_b hz (by omega)
    have hsc : Scr M M1 := ⟨fun x q1 _ _ q4 _ _ _ => a1 x (by omega) q4, by rw [a1 125 (by omega) (by decide)], by rw [a1 125 (by omega) (by decide)]⟩
    have hI1 := hI.scr hsc a2
    have h126 : M1 126 = M 126 := hsc.s (by omega)
    have hc1 : CB (vw (M 126)) M1 := hI.cb.congr hz fun x hx => a1 x (by omega) (by omega)
    have hpl := pls_b (b := fun s => tellB (lean1 (M 126) (vw (M 126))) nl s nq) (2 ^ nl)
    have ref : ∀ (M2 : Mem) (Q2 : Int → Mem → Prop), M2 126 = M 126 → (∀ M3, FrY M2 M3 → BR (0 ≤ bm a) (BR (0 ≤ bm (oI (pls (fun s => tellB (lean1 (M 126) (vw (M 126))) nl s nq) (2 ^ nl)).2)) (Q2 (oI (pls (fun s => tellB (lean1 (M 126) (vw (M 126))) nl s nq) (2 ^ nl)).2) M3) (wX12_error 125 2 M3 (fun r_33 M_32 => Q2 r_33 M_32))) (Q2 ((pls (fun s => tellB (lean1 (M 126) (vw (M 126))) nl s nq) (2 ^ nl)).1 : Int) M3)) → wX12_plain 125 a M2 Q2 := by
      intro M2 Q2 h2 hr
      unfold wX12_plain
      refine mi_t h (BR_f q1 ⟨80 + 1, p17_L (fun M3 b1 b2 => ⟨nq + 1, p38_L (s := M 126) (M0 := M3) hz hz0 ((mb_of h2).congr (b1 126 (by decide))) (by rw [b1 126 (by decide), h2]) hnl hq hq8 hI.1.2.2.2.2.2.1 (fun M4 c1 c2 => LET_i ⟨2 ^ nl + 1, pm94_L (g := lean1 (M 126) (vw (M 126))) hz (((mb_of h2).congr (b1 126 (by decide))).congr (c1.1 126 (by decide) (by decide))) hnl (by rw [c1.1 126 (by decide) (by decide), b1 126 (by decide), h2]; exact hq) hq8 c2 hgb (hr M4 (FrY.tr ⟨fun x _ q2 => b1 x (by omega), fun j _ _ => by rw [b1 125 (by decide)]⟩ c1)) (2 ^ nl) 0 _ _ _ (by omega) rfl rfl rfl⟩) nq 0 M3 _ (by omega) rfl FrY.rf (fun p' l hp' => by omega) (fun j _ hj => b2 j hj)⟩) 80 0 _ _ rfl rfl (fun _ _ => rfl) (fun i hi => by omega)⟩)
    refine ⟨2 ^ nl + 1, pc26_L (g := lean1 (M 126) (vw (M 126))) hz hc1 hnl (by rw [a1 2 (by omega) (by decide)]; exact h11) hq8 a3 hgb ?_ (2 ^ nl) 0 _ _ _ (by omega) rfl rfl rfl⟩
    have fin : ∀ M3, FrY M1 M3 → Inv (t + 1) M3 := fun M3 f => Inv.mono (hI1.scr f.scr (a2.congr fun x q1 q2 => f.1 x (by omega) (by omega))) (by omega)
    refine BR_i (fun h1 => BR_i (fun h2 => hQ1 _ _ fun Q2 hQ2 => ref M1 Q2 h126 fun M3 f => BR_t h1 (BR_t h2 (hQ2 _ _ rfl (fin M3 f)))) (fun h2 => lf_error11 (k := 2) rfl (by decide) (by decide) (hQ1 _ _ fun Q2 hQ2 => ref _ Q2 (by rw [up_c (by decide), h126]) fun M3 f => BR_t h1 (BR_f h2 ?_)))) (fun h1 => hQ1 _ _ fun Q2 hQ2 => ref M1 Q2 h126 fun M3 f => BR_f h1 (hQ2 _ _ rfl (fin M3 f)))
    exact er12 hI1 (k := 2) rfl (by decide) f.scr (a2.congr fun x q1 q2 => by rw [f.1 x (by omega) (by omega), up_c (by omega)]) hQ2
  · unfold wX12_plain
    exact mi_f h (BR_t q0 (st_err hI (k := 1) rfl (by decide) hQ2))
