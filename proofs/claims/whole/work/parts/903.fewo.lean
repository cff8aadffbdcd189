/-! FEWEST: the class's order -/
theorem mems_pre {k j i : Nat} (hi : i < popn k j) : ∀ m, (mems k (j + m)).getD i 0 = (mems k j).getD i 0
  | 0 => rfl
  | m + 1 => by
    have ih := mems_pre hi m
    have es : mems k (j + m + 1) = mems k (j + m) ++ (if k.testBit (j + m) = true then [j + m] else []) := rfl
    have hl : i < (mems k (j + m)).length := by
      rw [mems_len]
      have : ∀ m, popn k j ≤ popn k (j + m) := fun m => by
        induction m with
        | zero => exact Nat.le_refl _
        | succ m ih => rw [show j + (m + 1) = (j + m) + 1 by omega, popn_s]; omega
      have := this m
      omega
    rw [show j + (m + 1) = j + m + 1 by omega, es, ← ih, List.getD_eq_getElem?_getD, List.getElem?_append_left hl, ← List.getD_eq_getElem?_getD]
theorem popn_mono {k j : Nat} : ∀ m, popn k j ≤ popn k (j + m)
  | 0 => Nat.le_refl _
  | m + 1 => by
    have := popn_mono (k := k) (j := j) m
    rw [show j + (m + 1) = (j + m) + 1 by omega, popn_s]
    omega
theorem gb_L {k np : Nat} {M0 : Mem} {Q : Mem → Prop} {E : Mem → Prop} (hnp : M0 2 1 = (np : Int)) (hnp12 : np ≤ 12) (hk : k < 2 ^ np) (h10 : pop k ≤ 10) (h4 : M0 108 2 = (k : Int)) (hQ : ∀ M' : Mem, (∀ a, a ≠ 108 → a ≠ 110 → M' a = M0 a) → (∀ j, j ≠ 3 → M' 108 j = M0 108 j) → M' 108 3 = (pop k : Int) → (∀ i, i < pop k → M' 110 i = ((mems k 12).getD i 0 : Nat)) → E M') : ∀ (m j : Nat) (M : Mem) (x2 : Int), j + m = np → x2 = (j : Int) → (∀ a, a ≠ 108 → a ≠ 110 → M a = M0 a) → (∀ i, i ≠ 3 → M 108 i = M0 108 i) → M 108 3 = (popn k j : Int) → (∀ i, i < popn k j → M 110 i = ((mems k j).getD i 0 : Nat)) → wX7_orderFewest_L28 Q E 108 (m + 1) x2 M
  | 0, j, M, x2, hj, h2, f1, f2, f3, f4 => by
    subst h2
    obtain rfl : j = np := by omega
    have hp : popn k j = pop k := by
      have h2 : (mems k (j + (12 - j))).length = (mems k j).length := by rw [mems_ext hk]
      rw [mems_len, mems_len, show j + (12 - j) = 12 by omega] at h2
      exact h2.symm
    unfold wX7_orderFewest_L28
    rw [f1 2 (by decide) (by decide), hnp]
    refine BR_t (Int.le_refl _) (hQ M f1 f2 (by rw [f3, hp]) fun i hi => ?_)
    rw [f4 i (by omega), ← mems_pre (k := k) (j := j) (by omega) (12 - j), show j + (12 - j) = 12 by omega]
  | m + 1, j, M, x2, hj, h2, f1, f2, f3, f4 => by
    subst h2
    have hk12 : k < 2 ^ 12 := Nat.lt_of_lt_of_le hk (p2le hnp12)
    have hpl := popn_le k j
    have hml := mems_len k j
    have hmono := popn_mono (k := k) (j := j) (12 - j)
    rw [show j + (12 - j) = 12 by omega] at hmono
    have hmono' : popn k j ≤ pop k := hmono
    have es : mems k (j + 1) = mems k j ++ (if k.testBit j = true then [j] else []) := rfl
    unfold wX7_orderFewest_L28
    rw [f1 2 (by decide) (by decide), hnp, bm_nat (n := np) (by omega), bm_nat (n := j) (by omega), f3, bm_nat (n := popn k j) (by omega), f2 2 (by decide), h4, lf_isIn rfl rfl (by omega) (by omega)]
    refine BR_f (by omega) (BR_i (fun h => ?_) (fun h => ?_))
    · have hp : popn k j = pop k := by omega
      refine hQ M f1 f2 (by rw [f3, hp]) fun i hi => ?_
      rw [f4 i (by omega), ← mems_pre (k := k) (j := j) (by omega) (12 - j), show j + (12 - j) = 12 by omega]
    · cases hb : k.testBit j
      · rw [hb] at es
        rw [if_neg (by decide)]
        refine BR_t q0 (LET_i (gb_L hnp hnp12 hk h10 h4 hQ m (j + 1) M _ (by omega) (by omega) f1 f2 ?_ ?_))
        · rw [popn_s, hb]
          exact f3
        · rw [popn_s, hb, es]
          simpa using f4
      · rw [hb] at es
        rw [if_pos rfl]
        refine BR_f q1 ⟨by rw [f3]; exact inb_of rfl (by omega) (by decide), ?_⟩
        rw [f3, wr_up (k := 108 + 2) (n := popn k j) rfl (by omega), show (108 : Nat) + 2 = 110 from rfl]
        refine LET_i (LET_i (LET_i (gb_L hnp hnp12 hk h10 h4 hQ m (j + 1) _ _ (by omega) (by omega) (fun a q1 q2 => by rw [up_c q1, up_c q2]; exact f1 a q1 q2) (fun i hi => by rw [up_kn hi, up_c (by decide)]; exact f2 i hi) ?_ (fun i hi => ?_))))
        · rw [up_s, up_c (by decide), f3, popn_s, hb]
          rfl
        · rw [popn_s, hb] at hi
          have hi' : i < popn k j + 1 := hi
          rw [up_c (by decide), up_k, es, if_pos rfl, List.getD_eq_getElem?_getD]
          by_cases hip : i = popn k j
          · subst hip
            rw [if_pos rfl, List.getElem?_append_right (by omega), hml, Nat.sub_self]
            rfl
          · rw [if_neg hip, List.getElem?_append_left (by omega), ← List.getD_eq_getElem?_getD]
            exact f4 i (by omega)
theorem ford_s (z : Fl) (L : List Nat) (f st : Nat) (last : Option Nat) : ford z L (f + 1) st last = match amn (fun j => stepc z L last j + fcs z L 12 (rmb st j) j) (fun j => st.testBit j) L.length with
    | none => []
    | some j => j :: ford z L f (rmb st j) (some j) := rfl
theorem ro_L {z : Fl} {L : List Nat} {B : Nat} {Q : Mem → Prop} (hz : ZOk z) (hB : 148 ≤ B) (hL : L.length ≤ 10) (hLz : ∀ i, i < L.length → ((L.getD i 0 : Nat) : Int) < z 0) : ∀ (c x4 s b : Nat) (M : Mem) (y2 y3 y4 : Int), x4 + (c + 1) = L.length → y4 = (x4 : Int) → y2 = (s : Int) → y3 = (b : Int) → s < 2 ^ L.length → s.testBit b = true → b < L.length → pop s = c + 1 → FwG z L M → (∀ s', s' < 2 ^ L.length → ∀ j, j < L.length → TabAt z L (M B) s' j) → (∀ M' : Mem, (∀ a, a ≠ 109 → M' a = M a) → (∀ i, i < x4 → M' 109 i = M 109 i) → (∀ i, i < c + 1 → M' 109 (x4 + i) = (((b :: ford z L c (rmb s b) (some b)).map fun j => L.getD j 0).getD i 0 : Nat)) → Q M') → wX7_readOrder_L67 Q 108 B (c + 2) y2 y3 y4 M := by
  intro c
  induction c with
  | zero =>
    intro x4 s b M y2 y3 y4 hc e4 e2 e3 hs hb hbn hps hg hT hQ
    subst e4 e2 e3
    have hs12 : s < 4096 := Nat.lt_of_lt_of_le hs (Nat.le_trans (p2le (m := 12) (by omega)) (by decide))
    unfold wX7_readOrder_L67
    rw [hg.2.1, bm_nat (n := L.length) (by omega), bm_nat (n := x4) (by omega), bm_nat (n := b) (by omega), rd_at (k := 108 + 2) (n := b) rfl (by omega), show (108 : Nat) + 2 = 110 from rfl, hg.2.2 b hbn, wr_up (k := 108 + 1) (n := x4) rfl (by omega), show (108 : Nat) + 1 = 109 from rfl]
    have hg2 : FwG z L (up M 109 x4 (L.getD b 0 : Nat)) := hg.congr hz (fun a ha => up_c (by omega)) (by rw [up_c (by decide)]) (up_c (by decide))
    refine BR_f (by omega) (BR_f (by omega) ⟨inb_of rfl (by omega) (by decide), inb_of rfl (by omega) (by decide), LET_i (lf_nextOf hz hg2 hL hLz hs hbn (fun j hj => by rw [up_c (by omega)]; exact hT _ (Nat.lt_of_le_of_lt rmb_le hs) j hj) (LET_i (LET_i ?_)))⟩)
    unfold wX7_readOrder_L67
    rw [hg2.2.1]
    refine BR_t (by rw [bm_nat (n := L.length) (by omega), bm_id (z := (x4 : Int) + 1) (by omega) (by omega)]; omega) (hQ _ (fun a ha => up_c ha) (fun i hi => up_kn (by omega)) fun i hi => ?_)
    obtain rfl : i = 0 := by omega
    rw [Nat.add_zero, up_s]
    rfl
  | succ c ih =>
    intro x4 s b M y2 y3 y4 hc e4 e2 e3 hs hb hbn hps hg hT hQ
    subst e4 e2 e3
    have hs12 : s < 4096 := Nat.lt_of_lt_of_le hs (Nat.le_trans (p2le (m := 12) (by omega)) (by decide))
    unfold wX7_readOrder_L67
    rw [hg.2.1, bm_nat (n := L.length) (by omega), bm_nat (n := x4) (by omega), bm_nat (n := b) (by omega), rd_at (k := 108 + 2) (n := b) rfl (by omega), show (108 : Nat) + 2 = 110 from rfl, hg.2.2 b hbn, wr_up (k := 108 + 1) (n := x4) rfl (by omega), show (108 : Nat) + 1 = 109 from rfl, rmb_i hs12 (by omega)]
    have hg2 : FwG z L (up M 109 x4 (L.getD b 0 : Nat)) := hg.congr hz (fun a ha => up_c (by omega)) (by rw [up_c (by decide)]) (up_c (by decide))
    have hT2 : ∀ s', s' < 2 ^ L.length → ∀ j, j < L.length → TabAt z L (up M 109 x4 (L.getD b 0 : Nat) B) s' j := fun s' h j hj => by rw [up_c (by omega)]; exact hT s' h j hj
    have hrs : rmb s b < 2 ^ L.length := Nat.lt_of_le_of_lt rmb_le hs
    have hpr := pop_rmb hb (by omega)
    have hfb := fun j => fst_b (z := z) (i := b) (st := rmb s b) (j := j) hL hrs
    obtain ⟨am1, am2⟩ := amn_mnl (f := fst z L b (rmb s b)) (p := fun j => (rmb s b).testBit j) (n := L.length) (fun j _ _ => by have := hfb j; omega)
    refine BR_f (by omega) (BR_f (by omega) ⟨inb_of rfl (by omega) (by decide), inb_of rfl (by omega) (by decide), LET_i (lf_nextOf hz hg2 hL hLz hs hbn (hT2 _ hrs) (LET_i (LET_i ?_)))⟩)
    cases ha : amn (fst z L b (rmb s b)) (fun j => (rmb s b).testBit j) L.length with
    | none =>
      exfalso
      have h0 : rmb s b = 0 := Nat.eq_of_testBit_eq fun k => by
        rw [Nat.zero_testBit]
        rcases Nat.lt_or_ge k L.length with q | q
        · exact (am1 ha).2 k q
        · exact tb_big hrs q
      rw [h0, show pop 0 = 0 by decide +kernel] at hpr
      omega
    | some b' =>
      obtain ⟨c1, c2, c3, _, _⟩ := am2 b' ha
      have hfo : ford z L (c + 1) (rmb s b) (some b) = b' :: ford z L c (rmb (rmb s b) b') (some b') := by
        rw [ford_s]
        show (match amn (fst z L b (rmb s b)) (fun j => (rmb s b).testBit j) L.length with
          | none => []
          | some j => j :: ford z L c (rmb (rmb s b) j) (some j)) = _
        rw [ha]
      refine ih (x4 + 1) (rmb s b) b' _ _ _ _ (by omega) (by omega) rfl rfl hrs c3 c2 (by omega) hg2 hT2 fun M' k1 k2 k3 => hQ M' (fun a ha' => by rw [k1 a ha', up_c ha']) (fun i hi => by rw [k2 i (by omega), up_kn (by omega)]) fun i hi => ?_
      rw [hfo]
      cases i with
      | zero =>
        rw [Nat.add_zero, k2 x4 (by omega), up_s]
        rfl
      | succ i =>
        rw [show x4 + (i + 1) = x4 + 1 + i by omega, k3 i (by omega)]
        rfl
