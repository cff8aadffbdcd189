/-! FEWEST: the reference -/
theorem wh_L {k : Nat} {M0 : Mem} {y1 y2 y3 : Int} {Q : Int → Mem → Prop} {E : Mem → Prop} (hk : k < 2 ^ 12) (h10 : pop k ≤ 10) (hy : y1 = (k : Int)) (hQ : ∀ M' : Mem, (∀ a, a ≠ 140 → M' a = M0 a) → (∀ i, i < pop k → M' 140 i = ((mems k 12).getD i 0 : Nat)) → E M') : ∀ (m j : Nat) (M : Mem) (x4 x5 : Int), j + m = 12 → x5 = (j : Int) → x4 = (popn k j : Int) → (∀ a, a ≠ 140 → M a = M0 a) → (∀ i, i < popn k j → M 140 i = ((mems k j).getD i 0 : Nat)) → wX12_fewest_L56 Q E 125 y1 y2 y3 (m + 1) x4 x5 M
  | 0, j, M, x4, x5, hj, h5, h4, f1, f2 => by
    subst h5 h4
    obtain rfl : j = 12 := by omega
    unfold wX12_fewest_L56
    exact BR_t (by decide +kernel) (hQ M f1 f2)
  | m + 1, j, M, x4, x5, hj, h5, h4, f1, f2 => by
    subst h5 h4
    have hml := mems_len k j
    have es : mems k (j + 1) = mems k j ++ (if k.testBit j = true then [j] else []) := rfl
    unfold wX12_fewest_L56
    rw [hy, bm_nat (n := j) (by omega), shr_bit hk (by omega)]
    refine BR_f (by omega) ?_
    cases hb : k.testBit j
    · rw [hb] at es
      rw [if_neg (by decide)]
      refine BR_f (by decide +kernel) (LET_i ?_)
      rw [← hy]
      refine wh_L hk h10 hy hQ m (j + 1) M _ _ (by omega) (by omega) ?_ f1 ?_
      · rw [popn_s, hb]
        rfl
      · rw [popn_s, hb, es]
        simpa using f2
    · have hmono := popn_mono (k := k) (j := j + 1) (12 - (j + 1))
      rw [show j + 1 + (12 - (j + 1)) = 12 by omega] at hmono
      have hmono' : popn k (j + 1) ≤ pop k := hmono
      rw [popn_s, hb, if_pos rfl] at hmono'
      rw [hb] at es
      rw [if_pos rfl]
      refine BR_t (by decide +kernel) ⟨inb_of rfl (by omega) (by decide), ?_⟩
      rw [wr_up (k := 125 + 15) (n := popn k j) rfl (by omega), show (125 : Nat) + 15 = 140 from rfl]
      refine LET_i (LET_i (LET_i ?_))
      rw [← hy]
      refine wh_L hk h10 hy hQ m (j + 1) _ _ _ (by omega) (by omega) ?_ (fun a q => by rw [up_c q]; exact f1 a q) fun i hi => ?_
      · rw [popn_s, hb, if_pos rfl]
        omega
      · rw [popn_s, hb] at hi
        have hi' : i < popn k j + 1 := hi
        rw [up_k, es, if_pos rfl, List.getD_eq_getElem?_getD]
        by_cases hip : i = popn k j
        · subst hip
          rw [if_pos rfl, List.getElem?_append_right (by omega), hml, Nat.sub_self]
          rfl
        · rw [if_neg hip, List.getElem?_append_left (by omega), ← List.getD_eq_getElem?_getD]
          exact f2 i (by omega)
/-- what the reference has gathered -/
def FwR (z : Fl) (L : List Nat) (M : Mem) : Prop := MB z M ∧ (∀ i, i < L.length → M 140 i = (L.getD i 0 : Nat)) ∧ ∀ i, i < L.length → ((L.getD i 0 : Nat) : Int) < z 0
theorem FwR.congr {z : Fl} {L : List Nat} {M M' : Mem} (h : FwR z L M) (h1 : M' 126 = M 126) (h2 : M' 140 = M 140) : FwR z L M' := ⟨h.1.congr h1, fun i hi => by rw [h2]; exact h.2.1 i hi, h.2.2⟩
theorem mf_cr {z : Fl} {L : List Nat} {i j : Nat} {M : Mem} {Q : Int → Mem → Prop} (hz : ZOk z) (hg : FwR z L M) (hL : L.length ≤ 10) (hi : i < L.length) (hj : j < L.length) (hQ : Q (car z (L.getD i 0) (L.getD j 0)) M) : wX12_carried 125 (rd M (125 + 15) (i : Int)) (rd M (125 + 15) (j : Int)) M Q := by
  rw [rd_at (k := 125 + 15) (n := i) rfl (by omega), rd_at (k := 125 + 15) (n := j) rfl (by omega), show (125 : Nat) + 15 = 140 from rfl, hg.2.1 i hi, hg.2.1 j hj]
  exact mf_car hz hg.1 (hg.2.2 i hi) (hg.2.2 j hj) rfl rfl hQ
theorem f32_L {z : Fl} {L : List Nat} {s i : Nat} {M : Mem} {Q : Mem → Prop} {E : Int → Mem → Prop} (hz : ZOk z) (hg : FwR z L M) (hL : L.length ≤ 10) (hs : s < 2 ^ L.length) (hi : i < L.length) (hT : ∀ s', s' < s → ∀ j, j < L.length → M 139 (10 * s' + j) = fcs z L 12 s' j) (hQ : E (fcs z L 12 s i) M) : ∀ (m j : Nat) (x4 x5 : Int), j + m = L.length → x5 = (j : Int) → x4 = (if s = 0 then 0 else mnl (fst z L i s) (fun j => s.testBit j) j) → wX12_findLeast_L32 Q E 125 (L.length : Int) (s : Int) (i : Int) (m + 1) x4 x5 M
  | 0, j, x4, x5, hj, h5, h4 => by
    subst h5 h4
    obtain rfl : j = L.length := by omega
    unfold wX12_findLeast_L32
    rw [← fcs_eq hL hs]
    exact BR_t (Int.le_refl _) hQ
  | m + 1, j, x4, x5, hj, h5, h4 => by
    subst h5 h4
    have hs10 : s < 1024 := Nat.lt_of_lt_of_le hs (Nat.le_trans (p2le (m := 10) (by omega)) (by decide))
    have hfb := fun j => fst_b (z := z) (i := i) (st := s) (j := j) hL hs
    have hmb : 0 ≤ mnl (fst z L i s) (fun j => s.testBit j) j ∧ mnl (fst z L i s) (fun j => s.testBit j) j ≤ 1000000 := by
      refine ⟨mnl_nn fun j _ _ => (hfb j).1, ?_⟩
      have : ∀ n, mnl (fst z L i s) (fun j => s.testBit j) n ≤ 1000000 := fun n => by
        induction n with
        | zero => exact Int.le_refl _
        | succ n ih =>
          rw [mnl_s]
          split <;> omega
      exact this j
    unfold wX12_findLeast_L32
    rw [bm_nat (n := L.length) (by omega), bm_nat (n := j) (by omega), shr_bit (by omega) (by omega)]
    refine BR_f (by omega) ?_
    cases hb : s.testBit j
    · rw [if_neg (by decide)]
      refine BR_f (by decide +kernel) (LET_i (f32_L hz hg hL hs hi hT hQ m (j + 1) _ _ (by omega) (by omega) ?_))
      have es : mnl (fst z L i s) (fun j => s.testBit j) (j + 1) = mnl (fst z L i s) (fun j => s.testBit j) j := (mnl_s _ _ _).trans (if_neg fun e => by have h := e.1; rw [hb] at h; cases h)
      rw [es]
    · rw [if_pos rfl]
      have h0 : s ≠ 0 := fun e => by rw [e, Nat.zero_testBit] at hb; cases hb
      have hlt := rmb_lt (by omega) hb
      rw [if_neg h0]
      refine BR_t (by decide +kernel) ⟨inb_of rfl (by omega) (by decide), inb_of rfl (by omega) (by decide), mf_cr hz hg hL hi (by omega) ?_⟩
      rw [rmb_i (by omega) (by omega), rd_at (i := 10 * (rmb s j : Int) + (j : Int)) (n := 10 * rmb s j + j) (by omega) (by omega), show (125 : Nat) + 14 = 139 from rfl, hT _ hlt j (by omega)]
      refine ⟨inb_of (n := 10 * rmb s j + j) (by omega) (by omega) (by decide), LET_i ?_⟩
      show BR (bm (mnl (fst z L i s) (fun j => s.testBit j) j) ≤ bm (fst z L i s j)) (wX12_findLeast_J101 Q _ 125 (L.length : Int) (s : Int) (i : Int) (j : Int) (mnl (fst z L i s) (fun j => s.testBit j) j) M) (wX12_findLeast_J101 Q _ 125 (L.length : Int) (s : Int) (i : Int) (j : Int) (fst z L i s j) M)
      have h1 := hfb j
      unfold wX12_findLeast_J101
      rw [bm_id (z := mnl (fst z L i s) (fun j => s.testBit j) j) (by omega) (by omega), bm_id (z := fst z L i s j) (by omega) (by omega)]
      refine BR_i (fun h => LET_i (f32_L hz hg hL hs hi hT hQ m (j + 1) _ _ (by omega) (by omega) ?_)) (fun h => LET_i (f32_L hz hg hL hs hi hT hQ m (j + 1) _ _ (by omega) (by omega) ?_))
      · rw [if_neg h0, mnl_s, if_neg (fun e => by have := e.2; omega)]
      · rw [if_neg h0, mnl_s, if_pos ⟨hb, by omega⟩]
theorem f11_L {z : Fl} {L : List Nat} {s : Nat} {M0 : Mem} {Q : Mem → Prop} {E : Mem → Prop} (hz : ZOk z) (hg : FwR z L M0) (hL : L.length ≤ 10) (hs : s < 2 ^ L.length) (hQ : ∀ M', (∀ a, a ≠ 139 → M' a = M0 a) → (∀ s', s' < s + 1 → ∀ j, j < L.length → M' 139 (10 * s' + j) = fcs z L 12 s' j) → E M') : ∀ (m i : Nat) (M : Mem) (x3 : Int), i + m = L.length → x3 = (i : Int) → (∀ a, a ≠ 139 → M a = M0 a) → (∀ s', s' < s → ∀ j, j < L.length → M 139 (10 * s' + j) = fcs z L 12 s' j) → (∀ j, j < i → M 139 (10 * s + j) = fcs z L 12 s j) → wX12_findLeast_L11 Q E 125 (L.length : Int) (s : Int) (m + 1) x3 M
  | 0, i, M, x3, hi, h3, f1, f2, f3 => by
    subst h3
    obtain rfl : i = L.length := by omega
    unfold wX12_findLeast_L11
    refine BR_t (Int.le_refl _) (hQ M f1 fun s' hs' j hj => ?_)
    rcases Nat.lt_or_ge s' s with h | h
    · exact f2 s' h j hj
    · obtain rfl : s' = s := by omega
      exact f3 j hj
  | m + 1, i, M, x3, hi, h3, f1, f2, f3 => by
    subst h3
    have hs10 : s < 1024 := Nat.lt_of_lt_of_le hs (Nat.le_trans (p2le (m := 10) (by omega)) (by decide))
    have hg' : FwR z L M := hg.congr (f1 126 (by decide)) (f1 140 (by decide))
    have key : ∀ x : Int, x = (if s = 0 then 0 else 1000000) → wX12_findLeast_J27 Q (fun x3' M' => wX12_findLeast_L11 Q E 125 (L.length : Int) (s : Int) (m + 1) x3' M') 125 (L.length : Int) (s : Int) (i : Int) x M := by
      intro x hx
      unfold wX12_findLeast_J27
      refine ⟨L.length + 1, f32_L hz hg' hL hs (by omega) f2 ?_ L.length 0 _ _ (by omega) rfl hx⟩
      rw [wr_up (i := 10 * (s : Int) + (i : Int)) (n := 10 * s + i) (by omega) (by omega), show (125 : Nat) + 14 = 139 from rfl]
      refine ⟨inb_of (n := 10 * s + i) (by omega) (by omega) (by decide), LET_i (LET_i (f11_L hz hg hL hs hQ m (i + 1) _ _ (by omega) (by omega) (fun a ha => by rw [up_c ha]; exact f1 a ha) (fun s' hs' j hj => by rw [up_kn (by omega)]; exact f2 s' hs' j hj) fun j hj => ?_))⟩
      by_cases hji : j = i
      · subst hji
        rw [up_s]
      · rw [up_kn (by omega)]
        exact f3 j (by omega)
    unfold wX12_findLeast_L11
    rw [bm_nat (n := L.length) (by omega), bm_nat (n := i) (by omega), bm_nat (n := s) (by omega)]
    refine BR_f (by omega) (BR_i (fun h => key _ ?_) (fun h => key _ ?_))
    · rw [if_pos (by omega)]
    · rw [if_neg (by omega)]
theorem f2_L {z : Fl} {L : List Nat} {M0 : Mem} {Q : Mem → Prop} (hz : ZOk z) (hg : FwR z L M0) (hL : L.length ≤ 10) (hQ : ∀ M', (∀ a, a ≠ 139 → M' a = M0 a) → (∀ s', s' < 2 ^ L.length → ∀ j, j < L.length → M' 139 (10 * s' + j) = fcs z L 12 s' j) → Q M') : ∀ (m s : Nat) (M : Mem) (x2 : Int), s + m = 2 ^ L.length → x2 = (s : Int) → (∀ a, a ≠ 139 → M a = M0 a) → (∀ s', s' < s → ∀ j, j < L.length → M 139 (10 * s' + j) = fcs z L 12 s' j) → wX12_findLeast_L2 Q 125 (L.length : Int) (m + 1) x2 M
  | 0, s, M, x2, hs, h2, f1, f2 => by
    subst h2
    obtain rfl : s = 2 ^ L.length := by omega
    unfold wX12_findLeast_L2
    rw [shl_13 _ (by omega)]
    exact BR_t (Int.le_refl _) (hQ M f1 f2)
  | m + 1, s, M, x2, hs, h2, f1, f2 => by
    subst h2
    have hp : 2 ^ L.length ≤ 1024 := Nat.le_trans (p2le (m := 10) (by omega)) (by decide)
    have hg' : FwR z L M := hg.congr (f1 126 (by decide)) (f1 140 (by decide))
    unfold wX12_findLeast_L2
    rw [shl_13 _ (by omega), bm_nat (n := 2 ^ L.length) (by omega), bm_nat (n := s) (by omega)]
    refine BR_f (by omega) ⟨L.length + 1, f11_L (M0 := M) hz hg' hL (by omega) (fun M1 g1 g2 => LET_i (f2_L hz hg hL hQ m (s + 1) M1 _ (by omega) (by omega) (fun a ha => by rw [g1 a ha]; exact f1 a ha) g2)) L.length 0 M _ (by omega) rfl (fun _ _ => rfl) f2 (fun j hj => by omega)⟩
theorem mf_findLeast {z : Fl} {L : List Nat} {M0 : Mem} {Q : Mem → Prop} (hz : ZOk z) (hg : FwR z L M0) (hL : L.length ≤ 10) (hQ : ∀ M', (∀ a, a ≠ 139 → M' a = M0 a) → (∀ s', s' < 2 ^ L.length → ∀ j, j < L.length → M' 139 (10 * s' + j) = fcs z L 12 s' j) → Q M') : wX12_findLeast 125 (L.length : Int) M0 Q := by
  unfold wX12_findLeast
  exact ⟨2 ^ L.length + 1, f2_L hz hg hL hQ (2 ^ L.length) 0 M0 _ (by omega) rfl (fun _ _ => rfl) (fun s' hs' => by omega)⟩
