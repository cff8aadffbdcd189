/-! FEWEST: the class's table -/
def oN : Option Nat → Int
  | none => -1
  | some b => (b : Int)
/-- what the class has gathered -/
def FwG (z : Fl) (L : List Nat) (M : Mem) : Prop := CB z M ∧ M 108 3 = (L.length : Int) ∧ ∀ i, i < L.length → M 110 i = (L.getD i 0 : Nat)
theorem FwG.congr {z : Fl} {L : List Nat} {M M' : Mem} (hz : ZOk z) (h : FwG z L M) (hc : ∀ a, a ≤ 86 → M' a = M a) (h8 : M' 108 3 = M 108 3) (h10 : M' 110 = M 110) : FwG z L M' :=
  ⟨h.1.congr hz fun a ha => hc a (by omega), by rw [h8]; exact h.2.1, fun i hi => by rw [h10]; exact h.2.2 i hi⟩
def TabAt (z : Fl) (L : List Nat) (T : Nat → Int) (s j : Nat) : Prop := s.testBit j = true → T (s * 10 + j) = fcs z L 12 (rmb s j) j
theorem rmb_i {s i : Nat} (hs : s < 4096) (hi : i < 12) : iAnd (s : Int) (iXor (iShl 1 (i : Int)) (-1)) = ((rmb s i : Nat) : Int) := by
  rw [shl_one i hi]
  exact iAnd_not (by omega) (Nat.lt_of_lt_of_le (Nat.pow_lt_pow_right (by decide) hi) (by decide))
theorem lf_leastBy {z : Fl} {L : List Nat} {B s i j : Nat} {M : Mem} {Q : Int → Mem → Prop} (hz : ZOk z) (hg : FwG z L M) (hL : L.length ≤ 10) (hLz : ∀ i, i < L.length → ((L.getD i 0 : Nat) : Int) < z 0) (hs : s < 1024) (hi : i < L.length) (hj : j < L.length) (hQ : Q ((car z (L.getD i 0) (L.getD j 0) : Int) + M B (rmb s i * 10 + j)) M) : wX7_leastBy 108 B (s : Int) (i : Int) (j : Int) M Q := by
  have hz0 := hz.1
  have hi' := hLz i hi
  have hj' := hLz j hj
  have hr : rmb s i ≤ s := rmb_le
  unfold wX7_leastBy
  rw [rmb_i (by omega) (by omega), rd_at (k := 108 + 2) (n := i) rfl (by omega), rd_at (k := 108 + 2) (n := j) rfl (by omega), show (108 : Nat) + 2 = 110 from rfl, hg.2.2 i hi, hg.2.2 j hj, bnn (n := L.getD i 0) (by omega), bnn (n := L.getD j 0) (by omega)]
  refine LET_i ⟨inb_of rfl (by omega) (by decide), inb_of rfl (by omega) (by decide), inb_of rfl (by omega) (by decide), inb_of rfl (by omega) (by decide), lf_carr hz hg.1 hi' hj' ⟨inb_of (n := rmb s i * 10 + j) (by omega) (by omega) (by decide), ?_⟩⟩
  rw [rd_at (i := (rmb s i : Int) * 10 + (j : Int)) (n := rmb s i * 10 + j) (by omega) (by omega)]
  exact hQ
theorem fst_b {z : Fl} {L : List Nat} (hL : L.length ≤ 10) {i st j : Nat} (h : st < 2 ^ L.length) : 0 ≤ fst z L i st j ∧ fst z L i st j ≤ 160 := by
  have h1 := fcs_b (z := z) (L := L) (by omega) (f := 12) (st := rmb st j) (i := j) (Nat.lt_of_le_of_lt rmb_le h)
  have h2 := car_le z (L.getD i 0) (L.getD j 0)
  have h3 := pop_le (rmb st j)
  unfold fst
  omega
theorem nx_L {z : Fl} {L : List Nat} {B s i : Nat} {M : Mem} {Q : Int → Mem → Prop} (hz : ZOk z) (hg : FwG z L M) (hL : L.length ≤ 10) (hLz : ∀ i, i < L.length → ((L.getD i 0 : Nat) : Int) < z 0) (hs : s < 2 ^ L.length) (hi : i < L.length) (hT : ∀ j, j < L.length → TabAt z L (M B) (rmb s i) j) (hQ : Q (oN (amn (fst z L i (rmb s i)) (fun j => (rmb s i).testBit j) L.length)) M) : ∀ (m j : Nat) (x5 x6 x7 : Int), j + m = L.length → x7 = (j : Int) → x5 = oN (amn (fst z L i (rmb s i)) (fun j => (rmb s i).testBit j) j) → (∀ b, amn (fst z L i (rmb s i)) (fun j => (rmb s i).testBit j) j = some b → x6 = fst z L i (rmb s i) b) → wX7_nextOf_L18 Q 108 B (s : Int) (i : Int) (rmb s i : Int) (m + 1) x5 x6 x7 M
  | 0, j, x5, x6, x7, hj, h7, h5, h6 => by
    subst h7 h5
    obtain rfl : j = L.length := by omega
    unfold wX7_nextOf_L18
    rw [hg.2.1]
    exact BR_t (Int.le_refl _) hQ
  | m + 1, j, x5, x6, x7, hj, h7, h5, h6 => by
    subst h7 h5
    have hs10 : s < 1024 := Nat.lt_of_lt_of_le hs (Nat.le_trans (p2le (m := 10) (by omega)) (by decide))
    have hr : rmb s i ≤ s := rmb_le
    have hfb := fun j => fst_b (z := z) (i := i) (st := rmb s i) (j := j) hL (Nat.lt_of_le_of_lt hr hs)
    have es := amn_s (fst z L i (rmb s i)) (fun j => (rmb s i).testBit j) j
    have hcg := (amn_cg (f := fst z L i (rmb s i)) (g := fst z L i (rmb s i)) (p := fun j => (rmb s i).testBit j) (q := fun j => (rmb s i).testBit j) (n := j) (fun _ _ => rfl) (fun _ _ _ => rfl)).2
    unfold wX7_nextOf_L18
    rw [hg.2.1, bm_nat (n := L.length) (by omega), bm_nat (n := j) (by omega), lf_isIn rfl rfl (by omega) (by omega)]
    refine BR_f (by omega) ?_
    cases hb : (rmb s i).testBit j
    · rw [if_neg (by decide)]
      have es' : amn (fst z L i (rmb s i)) (fun j => (rmb s i).testBit j) (j + 1) = amn (fst z L i (rmb s i)) (fun j => (rmb s i).testBit j) j := by
        rw [es, if_neg (by rw [hb]; decide)]
      exact BR_t q0 (LET_i (nx_L hz hg hL hLz hs hi hT hQ m (j + 1) _ _ _ (by omega) (by omega) (by rw [es']) (by rw [es']; exact h6)))
    · rw [if_pos rfl]
      refine BR_f q1 (lf_leastBy hz hg hL hLz hs10 hi (by omega) ?_)
      rw [hT j (by omega) hb]
      show BR (bm (oN (amn (fst z L i (rmb s i)) (fun j => (rmb s i).testBit j) j)) < 0) (wX7_nextOf_J63 Q _ 108 B (s : Int) (i : Int) (rmb s i : Int) (j : Int) (fst z L i (rmb s i) j) M) (BR (bm x6 ≤ bm (fst z L i (rmb s i) j)) _ (wX7_nextOf_J63 Q _ 108 B (s : Int) (i : Int) (rmb s i : Int) (j : Int) (fst z L i (rmb s i) j) M))
      unfold wX7_nextOf_J63
      have hfj := hfb j
      cases ha : amn (fst z L i (rmb s i)) (fun j => (rmb s i).testBit j) j with
      | none =>
        rw [ha] at es
        have es' : amn (fst z L i (rmb s i)) (fun j => (rmb s i).testBit j) (j + 1) = some j := by rw [es, if_pos hb]
        refine BR_t (by decide +kernel) (LET_i (nx_L hz hg hL hLz hs hi hT hQ m (j + 1) _ _ _ (by omega) (by omega) (by rw [es']; rfl) fun b hb' => ?_))
        rw [es'] at hb'
        rw [← Option.some.inj hb']
      | some b0 =>
        have hx6 := h6 b0 ha
        subst hx6
        have hb0 := (hcg b0 ha).1
        have hfb0 := hfb b0
        rw [ha] at es
        have es' : amn (fst z L i (rmb s i)) (fun j => (rmb s i).testBit j) (j + 1) = if fst z L i (rmb s i) j < fst z L i (rmb s i) b0 then some j else some b0 := by rw [es, if_pos hb]
        show BR (bm (b0 : Int) < 0) _ _
        rw [bm_nat (n := b0) (by omega), bm_id (z := fst z L i (rmb s i) b0) (by omega) (by omega), bm_id (z := fst z L i (rmb s i) j) (by omega) (by omega)]
        refine BR_f (by omega) (BR_i (fun h => LET_i (nx_L hz hg hL hLz hs hi hT hQ m (j + 1) _ _ _ (by omega) (by omega) ?_ fun b hb' => ?_)) (fun h => LET_i (nx_L hz hg hL hLz hs hi hT hQ m (j + 1) _ _ _ (by omega) (by omega) ?_ fun b hb' => ?_)))
        · rw [es', if_neg (by omega)]
        · rw [es', if_neg (by omega)] at hb'
          rw [← Option.some.inj hb']
        · rw [es', if_pos (by omega)]
          rfl
        · rw [es', if_pos (by omega)] at hb'
          rw [← Option.some.inj hb']
theorem lf_nextOf {z : Fl} {L : List Nat} {B s i : Nat} {M : Mem} {Q : Int → Mem → Prop} (hz : ZOk z) (hg : FwG z L M) (hL : L.length ≤ 10) (hLz : ∀ i, i < L.length → ((L.getD i 0 : Nat) : Int) < z 0) (hs : s < 2 ^ L.length) (hi : i < L.length) (hT : ∀ j, j < L.length → TabAt z L (M B) (rmb s i) j) (hQ : Q (oN (amn (fst z L i (rmb s i)) (fun j => (rmb s i).testBit j) L.length)) M) : wX7_nextOf 108 B (s : Int) (i : Int) M Q := by
  have hs12 : s < 4096 := Nat.lt_of_lt_of_le hs (Nat.le_trans (p2le (m := 12) (by omega)) (by decide))
  unfold wX7_nextOf
  rw [rmb_i hs12 (by omega)]
  exact LET_i (LET_i ⟨L.length + 1, nx_L hz hg hL hLz hs hi hT hQ L.length 0 _ _ _ (by omega) rfl rfl (fun b h => by cases h)⟩)
theorem fl14_L {z : Fl} {L : List Nat} {B s : Nat} {M0 : Mem} {Q : Mem → Prop} {E : Mem → Prop} (hz : ZOk z) (hB : 148 ≤ B) (hg : FwG z L M0) (hL : L.length ≤ 10) (hLz : ∀ i, i < L.length → ((L.getD i 0 : Nat) : Int) < z 0) (hs : s < 2 ^ L.length) (hQ : ∀ M', (∀ a, a ≠ B → M' a = M0 a) → (∀ s', s' < s + 1 → ∀ j, j < L.length → TabAt z L (M' B) s' j) → E M') : ∀ (m i : Nat) (M : Mem) (x3 : Int), i + m = L.length → x3 = (i : Int) → (∀ a, a ≠ B → M a = M0 a) → (∀ s', s' < s → ∀ j, j < L.length → TabAt z L (M B) s' j) → (∀ j, j < i → TabAt z L (M B) s j) → wX7_fillLeast_L14 Q E 108 B (s : Int) (m + 1) x3 M
  | 0, i, M, x3, hi, h3, f1, f2, f3 => by
    subst h3
    obtain rfl : i = L.length := by omega
    unfold wX7_fillLeast_L14
    rw [f1 108 (by omega), hg.2.1]
    refine BR_t (Int.le_refl _) (hQ M f1 fun s' hs' j hj => ?_)
    rcases Nat.lt_or_ge s' s with h | h
    · exact f2 s' h j hj
    · obtain rfl : s' = s := by omega
      exact f3 j hj
  | m + 1, i, M, x3, hi, h3, f1, f2, f3 => by
    subst h3
    have hs10 : s < 1024 := Nat.lt_of_lt_of_le hs (Nat.le_trans (p2le (m := 10) (by omega)) (by decide))
    have hg' : FwG z L M := hg.congr hz (fun a ha => f1 a (by omega)) (by rw [f1 108 (by omega)]) (f1 110 (by omega))
    unfold wX7_fillLeast_L14
    rw [f1 108 (by omega), hg.2.1, bm_nat (n := L.length) (by omega), bm_nat (n := i) (by omega), lf_isIn rfl rfl (by omega) (by omega)]
    refine BR_f (by omega) ?_
    cases hb : s.testBit i
    · rw [if_neg (by decide)]
      refine BR_t q0 (LET_i (fl14_L hz hB hg hL hLz hs hQ m (i + 1) M _ (by omega) (by omega) f1 f2 fun j hj => ?_))
      by_cases hji : j = i
      · subst hji
        intro h
        rw [hb] at h
        cases h
      · exact f3 j (by omega)
    · rw [if_pos rfl]
      have hlt : rmb s i < s := rmb_lt (by omega) hb
      have hT : ∀ j, j < L.length → TabAt z L (M B) (rmb s i) j := f2 _ hlt
      have hfb := fun j => fst_b (z := z) (i := i) (st := rmb s i) (j := j) hL (Nat.lt_of_le_of_lt rmb_le hs)
      have hfc := fcs_b (z := z) (L := L) (by omega) (f := 12) (st := rmb s i) (i := i) (Nat.lt_of_le_of_lt rmb_le hs)
      have hpr := pop_rmb hb (by omega)
      have hps : pop s ≤ 10 := by
        have h1 : popn s (L.length + (12 - L.length)) = popn s 12 := by rw [show L.length + (12 - L.length) = 12 by omega]
        have h2 : (mems s (L.length + (12 - L.length))).length = (mems s L.length).length := by rw [mems_ext hs]
        rw [mems_len, mems_len, h1] at h2
        have := popn_le s L.length
        show popn s 12 ≤ 10
        omega
      have hfe := fcs_eq (z := z) hL (st := rmb s i) (i := i) (Nat.lt_of_le_of_lt rmb_le hs)
      obtain ⟨am1, am2⟩ := amn_mnl (f := fst z L i (rmb s i)) (p := fun j => (rmb s i).testBit j) (n := L.length) (fun j _ _ => by have := hfb j; omega)
      have fin : ∀ x : Int, x = fcs z L 12 (rmb s i) i → wX7_fillLeast_J57 Q (fun x3' M' => wX7_fillLeast_L14 Q E 108 B (s : Int) (m + 1) x3' M') 108 B (s : Int) (i : Int) x M := by
        intro x hx
        subst hx
        unfold wX7_fillLeast_J57
        rw [iB2, show Int.bmod (fcs z L 12 (rmb s i) i) 256 = fcs z L 12 (rmb s i) i from Int.bmod_eq_of_le (by omega) (by omega), wr_up (i := (s : Int) * 10 + (i : Int)) (n := s * 10 + i) (by omega) (by omega)]
        refine ⟨inb_of (n := s * 10 + i) (by omega) (by omega) (by decide), LET_i (LET_i (fl14_L hz hB hg hL hLz hs hQ m (i + 1) _ _ (by omega) (by omega) (fun a ha => by rw [up_c ha]; exact f1 a ha) (fun s' hs' j hj hbj => ?_) fun j hj hbj => ?_))⟩
        · rw [up_kn (by omega)]
          exact f2 s' hs' j hj hbj
        · by_cases hji : j = i
          · subst hji
            rw [up_s]
          · rw [up_kn (by omega)]
            exact f3 j (by omega) hbj
      refine BR_f q1 (lf_nextOf hz hg' hL hLz hs (by omega) hT ?_)
      cases ha : amn (fst z L i (rmb s i)) (fun j => (rmb s i).testBit j) L.length with
      | none =>
        refine BR_f (by decide +kernel) (fin 0 ?_)
        rw [hfe]
        have h0 : rmb s i = 0 := Nat.eq_of_testBit_eq fun k => by
          rw [Nat.zero_testBit]
          rcases Nat.lt_or_ge k L.length with q | q
          · exact (am1 ha).2 k q
          · exact tb_big (Nat.lt_of_le_of_lt rmb_le hs) q
        rw [if_pos h0]
      | some b =>
        obtain ⟨c1, c2, c3, _, _⟩ := am2 b ha
        refine BR_t (by show 0 ≤ bm (b : Int); rw [bm_nat (n := b) (by omega)]; omega) (lf_leastBy hz hg' hL hLz hs10 (by omega) c2 (fin _ ?_))
        rw [hT b c2 c3, hfe, if_neg (fun h0 => by rw [h0, Nat.zero_testBit] at c3; cases c3), c1]
        rfl
theorem fl2_L {z : Fl} {L : List Nat} {B : Nat} {M0 : Mem} {Q : Mem → Prop} (hz : ZOk z) (hB : 148 ≤ B) (hg : FwG z L M0) (hL : L.length ≤ 10) (hLz : ∀ i, i < L.length → ((L.getD i 0 : Nat) : Int) < z 0) (hQ : ∀ M', (∀ a, a ≠ B → M' a = M0 a) → (∀ s', s' < 2 ^ L.length → ∀ j, j < L.length → TabAt z L (M' B) s' j) → Q M') : ∀ (m s : Nat) (M : Mem) (x2 : Int), s + m = 2 ^ L.length → x2 = (s : Int) → (∀ a, a ≠ B → M a = M0 a) → (∀ s', s' < s → ∀ j, j < L.length → TabAt z L (M B) s' j) → wX7_fillLeast_L2 Q 108 B (m + 1) x2 M
  | 0, s, M, x2, hs, h2, f1, f2 => by
    subst h2
    obtain rfl : s = 2 ^ L.length := by omega
    unfold wX7_fillLeast_L2
    rw [f1 108 (by omega), hg.2.1, shl_13 _ (by omega)]
    exact BR_t (Int.le_refl _) (hQ M f1 f2)
  | m + 1, s, M, x2, hs, h2, f1, f2 => by
    subst h2
    have hp : 2 ^ L.length ≤ 1024 := Nat.le_trans (p2le (m := 10) (by omega)) (by decide)
    have hg' : FwG z L M := hg.congr hz (fun a ha => f1 a (by omega)) (by rw [f1 108 (by omega)]) (f1 110 (by omega))
    unfold wX7_fillLeast_L2
    rw [f1 108 (by omega), hg.2.1, shl_13 _ (by omega), bm_nat (n := 2 ^ L.length) (by omega), bm_nat (n := s) (by omega)]
    refine BR_f (by omega) ⟨L.length + 1, fl14_L (M0 := M) hz hB hg' hL hLz (by omega) (fun M1 g1 g2 => LET_i (fl2_L hz hB hg hL hLz hQ m (s + 1) M1 _ (by omega) (by omega) (fun a ha => by rw [g1 a ha]; exact f1 a ha) g2)) L.length 0 M _ (by omega) rfl (fun _ _ => rfl) f2 (fun j hj => by omega)⟩
theorem lf_fillLeast {z : Fl} {L : List Nat} {B : Nat} {M0 : Mem} {Q : Mem → Prop} (hz : ZOk z) (hB : 148 ≤ B) (hg : FwG z L M0) (hL : L.length ≤ 10) (hLz : ∀ i, i < L.length → ((L.getD i 0 : Nat) : Int) < z 0) (hQ : ∀ M', (∀ a, a ≠ B → M' a = M0 a) → (∀ s', s' < 2 ^ L.length → ∀ j, j < L.length → TabAt z L (M' B) s' j) → Q M') : wX7_fillLeast 108 B M0 Q := by
  have hp : 0 < 2 ^ L.length := Nat.two_pow_pos _
  unfold wX7_fillLeast
  refine ⟨(2 ^ L.length - 1) + 1, fl2_L hz hB hg hL hLz hQ (2 ^ L.length - 1) 1 M0 _ (by omega) rfl (fun _ _ => rfl) (fun s' hs' j hj hbj => ?_)⟩
  obtain rfl : s' = 0 := by omega
  rw [Nat.zero_testBit] at hbj
  cases hbj
