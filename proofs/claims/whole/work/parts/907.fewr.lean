/-! FEWEST: the reference reads its table -/
def ff (z : Fl) (L : List Nat) (last : Option Nat) (st j : Nat) : Int := stepc z L last j + fcs z L 12 (rmb st j) j
theorem ff_b {z : Fl} {L : List Nat} (hL : L.length ≤ 10) {last : Option Nat} {st j : Nat} (h : st < 2 ^ L.length) : 0 ≤ ff z L last st j ∧ ff z L last st j ≤ 160 := by
  have h1 := fcs_b (z := z) (L := L) (by omega) (f := 12) (st := rmb st j) (i := j) (Nat.lt_of_le_of_lt rmb_le h)
  have h3 := pop_le (rmb st j)
  unfold ff stepc
  cases last with
  | none =>
    show 0 ≤ (0 : Int) + fcs z L 12 (rmb st j) j ∧ (0 : Int) + fcs z L 12 (rmb st j) j ≤ 160
    omega
  | some i =>
    have h2 := car_le z (L.getD i 0) (L.getD j 0)
    show 0 ≤ (car z (L.getD i 0) (L.getD j 0) : Int) + fcs z L 12 (rmb st j) j ∧ (car z (L.getD i 0) (L.getD j 0) : Int) + fcs z L 12 (rmb st j) j ≤ 160
    omega
theorem fst_ff {z : Fl} {L : List Nat} {i st : Nat} : fst z L i st = ff z L (some i) st := by
  funext j
  have e : stepc z L (some i) j = (car z (L.getD i 0) (L.getD j 0) : Int) := rfl
  unfold fst ff
  rw [e]
def lok (L : List Nat) (last : Option Nat) : Prop := ∀ i, last = some i → i < L.length
theorem mf_stp {z : Fl} {L : List Nat} {last : Option Nat} {j : Nat} {M : Mem} {Q : Int → Mem → Prop} (hz : ZOk z) (hg : FwR z L M) (hL : L.length ≤ 10) (hl : lok L last) (hj : j < L.length) (hQ : Q (stepc z L last j) M) : wX12_step 125 (oN last) (j : Int) M Q := by
  unfold wX12_step
  cases last with
  | none => exact BR_f (by decide +kernel) hQ
  | some i =>
    have hi := hl i rfl
    show BR (0 ≤ bm (i : Int)) (inb (i : Int) 10 ∧ inb (j : Int) 10 ∧ wX12_carried 125 (rd M (125 + 15) (i : Int)) (rd M (125 + 15) (j : Int)) M fun r_6 M_5 => Q r_6 M_5) _
    rw [bm_nat (n := i) (by omega)]
    exact BR_t (by omega) ⟨inb_of rfl (by omega) (by decide), inb_of rfl (by omega) (by decide), mf_cr hz hg hL hi hj hQ⟩
theorem mf_stpV {z : Fl} {L : List Nat} {last : Option Nat} {j : Nat} {V : Int} {M : Mem} {Q : Int → Mem → Prop} (hV : stepc z L last j = V) (hz : ZOk z) (hg : FwR z L M) (hL : L.length ≤ 10) (hl : lok L last) (hj : j < L.length) (hQ : Q V M) : wX12_step 125 (oN last) (j : Int) M Q := by
  subst hV
  exact mf_stp hz hg hL hl hj hQ
theorem r187_L {z : Fl} {L : List Nat} {s b : Nat} {last : Option Nat} {M : Mem} {y2 y9 : Int} {Q : Int → Mem → Prop} {E : Int → Mem → Prop} (hz : ZOk z) (hg : FwR z L M) (hL : L.length ≤ 10) (hs : s < 2 ^ L.length) (hl : lok L last) (hT : ∀ s', s' < 2 ^ L.length → ∀ j, j < L.length → M 139 (10 * s' + j) = fcs z L 12 s' j) (hbn : b < L.length) (hbb : s.testBit b = true) (hbf : ∀ j, j < b → s.testBit j = true → ff z L last s j ≠ ff z L last s b) (hQ : E (b : Int) M) : ∀ (m j : Nat) (x10 : Int), j + m = b → x10 = (j : Int) → wX12_fewest_L187 Q E 125 y2 (s : Int) (oN last) (ff z L last s b) y9 (m + 1) x10 M := by
  have hs10 : s < 1024 := Nat.lt_of_lt_of_le hs (Nat.le_trans (p2le (m := 10) (by omega)) (by decide))
  have hval : ∀ j, j < L.length → ∀ (X Y : Prop), (bm (stepc z L last j + rd M (125 + 14) (10 * iAnd (s : Int) (iXor (iShl 1 (j : Int)) (-1)) + (j : Int))) = bm (ff z L last s b) ↔ ff z L last s j = ff z L last s b) ∧ inb (10 * iAnd (s : Int) (iXor (iShl 1 (j : Int)) (-1)) + (j : Int)) 10240 := by
    intro j hj X Y
    have hr : rmb s j ≤ s := rmb_le
    have h1 := ff_b (z := z) (last := last) (j := j) hL hs
    have h2 := ff_b (z := z) (last := last) (j := b) hL hs
    rw [rmb_i (by omega) (by omega), rd_at (i := 10 * (rmb s j : Int) + (j : Int)) (n := 10 * rmb s j + j) (by omega) (by omega), show (125 : Nat) + 14 = 139 from rfl, hT _ (Nat.lt_of_le_of_lt rmb_le hs) j hj]
    refine ⟨?_, inb_of (n := 10 * rmb s j + j) (by omega) (by omega) (by decide)⟩
    show bm (ff z L last s j) = _ ↔ _
    rw [bm_id (z := ff z L last s j) (by omega) (by omega), bm_id (z := ff z L last s b) (by omega) (by omega)]
  intro m
  induction m with
  | zero =>
    intro j x10 hj hx
    subst hx
    obtain rfl : j = b := by omega
    obtain ⟨h1, h2⟩ := hval j hbn True True
    unfold wX12_fewest_L187
    rw [shr_bit (by omega) (by omega), hbb, if_pos rfl]
    exact BR_f (by decide +kernel) (mf_stp hz hg hL hl hbn ⟨h2, BR_t (h1.mpr rfl) hQ⟩)
  | succ m ih =>
    intro j x10 hj hx
    subst hx
    obtain ⟨h1, h2⟩ := hval j (by omega) True True
    unfold wX12_fewest_L187
    rw [shr_bit (by omega) (by omega)]
    cases hb : s.testBit j
    · rw [if_neg (by decide)]
      exact BR_t (by decide +kernel) (LET_i (ih (j + 1) _ (by omega) (by omega)))
    · rw [if_pos rfl]
      exact BR_f (by decide +kernel) (mf_stp hz hg hL hl (by omega) ⟨h2, BR_f (fun e => hbf j (by omega) hb (h1.mp e)) (LET_i (ih (j + 1) _ (by omega) (by omega)))⟩)
theorem r187_V {z : Fl} {L : List Nat} {s b : Nat} {V : Int} {last : Option Nat} {M : Mem} {y2 y9 : Int} {Q : Int → Mem → Prop} {E : Int → Mem → Prop} (hV : ff z L last s b = V) (hz : ZOk z) (hg : FwR z L M) (hL : L.length ≤ 10) (hs : s < 2 ^ L.length) (hl : lok L last) (hT : ∀ s', s' < 2 ^ L.length → ∀ j, j < L.length → M 139 (10 * s' + j) = fcs z L 12 s' j) (hbn : b < L.length) (hbb : s.testBit b = true) (hbf : ∀ j, j < b → s.testBit j = true → ff z L last s j ≠ ff z L last s b) (hQ : E (b : Int) M) : ∃ N, wX12_fewest_L187 Q E 125 y2 (s : Int) (oN last) V y9 N 0 M := by
  subst hV
  exact ⟨b + 1, r187_L hz hg hL hs hl hT hbn hbb hbf hQ b 0 _ (by omega) rfl⟩
theorem r178_L {z : Fl} {L : List Nat} {w : Nat} {M : Mem} {Q : Int → Mem → Prop} (hz : ZOk z) (hg : FwR z L M) (hL : L.length ≤ 10) (hw : w < 12) (hT : ∀ s', s' < 2 ^ L.length → ∀ j, j < L.length → M 139 (10 * s' + j) = fcs z L 12 s' j) : ∀ (c m p s : Nat) (last : Option Nat) (x5 x7 x8 x9 : Int), w = p + c → c < m → c + 1 ≤ pop s → s < 2 ^ L.length → lok L last → x5 = (s : Int) → x7 = oN last → x9 = (p : Int) → x8 = mnl (ff z L last s) (fun j => s.testBit j) L.length → Q (L.getD ((ford z L m s last).getD c 0) 0 : Nat) M → wX12_fewest_L178 Q 125 (w : Int) (c + 2) x5 x7 x8 x9 M := by
  intro c
  induction c with
  | zero =>
    intro m p s last x5 x7 x8 x9 hwp hcm hps hs hl h5 h7 h9 h8 hQ
    subst h5 h7 h9 h8
    have hs12 : s < 4096 := Nat.lt_of_lt_of_le hs (Nat.le_trans (p2le (m := 12) (by omega)) (by decide))
    have hfb := fun j => ff_b (z := z) (last := last) (st := s) (j := j) hL hs
    obtain ⟨am1, am2⟩ := amn_mnl (f := ff z L last s) (p := fun j => s.testBit j) (n := L.length) (fun j _ _ => by have := hfb j; omega)
    obtain ⟨m', rfl⟩ : ∃ m', m = m' + 1 := ⟨m - 1, by omega⟩
    have hfo := ford_s z L m' s last
    cases ha : amn (ff z L last s) (fun j => s.testBit j) L.length with
    | none =>
      exfalso
      have h0 : s = 0 := Nat.eq_of_testBit_eq fun k => by
        rw [Nat.zero_testBit]
        rcases Nat.lt_or_ge k L.length with q | q
        · exact (am1 ha).2 k q
        · exact tb_big hs q
      rw [h0, show pop 0 = 0 by decide +kernel] at hps
      omega
    | some b =>
      obtain ⟨a1, a2, a3, a4, a5⟩ := am2 b ha
      have hfo' : ford z L (m' + 1) s last = b :: ford z L m' (rmb s b) (some b) := by
        rw [hfo]
        show (match amn (ff z L last s) (fun j => s.testBit j) L.length with
          | none => []
          | some j => j :: ford z L m' (rmb s j) (some j)) = _
        rw [ha]
      rw [hfo', List.getD_cons_zero] at hQ
      obtain ⟨V, hV⟩ : ∃ V, ff z L last s b = V := ⟨_, rfl⟩
      obtain ⟨S, hS⟩ : ∃ S, stepc z L last b = S := ⟨_, rfl⟩
      rw [a1, hV]
      unfold wX12_fewest_L178
      rw [bm_nat (n := w) (by omega), bm_nat (n := p) (by omega)]
      refine BR_f (by omega) (r187_V hV hz hg hL hs hl hT a2 a3 a5 (mf_stpV hS hz hg hL hl a2 (LET_i (LET_i (LET_i ?_)))))
      unfold wX12_fewest_L178
      refine BR_t (by rw [bm_nat (n := w) (by omega), bm_id (z := (p : Int) + 1) (by omega) (by omega)]; omega) ⟨inb_of rfl (by omega) (by decide), ?_⟩
      rw [rd_at (k := 125 + 15) (n := b) rfl (by omega), show (125 : Nat) + 15 = 140 from rfl, hg.2.1 b a2]
      exact hQ
  | succ c ih =>
    intro m p s last x5 x7 x8 x9 hwp hcm hps hs hl h5 h7 h9 h8 hQ
    subst h5 h7 h9 h8
    have hs12 : s < 4096 := Nat.lt_of_lt_of_le hs (Nat.le_trans (p2le (m := 12) (by omega)) (by decide))
    have hfb := fun j => ff_b (z := z) (last := last) (st := s) (j := j) hL hs
    obtain ⟨am1, am2⟩ := amn_mnl (f := ff z L last s) (p := fun j => s.testBit j) (n := L.length) (fun j _ _ => by have := hfb j; omega)
    obtain ⟨m', rfl⟩ : ∃ m', m = m' + 1 := ⟨m - 1, by omega⟩
    have hfo := ford_s z L m' s last
    cases ha : amn (ff z L last s) (fun j => s.testBit j) L.length with
    | none =>
      exfalso
      have h0 : s = 0 := Nat.eq_of_testBit_eq fun k => by
        rw [Nat.zero_testBit]
        rcases Nat.lt_or_ge k L.length with q | q
        · exact (am1 ha).2 k q
        · exact tb_big hs q
      rw [h0, show pop 0 = 0 by decide +kernel] at hps
      omega
    | some b =>
      obtain ⟨a1, a2, a3, a4, a5⟩ := am2 b ha
      have hfo' : ford z L (m' + 1) s last = b :: ford z L m' (rmb s b) (some b) := by
        rw [hfo]
        show (match amn (ff z L last s) (fun j => s.testBit j) L.length with
          | none => []
          | some j => j :: ford z L m' (rmb s j) (some j)) = _
        rw [ha]
      rw [hfo', List.getD_cons_succ] at hQ
      have hpr := pop_rmb a3 (by omega)
      have hrs : rmb s b < 2 ^ L.length := Nat.lt_of_le_of_lt rmb_le hs
      obtain ⟨V, hV⟩ : ∃ V, ff z L last s b = V := ⟨_, rfl⟩
      obtain ⟨S, hS⟩ : ∃ S, stepc z L last b = S := ⟨_, rfl⟩
      rw [a1, hV]
      unfold wX12_fewest_L178
      rw [bm_nat (n := w) (by omega), bm_nat (n := p) (by omega)]
      refine BR_f (by omega) (r187_V hV hz hg hL hs hl hT a2 a3 a5 (mf_stpV hS hz hg hL hl a2 (LET_i (LET_i (LET_i ?_)))))
      refine ih m' (p + 1) (rmb s b) (some b) _ _ _ _ (by omega) (by omega) (by omega) hrs (fun i hi => by rw [← Option.some.inj hi]; exact a2) (rmb_i hs12 (by omega)) rfl (by omega) ?_ hQ
      have e1 : V - S = fcs z L 12 (rmb s b) b := by
        rw [← hV, ← hS]
        unfold ff
        omega
      rw [e1, fcs_eq hL hrs, if_neg (fun h0 => by rw [h0, show pop 0 = 0 by decide +kernel] at hpr; omega), fst_ff]
theorem r111_L {z : Fl} {L : List Nat} {M : Mem} {y2 : Int} {Q : Int → Mem → Prop} {E : Int → Mem → Prop} (hL : L.length ≤ 10) (hT : ∀ s', s' < 2 ^ L.length → ∀ j, j < L.length → M 139 (10 * s' + j) = fcs z L 12 s' j) (hQ : E (mnl (fz z L) (fun _ => true) L.length) M) : ∀ (m j : Nat) (x6 x7 : Int), j + m = L.length → x7 = (j : Int) → x6 = mnl (fz z L) (fun _ => true) j → wX12_fewest_L111 Q E 125 y2 (L.length : Int) ((2 ^ L.length - 1 : Nat) : Int) (m + 1) x6 x7 M
  | 0, j, x6, x7, hj, h7, h6 => by
    subst h7 h6
    obtain rfl : j = L.length := by omega
    unfold wX12_fewest_L111
    exact BR_t (Int.le_refl _) hQ
  | m + 1, j, x6, x7, hj, h7, h6 => by
    subst h7 h6
    have hp : 2 ^ L.length ≤ 1024 := Nat.le_trans (p2le (m := 10) (by omega)) (by decide)
    have hp0 : 0 < 2 ^ L.length := Nat.two_pow_pos _
    have hr : rmb (2 ^ L.length - 1) j ≤ 2 ^ L.length - 1 := rmb_le
    have hfb : ∀ i, 0 ≤ fz z L i ∧ fz z L i ≤ 144 := fun i => by
      have h1 := fcs_b (z := z) (L := L) (by omega) (f := 12) (st := rmb (2 ^ L.length - 1) i) (i := i) (Nat.lt_of_le_of_lt rmb_le (by omega))
      have h3 := pop_le (rmb (2 ^ L.length - 1) i)
      unfold fz
      omega
    have hmb : 0 ≤ mnl (fz z L) (fun _ => true) j ∧ mnl (fz z L) (fun _ => true) j ≤ 1000000 := by
      refine ⟨mnl_nn fun j _ _ => (hfb j).1, ?_⟩
      have : ∀ n, mnl (fz z L) (fun _ => true) n ≤ 1000000 := fun n => by
        induction n with
        | zero => exact Int.le_refl _
        | succ n ih =>
          rw [mnl_s]
          split <;> omega
      exact this j
    have h1 := hfb j
    have e : M 139 (10 * rmb (2 ^ L.length - 1) j + j) = fz z L j := hT _ (by omega) j (by omega)
    unfold wX12_fewest_L111
    rw [bm_nat (n := L.length) (by omega), bm_nat (n := j) (by omega), rmb_i (by omega) (by omega), rd_at (i := 10 * (rmb (2 ^ L.length - 1) j : Int) + (j : Int)) (n := 10 * rmb (2 ^ L.length - 1) j + j) (by omega) (by omega), show (125 : Nat) + 14 = 139 from rfl, e]
    refine BR_f (by omega) ⟨inb_of (n := 10 * rmb (2 ^ L.length - 1) j + j) (by omega) (by omega) (by decide), LET_i ?_⟩
    unfold wX12_fewest_J153
    rw [bm_id (z := mnl (fz z L) (fun _ => true) j) (by omega) (by omega), bm_id (z := fz z L j) (by omega) (by omega)]
    refine BR_i (fun h => LET_i (r111_L hL hT hQ m (j + 1) _ _ (by omega) (by omega) ?_)) (fun h => LET_i (r111_L hL hT hQ m (j + 1) _ _ (by omega) (by omega) ?_))
    · rw [mnl_s, if_neg (fun e => by have := e.2; omega)]
    · rw [mnl_s, if_pos ⟨rfl, by omega⟩]
