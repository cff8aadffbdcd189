/-! FEWEST: the class's answer -/
def fz (z : Fl) (L : List Nat) (j : Nat) : Int := fcs z L 12 (rmb (2 ^ L.length - 1) j) j
theorem r14_L {z : Fl} {L : List Nat} {B : Nat} {M : Mem} {Q : Mem → Prop} {E : Int → Mem → Prop} (hL : L.length ≤ 10) (h3 : M 108 3 = (L.length : Int)) (hT : ∀ j, j < L.length → M B ((2 ^ L.length - 1) * 10 + j) = fz z L j) (hQ : ∀ b, amn (fz z L) (fun _ => true) L.length = some b → E (b : Int) M) : ∀ (m j b : Nat) (x3 x4 : Int), j + m = L.length → x4 = (j : Int) → x3 = (b : Int) → amn (fz z L) (fun _ => true) j = some b → wX7_readOrder_L14 Q E 108 B ((2 ^ L.length - 1 : Nat) : Int) (m + 1) x3 x4 M
  | 0, j, b, x3, x4, hj, h4, hx, ha => by
    subst h4 hx
    obtain rfl : j = L.length := by omega
    unfold wX7_readOrder_L14
    rw [h3]
    exact BR_t (Int.le_refl _) (hQ b ha)
  | m + 1, j, b, x3, x4, hj, h4, hx, ha => by
    subst h4 hx
    have hp : 2 ^ L.length ≤ 1024 := Nat.le_trans (p2le (m := 10) (by omega)) (by decide)
    have hp0 : 0 < 2 ^ L.length := Nat.two_pow_pos _
    have hb := (amn_cg (f := fz z L) (g := fz z L) (p := fun _ => true) (q := fun _ => true) (n := j) (fun _ _ => rfl) (fun _ _ _ => rfl)).2 b ha
    have hfb : ∀ i, 0 ≤ fz z L i ∧ fz z L i ≤ 144 := fun i => by
      have h1 := fcs_b (z := z) (L := L) (by omega) (f := 12) (st := rmb (2 ^ L.length - 1) i) (i := i) (Nat.lt_of_le_of_lt rmb_le (by omega))
      have h3 := pop_le (rmb (2 ^ L.length - 1) i)
      unfold fz
      omega
    have es := amn_s (fz z L) (fun _ => true) j
    rw [if_pos rfl, ha] at es
    have es' : amn (fz z L) (fun _ => true) (j + 1) = if fz z L j < fz z L b then some j else some b := es
    have h1 := hfb j
    have h2 := hfb b
    unfold wX7_readOrder_L14
    rw [h3, bm_nat (n := L.length) (by omega), bm_nat (n := j) (by omega), rd_at (i := ((2 ^ L.length - 1 : Nat) : Int) * 10 + (j : Int)) (n := (2 ^ L.length - 1) * 10 + j) (by omega) (by omega), rd_at (i := ((2 ^ L.length - 1 : Nat) : Int) * 10 + (b : Int)) (n := (2 ^ L.length - 1) * 10 + b) (by omega) (by omega), hT j (by omega), hT b (by omega), bm_id (z := fz z L j) (by omega) (by omega), bm_id (z := fz z L b) (by omega) (by omega)]
    refine BR_f (by omega) ⟨inb_of (n := (2 ^ L.length - 1) * 10 + j) (by omega) (by omega) (by decide), inb_of (n := (2 ^ L.length - 1) * 10 + b) (by omega) (by omega) (by decide), BR_i (fun h => LET_i (r14_L hL h3 hT hQ m (j + 1) b _ _ (by omega) (by omega) rfl ?_)) (fun h => LET_i (r14_L hL h3 hT hQ m (j + 1) j _ _ (by omega) (by omega) rfl ?_))⟩
    · rw [es', if_neg (by omega)]
    · rw [es', if_pos (by omega)]
theorem full_pop {L : List Nat} (hL : L.length ≤ 10) : pop (2 ^ L.length - 1) = L.length := by
  have : ∀ n, n ≤ 10 → pop (2 ^ n - 1) = n := by decide +kernel
  exact this _ hL
theorem lf_readOrder {z : Fl} {k B : Nat} {M : Mem} {Q : Mem → Prop} (hz : ZOk z) (hB : 148 ≤ B) (h1 : 1 ≤ pop k) (hL : pop k ≤ 10) (hLz : ∀ x ∈ mems k 12, (x : Int) < z 0) (hg : FwG z (mems k 12) M) (hT : ∀ s', s' < 2 ^ (mems k 12).length → ∀ j, j < (mems k 12).length → TabAt z (mems k 12) (M B) s' j) (hQ : ∀ M' : Mem, (∀ a, a ≠ 108 → a ≠ 109 → M' a = M a) → (∀ j, j ≠ 4 → M' 108 j = M 108 j) → SsHas z k M' → Q M') : wX7_readOrder 108 B M Q := by
  have hml : (mems k 12).length = pop k := mems_len k 12
  generalize hLL : mems k 12 = L at hLz hg hT hml
  have hn : L.length = pop k := hml
  have hLz' : ∀ i, i < L.length → ((L.getD i 0 : Nat) : Int) < z 0 := fun i hi => hLz _ (by
    rw [List.getD_eq_getElem?_getD, List.getElem?_eq_getElem hi]
    exact List.getElem_mem _)
  have hp : 2 ^ L.length ≤ 1024 := Nat.le_trans (p2le (m := 10) (by omega)) (by decide)
  have hp0 : 0 < 2 ^ L.length := Nat.two_pow_pos _
  have hTf : ∀ j, j < L.length → M B ((2 ^ L.length - 1) * 10 + j) = fz z L j := fun j hj => hT _ (by omega) j hj (by rw [Nat.testBit_two_pow_sub_one]; exact decide_eq_true hj)
  have hfb : ∀ i, 0 ≤ fz z L i ∧ fz z L i ≤ 144 := fun i => by
    have h1 := fcs_b (z := z) (L := L) (by omega) (f := 12) (st := rmb (2 ^ L.length - 1) i) (i := i) (Nat.lt_of_le_of_lt rmb_le (by omega))
    have h3 := pop_le (rmb (2 ^ L.length - 1) i)
    unfold fz
    omega
  have hx2 : iShl 1 (M 108 3) - 1 = ((2 ^ L.length - 1 : Nat) : Int) := by
    rw [hg.2.1, shl_13 _ (by omega)]
    omega
  unfold wX7_readOrder
  rw [hx2]
  refine LET_i ⟨L.length - 1 + 1, r14_L (z := z) (by omega) hg.2.1 hTf (fun b hb => ?_) (L.length - 1) 1 0 _ _ (by omega) rfl rfl rfl⟩
  obtain ⟨a1, a2, _, _, _⟩ := (amn_mnl (f := fz z L) (p := fun _ => true) (n := L.length) (fun j _ _ => by have := hfb j; omega)).2 b hb
  rw [rd_at (i := ((2 ^ L.length - 1 : Nat) : Int) * 10 + (b : Int)) (n := (2 ^ L.length - 1) * 10 + b) (by omega) (by omega), hTf b a2]
  have hcost : fz z L b = fewCost z k := by
    rw [← a1]
    unfold fewCost
    rw [hLL, hn]
    refine mnl_cg (fun _ _ => rfl) fun j _ _ => ?_
    unfold fz
    rw [hn]
  have hg2 : FwG z L (up M 108 4 (fz z L b)) := hg.congr hz (fun a ha => up_c (by omega)) (by rw [up_kn (by decide)]) (up_c (by decide))
  refine ⟨inb_of (n := (2 ^ L.length - 1) * 10 + b) (by omega) (by omega) (by decide), LET_i ⟨L.length - 1 + 2, ro_L hz hB (by omega) hLz' (L.length - 1) 0 (2 ^ L.length - 1) b _ _ _ _ (by omega) rfl rfl rfl (by omega) (by rw [Nat.testBit_two_pow_sub_one]; exact decide_eq_true a2) a2 (by rw [full_pop (by omega)]; omega) hg2 (fun s' hs' j hj => by rw [up_c (by omega)]; exact hT s' hs' j hj) fun M' f1 _ f3 => hQ M' (fun a q1 q2 => by rw [f1 a q2, up_c q1]) (fun j hj => by rw [f1 108 (by decide), up_kn hj]) ⟨?_, fun i hi => ?_⟩⟩⟩
  · rw [f1 108 (by decide), up_s, hcost]
  · have h := f3 i (by omega)
    rw [Nat.zero_add] at h
    rw [h]
    unfold fewOrd
    rw [hLL, ← hn]
    have hfo : ford z L L.length (2 ^ L.length - 1) none = b :: ford z L (L.length - 1) (rmb (2 ^ L.length - 1) b) (some b) := by
      obtain ⟨m, hm⟩ : ∃ m, L.length = m + 1 := ⟨L.length - 1, by omega⟩
      have e : amn (fun j => stepc z L none j + fcs z L 12 (rmb (2 ^ L.length - 1) j) j) (fun j => (2 ^ L.length - 1).testBit j) L.length = some b := by
        rw [← hb]
        refine (amn_cg (fun j hj => ?_) fun j hj _ => ?_).1
        · rw [Nat.testBit_two_pow_sub_one]
          exact decide_eq_true hj
        · show (0 : Int) + _ = _
          rw [Int.zero_add]
          rfl
      have e2 : ford z L L.length (2 ^ L.length - 1) none = ford z L (L.length - 1 + 1) (2 ^ L.length - 1) none := by rw [show L.length - 1 + 1 = L.length by omega]
      rw [e2, ford_s, e]
    rw [hfo]
