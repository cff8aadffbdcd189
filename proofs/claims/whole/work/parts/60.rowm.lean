/-! ROWS: the reference lays one -/
theorem mf_of {z : Fl} {M : Mem} {p w : Nat} {x1 x2 : Int} {Q : Int → Mem → Prop} (hb : MB z M) (hp : p < 12) (hw : w < 6) (h1 : x1 = (p : Int)) (h2 : x2 = (w : Int)) (hQ : Q (z (20 + 6 * p + w)) M) : wX12_of 125 x1 x2 M Q := by
  subst h1 h2
  unfold wX12_of
  refine ⟨inb_of (n := 20 + 6 * p + w) (by omega) (by omega) (by decide), ?_⟩
  rw [rd_at (n := 20 + 6 * p + w) (by omega) (by omega), show (125 : Nat) + 1 = 126 from rfl, hb _ (by omega)]
  exact hQ
theorem mf_car {z : Fl} {M : Mem} {a b : Nat} {x1 x2 : Int} {Q : Int → Mem → Prop} (hz : ZOk z) (hb : MB z M) (ha : (a : Int) < z 0) (hq : (b : Int) < z 0) (h1 : x1 = (a : Int)) (h2 : x2 = (b : Int)) (hQ : Q (car z a b) M) : wX12_carried 125 x1 x2 M Q := by
  have hz0 := hz.1
  have pa := (hz.2.2.2.2.1 a ha).2.2.2.2.1
  have pb := (hz.2.2.2.2.1 b hq).2.2.2.2.1
  unfold wX12_carried
  refine mf_of (p := a) (w := 4) hb (by omega) (by decide) h1 rfl (mf_of (p := b) (w := 4) hb (by omega) (by decide) h2 rfl ?_)
  have ea : z (20 + 6 * a + 4) = (((pThi z a).toNat : Nat) : Int) := by
    rw [show z (20 + 6 * a + 4) = pThi z a by unfold pThi; congr 1; omega]
    omega
  have eb : z (20 + 6 * b + 4) = (((pThi z b).toNat : Nat) : Int) := by
    rw [show z (20 + 6 * b + 4) = pThi z b by unfold pThi; congr 1; omega]
    omega
  have hx : (pThi z a).toNat ^^^ (pThi z b).toNat < 2 ^ 12 := Nat.xor_lt_two_pow (by omega) (by omega)
  exact lf_ones (k := (pThi z a).toNat ^^^ (pThi z b).toNat) (by rw [ea, eb]; exact iXor_n (by omega) (by omega)) hx hQ
theorem mf_less {z : Fl} {M : Mem} {a m x1 x2 : Int} {Q : Int → Mem → Prop} (hz : ZOk z) (hb : MB z M) (h1 : x1 = a) (h2 : x2 = m) (ha : 0 ≤ a ∧ a ≤ 10000) (hm : 0 ≤ m ∧ m ≤ 10000) (hQ : Q (mx 0 (a - m * z 7)) M) : wX12_less 125 x1 x2 M Q := by
  subst h1 h2
  obtain ⟨r6, r7, r8, r9⟩ := hz.2.2.2.1
  have k1 : 0 ≤ x2 * z 7 := Int.mul_nonneg hm.1 r7.1
  have k2 : x2 * z 7 ≤ 10000 * 9 := Int.mul_le_mul hm.2 r7.2 r7.1 (by decide)
  unfold wX12_less
  refine LET_i ?_
  rw [rd_at (i := 7) (n := 7) rfl (by decide), show (125 : Nat) + 1 = 126 from rfl, hb 7 (by omega), bm_id (z := x1 - x2 * z 7) (by omega) (by omega)]
  unfold mx at hQ
  refine BR_i (fun h => ?_) (fun h => ?_)
  · by_cases h0 : 0 < x1 - x2 * z 7
    · rw [if_pos h0] at hQ
      exact hQ
    · rw [if_neg h0] at hQ
      rw [show x1 - x2 * z 7 = 0 by omega]
      exact hQ
  · rw [if_neg (by omega)] at hQ
    exact hQ
theorem mf_apart {v i : Nat} {M : Mem} {x : Int} {Q : Int → Mem → Prop} (hv : M 125 14 = (v : Int)) (hv12 : v ≤ 12) (hx : x = (i : Int)) (hi : i ≤ 13) (hQ : Q (if 0 < v ∧ i = v then 1 else 0) M) : wX12_isApart 125 x M Q := by
  subst hx
  unfold wX12_isApart
  rw [hv, bm_nat (n := v) (by omega), bm_nat (n := i) (by omega)]
  refine BR_i (fun h => ?_) (fun h => BR_i (fun h2 => ?_) (fun h2 => ?_))
  · rw [if_neg (by omega)] at hQ
    exact hQ
  · rw [if_pos (by omega)] at hQ
    exact hQ
  · rw [if_neg (by omega)] at hQ
    exact hQ
/-- the reference's row at hand -/
def RB (v n : Nat) (r : Nat → Nat) (M : Mem) : Prop := M 125 13 = (n : Int) ∧ M 125 14 = (v : Int) ∧ ∀ k, k < n → M 132 k = (r k : Int)
theorem RB.congr {v n : Nat} {r : Nat → Nat} {M M' : Mem} (h : RB v n r M) (h1 : M' 125 = M 125) (h2 : M' 132 = M 132) : RB v n r M' := by
  unfold RB
  rw [h1, h2]
  exact h
def LaidAt (z : Fl) (v : Nat) (r : Nat → Nat) (i : Nat) (M : Mem) : Prop := ∀ k, k < i → M 133 k = en z v (rl r k) + gp z v (r k) (rl r k) ∧ M 134 k = en z v (rl r (k + 1)) ∧ ∀ j, j < 8 → M 135 (8 * k + j) = ti z v j (rl r (k + 1))
def FrL (M M' : Mem) : Prop := ∀ a, a ≠ 133 → a ≠ 134 → a ≠ 135 → M' a = M a
theorem LaidAt.congr {z : Fl} {v : Nat} {r : Nat → Nat} {i : Nat} {M M' : Mem} (h : LaidAt z v r i M) (h1 : M' 133 = M 133) (h2 : M' 134 = M 134) (h3 : M' 135 = M 135) : LaidAt z v r i M' := by
  unfold LaidAt
  rw [h1, h2, h3]
  exact h
theorem MB.congr {z : Fl} {M M' : Mem} (h : MB z M) (e : M' 126 = M 126) : MB z M' := fun j hj => by rw [e]; exact h j hj
theorem mx_0 {b : Int} (h : 0 ≤ b) : mx 0 b = b := by
  unfold mx
  split <;> omega
theorem mx_mx {a g m f : Int} (hm : 0 ≤ m * f) : mx 0 (mx 0 (a - g * f) - m * f) = mx 0 (a - (g + m) * f) := by
  rw [Int.add_mul]
  unfold mx
  split <;> split <;> omega
theorem isp_bit {z : Fl} {q j : Nat} (hz : ZOk z) (hq : (q : Int) < z 0) (hj : j < 8) : iAnd (iShr (z (20 + 6 * q + 3)) (j : Int)) 1 = if plays z q j then 1 else 0 := by
  have pq := (hz.2.2.2.2.1 q hq).2.2.2.1
  have e : z (20 + 6 * q + 3) = (((pPla z q).toNat : Nat) : Int) := by
    rw [show z (20 + 6 * q + 3) = pPla z q by unfold pPla; congr 1; omega]
    omega
  rw [e]
  unfold plays
  exact shr_bit (by omega) (by omega)
/-- tired players of a place -/
theorem layP_L {z : Fl} {v n i q : Nat} {r : Nat → Nat} {M0 : Mem} {Q : Mem → Prop} {E : Mem → Prop} {g : Int} (hz : ZOk z) (hb : MB z M0) (hR : RB v n r M0) (hi : i < n) (hn12 : n ≤ 12) (hr : RowPs z r (i + 1)) (hrq : r i = q) (hg : g = gp z v q (rl r i)) (hp : 0 < i → ∀ j, j < 8 → M0 135 (8 * (i - 1) + j) = ti z v j (rl r i))
    (hQ : ∀ M', (∀ a, a ≠ 135 → M' a = M0 a) → (∀ k, k < 8 * i → M' 135 k = M0 135 k) → (∀ j, j < 8 → M' 135 (8 * i + j) = ti z v j (rl r (i + 1))) → E M') : ∀ (m j : Nat) (M : Mem) (x3 : Int), j + m = 8 → x3 = (j : Int) → (∀ a, a ≠ 135 → M a = M0 a) → (∀ k, k < 8 * i → M 135 k = M0 135 k) → (∀ k, k < j → M 135 (8 * i + k) = ti z v k (rl r (i + 1))) → wX12_layRow_L113 Q E 125 (i : Int) g (m + 1) x3 M
  | 0, j, M, x3, hj, h3, f1, f2, f3 => by
    subst h3
    obtain rfl : j = 8 := by omega
    unfold wX12_layRow_L113
    exact BR_t (by decide +kernel) (hQ M f1 f2 f3)
  | m + 1, j, M, x3, hj, h3, f1, f2, f3 => by
    subst h3
    have hz0 := hz.1
    have hri := hr i (by omega)
    rw [hrq] at hri
    have hb' : MB z M := hb.congr (f1 126 (by decide))
    have hrow : rd M (125 + 7) (i : Int) = (q : Int) := by rw [rd_at (n := i) rfl (by omega), show (125 : Nat) + 7 = 132 from rfl, f1 132 (by decide), hR.2.2 i hi, hrq]
    have b0 := ti_nn hz v j (rl r i) (hr.le (Nat.le_succ i)).pcs
    rw [rl_len] at b0
    have b2 := gp_nn hz v q (rl r i)
    have hq := hz.2.2.2.2.1 q hri
    obtain ⟨r6, r7, r8, r9⟩ := hz.2.2.2.1
    have et : ti z v j (rl r (i + 1)) = if plays z q j then mx 0 (ti z v j (rl r i) - gp z v q (rl r i) * z 7) + pEff z q else mx 0 (ti z v j (rl r i) - (gp z v q (rl r i) + pMin z q) * z 7) := by
      show ti z v j (r i :: rl r i) = _
      rw [hrq, ti_cons]
    have e0 : z (20 + 6 * q + 0) = pMin z q := rfl
    have e5 : z (20 + 6 * q + 5) = pEff z q := by unfold pEff; congr 1; omega
    have k1 : 0 ≤ gp z v q (rl r i) * z 7 := Int.mul_nonneg b2.1 r7.1
    have k2 : 0 ≤ pMin z q * z 7 := Int.mul_nonneg (by have := hq.1; omega) r7.1
    have hmx := mx_ge 0 (ti z v j (rl r i) - gp z v q (rl r i) * z 7)
    have fin : ∀ w : Int, w = ti z v j (rl r (i + 1)) → wX12_layRow_J226 Q (fun x3' M' => wX12_layRow_L113 Q E 125 (i : Int) g (m + 1) x3' M') 125 (i : Int) g (j : Int) w (8 * (i : Int) + (j : Int)) (125 + 10) M := by
      intro w hw
      subst hw
      unfold wX12_layRow_J226
      refine ⟨inb_of (n := 8 * i + j) (by omega) (by omega) (by decide), LET_i (LET_i ?_)⟩
      rw [wr_up (n := 8 * i + j) (by omega) (by omega), show (125 : Nat) + 10 = 135 from rfl]
      refine layP_L hz hb hR hi hn12 hr hrq hg hp hQ m (j + 1) _ _ (by omega) (by omega) (fun a ha => by rw [up_c ha]; exact f1 a ha) (fun k hk => by rw [up_kn (by omega)]; exact f2 k hk) (fun k hk => ?_)
      by_cases hkj : k = j
      · subst hkj
        rw [up_s]
      · rw [up_kn (by omega)]
        exact f3 k (by omega)
    have j140 : ∀ x : Int, x = ti z v j (rl r i) → wX12_layRow_J140 Q (fun x3' M' => wX12_layRow_L113 Q E 125 (i : Int) g (m + 1) x3' M') 125 (i : Int) g (j : Int) x M := by
      intro x hx
      unfold wX12_layRow_J140
      refine mf_less hz hb' hx hg (by omega) (by omega) ⟨inb_of rfl (by omega) (by decide), ?_⟩
      rw [hrow]
      refine mf_of (p := q) (w := 3) hb' (by omega) (by decide) rfl rfl ?_
      rw [isp_bit hz hri (by omega)]
      unfold wX12_layRow_J175
      cases hpl : plays z q j
      · rw [hpl, if_neg (by decide)] at et
        rw [if_neg (by decide)]
        refine BR_f (by decide +kernel) (BR_t q0 ⟨inb_of rfl (by omega) (by decide), ?_⟩)
        rw [hrow]
        refine mf_of (p := q) (w := 0) hb' (by omega) (by decide) rfl rfl (mf_less hz hb' rfl e0 (by omega) (by have := hq.1; omega) (fin _ ?_))
        rw [et, mx_mx k2]
      · rw [hpl, if_pos rfl] at et
        rw [if_pos rfl]
        refine BR_t (by decide +kernel) (BR_f q1 ⟨inb_of rfl (by omega) (by decide), ?_⟩)
        rw [hrow]
        refine mf_of (p := q) (w := 5) hb' (by omega) (by decide) rfl rfl (fin _ ?_)
        rw [et, e5]
    unfold wX12_layRow_L113
    rw [bm_nat (n := j) (by omega), bm_nat (n := i) (by omega)]
    refine BR_f (by omega) (BR_i (fun h => j140 0 ?_) (fun h => ⟨inb_of (n := 8 * (i - 1) + j) (by omega) (by omega) (by decide), j140 _ ?_⟩))
    · obtain rfl : i = 0 := by omega
      rfl
    · rw [rd_at (n := 8 * (i - 1) + j) (by omega) (by omega), show (125 : Nat) + 10 = 135 from rfl, f2 _ (by omega)]
      exact hp (by omega) j (by omega)
theorem lay_L {z : Fl} {v n : Nat} {r : Nat → Nat} {M0 : Mem} {Q : Mem → Prop} (hz : ZOk z) (hb : MB z M0) (hR : RB v n r M0) (hn12 : n ≤ 12) (hv12 : v ≤ 12) (hr : RowPs z r n) (hQ : ∀ M', FrL M0 M' → LaidAt z v r n M' → Q M') : ∀ (m i : Nat) (M : Mem) (x1 : Int), i + m = n → x1 = (i : Int) → FrL M0 M → LaidAt z v r i M → wX12_layRow_L2 Q 125 (m + 1) x1 M
  | 0, i, M, x1, hi, h1, hf, hL => by
    subst h1
    obtain rfl : i = n := by omega
    unfold wX12_layRow_L2
    rw [hf 125 (by decide) (by decide) (by decide), hR.1]
    exact BR_t (Int.le_refl _) (hQ M hf hL)
  | m + 1, i, M, x1, hi, h1, hf, hL => by
    subst h1
    have hz0 := hz.1
    have hri := hr i (by omega)
    have e125 : M 125 = M0 125 := hf 125 (by decide) (by decide) (by decide)
    have e132 : M 132 = M0 132 := hf 132 (by decide) (by decide) (by decide)
    have hb' : MB z M := hb.congr (hf 126 (by decide) (by decide) (by decide))
    have hR' : RB v n r M := hR.congr e125 e132
    have hen := en_nn hz v (rl r i) (hr.le (by omega : i ≤ n)).pcs
    rw [rl_len] at hen
    have hgp := gp_nn hz v (r i) (rl r i)
    have hrow : ∀ N : Mem, N 132 = M 132 → rd N (125 + 7) (i : Int) = (r i : Int) := fun N hN => by rw [rd_at (n := i) rfl (by omega), show (125 : Nat) + 7 = 132 from rfl, hN, hR'.2.2 i (by omega)]
    have j86 : ∀ w : Int, w = en z v (rl r i) + gp z v (r i) (rl r i) → wX12_layRow_J86 Q (fun x1' M' => wX12_layRow_L2 Q 125 (m + 1) x1' M') 125 (i : Int) (gp z v (r i) (rl r i)) w (i : Int) (125 + 8) M := by
      intro w hw
      subst hw
      unfold wX12_layRow_J86
      refine ⟨inb_of rfl (by omega) (by decide), LET_i ⟨inb_of rfl (by omega) (by decide), inb_of rfl (by omega) (by decide), ?_⟩⟩
      rw [wr_up (n := i) rfl (by omega), show (125 : Nat) + 8 = 133 from rfl, hrow _ (up_c (by decide))]
      refine mf_of (p := r i) (w := 0) (hb'.congr (up_c (by decide))) (by omega) (by decide) rfl rfl ⟨inb_of rfl (by omega) (by decide), LET_i ⟨8 + 1, ?_⟩⟩
      rw [wr_up (n := i) rfl (by omega), show (125 : Nat) + 9 = 134 from rfl, rd_at (k := 133) (n := i) rfl (by omega), up_s]
      have e9 : en z v (rl r i) + gp z v (r i) (rl r i) + z (20 + 6 * r i + 0) = en z v (rl r (i + 1)) := rfl
      rw [e9]
      generalize hM1 : up (up M 133 i (en z v (rl r i) + gp z v (r i) (rl r i))) 134 i (en z v (rl r (i + 1))) = M1
      have G : ∀ a, a ≠ 133 → a ≠ 134 → M1 a = M a := fun a _ _ => by subst hM1; simp (disch := omega) only [up_c]
      have G3 : ∀ j, M1 133 j = if j = i then en z v (rl r i) + gp z v (r i) (rl r i) else M 133 j := fun j => by subst hM1; simp (disch := omega) only [up_c, up_k]
      have G4 : ∀ j, M1 134 j = if j = i then en z v (rl r (i + 1)) else M 134 j := fun j => by subst hM1; simp (disch := omega) only [up_c, up_k]
      clear hM1
      refine layP_L hz (hb'.congr (G 126 (by decide) (by decide))) (hR'.congr (G 125 (by decide) (by decide)) (G 132 (by decide) (by decide))) (by omega) hn12 (hr.le (by omega)) rfl rfl (fun h0 j hj => ?_) (fun M2 t1 t2 t3 => LET_i ?_) 8 0 M1 _ rfl rfl (fun _ _ => rfl) (fun _ _ => rfl) (fun k hk => by omega)
      · rw [G 135 (by decide) (by decide)]
        have := (hL (i - 1) (by omega)).2.2 j hj
        rw [show i - 1 + 1 = i by omega] at this
        exact this
      · refine lay_L hz hb hR hn12 hv12 hr hQ m (i + 1) M2 _ (by omega) (by omega) (fun a q1 q2 q3 => by rw [t1 a q3, G a q1 q2, hf a q1 q2 q3]) (fun k hk => ?_)
        rw [t1 133 (by decide), t1 134 (by decide), G3, G4]
        by_cases hki : k = i
        · subst hki
          rw [if_pos rfl, if_pos rfl]
          exact ⟨rfl, rfl, t3⟩
        · rw [if_neg hki, if_neg hki]
          obtain ⟨a1, a2, a3⟩ := hL k (by omega)
          exact ⟨a1, a2, fun j hj => by rw [t2 _ (by omega), G 135 (by decide) (by decide)]; exact a3 j hj⟩
    have j62 : ∀ w : Int, w = gp z v (r i) (rl r i) → wX12_layRow_J62 Q (fun x1' M' => wX12_layRow_L2 Q 125 (m + 1) x1' M') 125 (i : Int) w M := by
      intro w hw
      subst hw
      unfold wX12_layRow_J62
      rw [bm_nat (n := i) (by omega)]
      refine BR_i (fun h => j86 0 ?_) (fun h => ⟨inb_of (n := i - 1) (by omega) (by omega) (by decide), j86 _ ?_⟩)
      · obtain rfl : i = 0 := by omega
        rfl
      · rw [rd_at (n := i - 1) (by omega) (by omega), show (125 : Nat) + 9 = 134 from rfl, (hL (i - 1) (by omega)).2.1, show i - 1 + 1 = i by omega]
    unfold wX12_layRow_L2
    rw [hR'.1, bm_nat (n := n) (by omega), bm_nat (n := i) (by omega)]
    refine BR_f (by omega) (BR_i (fun h => j62 0 ?_) (fun h => mf_apart hR'.2.1 hv12 rfl (by omega) ?_))
    · obtain rfl : i = 0 := by omega
      rfl
    · obtain ⟨p, rfl⟩ : ∃ p, i = p + 1 := ⟨i - 1, by omega⟩
      have egp : gp z v (r (p + 1)) (rl r (p + 1)) = if p + 1 = v then z 8 else (car z (r p) (r (p + 1)) : Int) * z 6 := by
        show gp z v (r (p + 1)) (r p :: rl r p) = _
        rw [gp_cons, rl_len]
      by_cases hv : p + 1 = v
      · rw [if_pos (by omega)]
        refine BR_f q1 (j62 _ ?_)
        rw [egp, if_pos hv, rd_at (i := 8) (n := 8) rfl (by decide)]
        exact hb' 8 (by omega)
      · rw [if_neg (by omega)]
        refine BR_t q0 ⟨inb_of (n := p) (by omega) (by omega) (by decide), inb_of rfl (by omega) (by decide), ?_⟩
        rw [hrow M rfl, rd_at (i := ((p + 1 : Nat) : Int) - 1) (n := p) (by omega) (by omega), show (125 : Nat) + 7 = 132 from rfl, hR'.2.2 p (by omega)]
        refine mf_car hz hb' (hr p (by omega)) hri rfl rfl (j62 _ ?_)
        rw [egp, if_neg hv, rd_at (i := 6) (n := 6) rfl (by decide)]
        exact congrArg _ (hb' 6 (by omega))
theorem mf_layRow {z : Fl} {v n : Nat} {r : Nat → Nat} {M : Mem} {Q : Mem → Prop} (hz : ZOk z) (hb : MB z M) (hR : RB v n r M) (hn12 : n ≤ 12) (hv12 : v ≤ 12) (hr : RowPs z r n) (hQ : ∀ M', FrL M M' → LaidAt z v r n M' → Q M') : wX12_layRow 125 M Q :=
  ⟨n + 1, lay_L hz hb hR hn12 hv12 hr hQ n 0 M _ (by omega) rfl (fun _ _ _ _ => rfl) (fun k hk => by omega)⟩
/-- the greatest tired -/
theorem gt_L {z : Fl} {v n : Nat} {r : Nat → Nat} {M : Mem} {Q : Int → Mem → Prop} (hz : ZOk z) (hR : RB v n r M) (hn12 : n ≤ 12) (hr : RowPs z r n) (hL : LaidAt z v r n M) (hQ : Q (mt z v (rl r n)) M) : ∀ (m k j : Nat) (x1 x2 : Int), 8 * k + j + m = 8 * n → j ≤ 8 → x2 = (8 * k + j : Nat) → (k < n ∨ j = 0) → x1 = mxn (fun j => ti z v j (rl r (k + 1))) (mt z v (rl r k)) j → wX12_greatestTired_L4 Q 125 (m + 1) x1 x2 M
  | 0, k, j, x1, x2, hm, hj, h2, hkn, h1 => by
    subst h2
    unfold wX12_greatestTired_L4
    rw [hR.1]
    refine BR_t (by rw [bm_id (z := 8 * (n : Int)) (by omega) (by omega), bm_nat (n := 8 * k + j) (by omega)]; omega) ?_
    rcases hkn with hk | hk
    · obtain rfl : j = 8 := by omega
      obtain rfl : k + 1 = n := by omega
      rw [h1]
      exact hQ
    · subst hk
      obtain rfl : k = n := by omega
      rw [h1]
      exact hQ
  | m + 1, k, j, x1, x2, hm, hj, h2, hkn, h1 => by
    subst h2
    have main : ∀ (k j : Nat) (x1 : Int), 8 * k + j + (m + 1) = 8 * n → j < 8 → k < n → x1 = mxn (fun j => ti z v j (rl r (k + 1))) (mt z v (rl r k)) j → wX12_greatestTired_L4 Q 125 (m + 1 + 1) x1 ((8 * k + j : Nat) : Int) M := by
      intro k j x1 hm hj hk h1
      have hpc := (hr.le (by omega : k + 1 ≤ n)).pcs
      have b1 := ti_nn hz v j (rl r (k + 1)) hpc
      have b3 := mt_nn hz v (rl r k) (hr.le (by omega : k ≤ n)).pcs
      rw [rl_len] at b1 b3
      have b5 := mxn_nn (f := fun j => ti z v j (rl r (k + 1))) (a := mt z v (rl r k)) (c := 99 * 12) (by omega) j (fun i _ => by have := ti_nn hz v i (rl r (k + 1)) hpc; rw [rl_len] at this; omega)
      rw [← h1] at b5
      have e1 : rd M (125 + 10) ((8 * k + j : Nat) : Int) = ti z v j (rl r (k + 1)) := by rw [rd_at (n := 8 * k + j) rfl (by omega)]; exact (hL k hk).2.2 j hj
      unfold wX12_greatestTired_L4 wX12_greatestTired_J35
      rw [hR.1, e1, bm_id (z := 8 * (n : Int)) (by omega) (by omega), bm_nat (n := 8 * k + j) (by omega), bm_id (z := x1) (by omega) (by omega), bm_id (z := ti z v j (rl r (k + 1))) (by omega) (by omega)]
      have em : mxn (fun j => ti z v j (rl r (k + 1))) (mt z v (rl r k)) (j + 1) = mx x1 (ti z v j (rl r (k + 1))) := by rw [h1]; rfl
      refine BR_f (by omega) ⟨inb_of rfl (by omega) (by decide), BR_i (fun h => LET_i ?_) (fun h => ⟨inb_of rfl (by omega) (by decide), LET_i ?_⟩)⟩
      · refine gt_L hz hR hn12 hr hL hQ m k (j + 1) _ _ (by omega) (by omega) (by omega) (Or.inl hk) ?_
        rw [em]
        unfold mx
        rw [if_neg (by omega)]
      · refine gt_L hz hR hn12 hr hL hQ m k (j + 1) _ _ (by omega) (by omega) (by omega) (Or.inl hk) ?_
        rw [em]
        unfold mx
        rw [if_pos (by omega)]
    by_cases hj8 : j = 8
    · subst hj8
      rw [show 8 * k + 8 = 8 * (k + 1) + 0 by omega]
      exact main (k + 1) 0 x1 (by omega) (by omega) (by omega) h1
    · exact main k j x1 hm (by omega) (by omega) h1
theorem mf_greatest {z : Fl} {v n : Nat} {r : Nat → Nat} {M : Mem} {Q : Int → Mem → Prop} (hz : ZOk z) (hR : RB v n r M) (hn12 : n ≤ 12) (hr : RowPs z r n) (hL : LaidAt z v r n M) (hQ : Q (mt z v (rl r n)) M) : wX12_greatestTired 125 M Q :=
  ⟨8 * n + 1, gt_L hz hR hn12 hr hL hQ (8 * n) 0 0 _ _ (by omega) (by omega) rfl (Or.inr rfl) rfl⟩
