/-! PLAIN -/
def qV (s : Fl) (p : Nat) : Nat := (s (1240 + 27 * p)).toNat
def qN (s : Fl) (p o : Nat) : Nat := (s (1241 + 27 * p + o)).toNat
def qR (s : Fl) (p o : Nat) : Nat → Nat := fun i => (s (1242 + 27 * p + o + i)).toNat
/-- of one row of a past (o 0 or 13) -/
def qB (s z : Fl) (p o l : Nat) : Int := by1 z (qV s p) (qN s p o) l (rl (qR s p o) (qN s p o))
def lean1 (s z : Fl) (p l : Nat) : Int := (qB s z p 0 l - qB s z p 13 l) * wgt z l
theorem past_row {s z : Fl} {p o : Nat} (h : PastOk s p) (hz : z 0 = s 0) (ho : o = 0 ∨ o = 13) : s (1240 + 27 * p) = (qV s p : Int) ∧ s (1241 + 27 * p + o) = (qN s p o : Int) ∧ qN s p o ≤ 12 ∧ qV s p < qN s p o ∧ (∀ i, i < qN s p o → s (1242 + 27 * p + o + i) = (qR s p o i : Int)) ∧ RowPs z (qR s p o) (qN s p o) ∧ Inj (qR s p o) (qN s p o) := by
  obtain ⟨h1, ⟨h2, h3⟩, ⟨h4, h5⟩, h6, h7⟩ := h
  have key : ∀ (n : Int) (f : Nat → Int), n = s (1241 + 27 * p + o) → (∀ i, f i = s (1242 + 27 * p + o + i)) → s (1240 + 27 * p) < n → n ≤ 12 → RowIn s f n.toNat → s (1240 + 27 * p) = (qV s p : Int) ∧ s (1241 + 27 * p + o) = (qN s p o : Int) ∧ qN s p o ≤ 12 ∧ qV s p < qN s p o ∧ (∀ i, i < qN s p o → s (1242 + 27 * p + o + i) = (qR s p o i : Int)) ∧ RowPs z (qR s p o) (qN s p o) ∧ Inj (qR s p o) (qN s p o) := by
    intro n f hn hf a1 a2 a3
    have hN : qN s p o = n.toNat := by unfold qN; rw [hn]
    have hV : (qV s p : Int) = s (1240 + 27 * p) := by unfold qV; omega
    have hR : ∀ i, i < qN s p o → s (1242 + 27 * p + o + i) = (qR s p o i : Int) := fun i hi => by
      have := a3.1 i (by omega)
      rw [hf] at this
      unfold qR
      omega
    refine ⟨hV.symm, by omega, by omega, by omega, hR, fun i hi => ?_, fun i j hi hj he => ?_⟩
    · have := a3.1 i (by omega)
      rw [hf, hR i hi] at this
      rw [hz]
      exact this.2
    · have e : f i = f j := by rw [hf, hf, hR i hi, hR j hj, he]
      rcases Nat.lt_trichotomy i j with h | h | h
      · exact absurd e (a3.2 i j h (by omega))
      · exact h
      · exact absurd e.symm (a3.2 j i h (by omega))
  rcases ho with rfl | rfl
  · exact key (s (1241 + 27 * p)) (fun i => s (1242 + 27 * p + i)) rfl (fun i => rfl) h2 h3 h6
  · refine key (s (1254 + 27 * p)) (fun i => s (1255 + 27 * p + i)) ?_ (fun i => ?_) h4 h5 h7
    · congr 1
      omega
    · show s (1255 + 27 * p + i) = _
      congr 1
      omega
theorem qB_b (s z : Fl) (p o l : Nat) : -2147483648 ≤ qB s z p o l ∧ qB s z p o l < 2147483648 := by1_b _ _ _ _ _
theorem lean_b {s z : Fl} (hz : ZOk z) {p l : Nat} (hl : (l : Int) < z 1) : -97409858273280 ≤ lean1 s z p l ∧ lean1 s z p l ≤ 97409858273280 := by
  have h1 := qB_b s z p 0 l
  have h2 := qB_b s z p 13 l
  have h3 := (wgt_bm hz hl).2
  have := mul_b (A := 4294967296) (B := 22680) (a := qB s z p 0 l - qB s z p 13 l) (b := wgt z l) (by omega) h3
  unfold lean1
  omega
/-- the class weighs the pasts -/
theorem wp44_L {s z : Fl} {p nl : Nat} {M0 : Mem} {y : Int} {Q : Mem → Prop} {E : Mem → Prop} (hz : ZOk z) (hc : CB z M0) (hnl : z 1 = (nl : Int)) (hp : p < 8) (hn : M0 91 1 = (qN s p 0 : Int)) (hn12 : qN s p 0 ≤ 12) (hR : RowAt z (qV s p) (qN s p 0) (qR s p 0) (qN s p 0) M0) (hS : SumAt z (qV s p) (qN s p 0) (qR s p 0) (2 ^ nl - 1) (qN s p 0) M0) (hQ : ∀ M' : Mem, (∀ a, a ≠ 116 → M' a = M0 a) → (∀ j, (j < 10 * p ∨ 10 * p + 10 ≤ j) → M' 116 j = M0 116 j) → (∀ l, l < nl → M' 116 (10 * p + l) = qB s z p 0 l) → E M') : ∀ (m l : Nat) (M : Mem) (x3 : Int), l + m = nl → x3 = (l : Int) → (∀ a, a ≠ 116 → M a = M0 a) → (∀ j, (j < 10 * p ∨ 10 * p + 10 ≤ j) → M 116 j = M0 116 j) → (∀ l', l' < l → M 116 (10 * p + l') = qB s z p 0 l') → wX11_weighPasts_L44 Q E 1 y (p : Int) (m + 1) x3 M
  | 0, l, M, x3, hl, h3, f1, f2, f3 => by
    subst h3
    obtain rfl : l = nl := by omega
    unfold wX11_weighPasts_L44
    rw [show M (1 + 1) 4 = (l : Int) by rw [f1 2 (by decide), hc.2.1, hnl]]
    exact BR_t (Int.le_refl _) (hQ M f1 f2 f3)
  | m + 1, l, M, x3, hl, h3, f1, f2, f3 => by
    subst h3
    have hl10 := hz.2.1
    have hfj : FrJ (qN s p 0) M0 M := FrJ.of fun a _ _ => f1 a (by omega)
    unfold wX11_weighPasts_L44
    rw [show M (1 + 1) 4 = (nl : Int) by rw [f1 2 (by decide), hc.2.1, hnl], bm_nat (n := nl) (by omega), bm_nat (n := l) (by omega)]
    refine BR_f (by omega) (lf_totalBy (b := 2 ^ nl - 1) hz (hc.congr hz fun a _ => f1 a (by omega)) (by rw [f1 91 (by decide)]; exact hn) hn12 (hR.frj hfj) (hS.frj hz hfj (Nat.le_refl _)) (by omega) (by rw [Nat.testBit_two_pow_sub_one]; exact decide_eq_true (by omega)) fun x hx => ⟨inb_of (n := 10 * p + l) (by omega) (by omega) (by decide), LET_i (LET_i ?_)⟩)
    rw [wr_up (i := (p : Int) * 10 + (l : Int)) (n := 10 * p + l) (by omega) (by omega), show (1 : Nat) + 115 = 116 from rfl, hx]
    refine wp44_L hz hc hnl hp hn hn12 hR hS hQ m (l + 1) _ _ (by omega) (by omega) (fun a ha => by rw [up_c ha]; exact f1 a ha) (fun j hj => by rw [up_kn (by omega)]; exact f2 j hj) fun l' hl' => ?_
    by_cases hll : l' = l
    · subst hll
      rw [up_s]
      rfl
    · rw [up_kn (by omega)]
      exact f3 l' (by omega)
theorem wp100_L {s z : Fl} {p nl : Nat} {M0 : Mem} {y : Int} {Q : Mem → Prop} {E : Mem → Prop} (hz : ZOk z) (hc : CB z M0) (hnl : z 1 = (nl : Int)) (hp : p < 8) (hn : M0 91 1 = (qN s p 13 : Int)) (hn12 : qN s p 13 ≤ 12) (hR : RowAt z (qV s p) (qN s p 13) (qR s p 13) (qN s p 13) M0) (hS : SumAt z (qV s p) (qN s p 13) (qR s p 13) (2 ^ nl - 1) (qN s p 13) M0) (hM : ∀ l, l < nl → M0 116 (10 * p + l) = qB s z p 0 l) (hQ : ∀ M' : Mem, (∀ a, a ≠ 116 → M' a = M0 a) → (∀ j, (j < 10 * p ∨ 10 * p + 10 ≤ j) → M' 116 j = M0 116 j) → (∀ l, l < nl → M' 116 (10 * p + l) = lean1 s z p l) → E M') : ∀ (m l : Nat) (M : Mem) (x3 : Int), l + m = nl → x3 = (l : Int) → (∀ a, a ≠ 116 → M a = M0 a) → (∀ j, (j < 10 * p ∨ 10 * p + 10 ≤ j) → M 116 j = M0 116 j) → (∀ l', l' < l → M 116 (10 * p + l') = lean1 s z p l') → (∀ l', l ≤ l' → M 116 (10 * p + l') = M0 116 (10 * p + l')) → wX11_weighPasts_L100 Q E 1 y (p : Int) (m + 1) x3 M
  | 0, l, M, x3, hl, h3, f1, f2, f3, f4 => by
    subst h3
    obtain rfl : l = nl := by omega
    unfold wX11_weighPasts_L100
    rw [show M (1 + 1) 4 = (l : Int) by rw [f1 2 (by decide), hc.2.1, hnl]]
    exact BR_t (Int.le_refl _) (hQ M f1 f2 f3)
  | m + 1, l, M, x3, hl, h3, f1, f2, f3, f4 => by
    subst h3
    have hl10 := hz.2.1
    have hfj : FrJ (qN s p 13) M0 M := FrJ.of fun a _ _ => f1 a (by omega)
    have hc' : CB z M := hc.congr hz fun a _ => f1 a (by omega)
    unfold wX11_weighPasts_L100
    rw [show M (1 + 1) 4 = (nl : Int) by rw [f1 2 (by decide), hc.2.1, hnl], bm_nat (n := nl) (by omega), bm_nat (n := l) (by omega)]
    refine BR_f (by omega) ⟨inb_of (n := 10 * p + l) (by omega) (by omega) (by decide), lf_totalBy (b := 2 ^ nl - 1) hz hc' (by rw [f1 91 (by decide)]; exact hn) hn12 (hR.frj hfj) (hS.frj hz hfj (Nat.le_refl _)) (by omega) (by rw [Nat.testBit_two_pow_sub_one]; exact decide_eq_true (by omega)) fun x hx => LET_i ⟨inb_of rfl (by omega) (by decide), inb_of (n := 10 * p + l) (by omega) (by omega) (by decide), LET_i (LET_i ?_)⟩⟩
    rw [rd_at (i := (p : Int) * 10 + (l : Int)) (n := 10 * p + l) (by omega) (by omega), wr_up (i := (p : Int) * 10 + (l : Int)) (n := 10 * p + l) (by omega) (by omega), show (1 : Nat) + 115 = 116 from rfl, hx, f4 l (Nat.le_refl l), hM l (by omega), Int.toNat_natCast, show 1 + 22 + 2 * l = 23 + 2 * l by omega, (lik_f hc' (by omega)).2.1, (wgt_bm hz (by omega)).1]
    refine wp100_L hz hc hnl hp hn hn12 hR hS hM hQ m (l + 1) _ _ (by omega) (by omega) (fun a ha => by rw [up_c ha]; exact f1 a ha) (fun j hj => by rw [up_kn (by omega)]; exact f2 j hj) (fun l' hl' => ?_) (fun l' hl' => by rw [up_kn (by omega)]; exact f4 l' (by omega))
    by_cases hll : l' = l
    · subst hll
      rw [up_s]
      rfl
    · rw [up_kn (by omega)]
      exact f3 l' (by omega)
theorem wp14_L {s z : Fl} {nq nl : Nat} {M0 : Mem} {Q : Mem → Prop} (hz : ZOk z) (hz0 : z 0 = s 0) (hc : CB z M0) (hnl : z 1 = (nl : Int)) (hq : s 3 = (nq : Int)) (hq8 : nq ≤ 8) (hpo : ∀ p : Nat, (p : Int) < s 3 → PastOk s p) (hbq : ∀ p : Nat, (p : Int) < s 3 → BkPast 2 M0 s p) (h11 : M0 2 11 = (nq : Int)) (hQ : ∀ M' : Mem, (∀ a, ¬ (91 ≤ a ∧ a ≤ 102) → a ≠ 116 → M' a = M0 a) → WzOk M' → (∀ p l, p < nq → l < nl → M' 116 (10 * p + l) = lean1 s z p l) → Q M') : ∀ (m p : Nat) (M : Mem) (x2 : Int), p + m = nq → x2 = (p : Int) → (∀ a, ¬ (91 ≤ a ∧ a ≤ 102) → a ≠ 116 → M a = M0 a) → WzOk M → (∀ p' l, p' < p → l < nl → M 116 (10 * p' + l) = lean1 s z p' l) → wX11_weighPasts_L14 Q 1 ((2 ^ nl - 1 : Nat) : Int) (m + 1) x2 M
  | 0, p, M, x2, hp, h2, f1, f2, f3 => by
    subst h2
    obtain rfl : p = nq := by omega
    unfold wX11_weighPasts_L14
    rw [show M (1 + 1) 11 = (p : Int) by rw [f1 2 (by omega) (by decide)]; exact h11]
    exact BR_t (Int.le_refl _) (hQ M f1 f2 f3)
  | m + 1, p, M, x2, hp, h2, f1, f2, f3 => by
    subst h2
    have hl10 := hz.2.1
    have hpow : 2 ^ nl - 1 < 4096 := Nat.lt_of_lt_of_le (Nat.sub_lt (Nat.two_pow_pos nl) (by decide)) (p2le (m := 12) (by omega))
    have hpok := hpo p (by omega)
    obtain ⟨b1, b2, b3, b4, b5, b6⟩ := hbq p (by omega)
    obtain ⟨v1, n1, n2, n3, r1, r2, r3⟩ := past_row (z := z) (o := 0) hpok hz0 (Or.inl rfl)
    obtain ⟨-, m1, m2, m3, t1, t2, t3⟩ := past_row (z := z) (o := 13) hpok hz0 (Or.inr rfl)
    have hc' : CB z M := hc.congr hz fun a ha => f1 a (by omega) (by omega)
    unfold wX11_weighPasts_L14
    rw [show M (1 + 1) 11 = (nq : Int) by rw [f1 2 (by omega) (by decide)]; exact h11, bm_nat (n := nq) (by omega), bm_nat (n := p) (by omega), Int.toNat_natCast, show 1 + 52 + 4 * p = 53 + 4 * p by omega, show 1 + 54 + 4 * p = 55 + 4 * p by omega]
    refine BR_f (by omega) ⟨inb_of rfl (by omega) (by decide), lf_along hz hc' f2 (by omega) (n := qN s p 0) (v := qV s p) (r := qR s p 0) ?_ ?_ hpow n2 (by omega) r2 (fun k hk => ?_) fun M1 a1 a2 a3 a4 a5 a6 a7 => ⟨nl + 1, wp44_L (s := s) (p := p) hz (hc'.congr hz fun a ha => a1 a (by omega)) hnl (by omega) a3 n2 a6 a7 (fun M2 c1 c2 c3 => ⟨inb_of rfl (by omega) (by decide), ?_⟩) nl 0 M1 _ (by omega) rfl (fun _ _ => rfl) (fun _ _ => rfl) (fun l' hl' => by omega)⟩⟩
    · rw [f1 (53 + 4 * p) (by omega) (by omega), show 53 + 4 * p = 2 + 51 + 4 * p by omega, b1]
      exact n1
    · rw [f1 (53 + 4 * p) (by omega) (by omega), show 53 + 4 * p = 2 + 51 + 4 * p by omega, b2]
      exact v1
    · rw [f1 (53 + 4 * p + 1) (by omega) (by omega), show 53 + 4 * p + 1 = 2 + 52 + 4 * p by omega, b3 k (by rw [show s (1241 + 27 * p) = (qN s p 0 : Int) from n1]; omega)]
      exact r1 k hk
    · have e2 : ∀ a, ¬ (91 ≤ a ∧ a ≤ 102) → a ≠ 116 → M2 a = M0 a := fun a q1 q2 => by rw [c1 a q2, a1 a q1, f1 a q1 q2]
      have hc2 : CB z M2 := hc.congr hz fun a ha => e2 a (by omega) (by omega)
      have w2 : WzOk M2 := a2.congr fun a q1 q2 => c1 a (by omega)
      refine lf_along hz hc2 w2 (by omega) (n := qN s p 13) (v := qV s p) (r := qR s p 13) ?_ ?_ hpow m2 (by omega) t2 (fun k hk => ?_) fun M3 d1 d2 d3 d4 d5 d6 d7 => ⟨nl + 1, wp100_L (s := s) (p := p) hz (hc2.congr hz fun a ha => d1 a (by omega)) hnl (by omega) d3 m2 d6 d7 (fun l hl => by rw [d1 116 (by omega)]; exact c3 l hl) (fun M4 g1 g2 g3 => LET_i ?_) nl 0 M3 _ (by omega) rfl (fun _ _ => rfl) (fun _ _ => rfl) (fun l' hl' => by omega) (fun _ _ => rfl)⟩
      · rw [e2 (55 + 4 * p) (by omega) (by omega), show 55 + 4 * p = 2 + 53 + 4 * p by omega, b4]
        rw [← m1]
        congr 1
        omega
      · rw [e2 (55 + 4 * p) (by omega) (by omega), show 55 + 4 * p = 2 + 53 + 4 * p by omega, b5]
        exact v1
      · rw [e2 (55 + 4 * p + 1) (by omega) (by omega), show 55 + 4 * p + 1 = 2 + 54 + 4 * p by omega, b6 k ?_, ← t1 k hk]
        · congr 1
          omega
        · rw [show s (1254 + 27 * p) = (qN s p 13 : Int) by rw [← m1]; congr 1; omega]
          omega
      · refine wp14_L hz hz0 hc hnl hq hq8 hpo hbq h11 hQ m (p + 1) M4 _ (by omega) (by omega) (fun a q1 q2 => by rw [g1 a q2, d1 a q1, e2 a q1 q2]) (d2.congr fun a q1 q2 => g1 a (by omega)) fun p' l hp' hl => ?_
        by_cases hpp : p' = p
        · subst hpp
          exact g3 l hl
        · rw [g2 _ (by omega), d1 116 (by omega), c2 _ (by omega), a1 116 (by omega)]
          exact f3 p' l (by omega) hl
/-- sums over sets -/
def tsum (f : Nat → Int) (set : Nat) : Nat → Int
  | 0 => 0
  | j + 1 => tsum f set j + (if set.testBit j then f j else 0)
theorem tsum_b {f : Nat → Int} {set : Nat} : ∀ {n : Nat}, (∀ j, j < n → -97409858273280 ≤ f j ∧ f j ≤ 97409858273280) → -(97409858273280 * n) ≤ tsum f set n ∧ tsum f set n ≤ 97409858273280 * n
  | 0, _ => by simp [tsum]
  | n + 1, h => by
    have ih := tsum_b (set := set) (n := n) fun j hj => h j (by omega)
    have h1 := h n (by omega)
    have e : tsum f set (n + 1) = tsum f set n + (if set.testBit n then f n else 0) := rfl
    rw [e]
    split <;> omega
def tellB (g : Nat → Nat → Int) (nl set : Nat) : Nat → Bool
  | 0 => true
  | p + 1 => tellB g nl set p && decide (0 < tsum (g p) set nl)
theorem lc_gt {a b : Int} : 0 < bm (lCmp a b) ↔ bl b < bl a := by
  rw [lc_c]
  unfold lCmp
  split
  · omega
  · split <;> omega
theorem tc18_L {z : Fl} {p nl set : Nat} {g : Nat → Nat → Int} {M : Mem} {Q : Int → Mem → Prop} {E : Int → Mem → Prop} (hz : ZOk z) (hc : CB z M) (hnl : z 1 = (nl : Int)) (hp : p < 8) (hs : set < 4096) (hg : ∀ l, l < nl → M 116 (10 * p + l) = g p l) (hQ : E (tsum (g p) set nl) M) : ∀ (m j : Nat) (l3 x5 : Int), j + m = nl → x5 = (j : Int) → l3 = tsum (g p) set j → wX11_tellsPasts_L18 Q E 1 (set : Int) (p : Int) (m + 1) l3 x5 M
  | 0, j, l3, x5, hj, h5, h3 => by
    subst h5 h3
    obtain rfl : j = nl := by omega
    unfold wX11_tellsPasts_L18
    rw [show M (1 + 1) 4 = (j : Int) by rw [← hnl]; exact hc.2.1]
    exact BR_t (Int.le_refl _) hQ
  | m + 1, j, l3, x5, hj, h5, h3 => by
    subst h5 h3
    have hl10 := hz.2.1
    have e : tsum (g p) set (j + 1) = tsum (g p) set j + (if set.testBit j then g p j else 0) := rfl
    unfold wX11_tellsPasts_L18
    rw [show M (1 + 1) 4 = (nl : Int) by rw [← hnl]; exact hc.2.1, bm_nat (n := nl) (by omega), bm_nat (n := j) (by omega), lf_isIn rfl rfl hs (by omega)]
    refine BR_f (by omega) ?_
    cases hb : set.testBit j
    · rw [hb, if_neg (by decide), Int.add_zero] at e
      rw [if_neg (by decide)]
      exact BR_t q0 (LET_i (tc18_L hz hc hnl hp hs hg hQ m (j + 1) _ _ (by omega) (by omega) e.symm))
    · rw [hb, if_pos rfl] at e
      rw [if_pos rfl]
      refine BR_f q1 ⟨inb_of (n := 10 * p + j) (by omega) (by omega) (by decide), LET_i (LET_i (tc18_L hz hc hnl hp hs hg hQ m (j + 1) _ _ (by omega) (by omega) ?_))⟩
      rw [rd_at (i := (p : Int) * 10 + (j : Int)) (n := 10 * p + j) (by omega) (by omega), show (1 : Nat) + 115 = 116 from rfl, hg j (by omega), e]
theorem tc2_L {z : Fl} {nq nl set : Nat} {g : Nat → Nat → Int} {M : Mem} {Q : Int → Mem → Prop} (hz : ZOk z) (hc : CB z M) (hnl : z 1 = (nl : Int)) (h11 : M 2 11 = (nq : Int)) (hq8 : nq ≤ 8) (hs : set < 4096) (hg : ∀ p l, p < nq → l < nl → M 116 (10 * p + l) = g p l) (hgb : ∀ p l, p < nq → l < nl → -97409858273280 ≤ g p l ∧ g p l ≤ 97409858273280) (hQ : Q (if tellB g nl set nq = true then 1 else 0) M) (hmono : ∀ p, p ≤ nq → tellB g nl set p = false → tellB g nl set nq = false) : ∀ (m p : Nat) (x2 : Int), p + m = nq → x2 = (p : Int) → tellB g nl set p = true → wX11_tellsPasts_L2 Q 1 (set : Int) (m + 1) x2 M
  | 0, p, x2, hp, h2, ht => by
    subst h2
    obtain rfl : p = nq := by omega
    unfold wX11_tellsPasts_L2
    rw [show M (1 + 1) 11 = (p : Int) from h11]
    rw [if_pos ht] at hQ
    exact BR_t (Int.le_refl _) hQ
  | m + 1, p, x2, hp, h2, ht => by
    subst h2
    have hl10 := hz.2.1
    have hb := tsum_b (set := set) (n := nl) (f := g p) fun j hj => hgb p j (by omega) hj
    have e : tellB g nl set (p + 1) = (tellB g nl set p && decide (0 < tsum (g p) set nl)) := rfl
    unfold wX11_tellsPasts_L2
    rw [show M (1 + 1) 11 = (nq : Int) from h11, bm_nat (n := nq) (by omega), bm_nat (n := p) (by omega)]
    refine BR_f (by omega) ⟨nl + 1, tc18_L hz hc hnl (by omega) hs (fun l hl => hg p l (by omega) hl) ?_ nl 0 _ _ (by omega) rfl rfl⟩
    rw [lc_gt, bl0, bl_id (z := tsum (g p) set nl) (by omega) (by omega)]
    refine BR_i (fun h => LET_i (tc2_L hz hc hnl h11 hq8 hs hg hgb hQ hmono m (p + 1) _ (by omega) (by omega) ?_)) (fun h => ?_)
    · rw [e, ht, decide_eq_true h]
      rfl
    · have := hmono (p + 1) (by omega) (by rw [e, decide_eq_false h, Bool.and_false])
      rw [this, if_neg (by decide)] at hQ
      exact hQ
theorem tell_mono {g : Nat → Nat → Int} {nl set nq : Nat} : ∀ p, p ≤ nq → tellB g nl set p = false → tellB g nl set nq = false := by
  intro p hp h
  have key : ∀ d, tellB g nl set (p + d) = false := by
    intro d
    induction d with
    | zero => exact h
    | succ d ih =>
      show (tellB g nl set (p + d) && _) = false
      rw [ih]
      rfl
  have := key (nq - p)
  rw [show p + (nq - p) = nq by omega] at this
  exact this
/-- the plainest -/
def pls (b : Nat → Bool) : Nat → Nat × Option Nat
  | 0 => (0, none)
  | s + 1 => if b s = true then ((pls b s).1 + 1, match (pls b s).2 with
    | none => some s
    | some c => if pop c ≤ pop s then some c else some s) else pls b s
theorem pls_f {b : Nat → Bool} {s : Nat} (h : b s ≠ true) : pls b (s + 1) = pls b s := if_neg h
theorem pls_n {b : Nat → Bool} {s : Nat} (h : b s = true) (hn : (pls b s).2 = none) : pls b (s + 1) = ((pls b s).1 + 1, some s) := by
  show (if b s = true then ((pls b s).1 + 1, match (pls b s).2 with
    | none => some s
    | some c => if pop c ≤ pop s then some c else some s) else pls b s) = _
  rw [if_pos h, hn]
theorem pls_k {b : Nat → Bool} {s c : Nat} (h : b s = true) (hc : (pls b s).2 = some c) (hp : pop c ≤ pop s) : pls b (s + 1) = ((pls b s).1 + 1, some c) := by
  show (if b s = true then ((pls b s).1 + 1, match (pls b s).2 with
    | none => some s
    | some c => if pop c ≤ pop s then some c else some s) else pls b s) = _
  rw [if_pos h, hc]
  show ((pls b s).1 + 1, if pop c ≤ pop s then some c else some s) = _
  rw [if_pos hp]
theorem pls_t {b : Nat → Bool} {s c : Nat} (h : b s = true) (hc : (pls b s).2 = some c) (hp : ¬ pop c ≤ pop s) : pls b (s + 1) = ((pls b s).1 + 1, some s) := by
  show (if b s = true then ((pls b s).1 + 1, match (pls b s).2 with
    | none => some s
    | some c => if pop c ≤ pop s then some c else some s) else pls b s) = _
  rw [if_pos h, hc]
  show ((pls b s).1 + 1, if pop c ≤ pop s then some c else some s) = _
  rw [if_neg hp]
theorem pls_b {b : Nat → Bool} : ∀ s, (pls b s).1 ≤ s ∧ ∀ c, (pls b s).2 = some c → c < s
  | 0 => ⟨Nat.le_refl 0, fun c h => by cases h⟩
  | s + 1 => by
    obtain ⟨h1, h2⟩ := pls_b (b := b) s
    by_cases h : b s = true
    · cases hc : (pls b s).2 with
      | none =>
        rw [pls_n h hc]
        exact ⟨by show (pls b s).1 + 1 ≤ s + 1; omega, fun c e => by cases e; omega⟩
      | some d =>
        have := h2 d hc
        by_cases hp : pop d ≤ pop s
        · rw [pls_k h hc hp]
          exact ⟨by show (pls b s).1 + 1 ≤ s + 1; omega, fun c e => by cases e; omega⟩
        · rw [pls_t h hc hp]
          exact ⟨by show (pls b s).1 + 1 ≤ s + 1; omega, fun c e => by cases e; omega⟩
    · rw [pls_f h]
      exact ⟨by omega, fun c e => by have := h2 c e; omega⟩
theorem pc26_L {z : Fl} {nq nl : Nat} {g : Nat → Nat → Int} {M : Mem} {y : Int} {Q : Int → Mem → Prop} {E : Int → Int → Mem → Prop} (hz : ZOk z) (hc : CB z M) (hnl : z 1 = (nl : Int)) (h11 : M 2 11 = (nq : Int)) (hq8 : nq ≤ 8) (hg : ∀ p l, p < nq → l < nl → M 116 (10 * p + l) = g p l) (hgb : ∀ p l, p < nq → l < nl → -97409858273280 ≤ g p l ∧ g p l ≤ 97409858273280) (hQ : E ((pls (fun s => tellB g nl s nq) (2 ^ nl)).1 : Int) (oI (pls (fun s => tellB g nl s nq) (2 ^ nl)).2) M) : ∀ (m s : Nat) (x2 x3 x4 : Int), s + m = 2 ^ nl → x4 = (s : Int) → x2 = ((pls (fun s => tellB g nl s nq) s).1 : Int) → x3 = oI (pls (fun s => tellB g nl s nq) s).2 → wX11_plain_L26 Q E 1 y (m + 1) x2 x3 x4 M
  | 0, s, x2, x3, x4, hs, h4, h2, h3 => by
    subst h4 h2 h3
    have hl10 := hz.2.1
    obtain rfl : s = 2 ^ nl := by omega
    unfold wX11_plain_L26
    rw [show M (1 + 1) 4 = (nl : Int) by rw [← hnl]; exact hc.2.1, shl_13 nl (by omega)]
    exact BR_t (Int.le_refl _) hQ
  | m + 1, s, x2, x3, x4, hs, h4, h2, h3 => by
    subst h4 h2 h3
    have hl10 := hz.2.1
    have hp : 2 ^ nl ≤ 1024 := Nat.le_trans (p2le (m := 10) (by omega)) (by decide)
    have hps := pop_le s
    unfold wX11_plain_L26 wX11_tellsPasts
    rw [show M (1 + 1) 4 = (nl : Int) by rw [← hnl]; exact hc.2.1, shl_13 nl (by omega), bm_nat (n := 2 ^ nl) (by omega), bm_nat (n := s) (by omega)]
    refine BR_f (by omega) ⟨nq + 1, tc2_L (g := g) hz hc hnl h11 hq8 (by omega) hg hgb ?_ (fun p q1 q2 => tell_mono p q1 q2) nq 0 _ (by omega) rfl rfl⟩
    by_cases ht : tellB g nl s nq = true
    · rw [if_pos ht]
      refine BR_f q1 (LET_i ?_)
      unfold wX11_plain_J71
      cases ho : (pls (fun s => tellB g nl s nq) s).2 with
      | none =>
        have e := pls_n (b := fun s => tellB g nl s nq) ht ho
        refine BR_t (by decide +kernel) (LET_i (pc26_L hz hc hnl h11 hq8 hg hgb hQ m (s + 1) _ _ _ (by omega) (by omega) ?_ ?_))
        · rw [e]
          rfl
        · rw [e]
          rfl
      | some c =>
        have hc' := (pls_b (b := fun s => tellB g nl s nq) s).2 c ho
        have hpc := pop_le c
        show BR (bm (c : Int) < 0) _ _
        rw [bm_nat (n := c) (by omega)]
        refine BR_f (by omega) ?_
        rw [lf_bitCount rfl (by omega)]
        show wJ6_bitCount_0f7a4 (c : Int) M _
        rw [lf_bitCount rfl (by omega), bm_nat (n := pop s) (by omega), bm_nat (n := pop c) (by omega)]
        refine BR_i (fun h => LET_i (pc26_L hz hc hnl h11 hq8 hg hgb hQ m (s + 1) _ _ _ (by omega) (by omega) ?_ ?_)) (fun h => LET_i (pc26_L hz hc hnl h11 hq8 hg hgb hQ m (s + 1) _ _ _ (by omega) (by omega) ?_ ?_))
        · rw [pls_k (b := fun s => tellB g nl s nq) ht ho (by omega)]
          rfl
        · rw [pls_k (b := fun s => tellB g nl s nq) ht ho (by omega)]
        · rw [pls_t (b := fun s => tellB g nl s nq) ht ho (by omega)]
          rfl
        · rw [pls_t (b := fun s => tellB g nl s nq) ht ho (by omega)]
          rfl
    · rw [if_neg ht]
      refine BR_t q0 (LET_i (pc26_L hz hc hnl h11 hq8 hg hgb hQ m (s + 1) _ _ _ (by omega) (by omega) ?_ ?_))
      · rw [pls_f (b := fun s => tellB g nl s nq) ht]
      · rw [pls_f (b := fun s => tellB g nl s nq) ht]
