/-! A BOOK IS COPIED: the whole; image, restore -/
theorem cf_q {Q E : Mem → Prop} {M0 : Mem} {a0 a1 n : Nat} (hs : a1 + 82 < a0 ∨ a0 + 82 < a1) (hn : M0 a0 11 = (n : Int)) (h8 : n ≤ 8)
    (hQ : ∀ M' : Mem, (∀ a, ¬ (a0 + 51 ≤ a ∧ a ≤ a0 + 82) → M' a = M0 a) → (∀ b : Nat, b < 2 * n → M' (a0 + 51 + 2 * b) 1 = M0 (a1 + 51 + 2 * b) 1 ∧ M' (a0 + 51 + 2 * b) 2 = M0 (a1 + 51 + 2 * b) 2 ∧ ∀ i, i < 12 → M' (a0 + 52 + 2 * b) i = M0 (a1 + 52 + 2 * b) i) → E M') : ∀ (m i : Nat) (M : Mem) (x : Int), i + m = n → x = (i : Int) → (∀ a, ¬ (a0 + 51 ≤ a ∧ a ≤ a0 + 82) → M a = M0 a) → (∀ b : Nat, b < 2 * i → M (a0 + 51 + 2 * b) 1 = M0 (a1 + 51 + 2 * b) 1 ∧ M (a0 + 51 + 2 * b) 2 = M0 (a1 + 51 + 2 * b) 2 ∧ ∀ j, j < 12 → M (a0 + 52 + 2 * b) j = M0 (a1 + 52 + 2 * b) j) → wX0_copyFrom_L127 Q E a0 a1 (m + 1) x M
  | 0, i, M, x, hi, hx, h1, h2 => by
    subst hx
    unfold wX0_copyFrom_L127
    rw [h1 a0 (by omega), hn]
    obtain rfl : i = n := by omega
    exact BR_t (Int.le_refl _) (hQ M h1 h2)
  | m + 1, i, M, x, hi, hx, h1, h2 => by
    subst hx
    unfold wX0_copyFrom_L127
    rw [h1 a0 (by omega), hn, bm_nat (n := n) (by omega), bm_nat (n := i) (by omega)]
    refine BR_f (by omega) ⟨inb_of rfl (by omega) (by decide), inb_of rfl (by omega) (by decide), ?_⟩
    rw [Int.toNat_natCast]
    refine cf_r (by omega) fun M1 f1 f2 f3 f4 => ⟨inb_of rfl (by omega) (by decide), inb_of rfl (by omega) (by decide), ?_⟩
    refine cf_r (by omega) fun M2 g1 g2 g3 g4 => LET_i ?_
    refine cf_q hs hn h8 hQ m (i + 1) _ _ (by omega) (by omega) (fun a ha => ?_) (fun b hb => ?_)
    · rw [g1 a (by omega) (by omega), f1 a (by omega) (by omega)]
      exact h1 a ha
    · by_cases hb1 : b = 2 * i + 1
      · subst hb1
        rw [show a0 + 51 + 2 * (2 * i + 1) = a0 + 53 + 4 * i by omega, show a1 + 51 + 2 * (2 * i + 1) = a1 + 53 + 4 * i by omega, show a0 + 52 + 2 * (2 * i + 1) = a0 + 53 + 4 * i + 1 by omega, show a1 + 52 + 2 * (2 * i + 1) = a1 + 53 + 4 * i + 1 by omega, g2, g3, f1 (a1 + 53 + 4 * i) (by omega) (by omega), h1 (a1 + 53 + 4 * i) (by omega)]
        refine ⟨rfl, rfl, fun j hj => ?_⟩
        rw [g4 j hj, f1 (a1 + 53 + 4 * i + 1) (by omega) (by omega), h1 (a1 + 53 + 4 * i + 1) (by omega)]
      · by_cases hb0 : b = 2 * i
        · subst hb0
          rw [show a0 + 51 + 2 * (2 * i) = a0 + 51 + 4 * i by omega, show a1 + 51 + 2 * (2 * i) = a1 + 51 + 4 * i by omega, show a0 + 52 + 2 * (2 * i) = a0 + 51 + 4 * i + 1 by omega, show a1 + 52 + 2 * (2 * i) = a1 + 51 + 4 * i + 1 by omega, g1 (a0 + 51 + 4 * i) (by omega) (by omega), g1 (a0 + 51 + 4 * i + 1) (by omega) (by omega), f2, f3, h1 (a1 + 51 + 4 * i) (by omega)]
          refine ⟨rfl, rfl, fun j hj => ?_⟩
          rw [f4 j hj, h1 (a1 + 51 + 4 * i + 1) (by omega)]
        · rw [g1 (a0 + 51 + 2 * b) (by omega) (by omega), g1 (a0 + 52 + 2 * b) (by omega) (by omega), f1 (a0 + 51 + 2 * b) (by omega) (by omega), f1 (a0 + 52 + 2 * b) (by omega) (by omega)]
          exact h2 b (by omega)
theorem cf_all {a0 a1 : Nat} {M : Mem} {s : Fl} {Q : Mem → Prop} (hs : a1 + 82 < a0 ∨ a0 + 82 < a1) (hf : FlOk s) (hb : Bk a1 M s) (hQ : ∀ M' : Mem, (∀ a, (a < a0 ∨ a0 + 82 < a) → M' a = M a) → Bk a0 M' s → Q M') : wX0_copyFrom a0 a1 M Q := by
  obtain ⟨⟨n0, n1, n2, n3, n4, n5⟩, -, fp, fl, fm, fq, -⟩ := hf
  obtain ⟨⟨b0, b1, b2, b3, b4, b5⟩, br, bp, bl, bmu, bq, ⟨bt1, bt2⟩, bw⟩ := hb
  obtain ⟨np, hnp⟩ : ∃ n : Nat, s 0 = (n : Int) := ⟨(s 0).toNat, by omega⟩
  obtain ⟨nl, hnl⟩ : ∃ n : Nat, s 1 = (n : Int) := ⟨(s 1).toNat, by omega⟩
  obtain ⟨nm, hnm⟩ : ∃ n : Nat, s 2 = (n : Int) := ⟨(s 2).toNat, by omega⟩
  obtain ⟨nq, hnq⟩ : ∃ n : Nat, s 3 = (n : Int) := ⟨(s 3).toNat, by omega⟩
  unfold wX0_copyFrom
  refine LET_i ⟨np + 1, ?_⟩
  refine cf_p hs (n := np) (M0 := up M a0 1 (M a1 1)) (by rw [up_s, b0, hnp]) (by omega) (fun M2 f2 g2 => LET_i ⟨nl + 1, ?_⟩) np 0 _ _ (by omega) rfl (fun _ _ => rfl) (fun p hp => by omega)
  have k2 : ∀ a, a ≠ a0 → ¬ (a0 + 9 ≤ a ∧ a ≤ a0 + 20) → M2 a = M a := fun a q1 q2 => by rw [f2 a q2, up_c q1]
  have e4 : M2 a1 4 = (nl : Int) := by rw [k2 a1 (by omega) (by omega), b1, hnl]
  rw [e4]
  refine cf_l hs (n := nl) (M0 := up M2 a0 4 (nl : Int)) (by rw [up_s]) (by omega) (fun l hl => ?_) (fun M4 f4 g4 => LET_i ⟨nm + 1, ?_⟩) nl 0 _ _ (by omega) rfl (fun _ _ => rfl) (fun p hp => by omega)
  · rw [up_c (by omega), k2 _ (by omega) (by omega)]
    obtain ⟨p1, p2, p3, p4, p5, p6, p7⟩ := bl l (by omega)
    rw [p5, p6]
    exact ⟨(fl l (by omega)).2.2.2.1, (fl l (by omega)).2.2.2.2.1, (fl l (by omega)).2.2.2.2.2.1⟩
  have k4 : ∀ a, a ≠ a0 → ¬ (a0 + 9 ≤ a ∧ a ≤ a0 + 40) → M4 a = M a := fun a q1 q2 => by rw [f4 a (by omega), up_c q1, k2 a q1 (by omega)]
  have e6 : M4 a1 6 = (nm : Int) := by rw [k4 a1 (by omega) (by omega), b2, hnm]
  rw [e6]
  refine cf_m hs (n := nm) (M0 := up M4 a0 6 (nm : Int)) (by rw [up_s]) (by omega) (fun M6 f6 g6 => LET_i ⟨nq + 1, ?_⟩) nm 0 _ _ (by omega) rfl (fun _ _ => rfl) (fun p hp => by omega)
  have k6 : ∀ a, a ≠ a0 → ¬ (a0 + 9 ≤ a ∧ a ≤ a0 + 50) → M6 a = M a := fun a q1 q2 => by rw [f6 a (by omega), up_c q1, k4 a q1 (by omega)]
  have e11 : M6 a1 11 = (nq : Int) := by rw [k6 a1 (by omega) (by omega), b3, hnq]
  rw [e11]
  refine cf_q hs (n := nq) (M0 := up M6 a0 11 (nq : Int)) (by rw [up_s]) (by omega) (fun M8 f8 g8 => LET_i ?_) nq 0 _ _ (by omega) rfl (fun _ _ => rfl) (fun p hp => by omega)
  have k8 : ∀ a, a ≠ a0 → ¬ (a0 + 9 ≤ a ∧ a ≤ a0 + 82) → M8 a = M a := fun a q1 q2 => by rw [f8 a (by omega), up_c q1, k6 a q1 (by omega)]
  refine ⟨by decide +kernel, fun j hj1 hj2 => ?_, LET_i (LET_i ⟨by decide +kernel, LET_i ⟨by decide +kernel, LET_i ?_⟩⟩)⟩
  · rw [up_c (by omega), k8 (a1 + 5) (by omega) (by omega)]
    exact bt1 j (by rw [show bm 0 + bm 50 = 50 from by decide +kernel] at hj2; omega)
  have A0 : ∀ j, M8 a0 j = if j = 11 then (nq : Int) else if j = 6 then (nm : Int) else if j = 4 then (nl : Int) else if j = 1 then M a1 1 else M a0 j := fun j => by
    rw [f8 a0 (by omega), up_k, f6 a0 (by omega), up_k, f4 a0 (by omega), up_k, f2 a0 (by omega), up_k]
  have x8 : M8 a1 8 = s 4 := by rw [k8 a1 (by omega) (by omega)]; exact b4
  have x13 : cpy (up M8 a0 8 (M8 a1 8)) (a1 + 5) (a0 + 5) 0 0 50 a1 13 = s 5 := by rw [cpy_c (by omega), up_c (by omega), k8 a1 (by omega) (by omega)]; exact b5
  rw [x13, x8]
  refine hQ _ (fun a ha => ?_) ⟨?_, ?_, ?_, ?_, ?_, ?_, ⟨?_, ?_⟩, ?_⟩
  · rw [cpy_c (by omega), cpy_c (by omega), up_c (by omega), cpy_c (by omega), up_c (by omega), k8 a (by omega) (by omega)]
  · have A : ∀ j, j ≠ 8 → j ≠ 13 → cpy (cpy (up (cpy (up M8 a0 8 (s 4)) (a1 + 5) (a0 + 5) 0 0 50) a0 13 (s 5)) (a1 + 8) (a0 + 8) 0 0 12) (a1 + 2) (a0 + 2) 0 0 4 a0 j = M8 a0 j := fun j q1 q2 => by
      rw [cpy_c (by omega), cpy_c (by omega), up_kn q2, cpy_c (by omega), up_kn q1]
    unfold BkCnt
    rw [A 1 (by decide) (by decide), A 4 (by decide) (by decide), A 6 (by decide) (by decide), A 11 (by decide) (by decide), A0, A0, A0, A0]
    refine ⟨b0, hnl.symm, hnm.symm, hnq.symm, ?_, ?_⟩
    · rw [cpy_c (by omega), cpy_c (by omega), up_kn (by decide), cpy_c (by omega), up_s]
    · rw [cpy_c (by omega), cpy_c (by omega), up_s]
  · intro i hi
    rw [cpy_at (n := 4) (k := 4) rfl (by decide), if_pos hi, cpy_c (by omega), up_c (by omega), cpy_c (by omega), up_c (by omega), k8 (a1 + 2) (by omega) (by omega)]
    exact br i hi
  · intro p hp
    have e : ∀ f, f < 6 → cpy (cpy (up (cpy (up M8 a0 8 (s 4)) (a1 + 5) (a0 + 5) 0 0 50) a0 13 (s 5)) (a1 + 8) (a0 + 8) 0 0 12) (a1 + 2) (a0 + 2) 0 0 4 (a0 + 9 + p) f = M (a1 + 9 + p) f := fun f hf => by
      rw [cpy_c (by omega), cpy_c (by omega), up_c (by omega), cpy_c (by omega), up_c (by omega), f8 _ (by omega), up_c (by omega), f6 _ (by omega), up_c (by omega), f4 _ (by omega), up_c (by omega), g2 p (by omega) f hf, up_c (by omega)]
    unfold BkPiece
    rw [e 0 (by decide), e 1 (by decide), e 2 (by decide), e 3 (by decide), e 4 (by decide), e 5 (by decide)]
    exact bp p hp
  · intro l hl
    have e : ∀ f, f < 6 → cpy (cpy (up (cpy (up M8 a0 8 (s 4)) (a1 + 5) (a0 + 5) 0 0 50) a0 13 (s 5)) (a1 + 8) (a0 + 8) 0 0 12) (a1 + 2) (a0 + 2) 0 0 4 (a0 + 21 + 2 * l) f = M (a1 + 21 + 2 * l) f := fun f hf => by
      rw [cpy_c (by omega), cpy_c (by omega), up_c (by omega), cpy_c (by omega), up_c (by omega), f8 _ (by omega), up_c (by omega), f6 _ (by omega), up_c (by omega), (g4 l (by omega)).1 f hf, up_c (by omega), k2 _ (by omega) (by omega)]
    obtain ⟨p1, p2, p3, p4, p5, p6, p7⟩ := bl l hl
    unfold BkLik
    rw [e 0 (by decide), e 1 (by decide), e 2 (by decide), e 3 (by decide), e 4 (by decide), e 5 (by decide)]
    refine ⟨p1, p2, p3, p4, p5, p6, fun k hk => ?_⟩
    rw [cpy_c (by omega), cpy_c (by omega), up_c (by omega), cpy_c (by omega), up_c (by omega), f8 _ (by omega), up_c (by omega), f6 _ (by omega), up_c (by omega), (g4 l (by omega)).2 k (by rw [up_c (by omega), k2 _ (by omega) (by omega), p6]; exact hk), up_c (by omega), k2 _ (by omega) (by omega)]
    exact p7 k hk
  · intro p hp
    have e : ∀ f, f < 4 → cpy (cpy (up (cpy (up M8 a0 8 (s 4)) (a1 + 5) (a0 + 5) 0 0 50) a0 13 (s 5)) (a1 + 8) (a0 + 8) 0 0 12) (a1 + 2) (a0 + 2) 0 0 4 (a0 + 41 + p) f = M (a1 + 41 + p) f := fun f hf => by
      rw [cpy_c (by omega), cpy_c (by omega), up_c (by omega), cpy_c (by omega), up_c (by omega), f8 _ (by omega), up_c (by omega), g6 p (by omega) f hf, up_c (by omega), k4 _ (by omega) (by omega)]
    unfold BkMust
    rw [e 0 (by decide), e 1 (by decide), e 2 (by decide), e 3 (by decide)]
    exact bmu p hp
  · intro p hp
    have fr : ∀ a, a0 + 51 ≤ a → cpy (cpy (up (cpy (up M8 a0 8 (s 4)) (a1 + 5) (a0 + 5) 0 0 50) a0 13 (s 5)) (a1 + 8) (a0 + 8) 0 0 12) (a1 + 2) (a0 + 2) 0 0 4 a = M8 a := fun a ha => by
      rw [cpy_c (by omega), cpy_c (by omega), up_c (by omega), cpy_c (by omega), up_c (by omega)]
    have s1 : ∀ a, a1 ≤ a → a ≤ a1 + 82 → up M6 a0 11 (nq : Int) a = M a := fun a q1 q2 => by rw [up_c (by omega), k6 a (by omega) (by omega)]
    have g0 := g8 (2 * p) (by omega)
    have g1 := g8 (2 * p + 1) (by omega)
    rw [show a0 + 51 + 2 * (2 * p) = a0 + 51 + 4 * p by omega, show a1 + 51 + 2 * (2 * p) = a1 + 51 + 4 * p by omega, show a0 + 52 + 2 * (2 * p) = a0 + 52 + 4 * p by omega, show a1 + 52 + 2 * (2 * p) = a1 + 52 + 4 * p by omega, s1 (a1 + 51 + 4 * p) (by omega) (by omega), s1 (a1 + 52 + 4 * p) (by omega) (by omega)] at g0
    rw [show a0 + 51 + 2 * (2 * p + 1) = a0 + 53 + 4 * p by omega, show a1 + 51 + 2 * (2 * p + 1) = a1 + 53 + 4 * p by omega, show a0 + 52 + 2 * (2 * p + 1) = a0 + 54 + 4 * p by omega, show a1 + 52 + 2 * (2 * p + 1) = a1 + 54 + 4 * p by omega, s1 (a1 + 53 + 4 * p) (by omega) (by omega), s1 (a1 + 54 + 4 * p) (by omega) (by omega)] at g1
    obtain ⟨q1, q2, q3, q4, q5, q6⟩ := bq p hp
    obtain ⟨-, r1, r2, -, -⟩ := fq p hp
    unfold BkPast
    rw [fr (a0 + 51 + 4 * p) (by omega), fr (a0 + 52 + 4 * p) (by omega), fr (a0 + 53 + 4 * p) (by omega), fr (a0 + 54 + 4 * p) (by omega), g0.1, g0.2.1, g1.1, g1.2.1]
    refine ⟨q1, q2, fun i hi => ?_, q4, q5, fun i hi => ?_⟩
    · rw [g0.2.2 i (by omega)]
      exact q3 i hi
    · rw [g1.2.2 i (by omega)]
      exact q6 i hi
  · intro i hi
    rw [cpy_c (by omega), cpy_c (by omega), up_c (by omega), cpy_at (n := 50) (k := 50) rfl (by decide), if_pos hi, up_c (by omega), k8 (a1 + 5) (by omega) (by omega)]
    exact bt1 i hi
  · intro i hi
    rw [cpy_c (by omega), cpy_c (by omega), up_c (by omega), cpy_at (n := 50) (k := 50) rfl (by decide), if_pos (by omega), up_c (by omega), k8 (a1 + 5) (by omega) (by omega)]
    exact bt2 i hi
  · intro i hi
    rw [cpy_c (by omega), cpy_at (n := 12) (k := 12) rfl (by decide), if_pos (by omega), up_c (by omega), cpy_c (by omega), up_c (by omega), k8 (a1 + 8) (by omega) (by omega)]
    exact bw i hi
theorem FlOk.ext {s s' : Fl} (h : FlOk s) (e : ∀ i, i < 1522 → s' i = s i) : FlOk s' := by
  have e0 := e 0 (by decide)
  have e1 := e 1 (by decide)
  have e2 := e 2 (by decide)
  have e3 := e 3 (by decide)
  have e4 := e 4 (by decide)
  have e5 := e 5 (by decide)
  obtain ⟨n0, n1, n2, n3, n4, n5⟩ := h.1
  refine h.upd ⟨by omega, by omega, by omega, by omega, by omega, by omega⟩ ?_ (by omega) (fun p hp => Or.inl ⟨by omega, fun i _ _ => e i (by omega)⟩) (fun p hp => Or.inl ⟨by omega, fun i _ _ => e i (by omega), fun i _ _ => e i (by omega)⟩) (fun p hp => Or.inl ⟨by omega, fun i _ _ => e i (by omega)⟩) (fun p hp => Or.inl ⟨by omega, fun i _ _ => e i (by omega)⟩) (h.2.2.2.2.2.2.cg e4 (by omega) (fun i _ _ => e i (by omega)))
  have := h.2.1
  unfold RulOk at this ⊢
  rw [e 6 (by decide), e 7 (by decide), e 8 (by decide), e 9 (by decide)]
  exact this
theorem Bk.ext {B : Nat} {M : Mem} {s s' : Fl} (h : FlOk s) (hb : Bk B M s) (e : ∀ i, i < 1522 → s' i = s i) : Bk B M s' := by
  have e0 := e 0 (by decide)
  have e1 := e 1 (by decide)
  have e2 := e 2 (by decide)
  have e3 := e 3 (by decide)
  have e4 := e 4 (by decide)
  have e5 := e 5 (by decide)
  obtain ⟨n0, n1, n2, n3, n4, n5⟩ := h.1
  refine Bk.upd h hb ?_ (fun i hi => by rw [e _ (by omega)]; exact hb.2.1 i hi) (fun p hp => Or.inl ⟨by omega, rfl, fun i _ _ => e i (by omega)⟩) (fun p hp => Or.inl ⟨by omega, rfl, rfl, fun i _ _ => e i (by omega), fun i _ _ => e i (by omega)⟩) (fun p hp => Or.inl ⟨by omega, rfl, fun i _ _ => e i (by omega)⟩) (fun p hp => Or.inl ⟨by omega, fun _ _ _ => rfl, fun i _ _ => e i (by omega)⟩) ⟨hb.2.2.2.2.2.2.1.1, fun i hi => ?_⟩ (fun i hi => ?_)
  · unfold BkCnt
    rw [e0, e1, e2, e3, e4, e5]
    exact hb.1
  · rw [e _ (by omega)]
    exact hb.2.2.2.2.2.2.1.2 i (by omega)
  · rw [e _ (by omega)]
    exact hb.2.2.2.2.2.2.2 i (by omega)
theorem im_L {Q : Int → Mem → Prop} {E : Mem → Prop} {M0 : Mem} (hQ : ∀ M' : Mem, (∀ a, a ≠ 127 → M' a = M0 a) → (∀ j, M' 127 j = if j < 1522 then M0 126 j else M0 127 j) → E M') : ∀ (m i : Nat) (M : Mem) (x : Int), i + m = 1522 → x = (i : Int) → (∀ a, a ≠ 127 → M a = M0 a) → (∀ j, M 127 j = if j < i then M0 126 j else M0 127 j) → wX12_image_L2 Q E 125 (m + 1) x M
  | 0, i, M, x, hi, hx, h1, h2 => by
    subst hx
    unfold wX12_image_L2
    obtain rfl : i = 1522 := by omega
    exact BR_t (by decide +kernel) (hQ M h1 h2)
  | m + 1, i, M, x, hi, hx, h1, h2 => by
    subst hx
    unfold wX12_image_L2
    rw [bm_nat (n := i) (by omega)]
    refine BR_f (by omega) ⟨inb_of rfl (by omega) (by decide), inb_of rfl (by omega) (by decide), LET_i (LET_i ?_)⟩
    rw [wr_up (n := i) rfl (by omega), rd_at (n := i) rfl (by omega), h1 (125 + 1) (by decide)]
    refine im_L hQ m (i + 1) _ _ (by omega) (by omega) (fun a ha => by rw [up_c ha]; exact h1 a ha) (fun j => ?_)
    rw [up_k]
    by_cases hj : j = i
    · subst hj
      rw [if_pos rfl, if_pos (by omega)]
    · rw [if_neg hj, h2]
      by_cases hj2 : j < i
      · rw [if_pos hj2, if_pos (by omega)]
      · rw [if_neg hj2, if_neg (by omega)]
theorem re_L {Q : Int → Mem → Prop} {M0 : Mem} (hQ : ∀ M' : Mem, (∀ a, a ≠ 126 → M' a = M0 a) → (∀ j, M' 126 j = if j < 1522 then M0 127 j else M0 126 j) → Q (M' 126 0) M') : ∀ (m i : Nat) (M : Mem) (x : Int), i + m = 1522 → x = (i : Int) → (∀ a, a ≠ 126 → M a = M0 a) → (∀ j, M 126 j = if j < i then M0 127 j else M0 126 j) → wX12_restore_L15 Q 125 (m + 1) x M
  | 0, i, M, x, hi, hx, h1, h2 => by
    subst hx
    unfold wX12_restore_L15
    obtain rfl : i = 1522 := by omega
    rw [rd_at (i := 0) (n := 0) rfl (by decide)]
    exact BR_t (by decide +kernel) (hQ M h1 h2)
  | m + 1, i, M, x, hi, hx, h1, h2 => by
    subst hx
    unfold wX12_restore_L15
    rw [bm_nat (n := i) (by omega)]
    refine BR_f (by omega) ⟨inb_of rfl (by omega) (by decide), inb_of rfl (by omega) (by decide), LET_i (LET_i ?_)⟩
    rw [wr_up (n := i) rfl (by omega), rd_at (n := i) rfl (by omega), h1 (125 + 2) (by decide)]
    refine re_L hQ m (i + 1) _ _ (by omega) (by omega) (fun a ha => by rw [up_c ha]; exact h1 a ha) (fun j => ?_)
    rw [up_k]
    by_cases hj : j = i
    · subst hj
      rw [if_pos rfl, if_pos (by omega)]
    · rw [if_neg hj, h2]
      by_cases hj2 : j < i
      · rw [if_pos hj2, if_pos (by omega)]
      · rw [if_neg hj2, if_neg (by omega)]
