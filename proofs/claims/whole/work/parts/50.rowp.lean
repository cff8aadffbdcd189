/-! ROWS: what both sides hold of the book; bounds -/
def CB (z : Fl) (M : Mem) : Prop := M 2 1 = z 0 ∧ M 2 4 = z 1 ∧ M 2 6 = z 2 ∧ (∀ i, i < 4 → M 4 i = z (6 + i)) ∧ (∀ p : Nat, (p : Int) < z 0 → ∀ f, f < 6 → M (11 + p) f = z (20 + 6 * p + f)) ∧ (∀ l : Nat, (l : Int) < z 1 → BkLik 2 M z l) ∧ ∀ m : Nat, (m : Int) < z 2 → M (43 + m) 0 = mS z m ∧ M (43 + m) 1 = mA z m ∧ M (43 + m) 2 = mB z m ∧ M (43 + m) 3 = mM z m
def ZOk (z : Fl) : Prop := (0 ≤ z 0 ∧ z 0 ≤ 12) ∧ (0 ≤ z 1 ∧ z 1 ≤ 10) ∧ (0 ≤ z 2 ∧ z 2 ≤ 10) ∧ RulOk z ∧ (∀ p : Nat, (p : Int) < z 0 → PieceOk z p) ∧ (∀ l : Nat, (l : Int) < z 1 → LikOk z l) ∧ ∀ m : Nat, (m : Int) < z 2 → MustOk z m
def MB (z : Fl) (M : Mem) : Prop := ∀ j, (j ≤ 2 ∨ (6 ≤ j ∧ j < 1240)) → M 126 j = z j
theorem vw_at {s : Fl} {j : Nat} (h : j ≤ 2 ∨ (6 ≤ j ∧ j < 1240)) : vw s j = s j := if_pos h
theorem Inv.mb {t : Int} {M : Mem} (_ : Inv t M) : MB (vw (M 126)) M := fun _ hj => (vw_at hj).symm
theorem Inv.zok {t : Int} {M : Mem} (h : Inv t M) : ZOk (vw (M 126)) := by
  obtain ⟨⟨n0, n1, n2, n3, n4, n5⟩, hr, hp, hl, hm, -, -⟩ := h.1
  have e0 : vw (M 126) 0 = M 126 0 := vw_at (by omega)
  have e1 : vw (M 126) 1 = M 126 1 := vw_at (by omega)
  have e2 : vw (M 126) 2 = M 126 2 := vw_at (by omega)
  refine ⟨by omega, by omega, by omega, ?_, fun p q => ?_, fun l q => ?_, fun m q => ?_⟩
  · unfold RulOk at hr ⊢
    rw [vw_at (by omega), vw_at (by omega), vw_at (by omega), vw_at (by omega)]
    exact hr
  · exact (hp p (by omega)).cg fun i _ _ => vw_at (by omega)
  · exact (hl l (by omega)).cg (fun i _ _ => vw_at (by omega)) fun i _ _ => vw_at (by omega)
  · exact (hm m (by omega)).cg (by omega) fun i _ _ => vw_at (by omega)
theorem Inv.cb {t : Int} {M : Mem} (h : Inv t M) : CB (vw (M 126)) M := by
  obtain ⟨⟨n0, n1, n2, n3, n4, n5⟩, -, -, fl, -, -, -⟩ := h.1
  obtain ⟨⟨b0, b1, b2, b3, b4, b5⟩, br, bp, bl, bm, -, -, -⟩ := h.2.1
  have e0 : vw (M 126) 0 = M 126 0 := vw_at (by omega)
  have e1 : vw (M 126) 1 = M 126 1 := vw_at (by omega)
  have e2 : vw (M 126) 2 = M 126 2 := vw_at (by omega)
  refine ⟨by omega, by omega, by omega, fun i hi => ?_, fun p q f hf => ?_, fun l q => ?_, fun m q => ?_⟩
  · rw [vw_at (by omega)]
    exact br i hi
  · have := (bp p (by omega)).at (f := f) hf
    rw [show 2 + 9 + p = 11 + p by omega] at this
    rw [this, vw_at (by omega)]
  · exact (bl l (by omega)).cg (fl l (by omega)).2.2.2.2.2.1 rfl rfl (fun i _ _ => vw_at (by omega)) fun i _ _ => vw_at (by omega)
  · have := bm m (by omega)
    unfold BkMust mS mA mB mM at this
    rw [show 2 + 41 + m = 43 + m by omega] at this
    unfold mS mA mB mM
    rw [vw_at (by omega), vw_at (by omega), vw_at (by omega), vw_at (by omega)]
    exact this
theorem CB.congr {z : Fl} {M M' : Mem} (hz : ZOk z) (h : CB z M) (e : ∀ a, (a = 2 ∨ a = 4 ∨ (11 ≤ a ∧ a ≤ 52)) → M' a = M a) : CB z M' := by
  obtain ⟨n0, n1, n2, -⟩ := hz
  obtain ⟨c1, c2, c3, c4, c5, c6, c7⟩ := h
  refine ⟨by rw [e 2 (by omega)]; exact c1, by rw [e 2 (by omega)]; exact c2, by rw [e 2 (by omega)]; exact c3, by rw [e 4 (by omega)]; exact c4, fun p q f hf => ?_, fun l q => ?_, fun m q => ?_⟩
  · rw [e _ (by omega)]
    exact c5 p q f hf
  · have := c6 l q
    unfold BkLik at this ⊢
    rw [e (2 + 21 + 2 * l) (by omega), e (2 + 22 + 2 * l) (by omega)]
    exact this
  · rw [e _ (by omega)]
    exact c7 m q
theorem car_le (z : Fl) (a b : Nat) : car z a b ≤ 12 := pop_le _
theorem gp_nil (z : Fl) (v q : Nat) : gp z v q [] = 0 := rfl
theorem gp_cons (z : Fl) (v q p : Nat) (l : List Nat) : gp z v q (p :: l) = if l.length + 1 = v then z 8 else (car z p q : Int) * z 6 := rfl
theorem en_nil (z : Fl) (v : Nat) : en z v [] = 0 := rfl
theorem en_cons (z : Fl) (v q : Nat) (l : List Nat) : en z v (q :: l) = en z v l + gp z v q l + pMin z q := rfl
theorem cr_one (z : Fl) (q : Nat) : cr z [q] = 0 := rfl
theorem cr_cons (z : Fl) (q p : Nat) (l : List Nat) : cr z (q :: p :: l) = cr z (p :: l) + (car z p q : Int) := rfl
theorem ti_cons (z : Fl) (v i q : Nat) (l : List Nat) : ti z v i (q :: l) = if plays z q i then mx 0 (ti z v i l - gp z v q l * z 7) + pEff z q else mx 0 (ti z v i l - (gp z v q l + pMin z q) * z 7) := rfl
theorem mt_cons (z : Fl) (v q : Nat) (l : List Nat) : mt z v (q :: l) = mxn (fun i => ti z v i (q :: l)) (mt z v l) 8 := rfl
theorem stb_cons (q : Nat) (l : List Nat) : stb (q :: l) = stb l ||| 2 ^ q := rfl
theorem bk_cons (z : Fl) (v n q : Nat) (l : List Nat) : bk z v n (q :: l) = bk z v n l ||| bits (fun m => bkAt z v n m q l) (z 2).toNat := rfl
theorem gp_nn {z : Fl} (hz : ZOk z) (v q : Nat) (l : List Nat) : 0 ≤ gp z v q l ∧ gp z v q l ≤ 108 := by
  obtain ⟨h6, h7, h8, h9⟩ := hz.2.2.2.1
  cases l with
  | nil =>
    rw [gp_nil]
    decide
  | cons p l =>
    rw [gp_cons]
    split
    · omega
    · have h := car_le z p q
      have h1 : (0 : Int) ≤ (car z p q : Int) * z 6 := Int.mul_nonneg (by omega) h6.1
      have h2 : (car z p q : Int) * z 6 ≤ 12 * 9 := Int.mul_le_mul (by omega) h6.2 h6.1 (by decide)
      exact ⟨h1, by omega⟩
/-- all pieces of l there are -/
def Pcs (z : Fl) (l : List Nat) : Prop := ∀ q ∈ l, (q : Int) < z 0
theorem en_nn {z : Fl} (hz : ZOk z) (v : Nat) : ∀ l, Pcs z l → 0 ≤ en z v l ∧ en z v l ≤ 168 * l.length
  | [], _ => by simp [en]
  | q :: l, h => by
    have h1 := en_nn hz v l (fun p hp => h p (List.mem_cons_of_mem _ hp))
    have h2 := gp_nn hz v q l
    have h3 := (hz.2.2.2.2.1 q (h q List.mem_cons_self)).1
    rw [en_cons, List.length_cons]
    omega
theorem cr_nn (z : Fl) : ∀ l, 0 ≤ cr z l ∧ cr z l ≤ 12 * l.length
  | [] => by simp [cr]
  | [q] => by simp [cr]
  | q :: p :: l => by
    have h1 := cr_nn z (p :: l)
    have h := car_le z p q
    rw [cr_cons, List.length_cons]
    omega
theorem mx_ge (a b : Int) : a ≤ mx a b ∧ b ≤ mx a b ∧ (mx a b = a ∨ mx a b = b) := by
  unfold mx
  split <;> omega
theorem ti_nn {z : Fl} (hz : ZOk z) (v i : Nat) : ∀ l, Pcs z l → 0 ≤ ti z v i l ∧ ti z v i l ≤ 99 * l.length
  | [], _ => by simp [ti]
  | q :: l, h => by
    have h1 := ti_nn hz v i l (fun p hp => h p (List.mem_cons_of_mem _ hp))
    have h2 := gp_nn hz v q l
    have h3 := hz.2.2.2.2.1 q (h q List.mem_cons_self)
    have h3a := h3.1
    have h3b := h3.2.2.2.2.2
    obtain ⟨h6, h7, h8, h9⟩ := hz.2.2.2.1
    rw [ti_cons, List.length_cons]
    split
    · have k1 : 0 ≤ gp z v q l * z 7 := Int.mul_nonneg h2.1 h7.1
      have := mx_ge 0 (ti z v i l - gp z v q l * z 7)
      omega
    · have k1 : 0 ≤ (gp z v q l + pMin z q) * z 7 := Int.mul_nonneg (by omega) h7.1
      have := mx_ge 0 (ti z v i l - (gp z v q l + pMin z q) * z 7)
      omega
theorem mxn_nn {f : Nat → Int} {a c : Int} (ha : 0 ≤ a ∧ a ≤ c) : ∀ n, (∀ i, i < n → 0 ≤ f i ∧ f i ≤ c) → 0 ≤ mxn f a n ∧ mxn f a n ≤ c
  | 0, _ => ha
  | n + 1, h => by
    have h1 := mxn_nn ha n (fun i hi => h i (by omega))
    have h2 := h n (by omega)
    have := mx_ge (mxn f a n) (f n)
    unfold mxn
    omega
theorem mt_nn {z : Fl} (hz : ZOk z) (v : Nat) : ∀ l, Pcs z l → 0 ≤ mt z v l ∧ mt z v l ≤ 99 * l.length
  | [], _ => by simp [mt]
  | q :: l, h => by
    have h1 := mt_nn hz v l (fun p hp => h p (List.mem_cons_of_mem _ hp))
    rw [mt_cons]
    have h2 : 0 ≤ mt z v l ∧ mt z v l ≤ 99 * ((q :: l).length : Int) := by rw [List.length_cons]; omega
    exact mxn_nn h2 8 fun i _ => ti_nn hz v i (q :: l) h
theorem stb_lt : ∀ l : List Nat, (∀ q ∈ l, q < 12) → stb l < 2 ^ 12
  | [], _ => by decide
  | q :: l, h => by
    rw [stb_cons]
    exact or_bit_lt (stb_lt l (fun p hp => h p (List.mem_cons_of_mem _ hp))) (h q List.mem_cons_self)
theorem bk_lt {z : Fl} (hz : ZOk z) (v n : Nat) : ∀ l : List Nat, bk z v n l < 2 ^ 10
  | [] => by simp [bk]
  | q :: l => by
    rw [bk_cons]
    refine Nat.or_lt_two_pow (bk_lt hz v n l) (Nat.lt_of_lt_of_le (bits_lt _) (p2le ?_))
    have := hz.2.2.1
    omega
theorem Pcs.lt {z : Fl} (hz : ZOk z) {l : List Nat} (h : Pcs z l) : ∀ q ∈ l, q < 12 := fun q hq => by
  have h1 := h q hq
  have h2 := hz.1
  omega
/-- a row's first i pieces there are -/
def RowPs (z : Fl) (r : Nat → Nat) (i : Nat) : Prop := ∀ k, k < i → (r k : Int) < z 0
theorem RowPs.pcs {z : Fl} {r : Nat → Nat} : ∀ {i : Nat}, RowPs z r i → Pcs z (rl r i)
  | 0, _ => fun q hq => by cases hq
  | i + 1, h => fun q hq => by
    change q ∈ r i :: rl r i at hq
    rcases List.mem_cons.mp hq with rfl | hq
    · exact h i (by omega)
    · exact RowPs.pcs (i := i) (fun k hk => h k (by omega)) q hq
theorem RowPs.le {z : Fl} {r : Nat → Nat} {i j : Nat} (h : RowPs z r i) (hj : j ≤ i) : RowPs z r j := fun k hk => h k (by omega)
/-! THE CLASS'S WALK along a row -/
def RowAt (z : Fl) (v n : Nat) (r : Nat → Nat) (i : Nat) (M : Mem) : Prop :=
  (∀ k, k < i → M 92 k = (r k : Int) ∧ M 93 k = en z v (rl r k) + gp z v (r k) (rl r k)) ∧
  ∀ k, k ≤ i → M 94 k = en z v (rl r k) ∧ M 95 k = cr z (rl r k) ∧ M 96 k = (stb (rl r k) : Int) ∧ M 97 k = (bk z v n (rl r k) : Int) ∧ M 98 k = mt z v (rl r k) ∧ ∀ j, j < 8 → M 99 (8 * k + j) = ti z v j (rl r k)
/-- so far the walk has stayed as it was -/
def FrI (i : Nat) (M M' : Mem) : Prop := (∀ a, ¬ (92 ≤ a ∧ a ≤ 102) → M' a = M a) ∧ (∀ k, k < i → M' 92 k = M 92 k ∧ M' 93 k = M 93 k) ∧ (∀ k, k ≤ i → M' 94 k = M 94 k ∧ M' 95 k = M 95 k ∧ M' 96 k = M 96 k ∧ M' 97 k = M 97 k ∧ M' 98 k = M 98 k) ∧ (∀ k, k < 8 * (i + 1) → M' 99 k = M 99 k) ∧ ∀ k, k < 10 * (i + 1) → M' 100 k = M 100 k
theorem FrI.rf {i : Nat} {M : Mem} : FrI i M M := ⟨fun _ _ => rfl, fun _ _ => ⟨rfl, rfl⟩, fun _ _ => ⟨rfl, rfl, rfl, rfl, rfl⟩, fun _ _ => rfl, fun _ _ => rfl⟩
theorem FrI.tr {i j k : Nat} {M M' M'' : Mem} (h : FrI i M M') (h' : FrI j M' M'') (hi : k ≤ i) (hj : k ≤ j) : FrI k M M'' := by
  obtain ⟨a1, a2, a3, a4, a5⟩ := h
  obtain ⟨b1, b2, b3, b4, b5⟩ := h'
  refine ⟨fun a ha => by rw [b1 a ha, a1 a ha], fun c hc => ?_, fun c hc => ?_, fun c hc => by rw [b4 c (by omega), a4 c (by omega)], fun c hc => by rw [b5 c (by omega), a5 c (by omega)]⟩
  · rw [(b2 c (by omega)).1, (b2 c (by omega)).2]
    exact a2 c (by omega)
  · obtain ⟨x1, x2, x3, x4, x5⟩ := b3 c (by omega)
    rw [x1, x2, x3, x4, x5]
    exact a3 c (by omega)
theorem FrI.le {i j : Nat} {M M' : Mem} (h : FrI i M M') (hj : j ≤ i) : FrI j M M' := h.tr FrI.rf hj (Nat.le_refl _)
theorem RowAt.fr {z : Fl} {v n i : Nat} {r : Nat → Nat} {M M' : Mem} (h : RowAt z v n r i M) (f : FrI i M M') : RowAt z v n r i M' := by
  obtain ⟨-, b2, b3, b4, -⟩ := f
  refine ⟨fun k hk => ?_, fun k hk => ?_⟩
  · rw [(b2 k hk).1, (b2 k hk).2]
    exact h.1 k hk
  · obtain ⟨x1, x2, x3, x4, x5⟩ := b3 k hk
    obtain ⟨c1, c2, c3, c4, c5, c6⟩ := h.2 k hk
    refine ⟨by rw [x1]; exact c1, by rw [x2]; exact c2, by rw [x3]; exact c3, by rw [x4]; exact c4, by rw [x5]; exact c5, fun j hj => ?_⟩
    rw [b4 _ (by omega)]
    exact c6 j hj
theorem RowAt.le {z : Fl} {v n i j : Nat} {r : Nat → Nat} {M : Mem} (h : RowAt z v n r i M) (hj : j ≤ i) : RowAt z v n r j M := ⟨fun k hk => h.1 k (by omega), fun k hk => h.2 k (by omega)⟩
theorem RowAt.cg {z : Fl} {v n i : Nat} {r r' : Nat → Nat} {M : Mem} (h : RowAt z v n r i M) (e : ∀ k, k < i → r' k = r k) : RowAt z v n r' i M := by
  have el : ∀ k, k ≤ i → rl r' k = rl r k := fun k hk => rl_congr fun j hj => e j (by omega)
  refine ⟨fun k hk => ?_, fun k hk => ?_⟩
  · rw [e k hk, el k (by omega)]
    exact h.1 k hk
  · rw [el k hk]
    exact h.2 k hk
theorem RowAt.zero {z : Fl} {v n : Nat} {r : Nat → Nat} {M : Mem} (h : WzOk M) : RowAt z v n r 0 M := by
  obtain ⟨h1, h2, h3, h4, h5, h6, -⟩ := h
  refine ⟨fun k hk => by omega, fun k hk => ?_⟩
  obtain rfl : k = 0 := by omega
  exact ⟨h1, h2, h3, h4, h5, fun j hj => by rw [show 8 * 0 + j = j by omega]; exact h6 j hj⟩
theorem WzOk.fr {i : Nat} {M M' : Mem} (h : WzOk M) (f : FrI i M M') : WzOk M' := by
  obtain ⟨h1, h2, h3, h4, h5, h6, h7⟩ := h
  obtain ⟨-, -, b3, b4, b5⟩ := f
  obtain ⟨x1, x2, x3, x4, x5⟩ := b3 0 (by omega)
  exact ⟨by rw [x1]; exact h1, by rw [x2]; exact h2, by rw [x3]; exact h3, by rw [x4]; exact h4, by rw [x5]; exact h5, fun p hp => by rw [b4 p (by omega)]; exact h6 p hp, fun l hl => by rw [b5 l (by omega)]; exact h7 l hl⟩
