/-! WHAT A LIKING'S TEXT NAMES, and what a place is worth: the class -/
/-- what worthAt writes: names and the pile -/
def FrN (M M' : Mem) : Prop := ∀ a, a ≠ 101 → a ≠ 102 → M' a = M a
theorem FrN.rf {M : Mem} : FrN M M := fun _ _ _ => rfl
theorem piece_f {z : Fl} {M : Mem} {q : Nat} (hc : CB z M) (hq : (q : Int) < z 0) : M (11 + q) 0 = pMin z q ∧ M (11 + q) 1 = pKey z q ∧ M (11 + q) 2 = pLoud z q ∧ M (11 + q) 3 = pPla z q ∧ M (11 + q) 5 = pEff z q := by
  have h := hc.2.2.2.2.1 q hq
  refine ⟨h 0 (by decide), ?_, ?_, ?_, ?_⟩
  · rw [h 1 (by decide)]; unfold pKey; congr 1; omega
  · rw [h 2 (by decide)]; unfold pLoud; congr 1; omega
  · rw [h 3 (by decide)]; unfold pPla; congr 1; omega
  · rw [h 5 (by decide)]; unfold pEff; congr 1; omega
theorem lf_wy {a b : Int} {M : Mem} {Q : Int → Mem → Prop} (ha : 0 ≤ a ∧ a ≤ 11) (hb : 0 ≤ b ∧ b ≤ 11) (hQ : Q (wy a b) M) : wX11_wayRound a b M Q := by
  unfold wX11_wayRound wX11_wayRound_J14
  unfold wy at hQ
  rw [bm_id (z := a) (by omega) (by omega), bm_id (z := b) (by omega) (by omega), bm_id (z := a - b) (by omega) (by omega), bm_id (z := b - a) (by omega) (by omega)]
  refine BR_i (fun h => BR_i (fun h2 => ?_) (fun h2 => ?_)) (fun h => BR_i (fun h2 => ?_) (fun h2 => ?_))
  · rw [if_neg (show ¬ a < b by omega), if_pos h2] at hQ
    exact hQ
  · rw [if_neg (show ¬ a < b by omega), if_neg h2] at hQ
    exact hQ
  · rw [if_pos (show a < b by omega), if_pos h2] at hQ
    exact hQ
  · rw [if_pos (show a < b by omega), if_neg h2] at hQ
    exact hQ
theorem wy_nn {a b : Int} (ha : 0 ≤ a ∧ a ≤ 11) (hb : 0 ≤ b ∧ b ≤ 11) : 0 ≤ wy a b ∧ wy a b ≤ 11 := by
  unfold wy
  split <;> split <;> omega
/-- names of a pair -/
theorem lf_namesPair {z : Fl} {v n i : Nat} {r : Nat → Nat} {M : Mem} {Q : Int → Mem → Prop} (hz : ZOk z) (hc : CB z M) (hv : M 91 2 = (v : Int)) (hv12 : v ≤ 12) (hi : i < 12) (hr : RowPs z r (i + 1)) (hR : RowAt z v n r (i + 1) M)
    (h0 : (i = 0 ∨ i = v) → Q 0 M) (h1 : ∀ M' p, i = p + 1 → i ≠ v → FrN M M' → M' 102 = M 102 → M' 101 0 = pLoud z (r p) → M' 101 1 = pLoud z (r i) → M' 101 2 = wy (pKey z (r p)) (pKey z (r i)) → M' 101 3 = (car z (r p) (r i) : Int) → Q 1 M') : wX10_namesPair 91 (i : Int) M Q := by
  have hz0 := hz.1
  unfold wX10_namesPair
  rw [hv, bm_nat (n := i) (by omega), bm_nat (n := v) (by omega)]
  refine BR_i (fun h => h0 (Or.inl (by omega))) (fun hi0 => BR_i (fun h => h0 (Or.inr (by omega))) (fun hiv => ?_))
  obtain ⟨p, rfl⟩ : ∃ p, i = p + 1 := ⟨i - 1, by omega⟩
  have hp := hr p (by omega)
  have hq := hr (p + 1) (by omega)
  have e1 : rd M (91 + 1) (((p + 1 : Nat) : Int) - 1) = (r p : Int) := by rw [rd_at (n := p) (by omega) (by omega)]; exact (hR.1 p (by omega)).1
  have e2 : rd M (91 + 1) ((p + 1 : Nat) : Int) = (r (p + 1) : Int) := by rw [rd_at (n := p + 1) rfl (by omega)]; exact (hR.1 (p + 1) (by omega)).1
  rw [e1, e2]
  rw [bnn (n := r p) (by omega), bnn (n := r (p + 1)) (by omega), show 91 - 89 + 9 + r p = 11 + r p by omega, show 91 - 89 + 9 + r (p + 1) = 11 + r (p + 1) by omega]
  refine ⟨inb_of (n := p) (by omega) (by omega) (by decide), inb_of rfl (by omega) (by decide), inb_of rfl (by omega) (by decide), inb_of rfl (by omega) (by decide), LET_i (LET_i ?_)⟩
  obtain ⟨-, kp, lp, -, -⟩ := piece_f hc hp
  obtain ⟨-, kq, lq, -, -⟩ := piece_f hc hq
  have pp := hz.2.2.2.2.1 _ hp
  have pq := hz.2.2.2.2.1 _ hq
  rw [wr_up (i := 0) (n := 0) rfl (by decide), wr_up (i := 1) (n := 1) rfl (by decide)]
  simp (disch := omega) only [up_c, Nat.reduceAdd]
  rw [kp, kq, lp, lq]
  refine lf_wy pp.2.1 pq.2.1 (LET_i ⟨inb_of (n := p + 2) (by omega) (by omega) (by decide), inb_of rfl (by omega) (by decide), LET_i ?_⟩)
  rw [wr_up (i := 2) (n := 2) rfl (by decide), wr_up (i := 3) (n := 3) rfl (by decide), rd_at (i := ((p + 1 : Nat) : Int) + 1) (n := p + 2) (by omega) (by omega), rd_at (k := 95) (n := p + 1) rfl (by omega)]
  simp (disch := omega) only [up_c]
  rw [(hR.2 (p + 2) (by omega)).2.1, (hR.2 (p + 1) (by omega)).2.1]
  refine h1 _ p rfl (by omega) (fun a q1 q2 => ?_) ?_ ?_ ?_ ?_ ?_
  · simp (disch := omega) only [up_c]
  · simp (disch := omega) only [up_c]
  · simp (disch := omega) only [up_s, up_kn]
  · simp (disch := omega) only [up_s, up_kn]
  · simp (disch := omega) only [up_s, up_kn]
  · simp (disch := omega) only [up_s, up_kn]
    show cr z (r (p + 1) :: r p :: rl r p) - cr z (r p :: rl r p) = _
    rw [cr_cons]
    omega
/-- since the key was heard -/
theorem ns_L {z : Fl} {v n i : Nat} {r : Nat → Nat} {M : Mem} {Q : Int → Mem → Prop} {E : Int → Mem → Prop} {key : Int} (hz : ZOk z) (hc : CB z M) (hi : i < 12) (hr : RowPs z r (i + 1)) (hR : RowAt z v n r (i + 1) M) (hk : 0 ≤ key ∧ key ≤ 11)
    (h0 : since z v key (rl r i) = none → Q 0 M) (h1 : ∀ k, k < i → since z v key (rl r i) = some (en z v (rl r (k + 1))) → E (k : Int) M) : ∀ (k : Nat) (x3 : Int), k ≤ i → x3 = (k : Int) - 1 → since z v key (rl r i) = since z v key (rl r k) → wX10_namesSince_L22 Q E 91 (i : Int) key (k + 1) x3 M
  | 0, x3, hki, h3, hs => by
    subst h3
    unfold wX10_namesSince_L22
    exact BR_t (by decide +kernel) (h0 hs)
  | k + 1, x3, hki, h3, hs => by
    have hz0 := hz.1
    have hrk := hr k (by omega)
    have e1 : rd M (91 + 1) x3 = (r k : Int) := by rw [rd_at (i := x3) (n := k) (by omega) (by omega)]; exact (hR.1 k (by omega)).1
    unfold wX10_namesSince_L22
    rw [e1, bnn (n := r k) (by omega), show 91 - 89 + 9 + r k = 11 + r k by omega, (piece_f hc hrk).2.1]
    have pk := (hz.2.2.2.2.1 _ hrk).2.1
    rw [bm_id (z := pKey z (r k)) (by omega) (by omega), bm_id (z := key) (by omega) (by omega), bm_id (z := x3) (by omega) (by omega)]
    have es : since z v key (rl r (k + 1)) = if pKey z (r k) = key then some (en z v (rl r (k + 1))) else since z v key (rl r k) := rfl
    refine BR_f (by omega) ⟨inb_of (n := k) (by omega) (by omega) (by decide), inb_of rfl (by omega) (by decide), BR_i (fun h => ?_) (fun h => ?_)⟩
    · have hx : x3 = (k : Int) := by omega
      rw [hx]
      refine h1 k (by omega) ?_
      rw [hs, es, if_pos h]
    · rw [if_neg h] at es
      exact LET_i (ns_L hz hc hi hr hR hk h0 h1 k _ (by omega) (by omega) (by rw [hs, es]))
theorem lf_namesSince {z : Fl} {v n i : Nat} {r : Nat → Nat} {M : Mem} {Q : Int → Mem → Prop} (hz : ZOk z) (hc : CB z M) (hi : i < 12) (hr : RowPs z r (i + 1)) (hR : RowAt z v n r (i + 1) M)
    (h0 : since z v (pKey z (r i)) (rl r i) = none → Q 0 M) (h1 : ∀ M' e, since z v (pKey z (r i)) (rl r i) = some e → FrN M M' → M' 102 = M 102 → M' 101 0 = en z v (rl r i) + gp z v (r i) (rl r i) - e → Q 1 M') : wX10_namesSince 91 (i : Int) M Q := by
  have hz0 := hz.1
  have hri := hr i (by omega)
  have e1 : rd M (91 + 1) (i : Int) = (r i : Int) := by rw [rd_at (n := i) rfl (by omega)]; exact (hR.1 i (by omega)).1
  unfold wX10_namesSince
  rw [e1, bnn (n := r i) (by omega), show 91 - 89 + 9 + r i = 11 + r i by omega, (piece_f hc hri).2.1]
  refine ⟨inb_of rfl (by omega) (by decide), inb_of rfl (by omega) (by decide), LET_i (LET_i ⟨i + 1, ?_⟩)⟩
  refine ns_L hz hc hi hr hR (hz.2.2.2.2.1 _ hri).2.1 h0 (fun k hk hs => ⟨inb_of rfl (by omega) (by decide), inb_of (n := k + 1) (by omega) (by omega) (by decide), LET_i ?_⟩) i _ (Nat.le_refl _) rfl rfl
  rw [wr_up (i := 0) (n := 0) rfl (by decide), rd_at (k := 91 + 2) (n := i) rfl (by omega), rd_at (i := (k : Int) + 1) (n := k + 1) (by omega) (by omega)]
  refine h1 _ _ hs (fun a q1 q2 => up_c q1) (up_c (by decide)) ?_
  rw [up_s]
  show M 93 i - M 94 (k + 1) = _
  rw [(hR.1 i (by omega)).2, (hR.2 (k + 1) (by omega)).1]
/-- names of a place -/
theorem lf_namesPlace {z : Fl} {v n i : Nat} {r : Nat → Nat} {M : Mem} {Q : Int → Mem → Prop} (hz : ZOk z) (hc : CB z M) (hn : M 91 1 = (n : Int)) (hv : M 91 2 = (v : Int)) (hn12 : n ≤ 12) (hv12 : v ≤ 12) (hi : i < n) (hr : RowPs z r (i + 1)) (hR : RowAt z v n r (i + 1) M)
    (h1 : ∀ M', FrN M M' → M' 102 = M 102 → M' 101 0 = (i : Int) → M' 101 1 = (n : Int) → M' 101 2 = pLoud z (r i) → M' 101 3 = (if i + 1 = n ∨ i + 1 = v then 1 else 0) → M' 101 4 = (if i = 0 ∨ i = v then 1 else 0) → Q 1 M') : wX10_namesPlace 91 (i : Int) M Q := by
  have hz0 := hz.1
  have hri := hr i (by omega)
  have e1 : ∀ w w2 : Int, rd (wr (wr M (91 + 10) 0 w) (91 + 10) 1 w2) (91 + 1) (i : Int) = (r i : Int) := fun w w2 => by
    rw [wr_up (i := 0) (n := 0) rfl (by decide), wr_up (i := 1) (n := 1) rfl (by decide), rd_at (n := i) rfl (by omega), up_c (by decide), up_c (by decide)]
    exact (hR.1 i (by omega)).1
  have j43 : ∀ x2 x3 : Int, bm x2 = (if i + 1 = n ∨ i + 1 = v then 1 else 0) → bm x3 = (if i = 0 ∨ i = v then 1 else 0) → wX10_namesPlace_J43 Q 91 (i : Int) x2 x3 M := by
    intro x2 x3 e2 e3
    simp only [wX10_namesPlace_J43, wX10_namesPlace_J98, wX10_namesPlace_J113]
    refine LET_i (LET_i ⟨inb_of rfl (by omega) (by decide), ?_, LET_i ?_⟩)
    · rw [e1]
      exact inb_of rfl (by omega) (by decide)
    · rw [e1, bnn (n := r i) (by omega), show 91 - 89 + 9 + r i = 11 + r i by omega, e2, e3]
      rw [wr_up (i := 0) (n := 0) rfl (by decide), wr_up (i := 1) (n := 1) rfl (by decide), wr_up (i := 2) (n := 2) rfl (by decide)]
      simp (disch := omega) only [up_c, Nat.reduceAdd]
      rw [(piece_f hc hri).2.2.1, hn]
      have fin : ∀ y3 y4 : Int, y3 = (if i + 1 = n ∨ i + 1 = v then 1 else 0) → y4 = (if i = 0 ∨ i = v then 1 else 0) → Q 1 (up (up (up (up (up M 101 0 (i : Int)) 101 1 (n : Int)) 101 2 (pLoud z (r i))) 101 3 y3) 101 4 y4) := by
        intro y3 y4 q3 q4
        refine h1 _ (fun a q1 q2 => ?_) ?_ ?_ ?_ ?_ ?_ ?_
        · simp (disch := omega) only [up_c]
        · simp (disch := omega) only [up_c]
        · simp (disch := omega) only [up_s, up_kn]
        · simp (disch := omega) only [up_s, up_kn]
        · simp (disch := omega) only [up_s, up_kn]
        · simp (disch := omega) only [up_s, up_kn]
          exact q3
        · simp (disch := omega) only [up_s, up_kn]
          exact q4
      have w3 : ∀ (N : Mem) (y : Int), wr N 101 3 y = up N 101 3 y := fun N y => wr_up (i := 3) (n := 3) rfl (by decide)
      have w4 : ∀ (N : Mem) (y : Int), wr N 101 4 y = up N 101 4 y := fun N y => wr_up (i := 4) (n := 4) rfl (by decide)
      simp only [w3, w4]
      refine BR_i (fun h => ⟨inb_of (n := 3) rfl (by decide) (by decide), LET_i (BR_i (fun h' => ⟨inb_of (n := 4) rfl (by decide) (by decide), LET_i (fin _ _ h.symm h'.symm)⟩) (fun h' => ⟨inb_of (n := 4) rfl (by decide) (by decide), LET_i (fin _ _ h.symm ?_)⟩))⟩) (fun h => ⟨inb_of (n := 3) rfl (by decide) (by decide), LET_i (BR_i (fun h' => ⟨inb_of (n := 4) rfl (by decide) (by decide), LET_i (fin _ _ ?_ h'.symm)⟩) (fun h' => ⟨inb_of (n := 4) rfl (by decide) (by decide), LET_i (fin _ _ ?_ ?_)⟩))⟩)
      all_goals
        split
        · rfl
        · simp_all
  have j25 : ∀ x2 : Int, bm x2 = (if i + 1 = n ∨ i + 1 = v then 1 else 0) → wX10_namesPlace_J25 Q 91 (i : Int) x2 M := by
    intro x2 e2
    simp only [wX10_namesPlace_J25, wX10_namesPlace_J38]
    rw [hv, bm_nat (n := i) (by omega), bm_nat (n := v) (by omega)]
    refine BR_i (fun h => j43 _ _ e2 ?_) (fun h => BR_i (fun h' => j43 _ _ e2 ?_) (fun h' => j43 _ _ e2 ?_))
    · rw [if_pos (by omega)]
      exact bm1
    · rw [if_pos (by omega)]
      exact bm1
    · rw [if_neg (by omega)]
      exact bm0
  unfold wX10_namesPlace wX10_namesPlace_J20
  rw [hn, hv, bm_nat (n := i) (by omega), bm_id (z := (n : Int) - 1) (by omega) (by omega), bm_id (z := (v : Int) - 1) (by omega) (by omega)]
  refine BR_i (fun h => j25 _ ?_) (fun h => BR_i (fun h' => j25 _ ?_) (fun h' => j25 _ ?_))
  · rw [if_pos (by omega)]
    exact bm1
  · rw [if_pos (by omega)]
    exact bm1
  · rw [if_neg (by omega)]
    exact bm0
/-- names of the tired -/
theorem nt_L {z : Fl} {v n i : Nat} {r : Nat → Nat} {M : Mem} {Q : Int → Mem → Prop} {E : Int → Mem → Prop} (hz : ZOk z) (hc : CB z M) (hi : i < 12) (hr : RowPs z r (i + 1)) (hR : RowAt z v n r (i + 1) M) (hQ : E (tiMost z v (r i) (rl r i)) M) : ∀ (m j : Nat) (x3 x4 : Int), j + m = 8 → x4 = (j : Int) → x3 = mxn (fun k => if plays z (r i) k then ti z v k (rl r (i + 1)) else 0) 0 j → wX10_namesTired_L23 Q E 91 (i : Int) (M (11 + r i) 3) (m + 1) x3 x4 M
  | 0, j, x3, x4, hj, h4, h3 => by
    subst h4 h3
    obtain rfl : j = 8 := by omega
    unfold wX10_namesTired_L23
    exact BR_t (by decide +kernel) hQ
  | m + 1, j, x3, x4, hj, h4, h3 => by
    subst h4
    have hri := hr i (by omega)
    have hb : ∀ k, 0 ≤ (if plays z (r i) k then ti z v k (rl r (i + 1)) else 0) ∧ (if plays z (r i) k then ti z v k (rl r (i + 1)) else 0) ≤ 99 * 12 := fun k => by
      have := ti_nn hz v k (rl r (i + 1)) hr.pcs
      rw [rl_len] at this
      split <;> omega
    have hx := mxn_nn (f := fun k => if plays z (r i) k then ti z v k (rl r (i + 1)) else 0) (a := 0) (c := 99 * 12) (by omega) j (fun k _ => hb k)
    rw [← h3] at hx
    have em : mxn (fun k => if plays z (r i) k then ti z v k (rl r (i + 1)) else 0) 0 (j + 1) = mx x3 (if plays z (r i) j then ti z v j (rl r (i + 1)) else 0) := by rw [h3]; rfl
    unfold wX10_namesTired_L23
    rw [bm_nat (n := j) (by omega)]
    refine BR_f (by omega) (plays_in hz hc hri (by omega) (fun hp => BR_f q1 ⟨inb_of (n := 8 * (i + 1) + j) (by omega) (by omega) (by decide), ?_⟩) (fun hp => BR_t q0 (LET_i ?_)))
    · have hbj := hb j
      rw [if_pos hp] at em hbj
      rw [rd_at (i := ((i : Int) + 1) * 8 + (j : Int)) (n := 8 * (i + 1) + j) (by omega) (by omega), show (91 : Nat) + 8 = 99 from rfl, (hR.2 (i + 1) (Nat.le_refl _)).2.2.2.2.2 j (by omega), lf_max, bm_id (z := x3) (by omega) (by omega), bm_id (z := ti z v j (rl r (i + 1))) (by omega) (by omega)]
      split
      · refine LET_i (nt_L hz hc hi hr hR hQ m (j + 1) _ _ (by omega) (by omega) ?_)
        rw [em]
        unfold mx
        rw [if_pos (by assumption)]
      · refine LET_i (nt_L hz hc hi hr hR hQ m (j + 1) _ _ (by omega) (by omega) ?_)
        rw [em]
        unfold mx
        rw [if_neg (by assumption)]
    · rw [hp, if_neg (by decide)] at em
      refine nt_L hz hc hi hr hR hQ m (j + 1) _ _ (by omega) (by omega) ?_
      rw [em]
      unfold mx
      rw [if_neg (by omega)]
theorem lf_namesTired {z : Fl} {v n i : Nat} {r : Nat → Nat} {M : Mem} {Q : Int → Mem → Prop} (hz : ZOk z) (hc : CB z M) (hi : i < 12) (hr : RowPs z r (i + 1)) (hR : RowAt z v n r (i + 1) M) (h1 : ∀ M', FrN M M' → M' 102 = M 102 → M' 101 0 = tiMost z v (r i) (rl r i) → Q 1 M') : wX10_namesTired 91 (i : Int) M Q := by
  have hz0 := hz.1
  have hri := hr i (by omega)
  have e1 : rd M (91 + 1) (i : Int) = (r i : Int) := by rw [rd_at (n := i) rfl (by omega)]; exact (hR.1 i (by omega)).1
  unfold wX10_namesTired
  rw [e1, bnn (n := r i) (by omega), show 91 - 89 + 9 + r i = 11 + r i by omega]
  refine ⟨inb_of rfl (by omega) (by decide), inb_of rfl (by omega) (by decide), LET_i ⟨8 + 1, nt_L hz hc hi hr hR (LET_i ?_) 8 0 _ _ rfl rfl rfl⟩⟩
  rw [wr_up (i := 0) (n := 0) rfl (by decide)]
  exact h1 _ (fun a q1 q2 => up_c q1) (up_c (by decide)) (up_s _ _ _ _)
