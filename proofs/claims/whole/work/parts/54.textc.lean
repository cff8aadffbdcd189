/-! A TEXT IS WORKED: the class -/
theorem dp_s (f : Nat → Int) (k : Nat) : dp f (k + 1) = (dp f k).bind (dpS (f k)) := rfl
theorem dpS_le {w : Int} {d e : Nat} (h : dpS w d = some e) : e ≤ d + 1 := by
  unfold dpS at h
  split at h
  · cases h; omega
  · split at h
    · split at h
      · cases h; omega
      · cases h
    · split at h
      · split at h
        · cases h; omega
        · cases h
      · split at h
        · cases h; omega
        · cases h
theorem dp_back {f : Nat → Int} : ∀ (n : Nat) {e : Nat}, dp f n = some e → ∀ k, k ≤ n → ∃ d, dp f k = some d ∧ d ≤ k
  | 0, e, h, k, hk => by
    obtain rfl : k = 0 := by omega
    exact ⟨0, rfl, Nat.le_refl 0⟩
  | n + 1, e, h, k, hk => by
    rw [dp_s] at h
    cases hd : dp f n with
    | none => rw [hd] at h; cases h
    | some d =>
      rw [hd] at h
      have hdn := dp_back n hd
      rcases Nat.lt_or_ge n k with hkn | hkn
      · obtain rfl : k = n + 1 := by omega
        obtain ⟨d', h1, h2⟩ := hdn n (Nat.le_refl n)
        rw [hd] at h1
        cases h1
        exact ⟨e, by rw [dp_s, hd]; exact h, by have := dpS_le h; omega⟩
      · exact hdn k hkn
theorem jn_bm (c : Int) {x y : Int} : bm (jn c x y) = jn c x y := by
  unfold jn
  split
  · exact bm_bm _
  · split
    · exact bm_bm _
    · split
      · exact bm_bm _
      · split
        · split
          · rfl
          · exact bm_iDiv _ _
        · split
          · split <;> decide +kernel
          · split <;> decide +kernel
theorem jn_div {x y x1 x2 : Int} (hx : bm x1 = x) (hy : bm x2 = y) : iDiv x1 x2 = iDiv x y := iDiv_congr (by rw [← hx, bm_bm]) (by rw [← hy, bm_bm])
theorem lf_joined11 {c x1 x2 x y : Int} {M : Mem} {Q : Int → Mem → Prop} (hx : bm x1 = x) (hy : bm x2 = y) (hc : c = 42 ∨ c = 43 ∨ c = 45 ∨ c = 47 ∨ c = 60 ∨ c = 61) (hQ : ∀ r, bm r = jn c x y → Q r M) : wX1_joined c x1 x2 M Q := by
  have ex : bm x = x := by rw [← hx, bm_bm]
  have ey : bm y = y := by rw [← hy, bm_bm]
  unfold wX1_joined
  rcases hc with rfl | rfl | rfl | rfl | rfl | rfl
  · exact BR_t (by decide +kernel) (hQ _ (bm_congr_mul (by rw [hx, ex]) (by rw [hy, ey])))
  · exact BR_f (by decide +kernel) (BR_t (by decide +kernel) (hQ _ (bm_congr_add (by rw [hx, ex]) (by rw [hy, ey]))))
  · exact BR_f (by decide +kernel) (BR_f (by decide +kernel) (BR_t (by decide +kernel) (hQ _ (bm_congr_sub (by rw [hx, ex]) (by rw [hy, ey])))))
  · refine BR_f (by decide +kernel) (BR_f (by decide +kernel) (BR_f (by decide +kernel) (BR_t (by decide +kernel) (BR_i (fun h => hQ _ ?_) (fun h => ⟨h, hQ _ ?_⟩)))))
    · show bm 0 = if y = 0 then 0 else iDiv x y
      rw [if_pos (by omega)]
      exact q0
    · show bm (iDiv x1 x2) = if y = 0 then 0 else iDiv x y
      rw [if_neg (by omega), bm_iDiv, jn_div hx hy]
  · refine BR_f (by decide +kernel) (BR_f (by decide +kernel) (BR_f (by decide +kernel) (BR_f (by decide +kernel) (BR_t (by decide +kernel) (BR_i (fun h => hQ _ ?_) (fun h => hQ _ ?_))))))
    · show bm 0 = if x < y then 1 else 0
      rw [if_neg (by omega)]
      exact q0
    · show bm 1 = if x < y then 1 else 0
      rw [if_pos (by omega)]
      exact bm1
  · refine BR_f (by decide +kernel) (BR_f (by decide +kernel) (BR_f (by decide +kernel) (BR_f (by decide +kernel) (BR_f (by decide +kernel) (BR_i (fun h => hQ _ ?_) (fun h => hQ _ ?_))))))
    · show bm 1 = if x = y then 1 else 0
      rw [if_pos (by omega)]
      exact bm1
    · show bm 0 = if x = y then 1 else 0
      rw [if_neg (by omega)]
      exact q0
/-- the pile holds st, the top first -/
def Pil (M : Mem) (P : Nat) (st : List Int) : Prop := ∀ t, t < st.length → bm (M P (st.length - 1 - t)) = st.getD t 0
theorem Pil.push {M : Mem} {P : Nat} {st : List Int} {x raw : Int} (h : Pil M P st) (hx : bm raw = x) : Pil (up M P st.length raw) P (x :: st) := by
  intro t ht
  rw [List.length_cons] at ht ⊢
  cases t with
  | zero =>
    rw [show st.length + 1 - 1 - 0 = st.length by omega, up_s]
    exact hx
  | succ t =>
    rw [show st.length + 1 - 1 - (t + 1) = st.length - 1 - t by omega, up_kn (by omega)]
    exact h t (by omega)
theorem Pil.tl {M : Mem} {P : Nat} {st : List Int} {x : Int} (h : Pil M P (x :: st)) : Pil M P st := by
  intro t ht
  have := h (t + 1) (by rw [List.length_cons]; omega)
  rw [List.length_cons, show st.length + 1 - 1 - (t + 1) = st.length - 1 - t by omega] at this
  exact this
theorem Pil.hd {M : Mem} {P : Nat} {st : List Int} {x : Int} (h : Pil M P (x :: st)) : bm (M P st.length) = x := by
  have := h 0 (by rw [List.length_cons]; omega)
  rw [List.length_cons, show st.length + 1 - 1 - 0 = st.length by omega] at this
  exact this
theorem Pil.put {M : Mem} {P : Nat} {st : List Int} {x y raw : Int} (h : Pil M P (x :: st)) (hx : bm raw = y) : Pil (up M P st.length raw) P (y :: st) := h.tl.push hx
theorem Pil.cg {M M' : Mem} {P : Nat} {st : List Int} (h : Pil M P st) (e : ∀ j, j < st.length → M' P j = M P j) : Pil M' P st := fun t ht => by
  rw [e _ (by omega)]
  exact h t ht
theorem ev_s (z : Fl) (l : Nat) (nm : Int → Int) (k : Nat) : ev z l nm (k + 1) = evS nm (tW z l k) (tV z l k) (ev z l nm k) := rfl
theorem ct_L {z : Fl} {l N : Nat} {nm : Int → Int} {M0 : Mem} {Q : Int → Mem → Prop} {a0 : Nat} (hN : M0 a0 5 = (N : Int)) (hN50 : N ≤ 50) (ha : a0 + 1 < 101) (hcd : ∀ k, k < N → M0 (a0 + 1) k = cdOf (lK z l) (tW z l k) (tV z l k)) (hst : ∀ k, k < N → stepOk (lK z l) (tW z l k) (tV z l k)) (hdp : dp (tW z l) N = some 1) (hnm : ∀ c, 0 ≤ nmI (lK z l) c → nmI (lK z l) c < 5 ∧ bm (M0 101 (nmI (lK z l) c).toNat) = nm c)
    (hQ : ∀ M' x, (∀ a, a ≠ 102 → M' a = M0 a) → bm x = (ev z l nm N).headD 0 → Q x M') : ∀ (m k : Nat) (M : Mem) (x3 x4 : Int), k + m = N → x4 = (k : Int) → x3 = ((ev z l nm k).length : Int) → dp (tW z l) k = some (ev z l nm k).length → (∀ a, a ≠ 102 → M a = M0 a) → Pil M 102 (ev z l nm k) → wX1_comesTo_L5 Q a0 101 102 (m + 1) x3 x4 M
  | 0, k, M, x3, x4, hk, h4, h3, hd, hf, hp => by
    subst h4
    obtain rfl : k = N := by omega
    unfold wX1_comesTo_L5
    rw [hf a0 (by omega), hN]
    refine BR_t (Int.le_refl _) (hQ M _ hf ?_)
    rw [rd_at (i := 0) (n := 0) rfl (by decide)]
    rw [hdp] at hd
    have hl : (ev z l nm k).length = 1 := (Option.some.inj hd).symm
    match hE : ev z l nm k, hl with
    | [x], _ =>
      rw [hE] at hp
      exact hp.hd
  | m + 1, k, M, x3, x4, hk, h4, h3, hd, hf, hp => by
    subst h4
    obtain ⟨d', hd1, hdk⟩ := dp_back N hdp k (by omega)
    rw [hd] at hd1
    cases hd1
    obtain ⟨e, he, hek⟩ := dp_back N hdp (k + 1) (by omega)
    rw [dp_s, hd] at he
    change dpS (tW z l k) (ev z l nm k).length = some e at he
    have hso := hst k (by omega)
    have nxt : ∀ (M' : Mem) (x3' : Int), x3' = ((ev z l nm (k + 1)).length : Int) → (ev z l nm (k + 1)).length = e → (∀ a, a ≠ 102 → M' a = M a) → Pil M' 102 (ev z l nm (k + 1)) → wX1_comesTo_L5 Q a0 101 102 (m + 1) x3' ((k : Int) + 1) M' := by
      intro M' x3' e1 e2 e3 e4
      refine ct_L hN hN50 ha hcd hst hdp hnm hQ m (k + 1) M' _ _ (by omega) (by omega) e1 ?_ (fun a q => by rw [e3 a q, hf a q]) e4
      rw [dp_s, hd, e2]
      exact he
    unfold wX1_comesTo_L5
    rw [hf a0 (by omega), hN, bm_nat (n := N) (by omega), bm_nat (n := k) (by omega)]
    refine BR_f (by omega) ⟨inb_of rfl (by omega) (by decide), LET_i ?_⟩
    rw [rd_at (n := k) rfl (by omega), hf (a0 + 1) (by omega), hcd k (by omega)]
    generalize hE : ev z l nm k = st at hp h3 hd he hdk nxt
    rw [ev_s, hE] at nxt
    subst h3
    rcases hso with ⟨hw, hv0, hv9⟩ | ⟨hw, hv⟩ | hw | ⟨hw, hv⟩ | hw
    · -- a number
      rw [hw] at he nxt ⊢
      have ec : cdOf (lK z l) 0 (tV z l k) = tV z l k := rfl
      have ee : evS nm 0 (tV z l k) st = tV z l k :: st := rfl
      rw [ec, bm_id (z := tV z l k) (by omega) (by omega), bm_nat (n := st.length) (by omega), bm_id (z := tV z l k - 100) (by omega) (by omega)]
      rw [ee] at nxt
      refine BR_f (by omega) (BR_f (by omega) (BR_t (by omega) (BR_f (by omega) ?_)))
      unfold wX1_comesTo_J70
      refine ⟨inb_of rfl (by omega) (by decide), LET_i (LET_i (LET_i ?_))⟩
      rw [wr_up (n := st.length) rfl (by omega)]
      refine nxt _ _ (by rw [List.length_cons]; omega) (by rw [List.length_cons]; exact Option.some.inj he) (fun a q => up_c q) (hp.push (bm_id (by omega) (by omega)))
    · -- a name
      rw [hw] at he nxt ⊢
      obtain ⟨n5, n6⟩ := hnm _ hv
      have ec : cdOf (lK z l) 1 (tV z l k) = 100 + nmI (lK z l) (tV z l k) := rfl
      have ee : evS nm 1 (tV z l k) st = nm (tV z l k) :: st := rfl
      rw [ec, bm_id (z := 100 + nmI (lK z l) (tV z l k)) (by omega) (by omega), bm_nat (n := st.length) (by omega), show 100 + nmI (lK z l) (tV z l k) - 100 = nmI (lK z l) (tV z l k) by omega, bm_id (z := nmI (lK z l) (tV z l k)) (by omega) (by omega)]
      rw [ee] at nxt
      refine BR_f (by omega) (BR_f (by omega) (BR_t (by omega) (BR_t (by omega) ⟨inb_of (n := (nmI (lK z l) (tV z l k)).toNat) (by omega) (by omega) (by decide), ?_⟩)))
      rw [rd_at (i := nmI (lK z l) (tV z l k)) (n := (nmI (lK z l) (tV z l k)).toNat) (by omega) (by omega), hf 101 (by decide)]
      unfold wX1_comesTo_J70
      refine ⟨inb_of rfl (by omega) (by decide), LET_i (LET_i (LET_i ?_))⟩
      rw [wr_up (n := st.length) rfl (by omega)]
      refine nxt _ _ (by rw [List.length_cons]; omega) (by rw [List.length_cons]; exact Option.some.inj he) (fun a q => up_c q) (hp.push n6)
    · -- the other of it
      rw [hw] at he nxt ⊢
      have ec : cdOf (lK z l) 2 (tV z l k) = 326 := rfl
      have he' : (if 1 ≤ st.length then some st.length else none) = some e := he
      by_cases h1 : 1 ≤ st.length
      · rw [if_pos h1] at he'
        match st, h1 with
        | x :: r, _ =>
          have ee : evS nm 2 (tV z l k) (x :: r) = bm (-x) :: r := rfl
          rw [ee] at nxt
          rw [List.length_cons] at hdk he' ⊢
          rw [ec]
          refine BR_t (by decide +kernel) (BR_t (by decide +kernel) ?_)
          unfold wX1_comesTo_J102
          rw [bm_nat (n := r.length + 1) (by omega), show ((r.length + 1 : Nat) : Int) - (1 - 1) = (r.length : Int) + 1 by omega]
          refine BR_t (by rw [bm1]; omega) (LET_i ?_)
          rw [show (r.length : Int) + 1 - 1 = (r.length : Int) by omega]
          refine (BR_t (by decide +kernel) ⟨inb_of rfl (by omega) (by decide), inb_of rfl (by omega) (by decide), LET_i (LET_i ?_)⟩)
          rw [wr_up (n := r.length) rfl (by omega), rd_at (n := r.length) rfl (by omega)]
          refine nxt _ _ (by rw [List.length_cons]; omega) (by rw [List.length_cons]; exact Option.some.inj he') (fun a q => up_c q) (hp.put ?_)
          exact bm_congr_neg (by rw [hp.hd, ← hp.hd, bm_bm])
      · rw [if_neg h1] at he'
        cases he'
    · -- two are joined
      rw [hw] at he nxt ⊢
      have ec : cdOf (lK z l) 3 (tV z l k) = 200 + tV z l k := rfl
      have he' : (if 2 ≤ st.length then some (st.length - 1) else none) = some e := he
      by_cases h2 : 2 ≤ st.length
      · rw [if_pos h2] at he'
        match st, h2 with
        | y :: x :: r, _ =>
          have ee : evS nm 3 (tV z l k) (y :: x :: r) = jn (tV z l k) x y :: r := rfl
          rw [ee] at nxt
          rw [List.length_cons, List.length_cons] at hdk he' ⊢
          have b200 : bm (200 + tV z l k) = 200 + tV z l k := bm_id (by omega) (by omega)
          rw [ec, b200]
          have h326 : ¬ 200 + tV z l k = bm 326 := by rw [show bm 326 = 326 from by decide +kernel]; omega
          refine BR_t (by omega) (BR_f (by omega) (BR_f (by omega) ?_))
          unfold wX1_comesTo_J102
          rw [bm_nat (n := r.length + 1 + 1) (by omega), show ((r.length + 1 + 1 : Nat) : Int) - (2 - 1) = (r.length : Int) + 1 by omega, show 200 + tV z l k - 200 = tV z l k by omega]
          refine BR_t (by rw [li_2]; omega) (LET_i ?_)
          rw [show (r.length : Int) + 1 - 1 = (r.length : Int) by omega]
          refine (BR_f (by decide +kernel) (BR_f (by decide +kernel) ⟨inb_of rfl (by omega) (by decide), inb_of (n := r.length + 1) (by omega) (by omega) (by decide), ?_⟩))
          rw [rd_at (n := r.length) rfl (by omega), rd_at (i := (r.length : Int) + 1) (n := r.length + 1) (by omega) (by omega)]
          refine lf_joined11 (x := x) (y := y) hp.tl.hd hp.hd hv fun r' hr' => ⟨inb_of rfl (by omega) (by decide), LET_i (LET_i ?_)⟩
          rw [wr_up (n := r.length) rfl (by omega)]
          refine nxt _ _ (by rw [List.length_cons]; omega) (by rw [List.length_cons]; have := Option.some.inj he'; omega) (fun a q => up_c q) (hp.tl.put hr')
      · rw [if_neg h2] at he'
        cases he'
    · -- one of two is chosen
      rw [hw] at he nxt ⊢
      have ec : cdOf (lK z l) 4 (tV z l k) = 263 := rfl
      have he' : (if 3 ≤ st.length then some (st.length - 2) else none) = some e := he
      by_cases h3 : 3 ≤ st.length
      · rw [if_pos h3] at he'
        match st, h3 with
        | w :: y :: x :: r, _ =>
          have ee : evS nm 4 (tV z l k) (w :: y :: x :: r) = (if x ≠ 0 then y else w) :: r := rfl
          rw [ee] at nxt
          rw [List.length_cons, List.length_cons, List.length_cons] at hdk he' ⊢
          rw [ec]
          refine BR_t (by decide +kernel) (BR_f (by decide +kernel) (BR_t (by decide +kernel) ?_))
          unfold wX1_comesTo_J102
          rw [bm_nat (n := r.length + 1 + 1 + 1) (by omega), show ((r.length + 1 + 1 + 1 : Nat) : Int) - (3 - 1) = (r.length : Int) + 1 by omega]
          refine BR_t (by rw [li_3]; omega) (LET_i ?_)
          rw [show (r.length : Int) + 1 - 1 = (r.length : Int) by omega]
          refine (BR_f (by decide +kernel) (BR_t (by decide +kernel) ⟨inb_of rfl (by omega) (by decide), ?_⟩))
          rw [rd_at (n := r.length) rfl (by omega), hp.tl.tl.hd]
          have fin : ∀ raw y', bm raw = y' → y' = (if x ≠ 0 then y else w) → wX1_comesTo_J168 Q (fun x3' x4' M' => wX1_comesTo_L5 Q a0 101 102 (m + 1) x3' x4' M') a0 101 102 ((r.length : Int) + 1) (k : Int) raw (r.length : Int) 102 M := by
            intro raw y' hr hy'
            unfold wX1_comesTo_J168
            refine ⟨inb_of rfl (by omega) (by decide), LET_i (LET_i ?_)⟩
            rw [wr_up (n := r.length) rfl (by omega)]
            refine nxt _ _ (by rw [List.length_cons]; omega) (by rw [List.length_cons]; have := Option.some.inj he'; omega) (fun a q => up_c q) ?_
            rw [← hy']
            exact hp.tl.tl.put hr
          refine BR_i (fun hx0 => ⟨inb_of (n := r.length + 2) (by omega) (by omega) (by decide), ?_⟩) (fun hx0 => ⟨inb_of (n := r.length + 1) (by omega) (by omega) (by decide), ?_⟩)
          · rw [rd_at (i := (r.length : Int) + 1 + 1) (n := r.length + 2) (by omega) (by omega)]
            exact fin _ w hp.hd (by rw [if_neg (by omega)])
          · rw [rd_at (i := (r.length : Int) + 1) (n := r.length + 1) (by omega) (by omega)]
            exact fin _ y hp.tl.hd (by rw [if_pos hx0])
      · rw [if_neg h3] at he'
        cases he'
