/-! A TEXT IS WORKED: the reference -/
theorem mf_joined {c x1 x2 x y : Int} {M : Mem} {Q : Int → Mem → Prop} (hx : bm x1 = x) (hy : bm x2 = y) (hc : c = 42 ∨ c = 43 ∨ c = 45 ∨ c = 47 ∨ c = 60 ∨ c = 61) (hQ : ∀ r, bm r = jn c x y → Q r M) : wX12_joined c x1 x2 M Q := by
  have ex : bm x = x := by rw [← hx, bm_bm]
  have ey : bm y = y := by rw [← hy, bm_bm]
  unfold wX12_joined
  rcases hc with rfl | rfl | rfl | rfl | rfl | rfl
  · exact BR_t (by decide +kernel) (hQ _ (bm_congr_mul (by rw [hx, ex]) (by rw [hy, ey])))
  · exact BR_f (by decide +kernel) (BR_t (by decide +kernel) (hQ _ (bm_congr_add (by rw [hx, ex]) (by rw [hy, ey]))))
  · exact BR_f (by decide +kernel) (BR_f (by decide +kernel) (BR_t (by decide +kernel) (hQ _ (bm_congr_sub (by rw [hx, ex]) (by rw [hy, ey])))))
  · refine BR_f (by decide +kernel) (BR_f (by decide +kernel) (BR_f (by decide +kernel) (BR_t (by decide +kernel) (BR_i (fun h => hQ _ ?_) (fun h => BR_i (fun h2 => hQ _ ?_) (fun h2 => ⟨h, hQ _ ?_⟩))))))
    · show bm 0 = if y = 0 then 0 else iDiv x y
      rw [if_pos (by omega)]
      exact q0
    · show bm (-x1) = if y = 0 then 0 else iDiv x y
      rw [if_neg (by omega), ← jn_div hx hy]
      have e1 : iDiv x1 x2 = ((bm x1).tdiv (bm x2)).bmod (2 ^ 32) := by
        unfold iDiv
        rw [Int32.toInt_div]
        rfl
      rw [e1, h2, Int.tdiv_neg, Int.tdiv_one, bm_congr_neg (bm_bm x1).symm]
      exact Int32.toInt_ofInt
    · show bm (iDiv x1 x2) = if y = 0 then 0 else iDiv x y
      rw [if_neg (by omega), bm_iDiv, jn_div hx hy]
  · refine BR_f (by decide +kernel) (BR_f (by decide +kernel) (BR_f (by decide +kernel) (BR_f (by decide +kernel) (BR_t (by decide +kernel) (BR_i (fun h => hQ _ ?_) (fun h => hQ _ ?_))))))
    · show bm 0 = if x < y then 1 else 0
      rw [if_neg (by omega)]
      exact q0
    · show bm 1 = if x < y then 1 else 0
      rw [if_pos (by omega)]
      exact bm1
  · refine BR_f (by decide +kernel) (BR_f (by decide +kernel) (BR_f (by decide +kernel) (BR_f (by decide +kernel) (BR_f (by decide +kernel) (BR_i (fun h => hQ _ ?_) (fun h => hQ _ ?_))))))
    · show bm 1 = if x = y then 1 else 0
      rw [if_pos (by omega)]
      exact bm1
    · show bm 0 = if x = y then 1 else 0
      rw [if_neg (by omega)]
      exact q0
theorem wk_L {z : Fl} {l N : Nat} {nm : Int → Int} {M0 : Mem} {Q : Int → Mem → Prop} (hb : MB z M0) (hl : l < 10) (hN : tN z l = (N : Int)) (hN50 : N ≤ 50) (hst : ∀ k, k < N → stepOk (lK z l) (tW z l k) (tV z l k)) (hdp : dp (tW z l) N = some 1) (hnm : ∀ c, 0 ≤ nmI (lK z l) c → 0 ≤ c ∧ c < 128 ∧ bm (M0 130 c.toNat) = nm c)
    (hQ : ∀ M' x, (∀ a, a ≠ 131 → M' a = M0 a) → bm x = (ev z l nm N).headD 0 → Q x M') : ∀ (m k : Nat) (M : Mem) (x4 x5 : Int), k + m = N → x5 = (k : Int) → x4 = ((ev z l nm k).length : Int) → dp (tW z l) k = some (ev z l nm k).length → (∀ a, a ≠ 131 → M a = M0 a) → Pil M 131 (ev z l nm k) → wX12_worked_L26 Q 125 (150 + 105 * (l : Int)) (m + 1) x4 x5 M
  | 0, k, M, x4, x5, hk, h5, h4, hd, hf, hp => by
    subst h5
    obtain rfl : k = N := by omega
    have e0 : rd M (125 + 1) (150 + 105 * (l : Int)) = (k : Int) := by
      rw [rd_at (n := 150 + 105 * l) (by omega) (by omega), show (125 : Nat) + 1 = 126 from rfl, hf 126 (by decide), hb _ (by omega)]
      exact hN
    unfold wX12_worked_L26
    rw [e0]
    refine ⟨inb_of (n := 150 + 105 * l) (by omega) (by omega) (by decide), BR_t (Int.le_refl _) (hQ M _ hf ?_)⟩
    rw [rd_at (i := 0) (n := 0) rfl (by decide)]
    rw [hdp] at hd
    have hl : (ev z l nm k).length = 1 := (Option.some.inj hd).symm
    match hE : ev z l nm k, hl with
    | [x], _ =>
      rw [hE] at hp
      exact hp.hd
  | m + 1, k, M, x4, x5, hk, h5, h4, hd, hf, hp => by
    subst h5
    obtain ⟨d', hd1, hdk⟩ := dp_back N hdp k (by omega)
    rw [hd] at hd1
    cases hd1
    obtain ⟨e, he, hek⟩ := dp_back N hdp (k + 1) (by omega)
    rw [dp_s, hd] at he
    change dpS (tW z l k) (ev z l nm k).length = some e at he
    have hso := hst k (by omega)
    have e0 : rd M (125 + 1) (150 + 105 * (l : Int)) = (N : Int) := by
      rw [rd_at (n := 150 + 105 * l) (by omega) (by omega), show (125 : Nat) + 1 = 126 from rfl, hf 126 (by decide), hb _ (by omega)]
      exact hN
    have e1 : rd M (125 + 1) (150 + 105 * (l : Int) + 1 + 2 * (k : Int)) = tW z l k := by
      rw [rd_at (n := 151 + 105 * l + 2 * k) (by omega) (by omega), show (125 : Nat) + 1 = 126 from rfl, hf 126 (by decide), hb _ (by omega)]
      rfl
    have e2 : rd M (125 + 1) (150 + 105 * (l : Int) + 2 + 2 * (k : Int)) = tV z l k := by
      rw [rd_at (n := 152 + 105 * l + 2 * k) (by omega) (by omega), show (125 : Nat) + 1 = 126 from rfl, hf 126 (by decide), hb _ (by omega)]
      rfl
    have nxt : ∀ (M' : Mem) (x4' : Int), x4' = ((ev z l nm (k + 1)).length : Int) → (ev z l nm (k + 1)).length = e → (∀ a, a ≠ 131 → M' a = M a) → Pil M' 131 (ev z l nm (k + 1)) → wX12_worked_L26 Q 125 (150 + 105 * (l : Int)) (m + 1) x4' ((k : Int) + 1) M' := by
      intro M' x4' e1 e2 e3 e4
      refine wk_L hb hl hN hN50 hst hdp hnm hQ m (k + 1) M' _ _ (by omega) (by omega) e1 ?_ (fun a q => by rw [e3 a q, hf a q]) e4
      rw [dp_s, hd, e2]
      exact he
    unfold wX12_worked_L26
    rw [e0, e1, e2, bm_nat (n := N) (by omega), bm_nat (n := k) (by omega)]
    refine ⟨inb_of (n := 150 + 105 * l) (by omega) (by omega) (by decide), BR_f (by omega) ⟨inb_of (n := 151 + 105 * l + 2 * k) (by omega) (by omega) (by decide), LET_i ⟨inb_of (n := 152 + 105 * l + 2 * k) (by omega) (by omega) (by decide), LET_i ?_⟩⟩⟩
    generalize hE : ev z l nm k = st at hp h4 hd he hdk nxt
    rw [ev_s, hE] at nxt
    subst h4
    have hlen : st.length < 60 := by omega
    rcases hso with ⟨hw, hv0, hv9⟩ | ⟨hw, hv⟩ | hw | ⟨hw, hv⟩ | hw
    · rw [hw] at he nxt ⊢
      have ee : evS nm 0 (tV z l k) st = tV z l k :: st := rfl
      rw [ee] at nxt
      refine BR_t (by decide +kernel) ?_
      unfold wX12_worked_J78 wX12_worked_J101
      refine BR_t (by decide +kernel) ⟨inb_of rfl hlen (by decide), LET_i (LET_i (LET_i ?_))⟩
      rw [wr_up (n := st.length) rfl (by omega)]
      exact nxt _ _ (by rw [List.length_cons]; omega) (by rw [List.length_cons]; exact Option.some.inj he) (fun a q => up_c q) (hp.push (bm_id (by omega) (by omega)))
    · rw [hw] at he nxt ⊢
      obtain ⟨c0, c1, n6⟩ := hnm _ hv
      have ee : evS nm 1 (tV z l k) st = nm (tV z l k) :: st := rfl
      rw [ee] at nxt
      refine BR_f (by decide +kernel) (BR_t (by decide +kernel) ?_)
      unfold wX12_worked_J78 wX12_worked_J101
      refine BR_f (by decide +kernel) ⟨inb_of (n := (tV z l k).toNat) (by omega) (by omega) (by decide), inb_of rfl hlen (by decide), LET_i (LET_i (LET_i ?_))⟩
      rw [wr_up (n := st.length) rfl (by omega), rd_at (i := tV z l k) (n := (tV z l k).toNat) (by omega) (by omega), show (125 : Nat) + 5 = 130 from rfl, hf 130 (by decide)]
      exact nxt _ _ (by rw [List.length_cons]; omega) (by rw [List.length_cons]; exact Option.some.inj he) (fun a q => up_c q) (hp.push n6)
    · rw [hw] at he nxt ⊢
      have he' : (if 1 ≤ st.length then some st.length else none) = some e := he
      by_cases h1 : 1 ≤ st.length
      · rw [if_pos h1] at he'
        match st, h1 with
        | x :: r, _ =>
          have ee : evS nm 2 (tV z l k) (x :: r) = bm (-x) :: r := rfl
          rw [ee] at nxt
          rw [List.length_cons] at hdk he' hlen ⊢
          have es : (((r.length + 1 : Nat) : Int) - 1) = (r.length : Int) := by omega
          rw [es]
          refine BR_f (by decide +kernel) (BR_f (by decide +kernel) (BR_t (by decide +kernel) ⟨inb_of rfl (by omega) (by decide), inb_of rfl (by omega) (by decide), LET_i (LET_i ?_)⟩))
          rw [wr_up (n := r.length) rfl (by omega), rd_at (n := r.length) rfl (by omega), show (125 : Nat) + 6 = 131 from rfl]
          refine nxt _ _ (by rw [List.length_cons]) (by rw [List.length_cons]; exact Option.some.inj he') (fun a q => up_c q) (hp.put ?_)
          exact bm_congr_neg (by rw [hp.hd, ← hp.hd, bm_bm])
      · rw [if_neg h1] at he'
        cases he'
    · rw [hw] at he nxt ⊢
      have he' : (if 2 ≤ st.length then some (st.length - 1) else none) = some e := he
      by_cases h2 : 2 ≤ st.length
      · rw [if_pos h2] at he'
        match st, h2 with
        | y :: x :: r, _ =>
          have ee : evS nm 3 (tV z l k) (y :: x :: r) = jn (tV z l k) x y :: r := rfl
          rw [ee] at nxt
          rw [List.length_cons, List.length_cons] at hdk he' hlen ⊢
          have es : (((r.length + 1 + 1 : Nat) : Int) + -1) = ((r.length + 1 : Nat) : Int) := by omega
          have es2 : (((r.length + 1 : Nat) : Int) - 1) = (r.length : Int) := by omega
          refine BR_f (by decide +kernel) (BR_f (by decide +kernel) (BR_f (by decide +kernel) (BR_t (by decide +kernel) (LET_i ?_))))
          rw [es, es2]
          refine ⟨inb_of rfl (by omega) (by decide), inb_of rfl (by omega) (by decide), ?_⟩
          rw [rd_at (n := r.length) rfl (by omega), rd_at (i := ((r.length + 1 : Nat) : Int)) (n := r.length + 1) rfl (by omega), show (125 : Nat) + 6 = 131 from rfl]
          refine mf_joined (x := x) (y := y) hp.tl.hd hp.hd hv fun r' hr' => ⟨inb_of rfl (by omega) (by decide), LET_i (LET_i ?_)⟩
          rw [wr_up (n := r.length) rfl (by omega)]
          refine nxt _ _ (by rw [List.length_cons]) (by rw [List.length_cons]; have := Option.some.inj he'; omega) (fun a q => up_c q) (hp.tl.put hr')
      · rw [if_neg h2] at he'
        cases he'
    · rw [hw] at he nxt ⊢
      have he' : (if 3 ≤ st.length then some (st.length - 2) else none) = some e := he
      by_cases h3 : 3 ≤ st.length
      · rw [if_pos h3] at he'
        match st, h3 with
        | w :: y :: x :: r, _ =>
          have ee : evS nm 4 (tV z l k) (w :: y :: x :: r) = (if x ≠ 0 then y else w) :: r := rfl
          rw [ee] at nxt
          rw [List.length_cons, List.length_cons, List.length_cons] at hdk he' hlen ⊢
          have es : (((r.length + 1 + 1 + 1 : Nat) : Int) + -2) = ((r.length + 1 : Nat) : Int) := by omega
          have es2 : (((r.length + 1 : Nat) : Int) - 1) = (r.length : Int) := by omega
          have es3 : (((r.length + 1 : Nat) : Int) + 1) = ((r.length + 2 : Nat) : Int) := by omega
          refine BR_f (by decide +kernel) (BR_f (by decide +kernel) (BR_f (by decide +kernel) (BR_f (by decide +kernel) (LET_i ?_))))
          rw [es, es2, es3]
          refine ⟨inb_of rfl (by omega) (by decide), ?_⟩
          rw [rd_at (n := r.length) rfl (by omega), show (125 : Nat) + 6 = 131 from rfl, hp.tl.tl.hd]
          have fin : ∀ raw y', bm raw = y' → y' = (if x ≠ 0 then y else w) → wX12_worked_J220 Q (fun x4' x5' M' => wX12_worked_L26 Q 125 (150 + 105 * (l : Int)) (m + 1) x4' x5' M') 125 (150 + 105 * (l : Int)) ((r.length + 1 : Nat) : Int) (k : Int) raw (r.length : Int) 131 M := by
            intro raw y' hr hy'
            unfold wX12_worked_J220
            refine ⟨inb_of rfl (by omega) (by decide), LET_i (LET_i ?_)⟩
            rw [wr_up (n := r.length) rfl (by omega)]
            refine nxt _ _ (by rw [List.length_cons]) (by rw [List.length_cons]; have := Option.some.inj he'; omega) (fun a q => up_c q) ?_
            rw [← hy']
            exact hp.tl.tl.put hr
          refine BR_i (fun hx0 => ⟨inb_of rfl (by omega) (by decide), ?_⟩) (fun hx0 => ⟨inb_of rfl (by omega) (by decide), ?_⟩)
          · rw [rd_at (i := ((r.length + 2 : Nat) : Int)) (n := r.length + 2) rfl (by omega)]
            exact fin _ w hp.hd (by rw [if_neg (by omega)])
          · rw [rd_at (i := ((r.length + 1 : Nat) : Int)) (n := r.length + 1) rfl (by omega)]
            exact fin _ y hp.tl.hd (by rw [if_pos hx0])
      · rw [if_neg h3] at he'
        cases he'
/-- names and the pile are scratch -/
def FrP (M M' : Mem) : Prop := ∀ a, a ≠ 130 → a ≠ 131 → M' a = M a
theorem FrP.rf {M : Mem} : FrP M M := fun _ _ _ => rfl
theorem FrP.tr {M M' M'' : Mem} (h : FrP M M') (h' : FrP M' M'') : FrP M M'' := fun a q1 q2 => by rw [h' a q1 q2, h a q1 q2]
theorem mf_worked {z : Fl} {l : Nat} {M : Mem} {x2 dflt : Int} {nm : Int → Int} {Q : Int → Mem → Prop} (hz : ZOk z) (hb : MB z M) (hl : (l : Int) < z 1) (hnm : ∀ c, 0 ≤ nmI (lK z l) c → 0 ≤ c ∧ c < 128 ∧ bm (M 130 c.toNat) = nm c) (hx : bm x2 = bm dflt)
    (hQ : ∀ M' x, (∀ a, a ≠ 131 → M' a = M a) → bm x = bm (txt z l nm dflt) → Q x M') : wX12_worked 125 (l : Int) x2 M Q := by
  obtain ⟨-, -, -, -, t0, t50, tst, tdp⟩ := hz.2.2.2.2.2.1 l hl
  have hl10 := hz.2.1
  have e0 : rd M (125 + 1) (150 + 105 * (l : Int)) = tN z l := by
    rw [rd_at (n := 150 + 105 * l) (by omega) (by omega), show (125 : Nat) + 1 = 126 from rfl, hb _ (by omega)]
    rfl
  unfold wX12_worked
  refine LET_i ⟨inb_of (n := 150 + 105 * l) (by omega) (by omega) (by decide), ?_⟩
  rw [e0, bm_id (z := tN z l) (by omega) (by omega)]
  refine BR_i (fun h => hQ M _ (fun _ _ => rfl) ?_) (fun h => ?_)
  · unfold txt
    rw [if_pos h]
    exact hx
  · obtain ⟨N, hN⟩ : ∃ N : Nat, tN z l = (N : Int) := ⟨(tN z l).toNat, by omega⟩
    have ht : txt z l nm dflt = (ev z l nm N).headD 0 := by
      unfold txt
      rw [if_neg h, hN, Int.toNat_natCast]
    refine ⟨N + 1, wk_L hb (by omega) hN (by omega) (fun k hk => tst k (by omega)) ?_ hnm (fun M' x hf hx' => hQ M' x hf ?_) N 0 M _ _ (by omega) rfl rfl rfl (fun _ _ => rfl) (fun t ht => by simp [ev] at ht)⟩
    · have := tdp h
      rw [hN, Int.toNat_natCast] at this
      exact this
    · rw [ht, ← hx', bm_bm]
theorem RB.frp {v n : Nat} {r : Nat → Nat} {M M' : Mem} (h : RB v n r M) (f : FrP M M') : RB v n r M' := h.congr (f 125 (by decide) (by decide)) (f 132 (by decide) (by decide))
theorem MB.frp {z : Fl} {M M' : Mem} (h : MB z M) (f : FrP M M') : MB z M' := h.congr (f 126 (by decide) (by decide))
theorem LaidAt.frp {z : Fl} {v i : Nat} {r : Nat → Nat} {M M' : Mem} (h : LaidAt z v r i M) (f : FrP M M') : LaidAt z v r i M' := h.congr (f 133 (by decide) (by decide)) (f 134 (by decide) (by decide)) (f 135 (by decide) (by decide))
theorem row_at {v n i : Nat} {r : Nat → Nat} {M N : Mem} {x : Int} (hR : RB v n r M) (hn : n ≤ 12) (hi : i < n) (hx : x = (i : Int)) (hN : N 132 = M 132) : rd N (125 + 7) x = (r i : Int) := by
  rw [rd_at (n := i) hx (by omega), show (125 : Nat) + 7 = 132 from rfl, hN, hR.2.2 i hi]
theorem term_pair {z : Fl} {v n l p : Nat} {r : Nat → Nat} (hk : lK z l = 1 ∨ lK z l = 5) : term z v n l (r (p + 1)) (rl r (p + 1)) = if p + 1 = v then 0 else bm (txt z l (nmPair z (r p) (r (p + 1))) 0 - (if lK z l = 5 then (car z (r p) (r (p + 1)) : Int) else 0)) := by
  unfold term
  rw [if_pos hk]
  show (if (rl r p).length + 1 = v then 0 else _) = _
  rw [rl_len]
/-- neighbours -/
theorem bn_L {z : Fl} {v n l : Nat} {r : Nat → Nat} {M0 : Mem} {g : Int} {Q : Int → Mem → Prop} (hz : ZOk z) (hb : MB z M0) (hR : RB v n r M0) (hn12 : n ≤ 12) (hv12 : v ≤ 12) (hr : RowPs z r n) (hl : (l : Int) < z 1) (hk : lK z l = 1 ∨ lK z l = 5) (hg : bm g = 0 ↔ lK z l = 1) (hQ : ∀ M' x, FrP M0 M' → bm x = sm z v n l (rl r n) → Q x M') : ∀ (m i : Nat) (M : Mem) (x3 x4 : Int), i + m = n → 1 ≤ i → x4 = (i : Int) → bm x3 = sm z v n l (rl r i) → FrP M0 M → wX12_byNext_L5 Q 125 (l : Int) g (m + 1) x3 x4 M
  | 0, i, M, x3, x4, hi, hi1, h4, h3, hf => by
    subst h4
    obtain rfl : i = n := by omega
    unfold wX12_byNext_L5
    rw [(hR.frp hf).1]
    exact BR_t (Int.le_refl _) (hQ M x3 hf h3)
  | m + 1, i, M, x3, x4, hi, hi1, h4, h3, hf => by
    subst h4
    obtain ⟨p, rfl⟩ : ∃ p, i = p + 1 := ⟨i - 1, by omega⟩
    have hz0 := hz.1
    have hl10 := hz.2.1
    have hR' := hR.frp hf
    have hb' := hb.frp hf
    have hrp := hr p (by omega)
    have hrq := hr (p + 1) (by omega)
    have pp := hz.2.2.2.2.1 _ hrp
    have pq := hz.2.2.2.2.1 _ hrq
    have es : sm z v n l (rl r (p + 1 + 1)) = bm (sm z v n l (rl r (p + 1)) + term z v n l (r (p + 1)) (rl r (p + 1))) := rfl
    have ep : (((p + 1 : Nat) : Int) - 1) = (p : Int) := by omega
    have kp : z (20 + 6 * r p + 1) = pKey z (r p) := by unfold pKey; congr 1; omega
    have kq : z (20 + 6 * r (p + 1) + 1) = pKey z (r (p + 1)) := by unfold pKey; congr 1; omega
    have lp : z (20 + 6 * r p + 2) = pLoud z (r p) := by unfold pLoud; congr 1; omega
    have lq : z (20 + 6 * r (p + 1) + 2) = pLoud z (r (p + 1)) := by unfold pLoud; congr 1; omega
    have hcar := car_le z (r p) (r (p + 1))
    have hwy := wy_nn pp.2.1 pq.2.1
    have j133 : ∀ (M3 : Mem) (w : Int), FrP M M3 → w = wy (pKey z (r p)) (pKey z (r (p + 1))) → M3 130 97 = pLoud z (r p) → M3 130 98 = pLoud z (r (p + 1)) → ¬ p + 1 = v → wX12_byNext_J133 Q (fun x3' x4' M' => wX12_byNext_L5 Q 125 (l : Int) g (m + 1) x3' x4' M') 125 (l : Int) g x3 ((p + 1 : Nat) : Int) w 107 (125 + 5) M3 := by
      intro M3 w f3 hw a97 a98 hpv
      subst hw
      unfold wX12_byNext_J133
      rw [ep]
      refine ⟨inb_of (n := 107) rfl (by decide) (by decide), LET_i ⟨inb_of rfl (by omega) (by decide), inb_of rfl (by omega) (by decide), ?_⟩⟩
      rw [wr_up (i := 107) (n := 107) rfl (by decide), show (125 : Nat) + 5 = 130 from rfl]
      have f4 : FrP M (up M3 130 107 (wy (pKey z (r p)) (pKey z (r (p + 1))))) := fun a q1 q2 => by rw [up_c q1, f3 a q1 q2]
      rw [row_at (i := p) hR' hn12 (by omega) rfl (f4 132 (by decide) (by decide)), row_at (i := p + 1) hR' hn12 (by omega) rfl (f4 132 (by decide) (by decide))]
      refine mf_car hz (hb'.frp f4) hrp hrq rfl rfl (LET_i ?_)
      rw [wr_up (i := 115) (n := 115) rfl (by decide)]
      have f5 : FrP M (up (up M3 130 107 (wy (pKey z (r p)) (pKey z (r (p + 1))))) 130 115 (car z (r p) (r (p + 1)) : Int)) := fun a q1 q2 => by rw [up_c q1, f4 a q1 q2]
      refine mf_worked (dflt := 0) (nm := nmPair z (r p) (r (p + 1))) hz (hb'.frp f5) hl (fun c hc' => ?_) rfl (fun M6 x f6 hx => ?_)
      · rcases nmI_pair hk hc' with ⟨rfl, e⟩ | ⟨rfl, e⟩ | ⟨rfl, e⟩ | ⟨rfl, e⟩
        · refine ⟨by decide, by decide, ?_⟩
          rw [show (97 : Int).toNat = 97 from rfl, up_kn (by decide), up_kn (by decide), a97]
          exact bm_id (by have := pp.2.2.1; omega) (by have := pp.2.2.1; omega)
        · refine ⟨by decide, by decide, ?_⟩
          rw [show (98 : Int).toNat = 98 from rfl, up_kn (by decide), up_kn (by decide), a98]
          exact bm_id (by have := pq.2.2.1; omega) (by have := pq.2.2.1; omega)
        · refine ⟨by decide, by decide, ?_⟩
          rw [show (107 : Int).toNat = 107 from rfl, up_kn (by decide), up_s]
          exact bm_id (by omega) (by omega)
        · refine ⟨by decide, by decide, ?_⟩
          rw [show (115 : Int).toNat = 115 from rfl, up_s]
          exact bm_nat (by omega)
      · have f7 : FrP M M6 := fun a q1 q2 => by rw [f6 a q2, f5 a q1 q2]
        have et := term_pair (z := z) (v := v) (n := n) (p := p) (r := r) hk
        rw [if_neg hpv] at et
        have nxt : ∀ w : Int, w = (if lK z l = 5 then (car z (r p) (r (p + 1)) : Int) else 0) → wX12_byNext_J196 Q (fun x3' x4' M' => wX12_byNext_L5 Q 125 (l : Int) g (m + 1) x3' x4' M') 125 (l : Int) g ((p + 1 : Nat) : Int) w x x3 M6 := by
          intro w hw
          unfold wX12_byNext_J196
          refine LET_i (LET_i (bn_L hz hb hR hn12 hv12 hr hl hk hg hQ m (p + 1 + 1) M6 _ _ (by omega) (by omega) (by omega) ?_ (hf.tr f7)))
          rw [es, et, ← hw]
          refine bm_congr_add (by rw [h3, sm_bm]) ?_
          rw [bm_bm]
          exact bm_congr_sub hx rfl
        refine BR_i (fun h => nxt 0 ?_) (fun h => ⟨inb_of rfl (by omega) (by decide), inb_of rfl (by omega) (by decide), ?_⟩)
        · have := hg.mp h
          rw [if_neg (by omega)]
        · rw [row_at (i := p) hR' hn12 (by omega) rfl (f7 132 (by decide) (by decide)), row_at (i := p + 1) hR' hn12 (by omega) rfl (f7 132 (by decide) (by decide))]
          refine mf_car hz (hb'.frp f7) hrp hrq rfl rfl (nxt _ ?_)
          have : ¬ lK z l = 1 := fun h' => h (hg.mpr h')
          rw [if_pos (by omega)]
    have j68 : ∀ w : Int, w = (if pKey z (r p) < pKey z (r (p + 1)) then pKey z (r (p + 1)) - pKey z (r p) else pKey z (r p) - pKey z (r (p + 1))) → ¬ p + 1 = v → wX12_byNext_J68 Q (fun x3' x4' M' => wX12_byNext_L5 Q 125 (l : Int) g (m + 1) x3' x4' M') 125 (l : Int) g x3 ((p + 1 : Nat) : Int) w M := by
      intro w hw hpv
      have pk1 := pp.2.1
      have pk2 := pq.2.1
      have hw2 : 0 ≤ w ∧ w ≤ 11 := by
        rw [hw]
        split <;> omega
      unfold wX12_byNext_J68
      rw [ep, row_at (i := p) hR' hn12 (by omega) rfl rfl]
      refine ⟨inb_of rfl (by omega) (by decide), mf_of (p := r p) (w := 2) hb' (by omega) (by decide) rfl rfl (LET_i ⟨inb_of rfl (by omega) (by decide), ?_⟩)⟩
      rw [wr_up (i := 97) (n := 97) rfl (by decide), show (125 : Nat) + 5 = 130 from rfl, lp]
      have f1 : FrP M (up M 130 97 (pLoud z (r p))) := fun a q1 q2 => up_c q1
      rw [row_at (i := p + 1) hR' hn12 (by omega) rfl (f1 132 (by decide) (by decide))]
      refine mf_of (p := r (p + 1)) (w := 2) (hb'.frp f1) (by omega) (by decide) rfl rfl (LET_i ?_)
      rw [wr_up (i := 98) (n := 98) rfl (by decide), lq]
      have f2 : FrP M (up (up M 130 97 (pLoud z (r p))) 130 98 (pLoud z (r (p + 1)))) := fun a q1 q2 => by rw [up_c q1, up_c q1]
      have a97 : up (up M 130 97 (pLoud z (r p))) 130 98 (pLoud z (r (p + 1))) 130 97 = pLoud z (r p) := by rw [up_kn (by decide), up_s]
      rw [bm_id (z := w) (by omega) (by omega)]
      unfold wy at j133
      rw [← hw] at j133
      refine BR_i (fun h => j133 _ _ f2 ?_ a97 (up_s _ _ _ _) hpv) (fun h => j133 _ _ f2 ?_ a97 (up_s _ _ _ _) hpv)
      · rw [if_neg (by omega)]
      · rw [if_pos (by omega)]
    unfold wX12_byNext_L5
    rw [hR'.1, bm_nat (n := n) (by omega), bm_nat (n := p + 1) (by omega)]
    refine BR_f (by omega) (mf_apart hR'.2.1 hv12 rfl (by omega) ?_)
    by_cases hpv : p + 1 = v
    · rw [if_pos (by omega)]
      refine BR_f q1 (LET_i (bn_L hz hb hR hn12 hv12 hr hl hk hg hQ m (p + 1 + 1) M _ _ (by omega) (by omega) (by omega) ?_ hf))
      rw [es, term_pair hk, if_pos hpv, Int.add_zero, sm_bm, h3]
    · rw [if_neg (by omega), ep]
      refine BR_t q0 ⟨inb_of rfl (by omega) (by decide), ?_⟩
      rw [row_at (i := p) hR' hn12 (by omega) rfl rfl]
      refine mf_of (p := r p) (w := 1) hb' (by omega) (by decide) rfl rfl ⟨inb_of rfl (by omega) (by decide), ?_⟩
      rw [row_at (i := p + 1) hR' hn12 (by omega) rfl rfl]
      refine mf_of (p := r (p + 1)) (w := 1) hb' (by omega) (by decide) rfl rfl (LET_i ?_)
      rw [kp, kq]
      have pk1 := pp.2.1
      have pk2 := pq.2.1
      rw [bm_id (z := pKey z (r p) - pKey z (r (p + 1))) (by omega) (by omega)]
      refine BR_i (fun h => j68 _ ?_ hpv) (fun h => j68 _ ?_ hpv)
      · rw [if_neg (by omega)]
      · rw [if_pos (by omega)]
        omega
theorem sm_1 {z : Fl} {v n l : Nat} {r : Nat → Nat} (hk : lK z l = 1 ∨ lK z l = 5 ∨ lK z l = 2) : sm z v n l (rl r 1) = 0 := by
  show bm (0 + term z v n l (r 0) []) = 0
  have : term z v n l (r 0) [] = 0 := by
    unfold term
    by_cases h : lK z l = 1 ∨ lK z l = 5
    · rw [if_pos h]
    · rw [if_neg h, if_pos (by omega)]
      rfl
  rw [this]
  exact bm0
theorem mf_byNext {z : Fl} {v n l : Nat} {r : Nat → Nat} {M : Mem} {g : Int} {Q : Int → Mem → Prop} (hz : ZOk z) (hb : MB z M) (hR : RB v n r M) (hn1 : 1 ≤ n) (hn12 : n ≤ 12) (hv12 : v ≤ 12) (hr : RowPs z r n) (hl : (l : Int) < z 1) (hk : lK z l = 1 ∨ lK z l = 5) (hg : bm g = 0 ↔ lK z l = 1) (hQ : ∀ M' x, FrP M M' → bm x = sm z v n l (rl r n) → Q x M') : wX12_byNext 125 (l : Int) g M Q := by
  refine ⟨n - 1 + 1, bn_L hz hb hR hn12 hv12 hr hl hk hg hQ (n - 1) 1 M _ _ (by omega) (by omega) rfl ?_ FrP.rf⟩
  rw [sm_1 (by omega)]
  exact bm0
/-- since -/
theorem bsk_L {z : Fl} {v n i : Nat} {r : Nat → Nat} {M : Mem} {key : Int} {x1 x2 : Int} {Q : Int → Mem → Prop} {E : Int → Mem → Prop} (hz : ZOk z) (hb : MB z M) (hR : RB v n r M) (hn12 : n ≤ 12) (hi : i < n) (hr : RowPs z r n) (hk : pKey z (r i) = key)
    (h0 : since z v key (rl r i) = none → E (-1) M) (h1 : ∀ k, k < i → since z v key (rl r i) = some (en z v (rl r (k + 1))) → E (k : Int) M) : ∀ (k : Nat) (x4 : Int), k ≤ i → x4 = (k : Int) - 1 → since z v key (rl r i) = since z v key (rl r k) → wX12_bySince_L17 Q E 125 x1 x2 (i : Int) (k + 1) x4 M
  | 0, x4, hki, h4, hs => by
    subst h4
    unfold wX12_bySince_L17
    exact BR_t (by decide +kernel) (h0 hs)
  | k + 1, x4, hki, h4, hs => by
    have hz0 := hz.1
    have hrk := hr k (by omega)
    have hri := hr i (by omega)
    have pk := (hz.2.2.2.2.1 _ hrk).2.1
    have pi := (hz.2.2.2.2.1 _ hri).2.1
    have hx : x4 = (k : Int) := by omega
    subst hx
    have e1 : z (20 + 6 * r k + 1) = pKey z (r k) := by unfold pKey; congr 1; omega
    have e2 : z (20 + 6 * r i + 1) = key := by rw [← hk]; unfold pKey; congr 1; omega
    have es : since z v key (rl r (k + 1)) = if pKey z (r k) = key then some (en z v (rl r (k + 1))) else since z v key (rl r k) := rfl
    unfold wX12_bySince_L17
    rw [bm_nat (n := k) (by omega), row_at (i := k) hR hn12 (by omega) rfl rfl]
    refine BR_f (by omega) ⟨inb_of rfl (by omega) (by decide), mf_of (p := r k) (w := 1) hb (by omega) (by decide) rfl rfl ⟨inb_of rfl (by omega) (by decide), ?_⟩⟩
    rw [row_at (i := i) hR hn12 (by omega) rfl rfl]
    refine mf_of (p := r i) (w := 1) hb (by omega) (by decide) rfl rfl ?_
    rw [e1, e2, bm_id (z := pKey z (r k)) (by omega) (by omega), bm_id (z := key) (by omega) (by omega)]
    refine BR_i (fun h => ?_) (fun h => ?_)
    · refine h1 k (by omega) ?_
      rw [hs, es, if_pos h]
    · rw [if_neg h] at es
      exact LET_i (bsk_L hz hb hR hn12 hi hr hk h0 h1 k _ (by omega) (by omega) (by rw [hs, es]))
theorem bs_L {z : Fl} {v n l : Nat} {r : Nat → Nat} {M0 : Mem} {Q : Int → Mem → Prop} (hz : ZOk z) (hb : MB z M0) (hR : RB v n r M0) (hn12 : n ≤ 12) (hv12 : v ≤ 12) (hr : RowPs z r n) (hL : LaidAt z v r n M0) (hl : (l : Int) < z 1) (hk : lK z l = 2) (hQ : ∀ M' x, FrP M0 M' → bm x = sm z v n l (rl r n) → Q x M') : ∀ (m i : Nat) (M : Mem) (x2 x3 : Int), i + m = n → 1 ≤ i → x3 = (i : Int) → bm x2 = sm z v n l (rl r i) → FrP M0 M → wX12_bySince_L4 Q 125 (l : Int) (m + 1) x2 x3 M
  | 0, i, M, x2, x3, hi, hi1, h3, h2, hf => by
    subst h3
    obtain rfl : i = n := by omega
    unfold wX12_bySince_L4
    rw [(hR.frp hf).1]
    exact BR_t (Int.le_refl _) (hQ M x2 hf h2)
  | m + 1, i, M, x2, x3, hi, hi1, h3, h2, hf => by
    subst h3
    have hz0 := hz.1
    have hR' := hR.frp hf
    have hb' := hb.frp hf
    have hL' := hL.frp hf
    have hri := hr i (by omega)
    have hpl : Pcs z (rl r i) := (hr.le (by omega : i ≤ n)).pcs
    have es : sm z v n l (rl r (i + 1)) = bm (sm z v n l (rl r i) + term z v n l (r i) (rl r i)) := rfl
    have et : term z v n l (r i) (rl r i) = (match since z v (pKey z (r i)) (rl r i) with
        | none => 0
        | some e => txt z l (fun _ => en z v (rl r i) + gp z v (r i) (rl r i) - e) (en z v (rl r i) + gp z v (r i) (rl r i) - e)) := by
      unfold term
      rw [if_neg (by omega), if_pos hk]
      rfl
    unfold wX12_bySince_L4
    rw [hR'.1, bm_nat (n := n) (by omega), bm_nat (n := i) (by omega)]
    refine BR_f (by omega) (LET_i ⟨i + 1, bsk_L hz hb' hR' hn12 (by omega) hr rfl (fun hs => ?_) (fun k hk' hs => ?_) i _ (Nat.le_refl _) rfl rfl⟩)
    · unfold wX12_bySince_J54
      refine BR_t (by decide +kernel) (LET_i (bs_L hz hb hR hn12 hv12 hr hL hl hk hQ m (i + 1) M _ _ (by omega) (by omega) (by omega) ?_ hf))
      rw [es, et, hs]
      show _ = bm (sm z v n l (rl r i) + 0)
      rw [Int.add_zero, sm_bm, h2]
    · have hb1 := en_nn hz v _ hpl
      have hb2 := gp_nn hz v (r i) (rl r i)
      have hb3 := since_nn hz hpl hs
      rw [rl_len] at hb1 hb3
      have hbm : bm (en z v (rl r i) + gp z v (r i) (rl r i) - en z v (rl r (k + 1))) = en z v (rl r i) + gp z v (r i) (rl r i) - en z v (rl r (k + 1)) := bm_id (by omega) (by omega)
      have er : ∀ N : Mem, FrP M N → rd N (125 + 8) (i : Int) - rd N (125 + 9) (k : Int) = en z v (rl r i) + gp z v (r i) (rl r i) - en z v (rl r (k + 1)) := fun N fN => by
        rw [rd_at (n := i) rfl (by omega), rd_at (n := k) rfl (by omega), show (125 : Nat) + 8 = 133 from rfl, show (125 : Nat) + 9 = 134 from rfl, fN 133 (by decide) (by decide), fN 134 (by decide) (by decide), (hL' i (by omega)).1, (hL' k (by omega)).2.1]
      unfold wX12_bySince_J54
      rw [er M FrP.rf, bm_nat (n := k) (by omega), wr_up (i := 109) (n := 109) rfl (by decide), show (125 : Nat) + 5 = 130 from rfl]
      have f1 : FrP M (up M 130 109 (en z v (rl r i) + gp z v (r i) (rl r i) - en z v (rl r (k + 1)))) := fun a q1 q2 => up_c q1
      refine BR_f (by omega) ⟨inb_of rfl (by omega) (by decide), inb_of rfl (by omega) (by decide), LET_i ⟨inb_of rfl (by omega) (by decide), inb_of rfl (by omega) (by decide), ?_⟩⟩
      rw [er _ f1]
      refine mf_worked (nm := fun _ => en z v (rl r i) + gp z v (r i) (rl r i) - en z v (rl r (k + 1))) (dflt := en z v (rl r i) + gp z v (r i) (rl r i) - en z v (rl r (k + 1))) hz (hb'.frp f1) hl (fun c hc' => ?_) rfl (fun M6 x f6 hx => LET_i (LET_i (bs_L hz hb hR hn12 hv12 hr hL hl hk hQ m (i + 1) M6 _ _ (by omega) (by omega) (by omega) ?_ (hf.tr (fun a q1 q2 => by rw [f6 a q2, f1 a q1 q2])))))
      · rw [hk] at hc'
        have e9 : c = 109 := by
          unfold nmI at hc'
          rw [if_neg (by decide), if_pos rfl] at hc'
          split at hc'
          · assumption
          · omega
        subst e9
        refine ⟨by decide, by decide, ?_⟩
        rw [show (109 : Int).toNat = 109 from rfl, up_s, hbm]
      · rw [es, et, hs]
        exact bm_congr_add (by rw [h2, sm_bm]) hx
theorem mf_bySince {z : Fl} {v n l : Nat} {r : Nat → Nat} {M : Mem} {Q : Int → Mem → Prop} (hz : ZOk z) (hb : MB z M) (hR : RB v n r M) (hn1 : 1 ≤ n) (hn12 : n ≤ 12) (hv12 : v ≤ 12) (hr : RowPs z r n) (hL : LaidAt z v r n M) (hl : (l : Int) < z 1) (hk : lK z l = 2) (hQ : ∀ M' x, FrP M M' → bm x = sm z v n l (rl r n) → Q x M') : wX12_bySince 125 (l : Int) M Q := by
  refine ⟨n - 1 + 1, bs_L hz hb hR hn12 hv12 hr hL hl hk hQ (n - 1) 1 M _ _ (by omega) (by omega) rfl ?_ FrP.rf⟩
  rw [sm_1 (by omega)]
  exact bm0
