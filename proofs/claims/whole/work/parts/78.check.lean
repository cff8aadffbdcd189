/-! check -/
theorem Inv.w0 {t : Int} {M : Mem} (hI : Inv t M) : Inv t (up (up M 2 13 0) 126 5 0) := by
  generalize hM2 : up (up M 2 13 0) 126 5 0 = M2
  have G : ∀ a, a ≠ 2 → a ≠ 126 → M2 a = M a := fun a _ _ => by subst hM2; simp (disch := omega) only [up_c]
  have F : ∀ j, j ≠ 5 → M2 126 j = M 126 j := fun j _ => by subst hM2; simp (disch := omega) only [up_kn, up_c]
  have F5 : M2 126 5 = 0 := by subst hM2; rw [up_s]
  have C : ∀ j, M2 2 j = if j = 13 then 0 else M 2 j := fun j => by subst hM2; simp (disch := omega) only [up_c, up_k]
  clear hM2
  obtain ⟨n0, n1, n2, n3, n4, n5⟩ := hI.1.1
  obtain ⟨b0, b1, b2, b3, b4, b5⟩ := hI.2.1.1
  have k0 := F 0 (by omega)
  have k1 := F 1 (by omega)
  have k2 := F 2 (by omega)
  have k3 := F 3 (by omega)
  have k4 := F 4 (by omega)
  refine hI.book (fun y h1 h2 h3 h4 => G y (by omega) h4) (by rw [G 103 (by decide) (by decide)]) (by rw [G 108 (by decide) (by decide)]) ⟨by omega, by omega, by omega, by omega, by omega, by omega⟩ ?_ (by omega) (fun i _ _ => F i (by omega)) (G 4 (by decide) (by decide)) ?_ ?_ ?_ ?_ (hI.tap (G 7 (by decide) (by decide)) k4 (fun i _ _ => F i (by omega))) ?_ (hI.seC (fun i _ => F i (by omega)) (G 103 (by decide) (by decide)) (G 104 (by decide) (by decide)) (G 105 (by decide) (by decide)) (G 106 (by decide) (by decide))) (hI.ssC (fun i _ => F i (by omega)) (G 108 (by decide) (by decide)) (G 109 (by decide) (by decide)))
  · unfold BkCnt
    rw [C, C, C, C, C, C, k0, k1, k2, k3, k4, F5]
    exact ⟨b0, b1, b2, b3, b4, rfl⟩
  · exact fun p hp => Or.inl ⟨by omega, G _ (by omega) (by omega), fun i _ _ => F i (by omega)⟩
  · exact fun p hp => Or.inl ⟨by omega, G _ (by omega) (by omega), G _ (by omega) (by omega), fun i _ _ => F i (by omega), fun i _ _ => F i (by omega)⟩
  · exact fun p hp => Or.inl ⟨by omega, G _ (by omega) (by omega), fun i _ _ => F i (by omega)⟩
  · exact fun p hp => Or.inl ⟨by omega, fun y _ _ => G _ (by omega) (by omega), fun i _ _ => F i (by omega)⟩
  · intro i hi
    rw [F5] at hi
    omega
theorem vw_5 {s s' : Fl} (h : ∀ j, j ≠ 5 → s' j = s j) : vw s' = vw s := by
  funext i
  unfold vw
  by_cases hi : i ≤ 2 ∨ (6 ≤ i ∧ i < 1240)
  · rw [if_pos hi, if_pos hi, h i (by omega)]
  · rw [if_neg hi, if_neg hi]
/-- the first place at which they are unlike -/
def pf (w n : Nat) (e : Nat → Bool) : Nat → Nat → Nat
  | 0, i => i
  | m + 1, i => if i < w ∧ i < n ∧ e i = true then pf w n e m (i + 1) else i
theorem pf_s (w n : Nat) (e : Nat → Bool) (m i : Nat) : pf w n e (m + 1) i = if i < w ∧ i < n ∧ e i = true then pf w n e m (i + 1) else i := rfl
def pfr (w n f : Nat) : Int := if f = w ∧ f = n then 0 else 1 + (f : Int)
theorem fu_L {w n : Nat} {e : Nat → Bool} {M : Mem} {Q : Int → Mem → Prop} (hw : w ≤ 12) (hn : n ≤ 12) (h5 : M 103 5 = (n : Int)) (he : ∀ i, i < w → i < n → (e i = true ↔ bm (M 10 i) = bm (M 106 i))) (hQ : ∀ r, 1 + r = pfr w n (pf w n e 13 0) → Q r M) : ∀ (m i : Nat) (x2 : Int), i + m = 13 → i ≤ w → i ≤ n → x2 = (i : Int) → pf w n e 13 0 = pf w n e m i → wX11_firstUnlike_L2 Q 1 (w : Int) (m + 1) x2 M
  | 0, i, x2, hi, hiw, hin, h2, hp => by omega
  | m + 1, i, x2, hi, hiw, hin, h2, hp => by
    subst h2
    have es := pf_s w n e m i
    unfold wX11_firstUnlike_L2
    rw [show M (1 + 102) 5 = (n : Int) from h5, bm_nat (n := i) (by omega), bm_nat (n := w) (by omega), bm_nat (n := n) (by omega)]
    have j62 : ¬ (i < w ∧ i < n ∧ e i = true) → (i < w ∨ i < n) → wX11_firstUnlike_J62 Q (fun x2' M' => wX11_firstUnlike_L2 Q 1 (w : Int) (m + 1) x2' M') 1 (w : Int) (i : Int) M := by
      intro hno hor
      unfold wX11_firstUnlike_J62 wX11_firstUnlike_J63
      refine BR_t bm0 (hQ _ ?_)
      rw [if_neg hno] at es
      rw [hp, es]
      unfold pfr
      rw [if_neg (by omega)]
    have j18 : (i < w ∨ i < n) → wX11_firstUnlike_J18 Q (fun x2' M' => wX11_firstUnlike_L2 Q 1 (w : Int) (m + 1) x2' M') 1 (w : Int) (i : Int) M := by
      intro hor
      unfold wX11_firstUnlike_J18
      rw [show M (1 + 102) 5 = (n : Int) from h5, bm_nat (n := i) (by omega), bm_nat (n := w) (by omega), bm_nat (n := n) (by omega)]
      refine BR_i (fun h => j62 (by omega) hor) (fun h => BR_i (fun h' => j62 (by omega) hor) (fun h' => ⟨inb_of rfl (by omega) (by decide), inb_of rfl (by omega) (by decide), ?_⟩))
      rw [rd_at (n := i) rfl (by omega), rd_at (n := i) rfl (by omega), show (1 : Nat) + 9 = 10 from rfl, show (1 : Nat) + 105 = 106 from rfl]
      refine BR_i (fun h2 => ?_) (fun h2 => j62 (fun q => h2 ((he i (by omega) (by omega)).mp q.2.2)) hor)
      have hpr : i < w ∧ i < n ∧ e i = true := ⟨by omega, by omega, (he i (by omega) (by omega)).mpr h2⟩
      rw [if_pos hpr] at es
      unfold wX11_firstUnlike_J63
      exact BR_f q1 (LET_i (fu_L hw hn h5 he hQ m (i + 1) _ (by omega) (by omega) (by omega) (by omega) (by rw [hp, es])))
    refine BR_i (fun h => j18 (by omega)) (fun h => BR_i (fun h' => hQ _ ?_) (fun h' => j18 (by omega)))
    rw [if_neg (by omega)] at es
    rw [hp, es]
    unfold pfr
    rw [if_pos (by omega)]
    rfl
theorem ch_L {w n : Nat} {e : Nat → Bool} {M : Mem} {Q : Int → Mem → Prop} (hw : w ≤ 12) (hn : n ≤ 12) (h19 : M 125 19 = (n : Int)) (he : ∀ i, i < w → i < n → (e i = true ↔ bm (M 126 (1510 + i)) = bm (M 136 i))) (hQ : Q (pfr w n (pf w n e 13 0)) M) : ∀ (m i : Nat) (x3 : Int), i + m = 13 → i ≤ w → i ≤ n → x3 = (i : Int) → pf w n e 13 0 = pf w n e m i → wX12_check_L63 Q (fun x3_16 M_17 => wX12_check_J101 Q 125 (w : Int) x3_16 M_17) 125 (w : Int) (m + 1) x3 M
  | 0, i, x3, hi, hiw, hin, h3, hp => by omega
  | m + 1, i, x3, hi, hiw, hin, h3, hp => by
    subst h3
    have es := pf_s w n e m i
    have fin : ¬ (i < w ∧ i < n ∧ e i = true) → wX12_check_J101 Q 125 (w : Int) (i : Int) M := by
      intro hno
      rw [if_neg hno] at es
      rw [hp, es] at hQ
      unfold pfr at hQ
      unfold wX12_check_J101
      rw [h19, bm_nat (n := i) (by omega), bm_nat (n := w) (by omega), bm_nat (n := n) (by omega)]
      refine BR_i (fun h => BR_i (fun h' => ?_) (fun h' => ?_)) (fun h => ?_)
      · rw [if_pos (by omega)] at hQ
        exact hQ
      · rw [if_neg (by omega)] at hQ
        exact hQ
      · rw [if_neg (by omega)] at hQ
        exact hQ
    unfold wX12_check_L63
    rw [h19, bm_nat (n := i) (by omega), bm_nat (n := w) (by omega), bm_nat (n := n) (by omega)]
    refine BR_i (fun h => fin (by omega)) (fun h => BR_i (fun h' => fin (by omega)) (fun h' => ⟨inb_of (n := 1510 + i) (by omega) (by omega) (by decide), inb_of rfl (by omega) (by decide), ?_⟩))
    rw [rd_at (i := 1510 + (i : Int)) (n := 1510 + i) (by omega) (by omega), rd_at (n := i) rfl (by omega), show (125 : Nat) + 1 = 126 from rfl, show (125 : Nat) + 11 = 136 from rfl]
    refine BR_i (fun h2 => LET_i ?_) (fun h2 => fin fun q => h2 ((he i (by omega) (by omega)).mp q.2.2))
    have hpr : i < w ∧ i < n ∧ e i = true := ⟨by omega, by omega, (he i (by omega) (by omega)).mpr h2⟩
    rw [if_pos hpr] at es
    exact ch_L hw hn h19 he hQ m (i + 1) _ (by omega) (by omega) (by omega) (by omega) (by rw [hp, es])
theorem up_up {M : Mem} {k i k' i' : Nat} {v v' : Int} (h : k ≠ k') : up (up M k i v) k' i' v' = up (up M k' i' v') k i v := by
  funext a j
  unfold up
  by_cases h1 : a = k' ∧ j = i'
  · by_cases h2 : a = k ∧ j = i
    · omega
    · rw [if_pos h1, if_neg h2, if_pos h1]
  · by_cases h2 : a = k ∧ j = i
    · rw [if_neg h1, if_pos h2, if_pos h2]
    · rw [if_neg h1, if_neg h2, if_neg h2, if_neg h1]
theorem st_check {t : Int} {M : Mem} (hI : Inv t M) {a : Int} (ea : bm a = a) : Step t M (fun M Q => wX11_check 1 a M Q) (fun M Q => wX12_check 125 a M Q) := by
  intro Q1 hQ1
  have hz := hI.zok
  have hIv := hI.w0
  obtain ⟨w, hw, hw12, c13⟩ := hI.nw
  have hvz : vw (up (up M 2 13 0) 126 5 0 126) = vw (M 126) := vw_5 fun j hj => by rw [up_kn hj, up_c (by decide)]
  have rd5 : ∀ N : Mem, rd N (125 + 1) 5 = N 126 5 := fun N => rd_at (i := 5) (n := 5) rfl (by decide)
  have wr5 : ∀ N : Mem, wr N (125 + 1) 5 0 = up N 126 5 0 := fun N => wr_up (i := 5) (n := 5) rfl (by decide)
  have hcb4 : CB (vw (M 126)) (up M 2 13 0) := by
    obtain ⟨c1, c2, c3, c4, c5, c6, c7⟩ := hI.cb
    refine ⟨by rw [up_kn (by decide)]; exact c1, by rw [up_kn (by decide)]; exact c2, by rw [up_kn (by decide)]; exact c3, by rw [up_c (by decide)]; exact c4, fun p hp f hf => by rw [up_c (by omega)]; exact c5 p hp f hf, fun l hl => ?_, fun m hm => by rw [up_c (by omega)]; exact c7 m hm⟩
    have := c6 l hl
    unfold BkLik at this ⊢
    rw [up_c (by omega), up_c (by omega)]
    exact this
  have hw4 : WzOk (up M 2 13 0) := hI.wz.congr fun x q1 q2 => up_c (by omega)
  have hse4 : SeOk (vw (M 126)) (up M 2 13 0) := hI.2.2.2.2.2.2.2.1.congr (fun j _ => by rw [up_c (by decide)]) (up_c (by decide)) (up_c (by decide)) (up_c (by decide))
  have hv0 : ∀ N : Mem, N 126 = M 126 → up N 126 5 0 126 0 = vw (M 126) 0 := fun N hN => by rw [up_kn (by decide), hN, vw_at (by omega)]
  -- the reference, up to its search
  have ref : ∀ (M1 : Mem) (Q2 : Int → Mem → Prop), M1 126 = M 126 → (¬ inS (vw (M 126)) a → wX12_error 125 1 (up M1 126 5 0) (fun r M => Q2 r M)) → (∀ k : Nat, a = (k : Int) → inS (vw (M 126)) a → ¬ (1 ≤ pop k ∧ pop k ≤ 6) → wX12_error 125 5 (up M1 126 5 0) (fun r M => Q2 r M)) → (∀ k : Nat, a = (k : Int) → setIn (vw (M 126)) k 6 → ∀ M2, FrQ (up M1 126 5 0) M2 → RH (vw (M 126)) k M2 → BR (bm (M2 125 22) = 0) (wX12_error 125 2 M2 (fun r_20 M_19 => Q2 r_20 M_19)) (∃ N_18, wX12_check_L63 Q2 (fun x3_16 M_17 => wX12_check_J101 Q2 125 (w : Int) x3_16 M_17) 125 (w : Int) N_18 0 M2)) → wX12_check 125 a M1 Q2 := by
    intro M1 Q2 h126 e1 e5 e0
    unfold wX12_check
    rw [rd5, wr5, h126, hw]
    refine LET_i (LET_i (mf_isSet hz (hv0 M1 h126) ea (fun hs => BR_f q1 ?_) (fun hs => BR_t q0 (e1 hs))))
    obtain ⟨k, rfl⟩ : ∃ k : Nat, a = (k : Int) := ⟨a.toNat, by have := hs.1; omega⟩
    refine mf_isSmall (hs.lt hz).1 (most := 6) rfl (by decide) (fun hsm => BR_f q1 (mf_seesAll hz (fun j hj => by rw [up_kn (by omega), h126, vw_at hj]) ⟨(hs.lt hz).2, hsm⟩ fun M2 f hr => e0 k rfl ⟨(hs.lt hz).2, hsm⟩ M2 f hr)) (fun hsm => BR_t q0 (e5 k rfl hs hsm))
  unfold wX11_check
  rw [show M (1 + 1) 13 = (w : Int) from c13]
  refine LET_i (LET_i (lf_searchFault hz hcb4 hw4 hse4 ea (fun h => ?_) (fun k hk hi ho hs => ?_) (fun k hk ho hs M' f hw' h3 h3b h4 hsr => BR_t bm0 ?_)))
  · rcases h with h | h
    · unfold wX11_check_J39
      refine BR_f q1 (BR_f q1 (lf_error11 (k := 1) rfl (by decide) (by decide) (hQ1 _ _ fun Q2 hQ2 => ref _ Q2 (by rw [up_c (by decide), up_c (by decide)]) (fun _ => ?_) (fun k hk hi => absurd hi h) (fun k hk hs => absurd (by rw [hk]; exact inS_k hs) h))))
      rw [up_up (by decide)]
      exact st_err hIv (k := 1) rfl (by decide) hQ2
    · exact absurd h q1
  · unfold wX11_check_J39
    refine BR_f (by decide +kernel) (BR_f (by decide +kernel) (lf_error11 (k := 5) rfl (by decide) (by decide) (hQ1 _ _ fun Q2 hQ2 => ref _ Q2 (by rw [up_c (by decide), up_c (by decide)]) (fun h => absurd hi h) (fun _ _ _ _ => ?_) (fun k' hk' hs' => ?_))))
    · rw [up_up (by decide)]
      exact st_err hIv (k := 5) rfl (by decide) hQ2
    · obtain rfl : k' = k := by omega
      exact absurd hs'.2 hs
  · subst hk
    have hk12 := ((inS_k hs).lt hz).1
    have hlen := cands_len (z := vw (M 126)) hs.2.2
    have hpk := hs.2.2
    have h126 : M' 126 = M 126 := by rw [f.1 126 (by omega), up_c (by decide)]
    have hI' : Inv t (up M' 126 5 0) := by
      refine Fnd.inv (k := k) hIv ⟨fun x hx => ?_, ?_⟩ (hw'.congr fun x q1 q2 => up_c (by omega)) (by rw [up_c (by decide)]; exact h3b) (by rw [up_c (by decide)]; exact h4) (by rw [hvz]; exact hs) (by rw [hvz]; exact hsr.congr (fun j _ _ => by rw [up_c (by decide)]) (up_c (by decide)) (up_c (by decide)) (up_c (by decide)))
      · by_cases h6 : x = 126
        · subst h6
          funext j
          rw [up_k, up_k, h126, up_c (by decide)]
        · rw [up_c h6, up_c h6, f.1 x hx]
      · rw [up_c (by decide), up_c (by decide), f.2]
    have none : (∀ M2 : Mem, FrQ (up (up M' 126 5 0) 86 2 (M' 86 2 + 1)) M2 → RH (vw (M 126)) k M2 → ∀ Q2 : Int → Mem → Prop, wX12_error 125 2 M2 (fun r_20 M_19 => Q2 r_20 M_19) → BR (bm (M2 125 22) = 0) (wX12_error 125 2 M2 (fun r_20 M_19 => Q2 r_20 M_19)) (∃ N_18, wX12_check_L63 Q2 (fun x3_16 M_17 => wX12_check_J101 Q2 125 (w : Int) x3_16 M_17) 125 (w : Int) N_18 0 M2)) → wX11_check_J39 Q1 1 (w : Int) 2 M' := by
      intro hn
      unfold wX11_check_J39
      refine BR_f (by decide +kernel) (lf_error11 (k := 2) rfl (by decide) (by decide) (hQ1 _ _ fun Q2 hQ2 => ref _ Q2 (by rw [up_c (by decide), h126]) (fun h => absurd (inS_k hs) h) (fun k' hk' _ h => ?_) (fun k' hk' _ M2 fq hr => ?_)))
      · obtain rfl : k' = k := by omega
        exact absurd hs.2 h
      · obtain rfl : k' = k := by omega
        rw [up_up (by decide)] at fq
        refine hn M2 fq hr Q2 ?_
        have e86 : M' 86 2 = up M' 126 5 0 86 2 := by rw [up_c (by decide)]
        rw [e86] at fq
        exact q_err hI' (k := 2) rfl (by decide) fq hQ2
    obtain ⟨h5, hm, g1, g2, g3⟩ := hsr
    rw [show M' (1 + 102) 6 = _ from g1, bm_nat (n := (cands (vw (M 126)) k).length) (by omega)]
    refine BR_i (fun hc0 => none fun M2 fq hr Q2 hj => ?_) (fun hc0 => ?_)
    · rw [hr.2.1, bm_nat (n := (cands (vw (M 126)) k).length) (by omega)]
      exact BR_t hc0 hj
    · have hne : cands (vw (M 126)) k ≠ [] := fun e => hc0 (by rw [e]; rfl)
      obtain ⟨b, hb⟩ := isBest_e (z := vw (M 126)) (n := pop k) (fun d hd => (cands_ok hk12 hd).1.1) hne
      obtain ⟨a1, a2, a3, a4, a5⟩ := g3 b hb
      have hpb := (cands_ok hk12 hb.1).1
      have e10 : M' 10 = M 10 := by rw [f.1 10 (by omega), up_c (by decide)]
      unfold wX11_check_J39
      refine BR_t bm0 ⟨13 + 1, fu_L (e := fun i => decide (bm (M 126 (1510 + i)) = bm ((b.1.getD i 0 : Nat) : Int))) hw12 (by omega) h5 (fun i hi hin => ?_) (fun r hr => hQ1 _ _ fun Q2 hQ2 => ref _ Q2 h126 (fun h => absurd (inS_k hs) h) (fun k' hk' _ h => ?_) (fun k' hk' _ M2 fq hr2 => ?_)) 13 0 _ (by omega) (by omega) (by omega) rfl rfl⟩
      · rw [decide_eq_true_eq, e10, a4 i hin, hI.2.1.2.2.2.2.2.2.2 i (by omega)]
      · obtain rfl : k' = k := by omega
        exact absurd hs.2 h
      · obtain rfl : k' = k := by omega
        obtain ⟨b', b1, b2, b3, b4, b5, b6, b7⟩ := hr2.2.2.2.1 hne
        obtain rfl := isBest_u hb b1
        rw [hr2.2.1, bm_nat (n := (cands (vw (M 126)) k').length) (by omega)]
        refine BR_f hc0 ⟨13 + 1, ch_L (e := fun i => decide (bm (M 126 (1510 + i)) = bm ((b.1.getD i 0 : Nat) : Int))) hw12 (by omega) b3 (fun i hi hin => ?_) ?_ 13 0 _ (by omega) (by omega) (by omega) rfl rfl⟩
        · rw [decide_eq_true_eq, b2 i hin, fq.1 126 (by decide) (by decide), up_kn (by omega), h126]
        · exact hQ2 _ _ (by rw [hr]) (q_inv hI' fq)
