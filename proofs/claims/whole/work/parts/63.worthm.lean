/-! WHAT A ROW IS WORTH: the reference -/
theorem bp_L {z : Fl} {v n l : Nat} {r : Nat → Nat} {M0 : Mem} {Q : Int → Mem → Prop} (hz : ZOk z) (hb : MB z M0) (hR : RB v n r M0) (hn12 : n ≤ 12) (hv12 : v ≤ 12) (hvn : v < n) (hr : RowPs z r n) (hl : (l : Int) < z 1) (hk : lK z l = 3) (hQ : ∀ M' x, FrP M0 M' → bm x = sm z v n l (rl r n) → Q x M') : ∀ (m i : Nat) (M : Mem) (x2 x3 : Int), i + m = n → x3 = (i : Int) → bm x2 = sm z v n l (rl r i) → FrP M0 M → wX12_byPlace_L4 Q 125 (l : Int) (m + 1) x2 x3 M
  | 0, i, M, x2, x3, hi, h3, h2, hf => by
    subst h3
    obtain rfl : i = n := by omega
    unfold wX12_byPlace_L4
    rw [(hR.frp hf).1]
    exact BR_t (Int.le_refl _) (hQ M x2 hf h2)
  | m + 1, i, M, x2, x3, hi, h3, h2, hf => by
    subst h3
    have hz0 := hz.1
    have hR' := hR.frp hf
    have hb' := hb.frp hf
    have hri := hr i (by omega)
    have pq := (hz.2.2.2.2.1 _ hri).2.2.1
    have es : sm z v n l (rl r (i + 1)) = bm (sm z v n l (rl r i) + term z v n l (r i) (rl r i)) := rfl
    have et : term z v n l (r i) (rl r i) = txt z l (nmPlace z v n (r i) i) 0 := by
      unfold term
      rw [if_neg (by omega), if_neg (by omega), if_pos hk, rl_len]
    have lq : z (20 + 6 * r i + 2) = pLoud z (r i) := by unfold pLoud; congr 1; omega
    have j104 : ∀ (M5 : Mem) (w w105 : Int), FrP M M5 → M5 130 112 = (i : Int) → M5 130 110 = (n : Int) → M5 130 108 = pLoud z (r i) → M5 130 105 = w105 → bm w105 = (if i + 1 = n ∨ i + 1 = v then 1 else 0) → bm w = (if i = 0 ∨ i = v then 1 else 0) → wX12_byPlace_J104 Q (fun x2' x3' M' => wX12_byPlace_L4 Q 125 (l : Int) (m + 1) x2' x3' M') 125 (l : Int) x2 (i : Int) w 106 (125 + 5) M5 := by
      intro M5 w w105 f5 a1 a2 a3 a4 hw5 hw
      unfold wX12_byPlace_J104
      refine ⟨inb_of (n := 106) rfl (by decide) (by decide), LET_i ?_⟩
      rw [wr_up (i := 106) (n := 106) rfl (by decide), show (125 : Nat) + 5 = 130 from rfl]
      have f6 : FrP M (up M5 130 106 w) := fun a q1 q2 => by rw [up_c q1, f5 a q1 q2]
      refine mf_worked (dflt := 0) (nm := nmPlace z v n (r i) i) hz (hb'.frp f6) hl (fun c hc' => ?_) rfl (fun M7 x f7 hx => LET_i (LET_i (bp_L hz hb hR hn12 hv12 hvn hr hl hk hQ m (i + 1) M7 _ _ (by omega) (by omega) ?_ (hf.tr (fun a q1 q2 => by rw [f7 a q2, f6 a q1 q2])))))
      · rw [hk] at hc'
        rcases nmI_3 hc' with ⟨rfl, e⟩ | ⟨rfl, e⟩ | ⟨rfl, e⟩ | ⟨rfl, e⟩ | ⟨rfl, e⟩
        · refine ⟨by decide, by decide, ?_⟩
          rw [show (112 : Int).toNat = 112 from rfl, up_kn (by decide), a1]
          exact bm_nat (by omega)
        · refine ⟨by decide, by decide, ?_⟩
          rw [show (110 : Int).toNat = 110 from rfl, up_kn (by decide), a2]
          exact bm_nat (by omega)
        · refine ⟨by decide, by decide, ?_⟩
          rw [show (108 : Int).toNat = 108 from rfl, up_kn (by decide), a3]
          exact bm_id (by omega) (by omega)
        · refine ⟨by decide, by decide, ?_⟩
          rw [show (105 : Int).toNat = 105 from rfl, up_kn (by decide), a4]
          exact hw5
        · refine ⟨by decide, by decide, ?_⟩
          rw [show (106 : Int).toNat = 106 from rfl, up_s]
          exact hw
      · rw [es, et]
        exact bm_congr_add (by rw [h2, sm_bm]) hx
    have j80 : ∀ (M4 : Mem) (w : Int), FrP M M4 → M4 130 112 = (i : Int) → M4 130 110 = (n : Int) → M4 130 108 = pLoud z (r i) → bm w = (if i + 1 = n ∨ i + 1 = v then 1 else 0) → wX12_byPlace_J80 Q (fun x2' x3' M' => wX12_byPlace_L4 Q 125 (l : Int) (m + 1) x2' x3' M') 125 (l : Int) x2 (i : Int) w 105 (125 + 5) M4 := by
      intro M4 w f4 a1 a2 a3 hw
      unfold wX12_byPlace_J80 wX12_byPlace_J99
      refine ⟨inb_of (n := 105) rfl (by decide) (by decide), LET_i ?_⟩
      rw [wr_up (i := 105) (n := 105) rfl (by decide), show (125 : Nat) + 5 = 130 from rfl, bm_nat (n := i) (by omega)]
      have f5 : FrP M (up M4 130 105 w) := fun a q1 q2 => by rw [up_c q1, f4 a q1 q2]
      have g1 : up M4 130 105 w 130 112 = (i : Int) := by rw [up_kn (by decide)]; exact a1
      have g2 : up M4 130 105 w 130 110 = (n : Int) := by rw [up_kn (by decide)]; exact a2
      have g3 : up M4 130 105 w 130 108 = pLoud z (r i) := by rw [up_kn (by decide)]; exact a3
      refine BR_i (fun h => j104 _ _ _ f5 g1 g2 g3 (up_s _ _ _ _) hw ?_) (fun h => mf_apart (hR'.frp f5).2.1 hv12 rfl (by omega) ?_)
      · rw [if_pos (Or.inl (by omega))]
        exact bm1
      · by_cases hiv : i = v
        · rw [if_pos (by omega)]
          refine BR_f q1 (j104 _ _ _ f5 g1 g2 g3 (up_s _ _ _ _) hw ?_)
          rw [if_pos (Or.inr hiv)]
          exact bm1
        · rw [if_neg (by omega)]
          refine BR_t q0 (j104 _ _ _ f5 g1 g2 g3 (up_s _ _ _ _) hw ?_)
          rw [if_neg (by omega)]
          exact bm0
    unfold wX12_byPlace_L4 wX12_byPlace_J75
    rw [hR'.1, bm_nat (n := n) (by omega), bm_nat (n := i) (by omega)]
    refine BR_f (by omega) (LET_i (LET_i ⟨inb_of rfl (by omega) (by decide), ?_⟩))
    rw [wr_up (i := 112) (n := 112) rfl (by decide), wr_up (i := 110) (n := 110) rfl (by decide), show (125 : Nat) + 5 = 130 from rfl, up_c (a := 125) (k := 130) (by decide), hR'.1]
    have f2 : FrP M (up (up M 130 112 (i : Int)) 130 110 (n : Int)) := fun a q1 q2 => by rw [up_c q1, up_c q1]
    rw [row_at (i := i) hR' hn12 (by omega) rfl (f2 132 (by decide) (by decide))]
    refine mf_of (p := r i) (w := 2) (hb'.frp f2) (by omega) (by decide) rfl rfl (LET_i ?_)
    rw [wr_up (i := 108) (n := 108) rfl (by decide), lq]
    have f3 : FrP M (up (up (up M 130 112 (i : Int)) 130 110 (n : Int)) 130 108 (pLoud z (r i))) := fun a q1 q2 => by rw [up_c q1, f2 a q1 q2]
    have g1 : up (up (up M 130 112 (i : Int)) 130 110 (n : Int)) 130 108 (pLoud z (r i)) 130 112 = (i : Int) := by rw [up_kn (by decide), up_kn (by decide), up_s]
    have g2 : up (up (up M 130 112 (i : Int)) 130 110 (n : Int)) 130 108 (pLoud z (r i)) 130 110 = (n : Int) := by rw [up_kn (by decide), up_s]
    have g3 : up (up (up M 130 112 (i : Int)) 130 110 (n : Int)) 130 108 (pLoud z (r i)) 130 108 = pLoud z (r i) := up_s _ _ _ _
    rw [(hR'.frp f3).1, bm_id (z := (n : Int) - 1) (by omega) (by omega)]
    refine BR_i (fun h => j80 _ _ f3 g1 g2 g3 ?_) (fun h => mf_apart (i := i + 1) (hR'.frp f3).2.1 hv12 (by omega) (by omega) ?_)
    · rw [if_pos (Or.inl (by omega))]
      exact bm1
    · by_cases hiv : i + 1 = v
      · rw [if_pos (by omega)]
        refine BR_f q1 (j80 _ _ f3 g1 g2 g3 ?_)
        rw [if_pos (Or.inr hiv)]
        exact bm1
      · rw [if_neg (by omega)]
        refine BR_t q0 (j80 _ _ f3 g1 g2 g3 ?_)
        rw [if_neg (by omega)]
        exact bm0
theorem mf_byPlace {z : Fl} {v n l : Nat} {r : Nat → Nat} {M : Mem} {Q : Int → Mem → Prop} (hz : ZOk z) (hb : MB z M) (hR : RB v n r M) (hn12 : n ≤ 12) (hv12 : v ≤ 12) (hvn : v < n) (hr : RowPs z r n) (hl : (l : Int) < z 1) (hk : lK z l = 3) (hQ : ∀ M' x, FrP M M' → bm x = sm z v n l (rl r n) → Q x M') : wX12_byPlace 125 (l : Int) M Q :=
  ⟨n + 1, bp_L hz hb hR hn12 hv12 hvn hr hl hk hQ n 0 M _ _ (by omega) rfl bm0 FrP.rf⟩
/-- tired -/
theorem btp_L {z : Fl} {v n i : Nat} {r : Nat → Nat} {M : Mem} {x1 x2 : Int} {Q : Int → Mem → Prop} {E : Int → Mem → Prop} (hz : ZOk z) (hb : MB z M) (hR : RB v n r M) (hn12 : n ≤ 12) (hi : i < n) (hr : RowPs z r n) (hL : LaidAt z v r n M) (hQ : E (tiMost z v (r i) (rl r i)) M) : ∀ (m j : Nat) (x4 x5 : Int), j + m = 8 → x5 = (j : Int) → x4 = mxn (fun k => if plays z (r i) k then ti z v k (rl r (i + 1)) else 0) 0 j → wX12_byTired_L18 Q E 125 x1 x2 (i : Int) (m + 1) x4 x5 M
  | 0, j, x4, x5, hj, h5, h4 => by
    subst h5 h4
    obtain rfl : j = 8 := by omega
    unfold wX12_byTired_L18
    exact BR_t (by decide +kernel) hQ
  | m + 1, j, x4, x5, hj, h5, h4 => by
    subst h5
    have hz0 := hz.1
    have hri := hr i (by omega)
    have hb0 : ∀ k, 0 ≤ (if plays z (r i) k then ti z v k (rl r (i + 1)) else 0) ∧ (if plays z (r i) k then ti z v k (rl r (i + 1)) else 0) ≤ 99 * 12 := fun k => by
      have := ti_nn hz v k (rl r (i + 1)) (hr.le (by omega : i + 1 ≤ n)).pcs
      rw [rl_len] at this
      split <;> omega
    have hx := mxn_nn (f := fun k => if plays z (r i) k then ti z v k (rl r (i + 1)) else 0) (a := 0) (c := 99 * 12) (by omega) j (fun k _ => hb0 k)
    rw [← h4] at hx
    have em : mxn (fun k => if plays z (r i) k then ti z v k (rl r (i + 1)) else 0) 0 (j + 1) = mx x4 (if plays z (r i) j then ti z v j (rl r (i + 1)) else 0) := by rw [h4]; rfl
    unfold wX12_byTired_L18
    rw [bm_nat (n := j) (by omega), row_at (i := i) hR hn12 hi rfl rfl]
    refine BR_f (by omega) ⟨inb_of rfl (by omega) (by decide), mf_of (p := r i) (w := 3) hb (by omega) (by decide) rfl rfl ?_⟩
    rw [isp_bit hz hri (by omega)]
    simp only [wX12_byTired_J50, wX12_byTired_J89, wX12_byTired_J91]
    cases hp : plays z (r i) j
    · rw [hp, if_neg (by decide)] at em
      rw [if_neg (by decide)]
      refine BR_f (by decide +kernel) (BR_t q0 (LET_i (btp_L hz hb hR hn12 hi hr hL hQ m (j + 1) _ _ (by omega) (by omega) ?_)))
      rw [em]
      unfold mx
      rw [if_neg (by omega)]
    · have hbj := hb0 j
      rw [if_pos hp] at hbj
      rw [hp, if_pos rfl] at em
      have e1 : rd M (125 + 10) (8 * (i : Int) + (j : Int)) = ti z v j (rl r (i + 1)) := by rw [rd_at (n := 8 * i + j) (by omega) (by omega)]; exact (hL i hi).2.2 j (by omega)
      rw [if_pos rfl, e1, bm_id (z := x4) (by omega) (by omega), bm_id (z := ti z v j (rl r (i + 1))) (by omega) (by omega)]
      refine BR_t (by decide +kernel) (BR_f q1 ⟨inb_of (n := 8 * i + j) (by omega) (by omega) (by decide), BR_i (fun h => LET_i (btp_L hz hb hR hn12 hi hr hL hQ m (j + 1) _ _ (by omega) (by omega) ?_)) (fun h => ⟨inb_of (n := 8 * i + j) (by omega) (by omega) (by decide), LET_i (btp_L hz hb hR hn12 hi hr hL hQ m (j + 1) _ _ (by omega) (by omega) ?_)⟩)⟩)
      · rw [em]
        unfold mx
        rw [if_neg (by omega)]
      · rw [em]
        unfold mx
        rw [if_pos (by omega)]
theorem bt_L {z : Fl} {v n l : Nat} {r : Nat → Nat} {M0 : Mem} {Q : Int → Mem → Prop} (hz : ZOk z) (hb : MB z M0) (hR : RB v n r M0) (hn12 : n ≤ 12) (hv12 : v ≤ 12) (hr : RowPs z r n) (hL : LaidAt z v r n M0) (hl : (l : Int) < z 1) (hk : lK z l = 4) (hQ : ∀ M' x, FrP M0 M' → bm x = sm z v n l (rl r n) → Q x M') : ∀ (m i : Nat) (M : Mem) (x2 x3 : Int), i + m = n → x3 = (i : Int) → bm x2 = sm z v n l (rl r i) → FrP M0 M → wX12_byTired_L4 Q 125 (l : Int) (m + 1) x2 x3 M
  | 0, i, M, x2, x3, hi, h3, h2, hf => by
    subst h3
    obtain rfl : i = n := by omega
    unfold wX12_byTired_L4
    rw [(hR.frp hf).1]
    exact BR_t (Int.le_refl _) (hQ M x2 hf h2)
  | m + 1, i, M, x2, x3, hi, h3, h2, hf => by
    subst h3
    have hR' := hR.frp hf
    have hb' := hb.frp hf
    have hL' := hL.frp hf
    have es : sm z v n l (rl r (i + 1)) = bm (sm z v n l (rl r i) + term z v n l (r i) (rl r i)) := rfl
    have et : term z v n l (r i) (rl r i) = txt z l (fun _ => tiMost z v (r i) (rl r i)) (tiMost z v (r i) (rl r i)) := by
      unfold term
      rw [if_neg (by omega), if_neg (by omega), if_neg (by omega), if_pos hk]
    have hbt := tiMost_nn hz (v := v) (q := r i) (L := rl r i) (hr.le (by omega : i + 1 ≤ n)).pcs
    rw [rl_len] at hbt
    unfold wX12_byTired_L4
    rw [hR'.1, bm_nat (n := n) (by omega), bm_nat (n := i) (by omega)]
    refine BR_f (by omega) ⟨8 + 1, btp_L hz hb' hR' hn12 (by omega) hr hL' (LET_i ?_) 8 0 _ _ rfl rfl rfl⟩
    rw [wr_up (i := 116) (n := 116) rfl (by decide), show (125 : Nat) + 5 = 130 from rfl]
    have f1 : FrP M (up M 130 116 (tiMost z v (r i) (rl r i))) := fun a q1 q2 => up_c q1
    refine mf_worked (nm := fun _ => tiMost z v (r i) (rl r i)) (dflt := tiMost z v (r i) (rl r i)) hz (hb'.frp f1) hl (fun c hc' => ?_) rfl (fun M6 x f6 hx => LET_i (LET_i (bt_L hz hb hR hn12 hv12 hr hL hl hk hQ m (i + 1) M6 (x2 + x) ((i : Int) + 1) (by omega) (by omega) ?_ (hf.tr (fun a q1 q2 => by rw [f6 a q2, f1 a q1 q2])))))
    · rw [hk] at hc'
      have e9 : c = 116 := by
        unfold nmI at hc'
        rw [if_neg (by decide), if_neg (by decide), if_neg (by decide), if_pos rfl] at hc'
        split at hc'
        · assumption
        · omega
      subst e9
      refine ⟨by decide, by decide, ?_⟩
      rw [show (116 : Int).toNat = 116 from rfl, up_s]
      exact bm_id (by omega) (by omega)
    · rw [es, et]
      exact bm_congr_add (by rw [h2, sm_bm]) hx
theorem mf_byTired {z : Fl} {v n l : Nat} {r : Nat → Nat} {M : Mem} {Q : Int → Mem → Prop} (hz : ZOk z) (hb : MB z M) (hR : RB v n r M) (hn12 : n ≤ 12) (hv12 : v ≤ 12) (hr : RowPs z r n) (hL : LaidAt z v r n M) (hl : (l : Int) < z 1) (hk : lK z l = 4) (hQ : ∀ M' x, FrP M M' → bm x = sm z v n l (rl r n) → Q x M') : wX12_byTired 125 (l : Int) M Q :=
  ⟨n + 1, bt_L hz hb hR hn12 hv12 hr hL hl hk hQ n 0 M _ _ (by omega) rfl bm0 FrP.rf⟩
theorem sm_z {z : Fl} {v n l : Nat} (hk : lK z l = 0 ∨ lK z l = 6) : ∀ L, sm z v n l L = 0
  | [] => rfl
  | q :: L => by
    rw [sm_cons, sm_z hk L]
    unfold term
    rw [if_neg (by omega), if_neg (by omega), if_neg (by omega), if_neg (by omega)]
    exact bm0
theorem mf_lik {z : Fl} {M : Mem} {l w : Nat} {x1 x2 : Int} {Q : Int → Mem → Prop} (hb : MB z M) (hl : l < 10) (hw : w < 4) (h1 : x1 = (l : Int)) (h2 : x2 = (w : Int)) (hQ : Q (z (100 + 4 * l + w)) M) : wX12_likingIs 125 x1 x2 M Q := by
  subst h1 h2
  unfold wX12_likingIs
  refine ⟨inb_of (n := 100 + 4 * l + w) (by omega) (by omega) (by decide), ?_⟩
  rw [rd_at (n := 100 + 4 * l + w) (by omega) (by omega), show (125 : Nat) + 1 = 126 from rfl, hb _ (by omega)]
  exact hQ
theorem mf_by {z : Fl} {v n l : Nat} {r : Nat → Nat} {M : Mem} {Q : Int → Mem → Prop} (hz : ZOk z) (hb : MB z M) (hR : RB v n r M) (hn12 : n ≤ 12) (hvn : v < n) (hr : RowPs z r n) (hi : Inj r n) (hL : LaidAt z v r n M) (hl : (l : Int) < z 1) (hQ : ∀ M' x, FrP M M' → bm x = by1 z v n l (rl r n) → Q x M') : wX12_by 125 (l : Int) M Q := by
  obtain ⟨⟨lk0, lk6⟩, -⟩ := hz.2.2.2.2.2.1 l hl
  have hl10 := hz.2.1
  have eb : lK z l ≠ 6 → by1 z v n l (rl r n) = sm z v n l (rl r n) := fun h => by
    unfold by1
    rw [if_neg h]
  unfold wX12_by
  refine mf_lik (l := l) (w := 0) hb (by omega) (by decide) rfl rfl ?_
  have ek : z (100 + 4 * l + 0) = lK z l := rfl
  rw [ek, bm_id (z := lK z l) (by omega) (by omega)]
  refine BR_i (fun h => ?_) (fun h1 => BR_i (fun h => ?_) (fun h2 => BR_i (fun h => ?_) (fun h3 => BR_i (fun h => ?_) (fun h4 => BR_i (fun h => ?_) (fun h5 => BR_i (fun h => ?_) (fun h6 => ?_))))))
  · exact mf_byNext hz hb hR (by omega) hn12 (by omega) hr hl (Or.inl h) (by rw [bm0]; omega) fun M' x f hx => hQ M' x f (by rw [eb (by omega)]; exact hx)
  · exact mf_bySince hz hb hR (by omega) hn12 (by omega) hr hL hl h fun M' x f hx => hQ M' x f (by rw [eb (by omega)]; exact hx)
  · exact mf_byPlace hz hb hR hn12 (by omega) hvn hr hl h fun M' x f hx => hQ M' x f (by rw [eb (by omega)]; exact hx)
  · exact mf_byTired hz hb hR hn12 (by omega) hr hL hl h fun M' x f hx => hQ M' x f (by rw [eb (by omega)]; exact hx)
  · exact mf_byNext hz hb hR (by omega) hn12 (by omega) hr hl (Or.inr h) (by rw [bm1]; omega) fun M' x f hx => hQ M' x f (by rw [eb (by omega)]; exact hx)
  · refine mf_broken hz hb hR hn12 (by omega) hr hi hL (lf_ones rfl (Nat.lt_of_lt_of_le (bk_lt hz v n (rl r n)) (p2le (m := 12) (by omega))) (hQ M _ FrP.rf ?_))
    unfold by1
    rw [if_pos h]
    have := pop_le (bk z v n (rl r n))
    exact bm_id (by omega) (by omega)
  · refine hQ M _ FrP.rf ?_
    rw [eb h6, sm_z (by omega)]
    exact bm0
theorem wgt_div {z : Fl} (hz : ZOk z) {l : Nat} (hl : (l : Int) < z 1) : bm (iDiv 2520 (lD z l)) = 2520 / lD z l := by
  obtain ⟨-, -, hd, -⟩ := hz.2.2.2.2.2.1 l hl
  obtain ⟨d, hd'⟩ : ∃ d : Nat, lD z l = (d : Int) := ⟨(lD z l).toNat, by omega⟩
  rw [hd', bm_iDiv]
  exact wd_div d (by omega) (by omega)
theorem mf_share {z : Fl} {v n l : Nat} {r : Nat → Nat} {M : Mem} {Q : Int → Mem → Prop} (hz : ZOk z) (hb : MB z M) (hR : RB v n r M) (hn12 : n ≤ 12) (hvn : v < n) (hr : RowPs z r n) (hi : Inj r n) (hL : LaidAt z v r n M) (hl : (l : Int) < z 1) (hQ : ∀ M', FrP M M' → Q (by1 z v n l (rl r n) * wgt z l) M') : wX12_share 125 (l : Int) M Q := by
  obtain ⟨-, hu, hd, -⟩ := hz.2.2.2.2.2.1 l hl
  have hl10 := hz.2.1
  unfold wX12_share
  refine mf_by hz hb hR hn12 hvn hr hi hL hl fun M' x f hx => mf_lik (l := l) (w := 1) (hb.frp f) (by omega) (by decide) rfl rfl (mf_lik (l := l) (w := 2) (hb.frp f) (by omega) (by decide) rfl rfl ?_)
  have eu : z (100 + 4 * l + 1) = lU z l := by unfold lU; congr 1; omega
  have ed : z (100 + 4 * l + 2) = lD z l := by unfold lD; congr 1; omega
  rw [eu, ed, wgt_div hz hl, hx, bm_id (z := lU z l) (by omega) (by omega), bm_id (z := lD z l) (by omega) (by omega), Int.mul_assoc]
  exact ⟨by omega, hQ M' f⟩
theorem wn_L {z : Fl} {v n nl : Nat} {r : Nat → Nat} {M0 : Mem} {Q : Int → Mem → Prop} (hz : ZOk z) (hb : MB z M0) (hR : RB v n r M0) (hn12 : n ≤ 12) (hvn : v < n) (hr : RowPs z r n) (hi : Inj r n) (hL : LaidAt z v r n M0) (hnl : z 1 = (nl : Int)) (hQ : ∀ M', FrP M0 M' → Q (wsum z v n (rl r n) (isOn z) nl) M') : ∀ (m l : Nat) (M : Mem) (x1 x3 : Int), l + m = nl → x3 = (l : Int) → x1 = wsum z v n (rl r n) (isOn z) l → FrP M0 M → wX12_worthNow_L4 Q 125 (m + 1) x1 x3 M
  | 0, l, M, x1, x3, hl, h3, h1, hf => by
    subst h3 h1
    obtain rfl : l = nl := by omega
    unfold wX12_worthNow_L4
    rw [rd_at (i := 1) (n := 1) rfl (by decide), show (125 : Nat) + 1 = 126 from rfl, (hb.frp hf) 1 (by omega), hnl]
    exact BR_t (Int.le_refl _) (hQ M hf)
  | m + 1, l, M, x1, x3, hl, h3, h1, hf => by
    subst h3 h1
    have hl10 := hz.2.1
    have hb' := hb.frp hf
    obtain ⟨-, -, -, ho, -⟩ := hz.2.2.2.2.2.1 l (by omega)
    have eo : z (100 + 4 * l + 3) = lO z l := by unfold lO; congr 1; omega
    have es : wsum z v n (rl r n) (isOn z) (l + 1) = wsum z v n (rl r n) (isOn z) l + (if isOn z l = true then by1 z v n l (rl r n) * wgt z l else 0) := rfl
    unfold wX12_worthNow_L4 wX12_worthNow_J34
    rw [rd_at (i := 1) (n := 1) rfl (by decide), show (125 : Nat) + 1 = 126 from rfl, hb' 1 (by omega), hnl, bm_nat (n := nl) (by omega), bm_nat (n := l) (by omega)]
    refine BR_f (by omega) (mf_lik (l := l) (w := 3) hb' (by omega) (by decide) rfl rfl ?_)
    rw [eo, bm_id (z := lO z l) (by rcases ho with h | h <;> omega) (by rcases ho with h | h <;> omega)]
    unfold isOn at es
    refine BR_i (fun h => ?_) (fun h => LET_i (LET_i (wn_L hz hb hR hn12 hvn hr hi hL hnl hQ m (l + 1) M _ _ (by omega) (by omega) ?_ hf)))
    · refine mf_share hz hb' (hR.frp hf) hn12 hvn hr hi (hL.frp hf) (by omega) fun M' f => LET_i (LET_i (wn_L hz hb hR hn12 hvn hr hi hL hnl hQ m (l + 1) M' _ _ (by omega) (by omega) ?_ (hf.tr f)))
      unfold isOn
      rw [es, decide_eq_true h, if_pos rfl]
    · unfold isOn
      rw [es, decide_eq_false h, if_neg (by decide)]
theorem mf_worthNow {z : Fl} {v n : Nat} {r : Nat → Nat} {M : Mem} {Q : Int → Mem → Prop} (hz : ZOk z) (hb : MB z M) (hR : RB v n r M) (hn12 : n ≤ 12) (hvn : v < n) (hr : RowPs z r n) (hi : Inj r n) (hL : LaidAt z v r n M) (hQ : ∀ M', FrP M M' → Q (worth z v n (rl r n)) M') : wX12_worthNow 125 M Q := by
  obtain ⟨nl, hnl⟩ : ∃ nl : Nat, z 1 = (nl : Int) := ⟨(z 1).toNat, by have := hz.2.1; omega⟩
  unfold worth at hQ
  rw [hnl, Int.toNat_natCast] at hQ
  exact ⟨nl + 1, wn_L hz hb hR hn12 hvn hr hi hL hnl hQ nl 0 M _ _ (by omega) rfl rfl FrP.rf⟩
/-- bounds -/
theorem by1_b (z : Fl) (v n l : Nat) (L : List Nat) : -2147483648 ≤ by1 z v n l L ∧ by1 z v n l L < 2147483648 := by
  rw [← by1_bm]
  exact bmb _
theorem mul_b {a b A B : Int} (ha : -A ≤ a ∧ a ≤ A) (hb : -B ≤ b ∧ b ≤ B) : -(A * B) ≤ a * b ∧ a * b ≤ A * B := by
  have h1 : a.natAbs * b.natAbs ≤ A.natAbs * B.natAbs := Nat.mul_le_mul (by omega) (by omega)
  have h2 : ((a * b).natAbs : Int) ≤ A * B := by
    rw [Int.natAbs_mul]
    have h3 : ((A.natAbs * B.natAbs : Nat) : Int) = A * B := by
      rw [Int.natCast_mul, Int.natAbs_of_nonneg (by omega), Int.natAbs_of_nonneg (by omega)]
    omega
  omega
theorem wsum_b {z : Fl} (hz : ZOk z) {v n : Nat} {L : List Nat} {on : Nat → Bool} : ∀ l : Nat, (l : Int) ≤ z 1 → -(48704929136640 * l) ≤ wsum z v n L on l ∧ wsum z v n L on l ≤ 48704929136640 * l
  | 0, _ => by simp [wsum]
  | l + 1, h => by
    have ih := wsum_b hz (v := v) (n := n) (L := L) (on := on) l (by omega)
    have h1 := by1_b z v n l L
    have h2 := (wgt_bm hz (l := l) (by omega)).2
    have h3 := mul_b (A := 2147483648) (B := 22680) (a := by1 z v n l L) (b := wgt z l) (by omega) h2
    have es : wsum z v n L on (l + 1) = wsum z v n L on l + (if on l = true then by1 z v n l L * wgt z l else 0) := rfl
    rw [es]
    split <;> omega
theorem worth_b {z : Fl} (hz : ZOk z) (v n : Nat) (L : List Nat) : -487049291366400 ≤ worth z v n L ∧ worth z v n L ≤ 487049291366400 := by
  have h1 := hz.2.1
  have := wsum_b hz (v := v) (n := n) (L := L) (on := isOn z) (z 1).toNat (by omega)
  unfold worth
  omega
