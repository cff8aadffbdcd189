/-! THE BETTER: the reference -/
/-- the reference -/
def FrD (M M' : Mem) : Prop := (∀ a, a ≠ 125 → ¬ (129 ≤ a ∧ a ≤ 138) → M' a = M a) ∧ ∀ j, j ≠ 28 → j ≠ 29 → M' 125 j = M 125 j
theorem FrD.rf {M : Mem} : FrD M M := ⟨fun _ _ _ => rfl, fun _ _ _ => rfl⟩
theorem FrD.tr {M M' M'' : Mem} (h : FrD M M') (h' : FrD M' M'') : FrD M M'' := ⟨fun a q1 q2 => by rw [h'.1 a q1 q2, h.1 a q1 q2], fun j q1 q2 => by rw [h'.2 j q1 q2, h.2 j q1 q2]⟩
theorem FrL.d {M M' : Mem} (h : FrL M M') : FrD M M' := ⟨fun a _ q => h a (by omega) (by omega) (by omega), fun j _ _ => by rw [h 125 (by decide) (by decide) (by decide)]⟩
theorem FrP.d {M M' : Mem} (h : FrP M M') : FrD M M' := ⟨fun a _ q => h a (by omega) (by omega), fun j _ _ => by rw [h 125 (by decide) (by decide)]⟩
theorem d132 {M M' : Mem} (h : ∀ a, a ≠ 132 → M' a = M a) : FrD M M' := ⟨fun a _ q => h a (by omega), fun j _ _ => by rw [h 125 (by decide)]⟩
theorem FrD.scr {M M' : Mem} (h : FrD M M') : Scr M M' := ⟨fun a _ _ _ _ q5 q6 _ => h.1 a q5 (by omega), h.2 2 (by decide) (by decide), h.2 33 (by decide) (by decide)⟩
/-- where the best change stands -/
def BP (o : Option (Nat × Nat)) (M : Mem) : Prop := ∀ p, o = some p → M 125 28 = (p.1 : Int) ∧ M 125 29 = (p.2 : Int)
theorem BP.congr {o : Option (Nat × Nat)} {M M' : Mem} (h : BP o M) (e : M' 125 = M 125) : BP o M' := fun p hp => by rw [e]; exact h p hp
def oB {α : Type} : Option α → Int
  | none => 0
  | some _ => 1
theorem fb28_L {z : Fl} {v n i : Nat} {r : Nat → Nat} {s0 : BSt} {M0 : Mem} {Q : Int → Mem → Prop} {E : Int → Int → Mem → Prop} (hz : ZOk z) (hn12 : n ≤ 12) (hvn : v < n) (hi : i < n) (hr : RowPs z r n) (hij : Inj r n) (hs0 : BOk z v n r s0) (hQ : ∀ M' x x', FrD M0 M' → MB z M' → RB v n r M' → BP (bin z v n r i (n - 1 - i) s0).2 M' → x = oB (bin z v n r i (n - 1 - i) s0).2 → ((bin z v n r i (n - 1 - i) s0).2 ≠ none → x' = (bin z v n r i (n - 1 - i) s0).1) → E x x' M') : ∀ (c m : Nat) (M : Mem) (x3 l4 x7 : Int), i + 1 + m + c = n → x7 = ((i + 1 + m : Nat) : Int) → FrD M0 M → MB z M → RB v n r M → BP (bin z v n r i m s0).2 M → x3 = oB (bin z v n r i m s0).2 → ((bin z v n r i m s0).2 ≠ none → l4 = (bin z v n r i m s0).1) → wX12_findBetter_L28 Q E 125 (now z v n r) (i : Int) (c + 1) x3 l4 x7 M
  | 0, m, M, x3, l4, x7, hc, h7, hf, hb, hR, hbp, h3, h4 => by
    subst h7
    obtain rfl : m = n - 1 - i := by omega
    unfold wX12_findBetter_L28
    rw [hR.1, bm_nat (n := n) (by omega), bm_nat (n := i + 1 + (n - 1 - i)) (by omega)]
    exact BR_t (by omega) (hQ M _ _ hf hb hR hbp h3 h4)
  | c + 1, m, M, x3, l4, x7, hc, h7, hf, hb, hR, hbp, h3, h4 => by
    subst h7
    have hj : i + 1 + m < n := by omega
    have hsb := BOk.bin (i := i) hz hs0 m (by omega)
    have ebin : bin z v n r i (m + 1) s0 = bstep z v n r i (i + 1 + m) (bin z v n r i m s0) := rfl
    have hnb := worth_b hz v n (rl r n)
    have hwb := worth_b hz v n (rl (sw r i (i + 1 + m)) n)
    unfold wX12_findBetter_L28
    rw [hR.1, bm_nat (n := n) (by omega), bm_nat (n := i + 1 + m) (by omega)]
    refine BR_f (by omega) (mf_swap hn12 hR.2.2 (by omega) hj rfl rfl fun M1 a1 a2 => ?_)
    have hR1 : RB v n (sw r i (i + 1 + m)) M1 := ⟨by rw [a1 125 (by decide)]; exact hR.1, by rw [a1 125 (by decide)]; exact hR.2.1, a2⟩
    have hrs : RowPs z (sw r i (i + 1 + m)) n := sw_ps hr hi hj
    have hrj : Inj (sw r i (i + 1 + m)) n := sw_inj hij hi hj
    refine mf_layRow hz (hb.congr (a1 126 (by decide))) hR1 hn12 (by omega) hrs fun M2 fl hL => ?_
    have hb2 : MB z M2 := (hb.congr (a1 126 (by decide))).congr (fl 126 (by decide) (by decide) (by decide))
    have hR2 : RB v n (sw r i (i + 1 + m)) M2 := hR1.congr (fl 125 (by decide) (by decide) (by decide)) (fl 132 (by decide) (by decide) (by decide))
    have hbp2 : BP (bin z v n r i m s0).2 M2 := (hbp.congr (a1 125 (by decide))).congr (fl 125 (by decide) (by decide) (by decide))
    have f2 : FrD M M2 := (d132 a1).tr fl.d
    -- taken back
    have j103 : ∀ (M3 : Mem) (y y4 : Int), FrD M M3 → MB z M3 → RB v n (sw r i (i + 1 + m)) M3 → BP (bin z v n r i (m + 1) s0).2 M3 → y = oB (bin z v n r i (m + 1) s0).2 → ((bin z v n r i (m + 1) s0).2 ≠ none → y4 = (bin z v n r i (m + 1) s0).1) → wX12_findBetter_J103 Q (fun x3' l4' x7' M' => wX12_findBetter_L28 Q E 125 (now z v n r) (i : Int) (c + 1) x3' l4' x7' M') 125 (now z v n r) y y4 (i : Int) ((i + 1 + m : Nat) : Int) M3 := by
      intro M3 y y4 f3 hb3 hR3 hbp3 hy hy4
      unfold wX12_findBetter_J103
      refine mf_swap hn12 hR3.2.2 (by omega) hj rfl rfl fun M4 d1 d2 => LET_i ?_
      refine fb28_L hz hn12 hvn hi hr hij hs0 hQ c (m + 1) M4 _ _ _ (by omega) (by omega) (hf.tr (f3.tr (d132 d1))) (hb3.congr (d1 126 (by decide))) ⟨by rw [d1 125 (by decide)]; exact hR3.1, by rw [d1 125 (by decide)]; exact hR3.2.1, fun k hk => by rw [d2 k hk, sw_sw]⟩ (hbp3.congr (d1 125 (by decide))) hy hy4
    have stay : ∀ M3 : Mem, FrD M M3 → MB z M3 → RB v n (sw r i (i + 1 + m)) M3 → BP (bin z v n r i m s0).2 M3 → bin z v n r i (m + 1) s0 = bin z v n r i m s0 → wX12_findBetter_J103 Q (fun x3' l4' x7' M' => wX12_findBetter_L28 Q E 125 (now z v n r) (i : Int) (c + 1) x3' l4' x7' M') 125 (now z v n r) x3 l4 (i : Int) ((i + 1 + m : Nat) : Int) M3 := fun M3 q1 q2 q3 q4 he => j103 M3 _ _ q1 q2 q3 (by rw [he]; exact q4) (by rw [he]; exact h3) (by rw [he]; exact h4)
    have j64 : ∀ (M3 : Mem) (w : Int), FrD M M3 → MB z M3 → RB v n (sw r i (i + 1 + m)) M3 → BP (bin z v n r i m s0).2 M3 → w = (if gsw z v n r i (i + 1 + m) = true then wsw z v n r i (i + 1 + m) else now z v n r) → wX12_findBetter_J64 Q (fun x3' l4' x7' M' => wX12_findBetter_L28 Q E 125 (now z v n r) (i : Int) (c + 1) x3' l4' x7' M') 125 (now z v n r) x3 l4 (i : Int) ((i + 1 + m : Nat) : Int) w M3 := by
      intro M3 w q1 q2 q3 q4 hw
      have hwbd : -487049291366400 ≤ w ∧ w ≤ 487049291366400 := by
        rw [hw]
        split
        · exact hwb
        · exact hnb
      have j85 : now z v n r < w → ((bin z v n r i m s0).1 < w) → wX12_findBetter_J85 Q (fun x3' l4' x7' M' => wX12_findBetter_L28 Q E 125 (now z v n r) (i : Int) (c + 1) x3' l4' x7' M') 125 (now z v n r) (i : Int) ((i + 1 + m : Nat) : Int) w M3 := by
        intro hlt hlt2
        have hg : gsw z v n r i (i + 1 + m) = true := by
          by_cases h : gsw z v n r i (i + 1 + m) = true
          · exact h
          · rw [if_neg h] at hw
            omega
        rw [if_pos hg] at hw
        have eb : bin z v n r i (m + 1) s0 = (wsw z v n r i (i + 1 + m), some (i, i + 1 + m)) := by
          rw [ebin]
          unfold bstep
          rw [if_pos ⟨hg, by omega⟩]
        unfold wX12_findBetter_J85
        refine LET_i (LET_i (j103 _ _ _ (q1.tr ⟨fun a p1 _ => by rw [up_c p1, up_c p1], fun j p1 p2 => by rw [up_kn p2, up_kn p1]⟩) ((q2.congr (up_c (by decide))).congr (up_c (by decide))) ⟨by rw [up_kn (by decide), up_kn (by decide)]; exact q3.1, by rw [up_kn (by decide), up_kn (by decide)]; exact q3.2.1, fun k hk => by rw [up_c (by decide), up_c (by decide)]; exact q3.2.2 k hk⟩ ?_ ?_ ?_))
        · rw [eb]
          intro p hp
          cases hp
          exact ⟨by rw [up_kn (by decide), up_s], up_s _ _ _ _⟩
        · rw [eb]
          rfl
        · rw [eb]
          intro _
          exact hw
      unfold wX12_findBetter_J64
      rw [lc_le, bl_id (z := w) (by omega) (by omega), bl_id (z := now z v n r) (by unfold now; omega) (by unfold now; omega)]
      have noth : ¬ (gsw z v n r i (i + 1 + m) = true ∧ (bin z v n r i m s0).1 < wsw z v n r i (i + 1 + m)) → bin z v n r i (m + 1) s0 = bin z v n r i m s0 := fun h => by
        rw [ebin]
        unfold bstep
        rw [if_neg h]
      cases ho : (bin z v n r i m s0).2 with
      | none =>
        have e1 := hsb.2.1 ho
        rw [ho] at h3
        have h3' : x3 = 0 := h3
        refine BR_i (fun h => stay M3 q1 q2 q3 q4 (noth fun q => ?_)) (fun h => BR_t (by rw [h3']; exact bm0) (j85 (by omega) (by omega)))
        rw [if_pos q.1] at hw
        have := q.2
        omega
      | some p =>
        obtain ⟨e1, -, -⟩ := hsb.2.2 p ho
        rw [ho] at h3
        have h3' : x3 = 1 := h3
        have e4 := h4 (by rw [ho]; intro e; cases e)
        refine BR_i (fun h => stay M3 q1 q2 q3 q4 (noth fun q => ?_)) (fun h => BR_f (by rw [h3']; exact bn1) ?_)
        · rw [if_pos q.1] at hw
          have := q.2
          omega
        · rw [lc_le, bl_id (z := w) (by omega) (by omega), e4, bl_id (z := (bin z v n r i m s0).1) (by have := hsb.1; omega) (by have := hsb.1; omega)]
          refine BR_i (fun h' => ?_) (fun h' => j85 (by omega) (by omega))
          rw [← e4]
          refine stay M3 q1 q2 q3 q4 (noth fun q => ?_)
          rw [if_pos q.1] at hw
          have := q.2
          omega
    refine mf_isGood hz hb2 hR2 hn12 (by omega) hrs hrj hL ?_
    by_cases hg : gsw z v n r i (i + 1 + m) = true
    · have hg' : goodb z v n (rl (sw r i (i + 1 + m)) n) = true := hg
      rw [if_pos hg']
      refine BR_f q1 (mf_worthNow hz hb2 hR2 hn12 hvn hrs hrj hL fun M3 fp => j64 M3 _ (f2.tr fp.d) (hb2.frp fp) (hR2.frp fp) (hbp2.congr (fp 125 (by decide) (by decide))) ?_)
      rw [if_pos hg]
      rfl
    · have hg' : ¬ goodb z v n (rl (sw r i (i + 1 + m)) n) = true := hg
      rw [if_neg hg']
      refine BR_t q0 (j64 M2 _ f2 hb2 hR2 hbp2 ?_)
      rw [if_neg hg]
theorem fb13_L {z : Fl} {v n : Nat} {r : Nat → Nat} {M0 : Mem} {Q : Int → Mem → Prop} {E : Int → Mem → Prop} (hz : ZOk z) (hn12 : n ≤ 12) (hvn : v < n) (hr : RowPs z r n) (hij : Inj r n) (hQ : ∀ M', FrD M0 M' → MB z M' → RB v n r M' → BP (chg z v n r) M' → E (oB (chg z v n r)) M') : ∀ (c i : Nat) (M : Mem) (x3 l4 x6 : Int), i + c = n → x6 = (i : Int) → FrD M0 M → MB z M → RB v n r M → BP (bout z v n r i (now z v n r, none)).2 M → x3 = oB (bout z v n r i (now z v n r, none)).2 → ((bout z v n r i (now z v n r, none)).2 ≠ none → l4 = (bout z v n r i (now z v n r, none)).1) → wX12_findBetter_L13 Q E 125 (now z v n r) (c + 1) x3 l4 x6 M
  | 0, i, M, x3, l4, x6, hc, h6, hf, hb, hR, hbp, h3, h4 => by
    subst h6
    obtain rfl : i = n := by omega
    have e : bout z v i r i (now z v i r, none) = bout z v i r (i - 1) (now z v i r, none) := by
      obtain ⟨p, rfl⟩ : ∃ p, i = p + 1 := ⟨i - 1, by omega⟩
      show bin z v (p + 1) r p (p + 1 - 1 - p) (bout z v (p + 1) r p (now z v (p + 1) r, none)) = _
      rw [show p + 1 - 1 - p = 0 by omega]
      rfl
    rw [e] at hbp h3
    unfold wX12_findBetter_L13
    rw [hR.1]
    refine BR_t (Int.le_refl _) ?_
    rw [h3]
    exact hQ M hf hb hR hbp
  | c + 1, i, M, x3, l4, x6, hc, h6, hf, hb, hR, hbp, h3, h4 => by
    subst h6
    have hsb := BOk.bout (n := n) hz (BOk.zero (v := v) (r := r) hz) i (by omega)
    have eb : bout z v n r (i + 1) (now z v n r, none) = bin z v n r i (n - 1 - i) (bout z v n r i (now z v n r, none)) := rfl
    unfold wX12_findBetter_L13
    rw [hR.1, bm_nat (n := n) (by omega), bm_nat (n := i) (by omega)]
    refine BR_f (by omega) (LET_i ⟨n - 1 - i + 1, fb28_L hz hn12 hvn (by omega) hr hij hsb (fun M' x x' f' hb' hR' hbp' hx hx' => LET_i (fb13_L hz hn12 hvn hr hij hQ c (i + 1) M' _ _ _ (by omega) (by omega) (hf.tr f') hb' hR' (by rw [eb]; exact hbp') (by rw [eb]; exact hx) (by rw [eb]; exact hx'))) (n - 1 - i) 0 M _ _ _ (by omega) (by omega) FrD.rf hb hR hbp h3 h4⟩)
theorem mf_findBetter {z : Fl} {v n : Nat} {r : Nat → Nat} {M : Mem} {Q : Int → Mem → Prop} (hz : ZOk z) (hb : MB z M) (hR : RB v n r M) (hn12 : n ≤ 12) (hvn : v < n) (hr : RowPs z r n) (hij : Inj r n) (hL : LaidAt z v r n M) (hQ : ∀ M', FrD M M' → MB z M' → RB v n r M' → LaidAt z v r n M' → BP (chg z v n r) M' → Q (oB (chg z v n r)) M') : wX12_findBetter 125 M Q := by
  unfold wX12_findBetter
  refine mf_worthNow hz hb hR hn12 hvn hr hij hL fun M1 fp => ⟨n + 1, fb13_L (M0 := M1) hz hn12 hvn hr hij (fun M2 f2 hb2 hR2 hbp2 => mf_layRow hz hb2 hR2 hn12 (by omega) hr fun M3 fl hL3 => ⟨?_, hQ M3 (fp.d.tr (f2.tr fl.d)) (hb2.congr (fl 126 (by decide) (by decide) (by decide))) (hR2.congr (fl 125 (by decide) (by decide) (by decide)) (fl 132 (by decide) (by decide) (by decide))) hL3 (hbp2.congr (fl 125 (by decide) (by decide) (by decide)))⟩) n 0 M1 _ _ _ (by omega) rfl FrD.rf (hb.frp fp) (hR.frp fp) (fun p hp => by cases hp) rfl (fun h => absurd rfl h)⟩
  cases chg z v n r
  · exact isB0
  · exact isB1
