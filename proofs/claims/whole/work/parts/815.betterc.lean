/-! THE BETTER: the class -/
/-- the class: good from a place on -/
theorem gf_L {z : Fl} {v n b i : Nat} {r : Nat → Nat} {M0 : Mem} {Q : Int → Mem → Prop} (hz : ZOk z) (hc : CB z M0) (hn : M0 91 1 = (n : Int)) (hv : M0 91 2 = (v : Int)) (hb : M0 91 3 = (b : Int)) (hb2 : b < 4096) (hn12 : n ≤ 12) (hv12 : v ≤ 12) (hi : i < n) (hr : RowPs z r n) (hrow : ∀ k, k < n → M0 88 k = (r k : Int))
    (h1 : goodb z v n (rl r n) = true → ∀ M', FrI i M0 M' → RowAt z v n r n M' → SumAt z v n r b n M' → Q 1 M') (h0 : goodb z v n (rl r n) ≠ true → ∀ M', FrI i M0 M' → Q 0 M') : ∀ (m p : Nat) (M : Mem) (x3 : Int), p + m = n → i ≤ p → x3 = (p : Int) → FrI i M0 M → RowAt z v n r p M → SumAt z v n r b p M → (p = i ∨ goodb z v n (rl r p) = true) → wX10_isGoodFrom_L2 Q 91 87 (m + 1) x3 M
  | 0, p, M, x3, hp, hip, h3, hf, hR, hS, hg => by
    subst h3
    obtain rfl : p = n := by omega
    unfold wX10_isGoodFrom_L2
    rw [hf.1 91 (by omega), hn]
    refine BR_t (Int.le_refl _) (h1 ?_ M hf hR hS)
    rcases hg with h | h
    · omega
    · exact h
  | m + 1, p, M, x3, hp, hip, h3, hf, hR, hS, hg => by
    subst h3
    have e91 : M 91 = M0 91 := hf.1 91 (by omega)
    have hc' : CB z M := hc.congr hz fun a ha => hf.1 a (by omega)
    unfold wX10_isGoodFrom_L2
    rw [e91, hn, bm_nat (n := n) (by omega), bm_nat (n := p) (by omega), rd_at (n := p) rfl (by omega), show (87 : Nat) + 1 = 88 from rfl, hf.1 88 (by omega), hrow p (by omega)]
    refine BR_f (by omega) ⟨inb_of rfl (by omega) (by decide), lf_step hz hc' (by rw [e91]; exact hn) (by rw [e91]; exact hv) hn12 hv12 (by omega) (hr p (by omega)) (hr.le (by omega)) hR rfl fun M1 hR1 hf1 => ?_⟩
    have e91' : M1 91 = M0 91 := by rw [hf1.1 91 (by omega), e91]
    have hc1 : CB z M1 := hc'.congr hz fun a ha => hf1.1 a (by omega)
    have hf01 : FrI i M0 M1 := hf.tr hf1 (Nat.le_refl i) hip
    rw [show (p : Int) + 1 = ((p + 1 : Nat) : Int) by omega]
    refine lf_isGood hz hc1 (by rw [e91']; exact hn) hn12 (by omega) (hr.le (by omega)) hR1 ?_
    by_cases hgd : goodb z v n (rl r (p + 1)) = true
    · rw [if_pos hgd]
      refine BR_f q1 (lf_weigh hz hc1 (by rw [e91']; exact hn) (by rw [e91']; exact hv) (by rw [e91']; exact hb) hb2 hn12 hv12 (by omega) (hr.le (by omega)) hR1 (hS.fr hz hf1 (Nat.le_refl _)) fun M2 hf2 hS2 => LET_i ?_)
      exact gf_L hz hc hn hv hb hb2 hn12 hv12 hi hr hrow h1 h0 m (p + 1) M2 _ (by omega) (by omega) (by omega) (hf01.tr (hf2.fri (Nat.le_refl p)) (Nat.le_refl i) hip) (hR1.frs hf2) hS2 (Or.inr hgd)
    · rw [if_neg hgd]
      refine BR_t q0 (h0 (fun h => hgd ?_) M1 hf01)
      -- a good row is good from its first piece on
      have hmono : ∀ q, q ≤ n → p + 1 ≤ q → goodb z v n (rl r q) = true → goodb z v n (rl r (p + 1)) = true := by
        intro q
        induction q with
        | zero => intro _ h2; omega
        | succ q ih =>
          intro h1 h2 h3
          by_cases hq : q = p
          · subst hq
            exact h3
          · exact ih (by omega) (by omega) (goodb_mono h3)
      exact hmono n (Nat.le_refl n) (by omega) h
theorem lf_swap5 {n i j : Nat} {r : Nat → Nat} {M : Mem} {x1 x2 : Int} {Q : Mem → Prop} (hn12 : n ≤ 12) (hr : ∀ k, k < n → M 88 k = (r k : Int)) (hi : i < n) (hj : j < n) (h1 : x1 = (i : Int)) (h2 : x2 = (j : Int)) (hQ : ∀ M', (∀ a, a ≠ 88 → M' a = M a) → (∀ k, k < n → M' 88 k = (sw r i j k : Int)) → Q M') : wX5_swap 87 x1 x2 M Q := by
  subst h1 h2
  unfold wX5_swap
  refine wi_t (by rw [bm0, li_11, bm_nat (n := i) (by omega)]; omega) (BR_f q1 (wi_t (by rw [bm0, li_11, bm_nat (n := j) (by omega)]; omega) (BR_f q1 ⟨inb_of rfl (by omega) (by decide), LET_i ⟨inb_of rfl (by omega) (by decide), inb_of rfl (by omega) (by decide), LET_i ⟨inb_of rfl (by omega) (by decide), LET_i ?_⟩⟩⟩)))
  rw [rd_at (n := i) rfl (by omega), rd_at (n := j) rfl (by omega), wr_up (n := i) rfl (by omega), wr_up (n := j) rfl (by omega), show (87 : Nat) + 1 = 88 from rfl, hr i hi, hr j hj]
  refine hQ _ (fun a ha => by rw [up_c ha, up_c ha]) fun k hk => ?_
  rw [up_k, up_k, hr k hk]
  unfold sw
  split
  · rfl
  · split <;> rfl
/-- the class's change of two -/
def FrC (M M' : Mem) : Prop := ∀ a, a ≠ 88 → ¬ (92 ≤ a ∧ a ≤ 102) → M' a = M a
theorem FrC.rf {M : Mem} : FrC M M := fun _ _ _ => rfl
theorem FrC.tr {M M' M'' : Mem} (h : FrC M M') (h' : FrC M' M'') : FrC M M'' := fun a q1 q2 => by rw [h' a q1 q2, h a q1 q2]
/-- what stands between the changes -/
def CS (z : Fl) (v n nl : Nat) (r : Nat → Nat) (i : Nat) (M : Mem) : Prop := CB z M ∧ WzOk M ∧ M 91 1 = (n : Int) ∧ M 91 2 = (v : Int) ∧ M 91 3 = (bits (isOn z) nl : Int) ∧ M 87 1 = (n : Int) ∧ (∀ k, k < n → M 88 k = (r k : Int)) ∧ RowAt z v n r i M ∧ SumAt z v n r (bits (isOn z) nl) i M
theorem co46_L {z : Fl} {v n nl i : Nat} {r : Nat → Nat} {s0 : BSt} {M0 : Mem} {Q : Int → Mem → Prop} {E : Int → Int → Mem → Prop} (hz : ZOk z) (hnl : z 1 = (nl : Int)) (hn12 : n ≤ 12) (hv12 : v ≤ 12) (hi : i + 1 < n) (hr : RowPs z r n) (hs0 : BOk z v n r s0) (hQ : ∀ M' x x', FrC M0 M' → CS z v n nl r i M' → x = (bin z v n r i (n - 1 - i) s0).1 → x' = chv (bin z v n r i (n - 1 - i) s0).2 → E x x' M') : ∀ (c m : Nat) (M : Mem) (l2 x4 x6 : Int), i + 1 + m + c = n → x6 = ((i + 1 + m : Nat) : Int) → FrC M0 M → CS z v n nl r i M → l2 = (bin z v n r i m s0).1 → x4 = chv (bin z v n r i m s0).2 → wX6_changeOfTwo_L46 Q E 103 87 (i : Int) (c + 1) l2 x4 x6 M
  | 0, m, M, l2, x4, x6, hc, h6, hf, hS, h2, h4 => by
    subst h6
    obtain rfl : m = n - 1 - i := by omega
    unfold wX6_changeOfTwo_L46
    rw [hS.2.2.2.2.2.1, bm_nat (n := n) (by omega), bm_nat (n := i + 1 + (n - 1 - i)) (by omega)]
    exact BR_t (by omega) (hQ M _ _ hf hS h2 h4)
  | c + 1, m, M, l2, x4, x6, hc, h6, hf, hS, h2, h4 => by
    subst h6
    obtain ⟨g1, gw, g2, g3, g4, g5, g6, g7, g8⟩ := hS
    have hl10 := hz.2.1
    have hj : i + 1 + m < n := by omega
    have hsb := BOk.bin (i := i) hz hs0 m (by omega)
    have ebin : bin z v n r i (m + 1) s0 = bstep z v n r i (i + 1 + m) (bin z v n r i m s0) := rfl
    unfold wX6_changeOfTwo_L46
    rw [g5, bm_nat (n := n) (by omega), bm_nat (n := i + 1 + m) (by omega)]
    refine BR_f (by omega) (lf_swap5 hn12 g6 (by omega) hj rfl rfl fun M1 a1 a2 => ?_)
    have e1 : ∀ a, a ≠ 88 → M1 a = M a := a1
    have hc1 : CB z M1 := g1.congr hz fun a ha => e1 a (by omega)
    have hrs : RowPs z (sw r i (i + 1 + m)) n := sw_ps hr (by omega) hj
    have hag : ∀ k, k < i → sw r i (i + 1 + m) k = r k := fun k hk => sw_lt hk (by omega)
    have hfj1 : FrJ i M M1 := FrJ.of fun a q1 q2 => e1 a (by omega)
    have hR1 : RowAt z v n (sw r i (i + 1 + m)) i M1 := (g7.frj hfj1).cg hag
    have hS1 : SumAt z v n (sw r i (i + 1 + m)) (bits (isOn z) nl) i M1 := (g8.frj hz hfj1 (Nat.le_refl i)).cg hag
    have hwb := worth_b hz v n (rl (sw r i (i + 1 + m)) n)
    -- the change is taken back
    have back : ∀ (M2 : Mem) (y : Int) (y4 : Int), FrI i M1 M2 → y = (bin z v n r i (m + 1) s0).1 → y4 = chv (bin z v n r i (m + 1) s0).2 → wX6_changeOfTwo_J106 Q (fun l2' x4' x6' M' => wX6_changeOfTwo_L46 Q E 103 87 (i : Int) (c + 1) l2' x4' x6' M') 103 87 y y4 (i : Int) ((i + 1 + m : Nat) : Int) M2 := by
      intro M2 y y4 f2 hy hy4
      unfold wX6_changeOfTwo_J106
      refine lf_swap5 hn12 (r := sw r i (i + 1 + m)) (fun k hk => by rw [f2.1 88 (by omega)]; exact a2 k hk) (by omega) hj rfl rfl fun M3 b1 b2 => LET_i ?_
      have e3 : ∀ a, a ≠ 88 → ¬ (92 ≤ a ∧ a ≤ 102) → M3 a = M a := fun a q1 q2 => by rw [b1 a q1, f2.1 a q2, e1 a q1]
      have fj3 : FrJ i M M3 := hfj1.tr (f2.j.tr (FrJ.of fun a q1 q2 => b1 a (by omega)) (Nat.le_refl i) (Nat.le_refl i)) (Nat.le_refl i) (Nat.le_refl i)
      refine co46_L hz hnl hn12 hv12 hi hr hs0 hQ c (m + 1) M3 _ _ _ (by omega) (by omega) (hf.tr e3) ⟨g1.congr hz fun a ha => e3 a (by omega) (by omega), gw.frj fj3, by rw [e3 91 (by decide) (by omega)]; exact g2, by rw [e3 91 (by decide) (by omega)]; exact g3, by rw [e3 91 (by decide) (by omega)]; exact g4, by rw [e3 87 (by decide) (by omega)]; exact g5, fun k hk => ?_, g7.frj fj3, g8.frj hz fj3 (Nat.le_refl i)⟩ hy hy4
      rw [b2 k hk, sw_sw]
    refine ⟨n - i + 1, gf_L hz hc1 (by rw [e1 91 (by decide)]; exact g2) (by rw [e1 91 (by decide)]; exact g3) (by rw [e1 91 (by decide)]; exact g4) (Nat.lt_of_lt_of_le (bits_lt nl) (p2le (m := 12) (by omega))) hn12 hv12 (by omega) hrs a2 (fun hgd M2 f2 hR2 hS2 => BR_f q1 ?_) (fun hgd M2 f2 => BR_t q0 (back M2 _ _ f2 ?_ ?_)) (n - i) i M1 _ (by omega) (Nat.le_refl i) rfl FrI.rf hR1 hS1 (Or.inl rfl)⟩
    · have hc2 : CB z M2 := hc1.congr hz fun a ha => f2.1 a (by omega)
      have hn2 : M2 91 1 = (n : Int) := by rw [f2.1 91 (by omega), e1 91 (by decide)]; exact g2
      have hb2 : M2 91 3 = (bits (isOn z) nl : Int) := by rw [f2.1 91 (by omega), e1 91 (by decide)]; exact g4
      refine lf_total hz hc2 hnl hn2 hb2 hn12 hR2 hS2 ?_
      rw [lc_le, h2, bl_id (z := worth z v n (rl (sw r i (i + 1 + m)) n)) (by omega) (by omega), bl_id (z := (bin z v n r i m s0).1) (by have := hsb.1; omega) (by have := hsb.1; omega)]
      refine BR_i (fun h => back M2 _ _ f2 ?_ ?_) (fun h => lf_total hz hc2 hnl hn2 hb2 hn12 hR2 hS2 (LET_i (back M2 _ _ f2 ?_ ?_)))
      · rw [ebin]
        unfold bstep
        rw [if_neg]
        intro q
        have h' := q.2
        unfold wsw at h'
        omega
      · rw [ebin, h4]
        unfold bstep
        rw [if_neg]
        intro q
        have h' := q.2
        unfold wsw at h'
        omega
      · rw [ebin]
        unfold bstep
        rw [if_pos ⟨hgd, by unfold wsw; omega⟩]
        rfl
      · rw [ebin]
        unfold bstep
        rw [if_pos ⟨hgd, by unfold wsw; omega⟩]
        show 100 * (i : Int) + ((i + 1 + m : Nat) : Int) = 100 * (i : Int) + ((i + 1 + m : Nat) : Int)
        rfl
    · rw [ebin, h2]
      unfold bstep
      rw [if_neg fun q => hgd q.1]
    · rw [ebin, h4]
      unfold bstep
      rw [if_neg fun q => hgd q.1]
theorem co29_L {z : Fl} {v n nl : Nat} {r : Nat → Nat} {M0 : Mem} {Q : Int → Mem → Prop} (hz : ZOk z) (hnl : z 1 = (nl : Int)) (hn1 : 1 ≤ n) (hn12 : n ≤ 12) (hv12 : v ≤ 12) (hr : RowPs z r n) (hQ : ∀ M', FrC M0 M' → WzOk M' → (∀ k, k < n → M' 88 k = (r k : Int)) → Q (chv (chg z v n r)) M') : ∀ (c i : Nat) (M : Mem) (l2 x4 x5 : Int), i + c = n - 1 → x5 = (i : Int) → FrC M0 M → CS z v n nl r i M → l2 = (bout z v n r i (now z v n r, none)).1 → x4 = chv (bout z v n r i (now z v n r, none)).2 → wX6_changeOfTwo_L29 Q 103 87 (c + 1) l2 x4 x5 M
  | 0, i, M, l2, x4, x5, hc, h5, hf, hS, h2, h4 => by
    subst h5
    obtain rfl : i = n - 1 := by omega
    unfold wX6_changeOfTwo_L29
    rw [hS.2.2.2.2.2.1, bm_nat (n := n) (by omega), bm_id (z := ((n - 1 : Nat) : Int) + 1) (by omega) (by omega)]
    refine BR_t (by omega) ?_
    rw [h4]
    exact hQ M hf hS.2.1 hS.2.2.2.2.2.2.1
  | c + 1, i, M, l2, x4, x5, hc, h5, hf, hS, h2, h4 => by
    subst h5
    have hsb := BOk.bout (n := n) hz (BOk.zero (v := v) (r := r) hz) i (by omega)
    have eb : bout z v n r (i + 1) (now z v n r, none) = bin z v n r i (n - 1 - i) (bout z v n r i (now z v n r, none)) := rfl
    unfold wX6_changeOfTwo_L29
    rw [hS.2.2.2.2.2.1, bm_nat (n := n) (by omega), bm_id (z := (i : Int) + 1) (by omega) (by omega)]
    refine BR_f (by omega) (LET_i ⟨n - 1 - i + 1, co46_L hz hnl hn12 hv12 (by omega) hr hsb (fun M1 x x' f1 hS1 hx hx' => ⟨inb_of rfl (by omega) (by decide), ?_⟩) (n - 1 - i) 0 M _ _ _ (by omega) (by omega) FrC.rf hS h2 h4⟩)
    obtain ⟨g1, gw, g2, g3, g4, g5, g6, g7, g8⟩ := hS1
    have hl10 := hz.2.1
    rw [rd_at (n := i) rfl (by omega), show (87 : Nat) + 1 = 88 from rfl, g6 i (by omega)]
    refine lf_step hz g1 g2 g3 hn12 hv12 (by omega) (hr i (by omega)) (hr.le (by omega)) g7 rfl fun M2 hR2 f2 => ?_
    have hc2 : CB z M2 := g1.congr hz fun a ha => f2.1 a (by omega)
    have e91 : M2 91 = M1 91 := f2.1 91 (by omega)
    refine lf_weigh hz hc2 (by rw [e91]; exact g2) (by rw [e91]; exact g3) (by rw [e91]; exact g4) (Nat.lt_of_lt_of_le (bits_lt nl) (p2le (m := 12) (by omega))) hn12 hv12 (by omega) (hr.le (by omega)) hR2 (g8.fr hz f2 (Nat.le_refl _)) fun M3 f3 hS3 => LET_i ?_
    have f3' := f3.fri (Nat.le_refl i)
    have e3 : ∀ a, a ≠ 88 → ¬ (92 ≤ a ∧ a ≤ 102) → M3 a = M1 a := fun a _ q2 => by rw [f3'.1 a q2, f2.1 a q2]
    have e88 : M3 88 = M1 88 := by rw [f3'.1 88 (by omega), f2.1 88 (by omega)]
    refine co29_L hz hnl hn1 hn12 hv12 hr hQ c (i + 1) M3 _ _ _ (by omega) (by omega) (hf.tr (f1.tr e3)) ⟨hc2.congr hz fun a ha => f3'.1 a (by omega), (gw.fr f2).fr f3', by rw [f3'.1 91 (by omega), e91]; exact g2, by rw [f3'.1 91 (by omega), e91]; exact g3, by rw [f3'.1 91 (by omega), e91]; exact g4, by rw [e3 87 (by decide) (by omega)]; exact g5, fun k hk => by rw [e88]; exact g6 k hk, hR2.frs f3, hS3⟩ (by rw [eb]; exact hx) (by rw [eb]; exact hx')
theorem lf_change {z : Fl} {v n : Nat} {r : Nat → Nat} {M : Mem} {Q : Int → Mem → Prop} (hz : ZOk z) (hcb : CB z M) (hw : WzOk M) (hn1 : 1 ≤ n) (hn12 : n ≤ 12) (hvn : v < n) (hr : RowPs z r n) (h1 : M 87 1 = (n : Int)) (h2 : M 87 2 = (v : Int)) (h3 : ∀ k, k < n → M 88 k = (r k : Int)) (hQ : ∀ M', (∀ a, a ≠ 88 → ¬ (91 ≤ a ∧ a ≤ 102) → M' a = M a) → WzOk M' → (∀ k, k < n → M' 88 k = (r k : Int)) → Q (chv (chg z v n r)) M') : wX6_changeOfTwo 103 87 M Q := by
  obtain ⟨nl, hnl⟩ : ∃ nl : Nat, z 1 = (nl : Int) := ⟨(z 1).toNat, by have := hz.2.1; omega⟩
  have hl10 := hz.2.1
  have hon : ∀ l, l < nl → M (2 + 21 + 2 * l) 4 = if isOn z l then 1 else 0 := fun l hl => by
    rw [(hcb.2.2.2.2.2.1 l (by omega)).2.2.2.2.1]
    unfold isOn
    rcases (hz.2.2.2.2.2.1 l (by omega)).2.2.2.1 with h | h <;> rw [h] <;> rfl
  unfold wX6_changeOfTwo
  refine ⟨nl + 1, lf_on_L (f := isOn z) (by rw [hcb.2.1, hnl]) (by omega) hon ?_ nl 0 _ _ (by omega) rfl rfl⟩
  refine lf_along hz hcb hw (by omega) h1 h2 (Nat.lt_of_lt_of_le (bits_lt nl) (p2le (m := 12) (by omega))) hn12 (by omega) hr h3 fun M1 a1 a2 a3 a4 a5 a6 a7 => ?_
  have hc1 : CB z M1 := hcb.congr hz fun a ha => a1 a (by omega)
  refine lf_total hz hc1 hnl a3 a5 hn12 a6 a7 (LET_i ⟨n - 1 + 1, co29_L (M0 := M1) hz hnl hn1 hn12 (by omega) hr (fun M' f w h => hQ M' (fun a q1 q2 => by rw [f a q1 (by omega), a1 a (by omega)]) w h) (n - 1) 0 M1 _ _ _ (by omega) rfl FrC.rf ⟨hc1, a2, a3, a4, a5, by rw [a1 87 (by omega)]; exact h1, fun k hk => by rw [a1 88 (by omega)]; exact h3 k hk, a6.le (Nat.zero_le n), a7.le (Nat.zero_le n)⟩ rfl rfl⟩)
