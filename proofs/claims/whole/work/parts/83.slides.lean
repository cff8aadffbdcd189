/-! better, slides -/
theorem chg_ok {z : Fl} {v n : Nat} {r : Nat → Nat} (hz : ZOk z) (hn1 : 1 ≤ n) {p : Nat × Nat} (h : chg z v n r = some p) : p.1 < p.2 ∧ p.2 < n := by
  have hb := BOk.bout (n := n) hz (BOk.zero (v := v) (r := r) hz) (n - 1) (by omega)
  exact (hb.2.2 p h).2
theorem mf_tookE {t : Int} {M M2 M1 : Mem} {k v n : Nat} {r : Nat → Nat} {Q : Int → Mem → Prop} (hI : Inv t M) (hk : k < 4) (hb : M 144 k ≠ 0) (hsh : ShRow M k v n r) (hs : Scr M M2) (h1 : ∀ a, a ≠ 86 → M1 a = M2 a) (hQ : ∀ M', FrT M1 M' → MB (vw (M 126)) M' → RB v n r M' → LaidAt (vw (M 126)) v r n M' → Q 0 M') : wX12_take 125 (k : Int) (v : Int) M1 Q :=
  mf_took hI hk hb hsh (by rw [h1 126 (by decide), hs.s (by omega)]) (by rw [h1 144 (by decide), hs.s (by omega)]) (by rw [h1 145 (by decide), hs.s (by omega)]) (by rw [h1 146 (by decide), hs.s (by omega)]) (fun a q1 q2 => by rw [h1 a (by omega), hs.s (by omega)]) fun M' fr a1 a2 => hQ M' fr (hI.mb.congr (by rw [fr.1 126 (by decide) (by decide) (by decide) (by decide) (by decide), h1 126 (by decide), hs.s (by omega)])) a1 a2
theorem row88_scr {M M' M2 : Mem} (f : ∀ c, c ≠ 87 → c ≠ 88 → M' c = M c) (h : ∀ a, a ≠ 88 → ¬ (91 ≤ a ∧ a ≤ 102) → M2 a = M' a) : Scr M M2 :=
  ⟨fun a q1 _ _ _ _ _ _ => by rw [h a (by omega) (by omega), f a (by omega) (by omega)], by rw [h 125 (by omega) (by omega), f 125 (by decide) (by decide)], by rw [h 125 (by omega) (by omega), f 125 (by decide) (by decide)]⟩
theorem t_inv {t : Int} {M M1 M2 M3 : Mem} (hI : Inv t M) (hs : Scr M M1) (hw : WzOk M1) (ft : FrT M1 M2) (fd : FrD M2 M3) : Inv (t + 1) M3 := by
  refine Inv.mono (hI.scr (hs.tr (ft.scr.tr fd.scr)) (hw.congr fun a q1 q2 => ?_)) (by omega)
  rw [fd.1 a (by omega) (by omega), ft.1 a (by omega) (by omega) (by omega) (by omega) (by omega)]
theorem st_better {t : Int} {M : Mem} (hI : Inv t M) {a b : Int} (ea : bm a = a) (eb : bm b = b) : Step t M (fun M Q => wX11_better 1 a b M Q) (fun M Q => wX12_better 125 a b M Q) := by
  intro Q1 hQ1
  have hz := hI.zok
  unfold wX11_better
  refine row_both (Rl := RI) (g := fun x => x) (B := fun M Q => wX12_better 125 a b M Q) (TK := fun Q2 r M_3 => BR (bm r ≤ 0) (wX12_findBetter 125 M_3 (fun r_6 M_5 => BR (bm r_6 = 0) (wX12_error 125 3 M_5 (fun r_8 M_7 => Q2 r_8 M_7)) (Q2 ((100 * (M_5 125 28)) + (M_5 125 29)) M_5))) (wX12_error 125 r M_3 (fun r_10 M_9 => Q2 r_10 M_9))) hI ea eb (fun r r2 h => h) hQ1 (fun r M' hr he => BR_f (by rcases hr with rfl | rfl | rfl <;> decide +kernel) he) (fun hb M1 Q2 h126 he => ?_) (fun k hk hak ho M1 Q2 h126 ht => ?_) (fun r M1 Q2 hr he => BR_f (by rcases hr with rfl | rfl <;> decide +kernel) he) (fun k v n r hk hak ho hbk hbv hsh M' f h1 h2 h3 => BR_t bm0 ?_)
  · unfold wX12_better
    exact sh_i ea (fun hs => by rcases hb with h | h; exact absurd hs h; exact absurd h q1) (fun hs => BR_t q0 he)
  · subst hak
    unfold wX12_better
    exact sh_i ea (fun hs => BR_f q1 ht) (fun hs => absurd (by omega) hs)
  · subst hak hbv
    have hn12 := hsh.2.1
    have hvn := hsh.2.2.1
    have hcb : CB (vw (M 126)) M' := hI.cb.congr hz fun c hc => f c (by omega) (by omega)
    have hw' : WzOk M' := hI.wz.congr fun c q1 q2 => f c (by omega) (by omega)
    refine lf_change hz hcb hw' (by omega) hn12 hvn hsh.z h1 h2 h3 fun M2 g1 g2 g3 => ?_
    have hsc : Scr M M2 := row88_scr f g1
    cases hch : chg (vw (M 126)) v n r with
    | none =>
      refine BR_f (by decide +kernel) (lf_error11 (k := 3) rfl (by decide) (by decide) (hQ1 _ _ fun Q2 hQ2 => ?_))
      unfold wX12_better
      refine sh_i ea (fun hs => BR_f q1 (mf_tookE hI hk hbk hsh hsc (fun c hc => up_c hc) fun M3 ft hmb hR hL => BR_t (by decide +kernel) (mf_findBetter hz hmb hR hn12 hvn hsh.z hsh.2.2.2.2.2 hL fun M4 fd _ _ _ _ => ?_))) (fun hs => absurd (by omega) hs)
      rw [hch]
      refine BR_t bm0 (er12 (hI.scr hsc g2) (k := 3) rfl (by decide) (ft.scr.tr fd.scr) (g2.congr fun c q1 q2 => ?_) hQ2)
      rw [fd.1 c (by omega) (by omega), ft.1 c (by omega) (by omega) (by omega) (by omega) (by omega), up_c (by omega)]
    | some p =>
      obtain ⟨p1, p2⟩ := chg_ok hz (by omega) hch
      have hv : bm (chv (some p)) = 100 * (p.1 : Int) + (p.2 : Int) := bm_id (z := 100 * (p.1 : Int) + (p.2 : Int)) (by omega) (by omega)
      refine BR_t (by rw [hv]; omega) (hQ1 _ _ fun Q2 hQ2 => ?_)
      unfold wX12_better
      refine sh_i ea (fun hs => BR_f q1 (mf_tookS hI hk hbk hsh hsc fun M3 ft hmb hR hL => BR_t (by decide +kernel) (mf_findBetter hz hmb hR hn12 hvn hsh.z hsh.2.2.2.2.2 hL fun M4 fd _ _ _ hbp => ?_))) (fun hs => absurd (by omega) hs)
      rw [hch] at hbp ⊢
      obtain ⟨b1, b2⟩ := hbp p rfl
      rw [b1, b2]
      exact BR_f bn1 (hQ2 _ _ rfl (t_inv hI hsc g2 ft fd))
def sld (z : Fl) (v n : Nat) : Nat → (Nat → Nat) → Nat × (Nat → Nat)
  | 0, r => (0, r)
  | m + 1, r => match chg z v n r with
    | none => (0, r)
    | some p => ((sld z v n m (sw r p.1 p.2)).1 + 1, (sld z v n m (sw r p.1 p.2)).2)
theorem sld_n {z : Fl} {v n m : Nat} {r : Nat → Nat} (h : chg z v n r = none) : sld z v n (m + 1) r = (0, r) := by
  show (match chg z v n r with
    | none => (0, r)
    | some p => ((sld z v n m (sw r p.1 p.2)).1 + 1, (sld z v n m (sw r p.1 p.2)).2)) = (0, r)
  rw [h]
theorem sld_c {z : Fl} {v n m : Nat} {r : Nat → Nat} {p : Nat × Nat} (h : chg z v n r = some p) : sld z v n (m + 1) r = ((sld z v n m (sw r p.1 p.2)).1 + 1, (sld z v n m (sw r p.1 p.2)).2) := by
  show (match chg z v n r with
    | none => (0, r)
    | some p => ((sld z v n m (sw r p.1 p.2)).1 + 1, (sld z v n m (sw r p.1 p.2)).2)) = _
  rw [h]
theorem sld_le {z : Fl} {v n : Nat} : ∀ {m : Nat} {r : Nat → Nat}, (sld z v n m r).1 ≤ m
  | 0, r => Nat.le_refl 0
  | m + 1, r => by
    cases h : chg z v n r with
    | none =>
      rw [sld_n h]
      exact Nat.zero_le _
    | some p =>
      rw [sld_c h]
      exact Nat.succ_le_succ sld_le
theorem sld_ps {z : Fl} (hz : ZOk z) {v n : Nat} (hn1 : 1 ≤ n) : ∀ {m : Nat} {r : Nat → Nat}, RowPs z r n → RowPs z (sld z v n m r).2 n
  | 0, r, h => h
  | m + 1, r, h => by
    cases hc : chg z v n r with
    | none =>
      rw [sld_n hc]
      exact h
    | some p =>
      rw [sld_c hc]
      have := chg_ok hz hn1 hc
      exact sld_ps hz hn1 (sw_ps h (by omega) this.2)
theorem div100 {i j : Nat} (hi : i < 12) (hj : j < 12) : iDiv (100 * (i : Int) + (j : Int)) 100 = (i : Int) ∧ iRem (100 * (i : Int) + (j : Int)) 100 = (j : Int) := by
  have hb : bm (100 * (i : Int) + (j : Int)) = 100 * (i : Int) + (j : Int) := bm_id (by omega) (by omega)
  refine ⟨?_, ?_⟩
  · rw [show (100 : Int) = ((100 : Nat) : Int) from rfl, iDiv_nn (by rw [← show (100 : Int) = ((100 : Nat) : Int) from rfl, hb]; omega) (by decide) (by decide), ← show (100 : Int) = ((100 : Nat) : Int) from rfl, hb]
    omega
  · rw [show (100 : Int) = ((100 : Nat) : Int) from rfl, iRem_nn (by rw [← show (100 : Int) = ((100 : Nat) : Int) from rfl, hb]; omega) (by decide) (by decide), ← show (100 : Int) = ((100 : Nat) : Int) from rfl, hb]
    omega
theorem sl_L {z : Fl} {v n N : Nat} {M0 : Mem} {x1 : Int} {Q : Int → Mem → Prop} {E : Int → Mem → Prop} (hz : ZOk z) (hn1 : 1 ≤ n) (hn12 : n ≤ 12) (hvn : v < n) (hN : N ≤ 20) : ∀ (m d : Nat) (r : Nat → Nat) (M : Mem) (x5 x6 : Int), d + m = N → x5 = (d : Int) → x6 = (d : Int) → CB z M → WzOk M → RowPs z r n → M 87 1 = (n : Int) → M 87 2 = (v : Int) → (∀ k, k < n → M 88 k = (r k : Int)) → (∀ a, a ≠ 88 → ¬ (91 ≤ a ∧ a ≤ 102) → M a = M0 a) → (∀ M', (∀ a, a ≠ 88 → ¬ (91 ≤ a ∧ a ≤ 102) → M' a = M0 a) → WzOk M' → (∀ k, k < n → M' 88 k = ((sld z v n m r).2 k : Int)) → E ((d + (sld z v n m r).1 : Nat) : Int) M') → wX11_slides_L33 Q E E 1 x1 (N : Int) (m + 1) x5 x6 M
  | 0, d, r, M, x5, x6, hd, h5, h6, hcb, hw, hr, h1, h2, h3, f, hQ => by
    subst h5 h6
    unfold wX11_slides_L33
    rw [bm_nat (n := N) (by omega), bm_nat (n := d) (by omega)]
    exact BR_t (by omega) (hQ M f hw h3)
  | m + 1, d, r, M, x5, x6, hd, h5, h6, hcb, hw, hr, h1, h2, h3, f, hQ => by
    subst h5 h6
    unfold wX11_slides_L33
    rw [bm_nat (n := N) (by omega), bm_nat (n := d) (by omega)]
    refine BR_f (by omega) (lf_change hz hcb hw hn1 hn12 hvn hr h1 h2 h3 fun M1 g1 g2 g3 => ?_)
    have f1 : ∀ a, a ≠ 88 → ¬ (91 ≤ a ∧ a ≤ 102) → M1 a = M0 a := fun a q1 q2 => by rw [g1 a q1 q2, f a q1 q2]
    cases hch : chg z v n r with
    | none =>
      rw [sld_n hch] at hQ
      exact BR_f (by decide +kernel) (hQ M1 f1 g2 g3)
    | some p =>
      obtain ⟨p1, p2⟩ := chg_ok hz hn1 hch
      obtain ⟨e1, e2⟩ := div100 (i := p.1) (j := p.2) (by omega) (by omega)
      rw [sld_c hch] at hQ
      show BR (0 ≤ bm (100 * (p.1 : Int) + (p.2 : Int))) _ _
      rw [bm_id (z := 100 * (p.1 : Int) + (p.2 : Int)) (by omega) (by omega)]
      refine BR_t (by omega) (lf_swap5 hn12 g3 (i := p.1) (j := p.2) (by omega) p2 e1 e2 fun M2 b1 b2 => LET_i (LET_i ?_))
      refine sl_L hz hn1 hn12 hvn hN m (d + 1) (sw r p.1 p.2) M2 _ _ (by omega) (by omega) (by omega) (hcb.congr hz fun a ha => by rw [b1 a (by omega), g1 a (by omega) (by omega)]) (g2.congr fun a q1 q2 => b1 a (by omega)) (sw_ps hr (by omega) p2) (by rw [b1 87 (by decide), g1 87 (by decide) (by omega)]; exact h1) (by rw [b1 87 (by decide), g1 87 (by decide) (by omega)]; exact h2) b2 (fun a q1 q2 => by rw [b1 a q1, f1 a q1 q2]) fun M' c1 c2 c3 => ?_
      have := hQ M' c1 c2 c3
      rw [show d + 1 + (sld z v n m (sw r p.1 p.2)).1 = d + ((sld z v n m (sw r p.1 p.2)).1 + 1) by omega]
      exact this
theorem shl_v : ∀ v : Nat, v < 12 → iShr (iShl (v : Int) (32 - 8)) (32 - 8) = (v : Int) ∧ iShr (iShl (v : Int) (32 - 16)) (32 - 16) = (v : Int) ∧ iShr (iShl (v : Int) (32 - 32)) (32 - 32) = (v : Int) := by decide +kernel
theorem tp_L {k n : Nat} {r : Nat → Nat} {bits : Int} {M0 : Mem} {Q : Mem → Prop} (hk : k < 4) (hb : bits = 8 ∨ bits = 16 ∨ bits = 32) (hn12 : n ≤ 12) (h87 : M0 87 1 = (n : Int)) (h88 : ∀ i, i < n → M0 88 i = (r i : Int) ∧ r i < 12) (h1 : M0 (117 + 2 * k) 1 = bits) (h2 : M0 (117 + 2 * k) 2 = (n : Int)) (hQ : ∀ M' : Mem, (∀ a, a ≠ 118 + 2 * k → M' a = M0 a) → (∀ j, M' (118 + 2 * k) j = if j < n then (r j : Int) else M0 (118 + 2 * k) j) → Q M') : ∀ (m i : Nat) (M : Mem) (x2 : Int), i + m = n → x2 = (i : Int) → (∀ a, a ≠ 118 + 2 * k → M a = M0 a) → (∀ j, M (118 + 2 * k) j = if j < i then (r j : Int) else M0 (118 + 2 * k) j) → wX8_takePieces_L2 Q (117 + 2 * k) 87 (m + 1) x2 M
  | 0, i, M, x2, hi, h, f1, f2 => by
    subst h
    obtain rfl : i = n := by omega
    unfold wX8_takePieces_L2
    rw [f1 87 (by omega), h87]
    exact BR_t (Int.le_refl _) (hQ M f1 f2)
  | m + 1, i, M, x2, hi, h, f1, f2 => by
    subst h
    obtain ⟨r1, r2⟩ := h88 i (by omega)
    obtain ⟨s1, s2, s3⟩ := shl_v (r i) r2
    have eS : iShr (iShl (r i : Int) (32 - bits)) (32 - bits) = (r i : Int) := by
      rcases hb with rfl | rfl | rfl
      · exact s1
      · exact s2
      · exact s3
    unfold wX8_takePieces_L2
    rw [f1 87 (by omega), h87, bm_nat (n := n) (by omega), bm_nat (n := i) (by omega), rd_at (n := i) rfl (by omega), show (87 : Nat) + 1 = 88 from rfl, f1 88 (by omega), r1]
    refine BR_f (by omega) ⟨inb_of rfl (by omega) (by decide), ?_⟩
    unfold wX8_write wX8_holds
    rw [f1 (117 + 2 * k) (by omega), h2, bm_nat (n := i) (by omega), bm_nat (n := n) (by omega), bm_id (z := (n : Int) - 1) (by omega) (by omega)]
    refine BR_f (by omega) (BR_f (by rw [bm1]; decide) (BR_f (by rw [bm1]; omega) (BR_f (by omega) (BR_f q1 (LET_i ⟨inb_of rfl (by omega) (by decide), LET_i (LET_i ?_)⟩)))))
    rw [f1 (117 + 2 * k) (by omega), h1, eS, wr_up (n := i) rfl (by omega), show 117 + 2 * k + 1 = 118 + 2 * k by omega]
    refine tp_L hk hb hn12 h87 h88 h1 h2 hQ m (i + 1) _ _ (by omega) (by omega) (fun a ha => by rw [up_c ha]; exact f1 a ha) fun j => ?_
    rw [up_k, f2]
    by_cases hj : j = i
    · subst hj
      rw [if_pos rfl, if_pos (by omega)]
    · rw [if_neg hj]
      by_cases hj2 : j < i
      · rw [if_pos hj2, if_pos (by omega)]
      · rw [if_neg hj2, if_neg (by omega)]
theorem sm_L' {z : Fl} {v n N : Nat} {M0 : Mem} {x1 : Int} {Q : Int → Mem → Prop} {E : Int → Mem → Prop} (hz : ZOk z) (hn12 : n ≤ 12) (hvn : v < n) (hN : N ≤ 20) : ∀ (m d : Nat) (r : Nat → Nat) (M : Mem) (x5 : Int), d + m = N → x5 = (d : Int) → MB z M → RB v n r M → LaidAt z v r n M → RowPs z r n → Inj r n → FrD M0 M → (∀ M', FrD M0 M' → MB z M' → RB v n (sld z v n m r).2 M' → E ((d + (sld z v n m r).1 : Nat) : Int) M') → wX12_slides_L46 Q E 125 x1 (N : Int) (m + 1) x5 M
  | 0, d, r, M, x5, hd, h5, hb, hR, hL, hr, hij, f, hQ => by
    subst h5
    unfold wX12_slides_L46
    rw [bm_nat (n := N) (by omega), bm_nat (n := d) (by omega)]
    exact BR_t (by omega) (hQ M f hb hR)
  | m + 1, d, r, M, x5, hd, h5, hb, hR, hL, hr, hij, f, hQ => by
    subst h5
    unfold wX12_slides_L46
    rw [bm_nat (n := N) (by omega), bm_nat (n := d) (by omega)]
    refine BR_f (by omega) (mf_findBetter hz hb hR hn12 hvn hr hij hL fun M1 fd hb1 hR1 hL1 hbp => ?_)
    cases hch : chg z v n r with
    | none =>
      rw [sld_n hch] at hQ
      exact BR_t bm0 (hQ M1 (f.tr fd) hb1 hR1)
    | some p =>
      obtain ⟨p1, p2⟩ := chg_ok hz (by omega) hch
      rw [hch] at hbp
      obtain ⟨b1, b2⟩ := hbp p rfl
      rw [sld_c hch] at hQ
      refine BR_f bn1 (mf_swap hn12 hR1.2.2 (i := p.1) (j := p.2) (by omega) p2 b1 b2 fun M2 c1 c2 => ?_)
      have hR2 : RB v n (sw r p.1 p.2) M2 := ⟨by rw [c1 125 (by decide)]; exact hR1.1, by rw [c1 125 (by decide)]; exact hR1.2.1, c2⟩
      have hrs : RowPs z (sw r p.1 p.2) n := sw_ps hr (by omega) p2
      refine mf_layRow hz (hb1.congr (c1 126 (by decide))) hR2 hn12 (by omega) hrs fun M3 fl hL3 => LET_i ?_
      refine sm_L' hz hn12 hvn hN m (d + 1) (sw r p.1 p.2) M3 _ (by omega) (by omega) ((hb1.congr (c1 126 (by decide))).congr (fl 126 (by decide) (by decide) (by decide))) (hR2.congr (fl 125 (by decide) (by decide) (by decide)) (fl 132 (by decide) (by decide) (by decide))) hL3 hrs (sw_inj hij (by omega) p2) (f.tr (fd.tr ((d132 c1).tr fl.d))) fun M' e1 e2 e3 => ?_
      have := hQ M' e1 e2 e3
      rw [show d + 1 + (sld z v n m (sw r p.1 p.2)).1 = d + ((sld z v n m (sw r p.1 p.2)).1 + 1) by omega]
      exact this
theorem s84_L {v n k : Nat} {r : Nat → Nat} {x5 : Int} {M0 : Mem} {Q : Int → Mem → Prop} (hk : k < 4) (hn12 : n ≤ 12) (hR : RB v n r M0) (hQ : ∀ M' : Mem, (∀ a, a ≠ 146 → M' a = M0 a) → (∀ j, M' 146 j = if 24 * k ≤ j ∧ j < 24 * k + n then (r (j - 24 * k) : Int) else M0 146 j) → Q x5 M') : ∀ (m i : Nat) (M : Mem) (x6 : Int), i + m = n → x6 = (i : Int) → (∀ a, a ≠ 146 → M a = M0 a) → (∀ j, M 146 j = if 24 * k ≤ j ∧ j < 24 * k + i then (r (j - 24 * k) : Int) else M0 146 j) → wX12_slides_L84 Q 125 (k : Int) x5 (m + 1) x6 M
  | 0, i, M, x6, hi, h, f1, f2 => by
    subst h
    obtain rfl : i = n := by omega
    unfold wX12_slides_L84
    rw [f1 125 (by omega), hR.1]
    exact BR_t (Int.le_refl _) (hQ M f1 f2)
  | m + 1, i, M, x6, hi, h, f1, f2 => by
    subst h
    unfold wX12_slides_L84
    rw [f1 125 (by omega), hR.1, bm_nat (n := n) (by omega), bm_nat (n := i) (by omega), rd_at (n := i) rfl (by omega), show (125 : Nat) + 7 = 132 from rfl, f1 132 (by omega), hR.2.2 i (by omega), wr_up (i := 24 * (k : Int) + (i : Int)) (n := 24 * k + i) (by omega) (by omega), show (125 : Nat) + 21 = 146 from rfl]
    refine BR_f (by omega) ⟨inb_of rfl (by omega) (by decide), inb_of (n := 24 * k + i) (by omega) (by omega) (by decide), LET_i (LET_i ?_)⟩
    refine s84_L hk hn12 hR hQ m (i + 1) _ _ (by omega) (by omega) (fun a ha => by rw [up_c ha]; exact f1 a ha) fun j => ?_
    rw [up_k, f2]
    by_cases hj : j = 24 * k + i
    · subst hj
      rw [if_pos rfl, if_pos (by omega), show 24 * k + i - 24 * k = i by omega]
    · rw [if_neg hj]
      by_cases hj2 : 24 * k ≤ j ∧ j < 24 * k + i
      · rw [if_pos hj2, if_pos (by omega)]
      · rw [if_neg hj2, if_neg (by omega)]
theorem mf_take' {M : Mem} {k : Nat} {b : Int} {z : Fl} {Q : Int → Mem → Prop} (hz : ZOk z) (hb : MB z M) (s3 : M 144 k = 0 ∨ M 144 k = 8 ∨ M 144 k = 16 ∨ M 144 k = 32) (s4 : 0 ≤ M 145 k) (s5 : M 145 k ≤ 24) (s6 : ∀ i, i < 24 → bm (M 146 (24 * k + i)) = M 146 (24 * k + i)) (hk : k < 4) (eb : bm b = b) (hN : M 144 k = 0 → Q 2 M) (hK : M 144 k ≠ 0 → ¬ okRow (M 126 0) (fun i => M 146 (24 * k + i)) (M 145 k) b → ∀ M', FrT M M' → Q 5 M')
    (h0 : ∀ v n : Nat, M 144 k ≠ 0 → b = (v : Int) → M 145 k = (n : Int) → okRow (M 126 0) (fun i => M 146 (24 * k + i)) (M 145 k) b → ∀ M', FrT M M' → (∀ r : Nat → Nat, (∀ i, i < n → M 146 (24 * k + i) = (r i : Int)) → RB v n r M' ∧ LaidAt z v r n M') → Q 0 M') : wX12_take 125 (k : Int) b M Q := by
  have hz0 := hz.1
  have e0 : M 126 0 = z 0 := hb 0 (by omega)
  unfold wX12_take
  rw [rd_at (k := 125 + 19) (n := k) rfl (by omega), rd_at (k := 125 + 20) (n := k) rfl (by omega), show (125 : Nat) + 19 = 144 from rfl, show (125 : Nat) + 20 = 145 from rfl]
  have hsb : bm (M 144 k) = 0 ↔ M 144 k = 0 := by
    rcases s3 with h | h | h | h
    · rw [h, bm0]
    · rw [h, li_8]
    · rw [h, show bm 16 = 16 by decide +kernel]
    · rw [h, show bm 32 = 32 by decide +kernel]
  refine ⟨inb_of rfl hk (by decide), BR_i (fun h => hN (hsb.mp h)) (fun h => ⟨inb_of rfl hk (by decide), LET_i (LET_i ?_)⟩)⟩
  have hb' : M 144 k ≠ 0 := fun h' => h (hsb.mpr h')
  generalize hM1 : up (up M 125 13 (M 145 k)) 125 14 b = M1
  have G : ∀ a, a ≠ 125 → M1 a = M a := fun a ha => by subst hM1; simp (disch := omega) only [up_c]
  have G2 : ∀ j, j ≠ 13 → j ≠ 14 → M1 125 j = M 125 j := fun j q1 q2 => by subst hM1; simp (disch := omega) only [up_kn]
  have G13 : M1 125 13 = M 145 k := by subst hM1; simp (disch := omega) only [up_kn, up_s]
  have G14 : M1 125 14 = b := by subst hM1; simp (disch := omega) only [up_s]
  clear hM1
  have frT : ∀ M', (∀ a, a ≠ 132 → M' a = M1 a) → FrT M M' := fun M' f => ⟨fun a q1 q2 _ _ _ => by rw [f a q2, G a q1], fun j q1 q2 => by rw [f 125 (by decide), G2 j q1 q2]⟩
  rw [G13]
  refine BR_i (fun h1 => hK hb' (fun ok => ?_) M1 (frT M1 fun _ _ => rfl)) (fun h1 => BR_i (fun h2 => hK hb' (fun ok => ?_) M1 (frT M1 fun _ _ => rfl)) (fun h2 => mi_i (fun hw => BR_f q1 ?_) (fun hw => BR_t q0 (hK hb' (fun ok => hw ?_) M1 (frT M1 fun _ _ => rfl)))))
  · have := ok.1
    rw [bm_id (z := M 145 k) (by omega) (by omega)] at h1
    omega
  · have := ok.1
    rw [bm_id (z := M 145 k) (by omega) (by omega)] at h2
    omega
  · rw [bm_id (z := M 145 k) (by omega) (by omega)] at h1 h2
    rw [bm0, eb, bm_id (z := M 145 k - 1) (by omega) (by omega)] at hw
    obtain ⟨v, rfl⟩ : ∃ v : Nat, b = (v : Int) := ⟨b.toNat, by omega⟩
    refine ⟨(M 145 k).toNat + 1, tm_L (v := v) (f := fun i => M 146 (24 * k + i)) (s := M 145 k) (cnt := M 126 0) hk G13 (by omega) (by omega) (by omega) (by rw [G 126 (by decide)]) (fun i hi => by rw [G 146 (by decide)]) s6 (fun hn M' f1 => hK hb' hn M' (frT M' f1)) (fun ok M' f1 f2 => ?_) (M 145 k).toNat 0 M1 _ _ (by omega) rfl rfl (fun _ _ => rfl) (fun j hj => by omega) (fun j hj => by omega)⟩
    have fr := frT M' f1
    obtain ⟨v', n, r, hv, hsh⟩ := ok.sh
    obtain rfl : v' = v := by omega
    have hR : RB v' n r M' := by
      refine ⟨by rw [f1 125 (by decide), G13, hsh.1], by rw [f1 125 (by decide), G14], fun i hi => ?_⟩
      have := f2 i (by rw [hsh.1]; omega)
      rw [this]
      exact hsh.2.2.2.1 i hi
    have hps : RowPs z r n := fun i hi => by
      have := hsh.2.2.2.2.1 i hi
      rw [vw_at (by omega), e0] at this
      exact this
    refine mf_layRow hz (hb.congr (fr.1 126 (by decide) (by decide) (by decide) (by decide) (by decide))) hR hsh.2.1 (by have := hsh.2.1; have := hsh.2.2.1; omega) hps fun M2 fl hL => ?_
    refine h0 v' n hb' rfl hsh.1 ok M2 ⟨fun a q1 q2 q3 q4 q5 => by rw [fl a q3 q4 q5]; exact fr.1 a q1 q2 q3 q4 q5, fun j q1 q2 => by rw [fl 125 (by decide) (by decide) (by decide)]; exact fr.2 j q1 q2⟩ fun r' hr' => ?_
    have er : ∀ i, i < n → r' i = r i := fun i hi => by
      have h1 := hr' i hi
      have h2 := hsh.2.2.2.1 i hi
      omega
    have hR2 : RB v' n r M2 := hR.congr (fl 125 (by decide) (by decide) (by decide)) (fl 132 (by decide) (by decide) (by decide))
    refine ⟨⟨hR2.1, hR2.2.1, fun i hi => by rw [hR2.2.2 i hi, er i hi]⟩, fun i hi => ?_⟩
    have el : ∀ j, j ≤ n → rl r' j = rl r j := fun j hj => rl_congr fun c hc => er c (by omega)
    rw [el i (by omega), el (i + 1) (by omega), er i hi]
    exact hL i hi
  · have := ok.2.1
    have := ok.1
    rw [bm0, eb, bm_id (z := M 145 k - 1) (by omega) (by omega)]
    omega
theorem st_slides {t : Int} {M : Mem} (hI : Inv t M) {a b c : Int} (ea : bm a = a) (eb : bm b = b) (ec : bm c = c) : Step t M (fun M Q => wX11_slides 1 a b c M Q) (fun M Q => wX12_slides 125 a b c M Q) := by
  intro Q1 hQ1
  have hz := hI.zok
  have key : ∀ o : Int, (bm o = 0 → ¬ (bm 1 ≤ bm c ∧ bm c ≤ bm 20)) → (bm o ≠ 0 → (bm 1 ≤ bm c ∧ bm c ≤ bm 20)) → wX11_rowFault 1 a b o M (fun r_4 M_3 => BR (bm r_4 = 0) (∃ N_24, wX11_slides_L33 Q1 (fun x5_15 M_16 => wX11_slides_J86 Q1 1 a x5_15 M_16) (fun x5_22 M_23 => wX11_slides_J86 Q1 1 a x5_22 M_23) 1 a c N_24 0 0 M_3) (wX11_error 1 r_4 M_3 (fun r_26 M_25 => Q1 r_26 M_25))) := by
    intro o ho0 ho1
    refine row_both (Rl := RI) (g := fun x => x) (B := fun M Q => wX12_slides 125 a b c M Q) (TK := fun Q2 r M_7 => BR (bm r ≤ 0) (∃ N_25, wX12_slides_L46 Q2 (fun x5_15 M_16 => wX12_slides_J81 Q2 125 a x5_15 M_16) 125 a c N_25 0 M_7) (wX12_error 125 r M_7 (fun r_27 M_26 => Q2 r_27 M_26))) hI ea eb (fun r r2 h => h) hQ1 (fun r M' hr he => BR_f (by rcases hr with rfl | rfl | rfl <;> decide +kernel) he) (fun hb M1 Q2 h126 he => ?_) (fun k hk hak ho M1 Q2 h126 ht => ?_) (fun r M1 Q2 hr he => BR_f (by rcases hr with rfl | rfl <;> decide +kernel) he) (fun k v n r hk hak ho hbk hbv hsh M' f h1 h2 h3 => BR_t bm0 ?_)
    · unfold wX12_slides wX12_slides_J17
      exact sh_i ea (fun hs => BR_f q1 (mi_i (fun hc => absurd hc (by rcases hb with h | h; exact absurd hs h; exact ho0 h)) (fun hc => BR_t q0 he))) (fun hs => BR_t q0 he)
    · subst hak
      unfold wX12_slides
      exact sh_i ea (fun hs => BR_f q1 (mi_t (ho1 ho) (BR_f q1 ht))) (fun hs => absurd (by omega) hs)
    · subst hak hbv
      have hn12 := hsh.2.1
      have hvn := hsh.2.2.1
      have hz0 := hz.1
      have hcl := ho1 ho
      rw [bm1, li_20, ec] at hcl
      obtain ⟨N, rfl⟩ : ∃ N : Nat, c = (N : Int) := ⟨c.toNat, by omega⟩
      have hcb : CB (vw (M 126)) M' := hI.cb.congr hz fun c hc => f c (by omega) (by omega)
      have hw' : WzOk M' := hI.wz.congr fun c q1 q2 => f c (by omega) (by omega)
      obtain ⟨s1, s2, s3, s4, s5, s6⟩ := hI.2.2.2.2.1 k hk
      have hps : RowPs (vw (M 126)) (sld (vw (M 126)) v n N r).2 n := sld_ps hz (by omega) hsh.z
      refine ⟨N + 1, sl_L (M0 := M') hz (by omega) hn12 hvn (by omega) N 0 r M' _ _ (by omega) rfl rfl hcb hw' hsh.z h1 h2 h3 (fun _ _ _ => rfl) fun M2 g1 g2 g3 => ?_⟩
      have hsc : Scr M M2 := row88_scr f g1
      unfold wX11_slides_J86 wX8_takePieces
      rw [bnn (n := k) (by omega), show 1 + 116 + 2 * k = 117 + 2 * k by omega]
      refine ⟨inb_of rfl (by omega) (by decide), n + 1, tp_L (M0 := M2) (bits := M 144 k) hk (by omega) hn12 (by rw [g1 87 (by decide) (by omega)]; exact h1) (fun i hi => ⟨g3 i hi, by have := hps i hi; omega⟩) (by rw [hsc.s (by omega)]; exact s1) (by rw [hsc.s (by omega), s2]; exact hsh.1) (fun M3 d1 d2 => hQ1 _ _ fun Q2 hQ2 => ?_) n 0 M2 _ (by omega) rfl (fun _ _ => rfl) (fun j => by rw [if_neg (by omega)])⟩
      unfold wX12_slides
      have e3 : ∀ x, (x = 126 ∨ x = 144 ∨ x = 145 ∨ x = 146) → M3 x = M x := fun x hx => by rw [d1 x (by omega), hsc.s (by omega)]
      refine sh_i ea (fun hs => BR_f q1 (mi_t (ho1 ho) (BR_f q1 ?_))) (fun hs => absurd (by omega) hs)
      have take' : ∀ Q : Int → Mem → Prop, (∀ M', FrT M3 M' → MB (vw (M 126)) M' → RB v n r M' → LaidAt (vw (M 126)) v r n M' → Q 0 M') → wX12_take 125 (k : Int) (v : Int) M3 Q := by
        intro Q hQ
        have ok := hsh.ok hI
        refine mf_take' (z := vw (M 126)) hz (fun j hj => by rw [e3 126 (by omega), vw_at hj]) (s3 := by rw [e3 144 (by omega)]; exact s3) (s4 := by rw [e3 145 (by omega)]; exact s4) (s5 := by rw [e3 145 (by omega)]; exact s5) (s6 := fun i hi => by rw [e3 146 (by omega)]; exact (s6 i hi).2) hk (bm_nat (by omega)) (fun h => absurd (by rw [e3 144 (by omega)] at h; exact h) hbk) (fun _ hn => absurd (by rw [e3 126 (by omega), e3 145 (by omega), e3 146 (by omega)]; exact ok) hn) (fun v' n' _ hv hn' _ M' fr hr => ?_)
        have ev : v' = v := by omega
        have en : n' = n := by
          rw [e3 145 (by omega), hsh.1] at hn'
          omega
        subst ev en
        obtain ⟨r1, r2⟩ := hr r (fun i hi => by rw [e3 146 (by omega)]; exact hsh.2.2.2.1 i hi)
        exact hQ M' fr (fun j hj => by rw [fr.1 126 (by decide) (by decide) (by decide) (by decide) (by decide), e3 126 (by omega), vw_at hj]) r1 r2
      refine take' _ fun M4 ft hmb hR hL => BR_t (by decide +kernel) ⟨N + 1, sm_L' (M0 := M4) hz hn12 hvn (by omega) N 0 r M4 _ (by omega) rfl hmb hR hL hsh.z hsh.2.2.2.2.2 FrD.rf fun M5 fd hmb5 hR5 => ?_⟩
      unfold wX12_slides_J81
      refine ⟨n + 1, s84_L (M0 := M5) hk hn12 hR5 (fun M6 u1 u2 => hQ2 _ _ rfl (Inv.mono (t := t) ?_ (by omega))) n 0 M5 _ (by omega) rfl (fun _ _ => rfl) (fun j => by rw [if_neg (by omega)])⟩
      -- what lasts
      have hX : Inv t (fun x => if (117 ≤ x ∧ x ≤ 124) ∨ (144 ≤ x ∧ x ≤ 147) then M x else M6 x) := by
        refine hI.scr ⟨fun x q1 q2 q3 q4 q5 q6 q7 => ?_, ?_, ?_⟩ ?_
        · show (if (117 ≤ x ∧ x ≤ 124) ∨ (144 ≤ x ∧ x ≤ 147) then M x else M6 x) = M x
          by_cases hx : (117 ≤ x ∧ x ≤ 124) ∨ (144 ≤ x ∧ x ≤ 147)
          · rw [if_pos hx]
          · rw [if_neg hx, u1 x (by omega), fd.1 x (by omega) (by omega), ft.1 x (by omega) (by omega) (by omega) (by omega) (by omega), d1 x (by omega), hsc.1 x q1 q2 q3 q4 q5 q6 q7]
        · show M6 125 2 = _
          rw [u1 125 (by decide), fd.2 2 (by decide) (by decide), ft.2 2 (by decide) (by decide), d1 125 (by omega), hsc.2.1]
        · show M6 125 33 = _
          rw [u1 125 (by decide), fd.2 33 (by decide) (by decide), ft.2 33 (by decide) (by decide), d1 125 (by omega), hsc.2.2]
        · refine g2.congr fun x q1 q2 => ?_
          show (if (117 ≤ x ∧ x ≤ 124) ∨ (144 ≤ x ∧ x ≤ 147) then M x else M6 x) = _
          rw [if_neg (by omega), u1 x (by omega), fd.1 x (by omega) (by omega), ft.1 x (by omega) (by omega) (by omega) (by omega) (by omega), d1 x (by omega)]
      refine hX.shs (fun x q1 q2 => by show _ = (if (117 ≤ x ∧ x ≤ 124) ∨ (144 ≤ x ∧ x ≤ 147) then M x else M6 x); rw [if_neg (by omega)]) fun k' hk' => ?_
      have w144 : M6 144 = M 144 := by rw [u1 144 (by decide), fd.1 144 (by decide) (by decide), ft.1 144 (by decide) (by decide) (by decide) (by decide) (by decide), e3 144 (by omega)]
      have w145 : M6 145 = M 145 := by rw [u1 145 (by decide), fd.1 145 (by decide) (by decide), ft.1 145 (by decide) (by decide) (by decide) (by decide) (by decide), e3 145 (by omega)]
      have w146 : M5 146 = M 146 := by rw [fd.1 146 (by decide) (by decide), ft.1 146 (by decide) (by decide) (by decide) (by decide) (by decide), e3 146 (by omega)]
      have wc : ∀ x, 117 ≤ x → x ≤ 124 → M6 x = M3 x := fun x q1 q2 => by rw [u1 x (by omega), fd.1 x (by omega) (by omega), ft.1 x (by omega) (by omega) (by omega) (by omega) (by omega)]
      obtain ⟨t1, t2, t3, t4, t5, t6⟩ := hI.2.2.2.2.1 k' hk'
      unfold ShOk1
      rw [w144, w145, wc (117 + 2 * k') (by omega) (by omega), wc (118 + 2 * k') (by omega) (by omega), d1 (117 + 2 * k') (by omega), hsc.s (by omega)]
      refine ⟨t1, t2, t3, t4, t5, fun i hi => ?_⟩
      obtain ⟨v1, v2⟩ := t6 i hi
      rw [u2, w146]
      by_cases hkk : k' = k
      · subst hkk
        rw [d2, hsc.s (by omega)]
        by_cases hin : i < n
        · have := hps i hin
          rw [if_pos hin, if_pos (by omega), show 24 * k' + i - 24 * k' = i by omega]
          exact ⟨rfl, bm_nat (by omega)⟩
        · rw [if_neg hin, if_neg (by omega)]
          exact ⟨v1, v2⟩
      · rw [if_neg (by omega), d1 (118 + 2 * k') (by omega), hsc.s (by omega)]
        exact ⟨v1, v2⟩
  unfold wX11_slides
  exact wi_i (fun h => key 1 (fun h0 => absurd h0 q1) (fun _ => h)) (fun h => key 0 (fun _ => h) (fun h0 => absurd q0 h0))
