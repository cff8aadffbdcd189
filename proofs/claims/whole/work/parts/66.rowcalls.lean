/-! worth, worthBy, tired, judge, begins -/
theorem Scr.s {M M' : Mem} (h : Scr M M') {a : Nat} (ha : 117 ≤ a ∧ a ≤ 124 ∨ a = 126 ∨ (143 ≤ a ∧ a ≤ 146) ∨ 148 ≤ a ∨ a ≤ 86 ∨ a = 128 ∨ a = 127 ∨ (103 ≤ a ∧ a ≤ 106) ∨ (108 ≤ a ∧ a ≤ 110) ∨ a = 114 ∨ a = 115) : M' a = M a := h.1 a (by omega) (by omega) (by omega) (by omega) (by omega) (by omega) (by omega)
theorem mf_tookS {t : Int} {M M1 : Mem} {k v n : Nat} {r : Nat → Nat} {Q : Int → Mem → Prop} (hI : Inv t M) (hk : k < 4) (hb : M 144 k ≠ 0) (hsh : ShRow M k v n r) (hs : Scr M M1) (hQ : ∀ M', FrT M1 M' → MB (vw (M 126)) M' → RB v n r M' → LaidAt (vw (M 126)) v r n M' → Q 0 M') : wX12_take 125 (k : Int) (v : Int) M1 Q :=
  mf_took hI hk hb hsh (hs.s (by omega)) (hs.s (by omega)) (hs.s (by omega)) (hs.s (by omega)) (fun a _ _ => hs.s (by omega)) fun M' fr h1 h2 => hQ M' fr (hI.mb.congr (by rw [fr.1 126 (by decide) (by decide) (by decide) (by decide) (by decide), hs.s (by omega)])) h1 h2
theorem fin_inv {t : Int} {M M1 M2 M3 : Mem} (hI : Inv t M) (hs : Scr M M1) (hw : WzOk M1) (ft : FrT M1 M2) (fp : FrP M2 M3) : Inv (t + 1) M3 := by
  refine Inv.mono (hI.scr (hs.tr (ft.scr.tr fp.scr)) (hw.congr fun a q1 q2 => ?_)) (by omega)
  rw [fp a (by omega) (by omega), ft.1 a (by omega) (by omega) (by omega) (by omega) (by omega)]
theorem isOn_vw {s : Fl} {l : Nat} (hl : l < 10) : isOn (vw s) l = isOn s l := by
  unfold isOn lO
  rw [vw_at (by omega)]
/-- the likings that are on -/
theorem lf_onS {t : Int} {M M' : Mem} {nl : Nat} {Q : Int → Mem → Prop} (hI : Inv t M) (hs : Scr M M') (hw : WzOk M') (hn : vw (M 126) 1 = (nl : Int)) (hQ : Q (bits (isOn (vw (M 126))) nl) M') : wX0_likingsOn 2 M' Q := by
  have h10 := hI.zok.2.1
  have e : M' 126 = M 126 := hs.s (by omega)
  refine lf_on (hI.scr hs hw) (nl := nl) (by rw [e, ← hn, vw_at (by omega)]) ?_
  rw [e, ← bits_cg (f := isOn (vw (M 126))) fun i hi => isOn_vw (by omega)]
  exact hQ
theorem scr87 {M M' : Mem} (f : ∀ c, c ≠ 87 → c ≠ 88 → M' c = M c) : Scr M M' := ⟨fun a q1 _ _ _ _ _ _ => f a (by omega) (by omega), by rw [f 125 (by decide) (by decide)], by rw [f 125 (by decide) (by decide)]⟩
theorem in3 {a : Int} (ea : bm a = a) : (bm 0 ≤ bm a ∧ bm a ≤ bm 3) ↔ (0 ≤ a ∧ a ≤ 3) := by rw [bm0, li_3, ea]
/-- the reference's sheet first -/
theorem sh_i {a : Int} {M : Mem} {Q : Int → Mem → Prop} (ea : bm a = a) (h1 : 0 ≤ a ∧ a ≤ 3 → Q 1 M) (h0 : ¬ (0 ≤ a ∧ a ≤ 3) → Q 0 M) : wX12_isSheet a M Q := by
  unfold wX12_isSheet
  exact mi_i (fun h => ⟨isB1, h1 ((in3 ea).mp h)⟩) (fun h => ⟨isB0, h0 fun h' => h ((in3 ea).mpr h')⟩)
theorem bn1 : ¬ bm 1 = 0 := q1
theorem st_worth {t : Int} {M : Mem} (hI : Inv t M) {a b c : Int} (ea : bm a = a) (eb : bm b = b) : StepL t M (fun M Q => wX11_worth 1 a b c M Q) (fun M Q => wX12_worth 125 a b c M Q) := by
  intro Q1 hQ1
  have hz := hI.zok
  obtain ⟨nl, hnl⟩ : ∃ nl : Nat, vw (M 126) 1 = (nl : Int) := ⟨(vw (M 126) 1).toNat, by have := hz.2.1; omega⟩
  have hl10 := hz.2.1
  have key : ∀ o : Int, (bm o = 0 → ¬ (bm 0 ≤ bm c ∧ bm c ≤ bm 1)) → (bm o ≠ 0 → (bm 0 ≤ bm c ∧ bm c ≤ bm 1)) → wX11_rowFault 1 a b o M (fun r_4 M_3 => BR (bm r_4 = 0) (wX0_likingsOn (1 + 1) M_3 (fun r_9 M_8 => wX10_along (1 + 90) (1 + 86) r_9 M_8 (fun M_10 => wX10_total (1 + 90) M_10 (fun r_13 M_12 => wX11_partOf r_13 c M_12 (fun r_15 M_14 => Q1 r_15 M_14))))) (wX11_error 1 r_4 M_3 (fun r_17 M_16 => Q1 (bm r_17) M_16))) := by
    intro o ho0 ho1
    refine row_both (Rl := RL) (g := bm) (B := fun M Q => wX12_worth 125 a b c M Q) (TK := fun Q2 r M_7 => BR (bm r ≤ 0) (wX12_worthNow 125 M_7 (fun r_10 M_9 => wX12_partOf r_10 c M_9 (fun r_12 M_11 => Q2 r_12 M_11))) (wX12_error 125 r M_7 (fun r_14 M_13 => Q2 (bm r_14) M_13))) hI ea eb (fun r r2 h => by show bl (bm r) = bl (bm r2); rw [h]) hQ1 (fun r M' hr he => BR_f (by rcases hr with rfl | rfl | rfl <;> decide +kernel) he) (fun hb M1 Q2 h126 he => ?_) (fun k hk hak ho M1 Q2 _ ht => ?_) (fun r M1 Q2 hr he => BR_f (by rcases hr with rfl | rfl <;> decide +kernel) he) (fun k v n r hk hak ho hbk hbv hsh M' f h1 h2 h3 => BR_t bm0 ?_)
    · unfold wX12_worth wX12_worth_J16
      exact sh_i ea (fun hs => BR_f q1 (mi_i (fun hc => absurd hc (by rcases hb with h | h; exact absurd hs h; exact ho0 h)) (fun hc => BR_t q0 he))) (fun hs => BR_t q0 he)
    · subst hak
      unfold wX12_worth
      exact sh_i ea (fun hs => BR_f q1 (mi_t (ho1 ho) (BR_f q1 ht))) (fun hs => absurd (by omega) hs)
    · subst hak hbv
      have hsc := scr87 f
      have hw' : WzOk M' := hI.wz.congr fun a q1 q2 => f a (by omega) (by omega)
      refine lf_onS hI hsc hw' hnl (lf_along87 hI hsh f h1 h2 h3 (Nat.lt_of_lt_of_le (bits_lt nl) (p2le (m := 12) (by omega))) rfl fun M2 g1 g2 g3 g4 g5 g6 g7 g8 g9 => lf_total hz g4 hnl g5 g7 hsh.2.1 g8 g9 (lf_partOf (by have := worth_b hz v n (rl r n); omega) (hQ1 _ _ fun Q2 hQ2 => ?_)))
      unfold wX12_worth
      refine sh_i ea (fun hs => BR_f q1 (mi_t (ho1 ho) (BR_f q1 (mf_tookS hI hk hbk hsh g1 fun M3 ft hmb hR hL => BR_t (by decide +kernel) ?_)))) (fun hs => absurd (by omega) hs)
      exact mf_worthNow hz hmb hR hsh.2.1 hsh.2.2.1 hsh.z hsh.2.2.2.2.2 hL fun M4 fp => mf_partOf (by have := worth_b hz v n (rl r n); omega) (hQ2 _ _ rfl (fin_inv hI g1 g2 ft fp))
  unfold wX11_worth
  exact wi_i (fun h => key 1 (fun h0 => absurd h0 q1) (fun _ => h)) (fun h => key 0 (fun _ => h) (fun h0 => absurd q0 h0))
theorem st_worthBy {t : Int} {M : Mem} (hI : Inv t M) {a b c : Int} (ea : bm a = a) (eb : bm b = b) (ec : bm c = c) : Step t M (fun M Q => wX11_worthBy 1 a b c M Q) (fun M Q => wX12_worthBy 125 a b c M Q) := by
  intro Q1 hQ1
  have hz := hI.zok
  obtain ⟨nl, hn, hn10, c2⟩ := hI.nl
  have key : ∀ o : Int, (bm o = 0 → ¬ (bm 0 ≤ bm c ∧ bm c ≤ bm ((nl : Int) - 1))) → (bm o ≠ 0 → (bm 0 ≤ bm c ∧ bm c ≤ bm ((nl : Int) - 1))) → wX11_worthBy_J16 Q1 1 c o b a 1 M := by
    intro o ho0 ho1
    unfold wX11_worthBy_J16
    refine row_both (Rl := RI) (g := fun x => x) (B := fun M Q => wX12_worthBy 125 a b c M Q) (TK := fun Q2 r M_7 => BR (bm r ≤ 0) (wX12_by 125 c M_7 (fun r_10 M_9 => Q2 r_10 M_9)) (wX12_error 125 r M_7 (fun r_12 M_11 => Q2 r_12 M_11))) hI ea eb (fun r r2 h => h) hQ1 (fun r M' hr he => BR_f (by rcases hr with rfl | rfl | rfl <;> decide +kernel) he) (fun hb M1 Q2 h126 he => ?_) (fun k hk hak ho M1 Q2 h126 ht => ?_) (fun r M1 Q2 hr he => BR_f (by rcases hr with rfl | rfl <;> decide +kernel) he) (fun k v n r hk hak ho hbk hbv hsh M' f h1 h2 h3 => BR_t bm0 ?_)
    · unfold wX12_worthBy wX12_worthBy_J15
      exact sh_i ea (fun hs => BR_f q1 (lf_isLik (n := nl) (by rw [h126]; exact hn) (fun hc => absurd hc (by rcases hb with h | h; exact absurd hs h; exact ho0 h)) (fun hc => BR_t q0 he))) (fun hs => BR_t q0 he)
    · subst hak
      unfold wX12_worthBy
      exact sh_i ea (fun hs => BR_f q1 (lf_isLik (n := nl) (by rw [h126]; exact hn) (fun _ => BR_f q1 ht) (fun h => absurd (ho1 ho) h))) (fun hs => absurd (by omega) hs)
    · subst hak hbv
      have hcl := ho1 ho
      rw [bm0, ec, bm_id (z := (nl : Int) - 1) (by omega) (by omega)] at hcl
      obtain ⟨l, rfl⟩ : ∃ l : Nat, c = (l : Int) := ⟨c.toNat, by omega⟩
      have hlz : (l : Int) < vw (M 126) 1 := by rw [vw_at (by omega), hn]; omega
      refine lf_along87 hI hsh f h1 h2 h3 (b := 2 ^ l) (Nat.lt_of_lt_of_le (Nat.pow_lt_pow_right (by decide) (show l < 12 by omega)) (Nat.le_refl _)) (shl_one l (by omega)) fun M2 g1 g2 g3 g4 g5 g6 g7 g8 g9 => lf_totalBy hz g4 g5 hsh.2.1 g8 g9 hlz (by rw [Nat.testBit_two_pow]; exact decide_eq_true rfl) fun x hx => hQ1 _ _ fun Q2 hQ2 => ?_
      have e126 : M2 126 = M 126 := g1.s (by omega)
      unfold wX12_worthBy
      refine sh_i ea (fun hs => BR_f q1 (lf_isLik (n := nl) (by rw [e126]; exact hn) (fun _ => BR_f q1 (mf_tookS hI hk hbk hsh g1 fun M3 ft hmb hR hL => BR_t (by decide +kernel) ?_)) (fun h => absurd (ho1 ho) h))) (fun hs => absurd (by omega) hs)
      exact mf_by hz hmb hR hsh.2.1 hsh.2.2.1 hsh.z hsh.2.2.2.2.2 hL hlz fun M4 y fp hy => hQ2 _ _ (by rw [hx, hy]) (fin_inv hI g1 g2 ft fp)
  unfold wX11_worthBy
  exact lf_noLik c2 (fun h => BR_t q0 (key 1 (fun h0 => absurd h0 q1) (fun _ => h))) (fun h => BR_f q1 (key 0 (fun _ => h) (fun h0 => absurd q0 h0)))
theorem st_tired {t : Int} {M : Mem} (hI : Inv t M) {a b c d : Int} (ea : bm a = a) (eb : bm b = b) (ec : bm c = c) (ed : bm d = d) : Step t M (fun M Q => wX11_tired 1 a b c d M Q) (fun M Q => wX12_tired 125 a b c d M Q) := by
  intro Q1 hQ1
  have hz := hI.zok
  have key : ∀ o : Int, (bm o = 0 → ¬ (bm 0 ≤ bm c ∧ bm c ≤ bm 7)) → (bm o ≠ 0 → (bm 0 ≤ bm c ∧ bm c ≤ bm 7)) → wX11_rowFault 1 a b o M (fun r_4 M_3 => BR (bm r_4 = 0) (wX11_within d 0 ((M_3 (1 + 86) 1) - 1) M_3 (fun r_15 M_14 => BR (bm r_15 = 0) (wX11_tired_J41 Q1 1 c d 1 M_14) (wX11_tired_J41 Q1 1 c d r_4 M_14))) (wX11_tired_J41 Q1 1 c d r_4 M_3)) := by
    intro o ho0 ho1
    refine row_both (Rl := RI) (g := fun x => x) (B := fun M Q => wX12_tired 125 a b c d M Q) (TK := fun Q2 r M_7 => BR (bm r ≤ 0) (wX12_in d 0 ((M_7 125 13) - 1) M_7 (fun r_10 M_9 => BR (bm r_10 = 0) (wX12_error 125 1 M_9 (fun r_12 M_11 => Q2 r_12 M_11)) (inb ((8 * d) + c) 96 ∧ Q2 (rd M_9 (125 + 10) ((8 * d) + c)) M_9))) (wX12_error 125 r M_7 (fun r_16 M_15 => Q2 r_16 M_15))) hI ea eb (fun r r2 h => h) hQ1 (fun r M' hr he => BR_f (by rcases hr with rfl | rfl | rfl <;> decide +kernel) ?_) (fun hb M1 Q2 h126 he => ?_) (fun k hk hak ho M1 Q2 h126 ht => ?_) (fun r M1 Q2 hr he => BR_f (by rcases hr with rfl | rfl <;> decide +kernel) he) (fun k v n r hk hak ho hbk hbv hsh M' f h1 h2 h3 => BR_t bm0 ?_)
    · unfold wX11_tired_J41
      exact BR_f (by rcases hr with rfl | rfl | rfl <;> decide +kernel) he
    · unfold wX12_tired wX12_tired_J17
      exact sh_i ea (fun hs => BR_f q1 (mi_i (fun hc => absurd hc (by rcases hb with h | h; exact absurd hs h; exact ho0 h)) (fun hc => BR_t q0 he))) (fun hs => BR_t q0 he)
    · subst hak
      unfold wX12_tired
      exact sh_i ea (fun hs => BR_f q1 (mi_t (ho1 ho) (BR_f q1 ht))) (fun hs => absurd (by omega) hs)
    · subst hak hbv
      have hsc := scr87 f
      have hn12 := hsh.2.1
      rw [show M' (1 + 86) 1 = (n : Int) from h1]
      have hcl := ho1 ho
      rw [bm0, ec, li_7] at hcl
      obtain ⟨p, rfl⟩ : ∃ p : Nat, c = (p : Int) := ⟨c.toNat, by omega⟩
      refine wi_i (fun hd => BR_f q1 ?_) (fun hd => BR_t q0 ?_)
      · rw [bm0, ed, bm_id (z := (n : Int) - 1) (by omega) (by omega)] at hd
        obtain ⟨i, rfl⟩ : ∃ i : Nat, d = (i : Int) := ⟨d.toNat, by omega⟩
        unfold wX11_tired_J41
        refine BR_t bm0 (lf_along87 hI hsh f h1 h2 h3 (b := 0) (by decide) rfl fun M2 g1 g2 g3 g4 g5 g6 g7 g8 g9 => ⟨inb_of (n := 8 * (i + 1) + p) (by omega) (by omega) (by decide), ?_⟩)
        rw [rd_at (i := ((i : Int) + 1) * 8 + (p : Int)) (n := 8 * (i + 1) + p) (by omega) (by omega), show (1 : Nat) + 98 = 99 from rfl, (g8.2 (i + 1) (by omega)).2.2.2.2.2 p (by omega)]
        refine hQ1 _ _ fun Q2 hQ2 => ?_
        unfold wX12_tired
        refine sh_i ea (fun hs => BR_f q1 (mi_t (ho1 ho) (BR_f q1 (mf_tookS hI hk hbk hsh g1 fun M3 ft hmb hR hL => BR_t (by decide +kernel) (mi_t ?_ (BR_f q1 ⟨inb_of (n := 8 * i + p) (by omega) (by omega) (by decide), ?_⟩)))))) (fun hs => absurd (by omega) hs)
        · rw [hR.1, bm0, ed, bm_id (z := (n : Int) - 1) (by omega) (by omega)]
          exact hd
        · rw [rd_at (i := 8 * (i : Int) + (p : Int)) (n := 8 * i + p) (by omega) (by omega), show (125 : Nat) + 10 = 135 from rfl, (hL i (by omega)).2.2 p (by omega)]
          exact hQ2 _ _ rfl (fin_inv hI g1 g2 ft FrP.rf)
      · unfold wX11_tired_J41
        have hw' : WzOk M' := hI.wz.congr fun a q1 q2 => f a (by omega) (by omega)
        refine BR_f q1 (lf_error11 (k := 1) rfl (by decide) (by decide) (hQ1 _ _ fun Q2 hQ2 => ?_))
        have hsc1 : Scr (up M 86 1 (M 86 1 + 1)) (up M' 86 1 (M' 86 1 + 1)) := ⟨fun x q1 _ _ _ _ _ _ => by
          by_cases hx : x = 86
          · subst hx
            funext j
            rw [up_k, up_k, f 86 (by decide) (by decide)]
          · rw [up_c hx, up_c hx, f x (by omega) (by omega)], by rw [up_c (by decide), up_c (by decide), f 125 (by decide) (by decide)], by rw [up_c (by decide), up_c (by decide), f 125 (by decide) (by decide)]⟩
        unfold wX12_tired
        refine sh_i ea (fun hs => BR_f q1 (mi_t (ho1 ho) (BR_f q1 (mf_took hI hk hbk hsh ?_ ?_ ?_ ?_ ?_ fun M3 ft hR hL => BR_t (by decide +kernel) (mi_f ?_ (BR_t q0 ?_)))))) (fun hs => absurd (by omega) hs)
        · rw [up_c (by decide), f 126 (by decide) (by decide)]
        · rw [up_c (by decide), f 144 (by decide) (by decide)]
        · rw [up_c (by decide), f 145 (by decide) (by decide)]
        · rw [up_c (by decide), f 146 (by decide) (by decide)]
        · intro x q1 q2
          rw [up_c (by omega), f x (by omega) (by omega)]
        · rw [hR.1]
          exact hd
        · exact er12 hI (k := 1) rfl (by decide) (hsc1.tr ft.scr) (hw'.congr fun x q1 q2 => by rw [ft.1 x (by omega) (by omega) (by omega) (by omega) (by omega), up_c (by omega)]) hQ2
  unfold wX11_tired
  exact wi_i (fun h => key 1 (fun h0 => absurd h0 q1) (fun _ => h)) (fun h => key 0 (fun _ => h) (fun h0 => absurd q0 h0))
theorem st_begins {t : Int} {M : Mem} (hI : Inv t M) {a b d : Int} (ea : bm a = a) (eb : bm b = b) (ed : bm d = d) : Step t M (fun M Q => wX11_begins 1 a b d M Q) (fun M Q => wX12_begins 125 a b d M Q) := by
  intro Q1 hQ1
  have hz := hI.zok
  unfold wX11_begins
  refine row_both (Rl := RI) (g := fun x => x) (B := fun M Q => wX12_begins 125 a b d M Q) (TK := fun Q2 r M_3 => BR (bm r ≤ 0) (wX12_in d 0 ((M_3 125 13) - 1) M_3 (fun r_6 M_5 => BR (bm r_6 = 0) (wX12_error 125 1 M_5 (fun r_8 M_7 => Q2 r_8 M_7)) (inb d 12 ∧ Q2 (rd M_5 (125 + 8) d) M_5))) (wX12_error 125 r M_3 (fun r_12 M_11 => Q2 r_12 M_11))) hI ea eb (fun r r2 h => h) hQ1 (fun r M' hr he => BR_f (by rcases hr with rfl | rfl | rfl <;> decide +kernel) ?_) (fun hb M1 Q2 h126 he => ?_) (fun k hk hak ho M1 Q2 h126 ht => ?_) (fun r M1 Q2 hr he => BR_f (by rcases hr with rfl | rfl <;> decide +kernel) he) (fun k v n r hk hak ho hbk hbv hsh M' f h1 h2 h3 => BR_t bm0 ?_)
  · unfold wX11_begins_J34
    exact BR_f (by rcases hr with rfl | rfl | rfl <;> decide +kernel) he
  · unfold wX12_begins
    exact sh_i ea (fun hs => by rcases hb with h | h; exact absurd hs h; exact absurd h q1) (fun hs => BR_t q0 he)
  · subst hak
    unfold wX12_begins
    exact sh_i ea (fun hs => BR_f q1 ht) (fun hs => absurd (by omega) hs)
  · subst hak hbv
    have hsc := scr87 f
    have hn12 := hsh.2.1
    rw [show M' (1 + 86) 1 = (n : Int) from h1]
    refine wi_i (fun hd => BR_f q1 ?_) (fun hd => BR_t q0 ?_)
    · rw [bm0, ed, bm_id (z := (n : Int) - 1) (by omega) (by omega)] at hd
      obtain ⟨i, rfl⟩ : ∃ i : Nat, d = (i : Int) := ⟨d.toNat, by omega⟩
      unfold wX11_begins_J34
      refine BR_t bm0 (lf_along87 hI hsh f h1 h2 h3 (b := 0) (by decide) rfl fun M2 g1 g2 g3 g4 g5 g6 g7 g8 g9 => ⟨inb_of rfl (by omega) (by decide), ?_⟩)
      rw [rd_at (n := i) rfl (by omega), show (1 : Nat) + 92 = 93 from rfl, (g8.1 i (by omega)).2]
      refine hQ1 _ _ fun Q2 hQ2 => ?_
      unfold wX12_begins
      refine sh_i ea (fun hs => BR_f q1 (mf_tookS hI hk hbk hsh g1 fun M3 ft hmb hR hL => BR_t (by decide +kernel) (mi_t ?_ (BR_f q1 ⟨inb_of rfl (by omega) (by decide), ?_⟩)))) (fun hs => absurd (by omega) hs)
      · rw [hR.1, bm0, ed, bm_id (z := (n : Int) - 1) (by omega) (by omega)]
        exact hd
      · rw [rd_at (n := i) rfl (by omega), show (125 : Nat) + 8 = 133 from rfl, (hL i (by omega)).1]
        exact hQ2 _ _ rfl (fin_inv hI g1 g2 ft FrP.rf)
    · unfold wX11_begins_J34
      have hw' : WzOk M' := hI.wz.congr fun a q1 q2 => f a (by omega) (by omega)
      refine BR_f q1 (lf_error11 (k := 1) rfl (by decide) (by decide) (hQ1 _ _ fun Q2 hQ2 => ?_))
      have hsc1 : Scr (up M 86 1 (M 86 1 + 1)) (up M' 86 1 (M' 86 1 + 1)) := ⟨fun x q1 _ _ _ _ _ _ => by
        by_cases hx : x = 86
        · subst hx
          funext j
          rw [up_k, up_k, f 86 (by decide) (by decide)]
        · rw [up_c hx, up_c hx, f x (by omega) (by omega)], by rw [up_c (by decide), up_c (by decide), f 125 (by decide) (by decide)], by rw [up_c (by decide), up_c (by decide), f 125 (by decide) (by decide)]⟩
      unfold wX12_begins
      refine sh_i ea (fun hs => BR_f q1 (mf_took hI hk hbk hsh ?_ ?_ ?_ ?_ ?_ fun M3 ft hR hL => BR_t (by decide +kernel) (mi_f ?_ (BR_t q0 ?_)))) (fun hs => absurd (by omega) hs)
      · rw [up_c (by decide), f 126 (by decide) (by decide)]
      · rw [up_c (by decide), f 144 (by decide) (by decide)]
      · rw [up_c (by decide), f 145 (by decide) (by decide)]
      · rw [up_c (by decide), f 146 (by decide) (by decide)]
      · intro x q1 q2
        rw [up_c (by omega), f x (by omega) (by omega)]
      · rw [hR.1]
        exact hd
      · exact er12 hI (k := 1) rfl (by decide) (hsc1.tr ft.scr) (hw'.congr fun x q1 q2 => by rw [ft.1 x (by omega) (by omega) (by omega) (by omega) (by omega), up_c (by omega)]) hQ2
theorem jc_L {z : Fl} {v n : Nat} {r : Nat → Nat} {M : Mem} {Q : Int → Mem → Prop} (hz : ZOk z) (hb : MB z M) (hR : RB v n r M) (hn12 : n ≤ 12) (hr : RowPs z r n) (hQ : Q (cr z (rl r n)) M) : ∀ (m i : Nat) (x5 x6 : Int), i + m = n → 1 ≤ i → x6 = (i : Int) → x5 = cr z (rl r i) → wX12_judge_L90 Q 125 (m + 1) x5 x6 M
  | 0, i, x5, x6, hi, hi1, h6, h5 => by
    subst h6 h5
    obtain rfl : i = n := by omega
    unfold wX12_judge_L90
    rw [hR.1]
    exact BR_t (Int.le_refl _) hQ
  | m + 1, i, x5, x6, hi, hi1, h6, h5 => by
    subst h6 h5
    obtain ⟨p, rfl⟩ : ∃ p, i = p + 1 := ⟨i - 1, by omega⟩
    unfold wX12_judge_L90
    rw [hR.1, bm_nat (n := n) (by omega), bm_nat (n := p + 1) (by omega), show (((p + 1 : Nat) : Int) - 1) = (p : Int) by omega, row_at (i := p) hR hn12 (by omega) rfl rfl, row_at (i := p + 1) hR hn12 (by omega) rfl rfl]
    refine BR_f (by omega) ⟨inb_of rfl (by omega) (by decide), inb_of rfl (by omega) (by decide), mf_car hz hb (hr p (by omega)) (hr (p + 1) (by omega)) rfl rfl (LET_i (LET_i (jc_L hz hb hR hn12 hr hQ m (p + 1 + 1) _ _ (by omega) (by omega) (by omega) ?_)))⟩
    show _ = cr z (r (p + 1) :: r p :: rl r p)
    rw [cr_cons]
    rfl
theorem st_judge {t : Int} {M : Mem} (hI : Inv t M) {a b c : Int} (ea : bm a = a) (eb : bm b = b) (ec : bm c = c) : Step t M (fun M Q => wX11_judge 1 a b c M Q) (fun M Q => wX12_judge 125 a b c M Q) := by
  intro Q1 hQ1
  have hz := hI.zok
  have key : ∀ o : Int, (bm o = 0 → ¬ (bm 0 ≤ bm c ∧ bm c ≤ bm 4)) → (bm o ≠ 0 → (bm 0 ≤ bm c ∧ bm c ≤ bm 4)) → wX11_rowFault 1 a b o M (fun r_4 M_3 => BR (bm r_4 = 0) (wX10_along (1 + 90) (1 + 86) 0 M_3 (fun M_7 => BR (bm c = 0) (inb (M_7 (1 + 86) 1) 13 ∧ Q1 (rd M_7 (1 + 93) (M_7 (1 + 86) 1)) M_7) (BR (bm c = 1) (inb (M_7 (1 + 86) 1) 13 ∧ Q1 (rd M_7 (1 + 94) (M_7 (1 + 86) 1)) M_7) (BR (bm c = 2) (inb (M_7 (1 + 86) 1) 13 ∧ Q1 (rd M_7 (1 + 97) (M_7 (1 + 86) 1)) M_7) (BR (bm c = 3) (inb (M_7 (1 + 86) 1) 13 ∧ Q1 (rd M_7 (1 + 96) (M_7 (1 + 86) 1)) M_7) (wX10_isGood (1 + 90) (M_7 (1 + 86) 1) M_7 (fun r_27 M_26 => BR (bm r_27 = 0) (Q1 0 M_26) (Q1 1 M_26)))))))) (wX11_error 1 r_4 M_3 (fun r_29 M_28 => Q1 r_29 M_28))) := by
    intro o ho0 ho1
    refine row_both (Rl := RI) (g := fun x => x) (B := fun M Q => wX12_judge 125 a b c M Q) (TK := fun Q2 r M_7 => BR (bm r ≤ 0) (BR (bm c = 0) (inb ((M_7 125 13) - 1) 12 ∧ Q2 (rd M_7 (125 + 9) ((M_7 125 13) - 1)) M_7) (BR (bm c = 1) (∃ N_20, wX12_judge_L90 Q2 125 N_20 0 1 M_7) (BR (bm c = 2) (wX12_greatestTired 125 M_7 (fun r_22 M_21 => Q2 r_22 M_21)) (BR (bm c = 3) (wX12_broken 125 M_7 (fun r_24 M_23 => Q2 r_24 M_23)) (wX12_isGood 125 M_7 (fun r_26 M_25 => BR (bm r_26 = 0) (Q2 0 M_25) (Q2 1 M_25))))))) (wX12_error 125 r M_7 (fun r_28 M_27 => Q2 r_28 M_27))) hI ea eb (fun r r2 h => h) hQ1 (fun r M' hr he => BR_f (by rcases hr with rfl | rfl | rfl <;> decide +kernel) he) (fun hb M1 Q2 h126 he => ?_) (fun k hk hak ho M1 Q2 h126 ht => ?_) (fun r M1 Q2 hr he => BR_f (by rcases hr with rfl | rfl <;> decide +kernel) he) (fun k v n r hk hak ho hbk hbv hsh M' f h1 h2 h3 => BR_t bm0 ?_)
    · unfold wX12_judge wX12_judge_J16
      exact sh_i ea (fun hs => BR_f q1 (mi_i (fun hc => absurd hc (by rcases hb with h | h; exact absurd hs h; exact ho0 h)) (fun hc => BR_t q0 he))) (fun hs => BR_t q0 he)
    · subst hak
      unfold wX12_judge
      exact sh_i ea (fun hs => BR_f q1 (mi_t (ho1 ho) (BR_f q1 ht))) (fun hs => absurd (by omega) hs)
    · subst hak hbv
      have hn12 := hsh.2.1
      have hvn := hsh.2.2.1
      refine lf_along87 hI hsh f h1 h2 h3 (b := 0) (by decide) rfl fun M2 g1 g2 g3 g4 g5 g6 g7 g8 g9 => ?_
      obtain ⟨a94, a95, a96, a97, a98, a99⟩ := g8.2 n (Nat.le_refl n)
      have e87 : M2 (1 + 86) 1 = (n : Int) := by rw [show (1 : Nat) + 86 = 87 from rfl, g3 87 (by omega)]; exact h1
      have er : ∀ K : Nat, rd M2 K (n : Int) = M2 K n := fun K => rd_at rfl (by omega)
      rw [e87, er, er, er, er]
      have ref : ∀ (x : Int), (∀ M3 Q2, FrT M2 M3 → MB (vw (M 126)) M3 → RB v n r M3 → LaidAt (vw (M 126)) v r n M3 → Q2 x M3 → BR (bm c = 0) (inb ((M3 125 13) - 1) 12 ∧ Q2 (rd M3 (125 + 9) ((M3 125 13) - 1)) M3) (BR (bm c = 1) (∃ N_20, wX12_judge_L90 Q2 125 N_20 0 1 M3) (BR (bm c = 2) (wX12_greatestTired 125 M3 (fun r_22 M_21 => Q2 r_22 M_21)) (BR (bm c = 3) (wX12_broken 125 M3 (fun r_24 M_23 => Q2 r_24 M_23)) (wX12_isGood 125 M3 (fun r_26 M_25 => BR (bm r_26 = 0) (Q2 0 M_25) (Q2 1 M_25))))))) → Q1 x M2 := by
        intro x hx
        refine hQ1 _ _ fun Q2 hQ2 => ?_
        unfold wX12_judge
        refine sh_i ea (fun hs => BR_f q1 (mi_t (ho1 ho) (BR_f q1 (mf_tookS hI hk hbk hsh g1 fun M3 ft hmb hR hL => BR_t (by decide +kernel) (hx M3 Q2 ft hmb hR hL (hQ2 _ _ rfl (fin_inv hI g1 g2 ft FrP.rf))))))) (fun hs => absurd (by omega) hs)
      refine BR_i (fun h => ⟨inb_of rfl (by omega) (by decide), ref _ fun M3 Q2 ft hmb hR hL hq => BR_t h ?_⟩) (fun n0 => BR_i (fun h => ⟨inb_of rfl (by omega) (by decide), ref _ fun M3 Q2 ft hmb hR hL hq => BR_f n0 (BR_t h ?_)⟩) (fun n1 => BR_i (fun h => ⟨inb_of rfl (by omega) (by decide), ref _ fun M3 Q2 ft hmb hR hL hq => BR_f n0 (BR_f n1 (BR_t h ?_))⟩) (fun n2 => BR_i (fun h => ⟨inb_of rfl (by omega) (by decide), ref _ fun M3 Q2 ft hmb hR hL hq => BR_f n0 (BR_f n1 (BR_f n2 (BR_t h ?_)))⟩) (fun n3 => ?_))))
      · obtain ⟨p, rfl⟩ : ∃ p, n = p + 1 := ⟨n - 1, by omega⟩
        rw [hR.1, show (((p + 1 : Nat) : Int) - 1) = (p : Int) by omega]
        refine ⟨inb_of rfl (by omega) (by decide), ?_⟩
        rw [rd_at (n := p) rfl (by omega), show (125 : Nat) + 9 = 134 from rfl, (hL p (by omega)).2.1]
        rw [show (1 : Nat) + 93 = 94 from rfl, a94] at hq
        exact hq
      · refine ⟨n - 1 + 1, jc_L hz hmb hR hn12 hsh.z ?_ (n - 1) 1 _ _ (by omega) (by omega) rfl rfl⟩
        rw [show (1 : Nat) + 94 = 95 from rfl, a95] at hq
        exact hq
      · refine mf_greatest hz hR hn12 hsh.z hL ?_
        rw [show (1 : Nat) + 97 = 98 from rfl, a98] at hq
        exact hq
      · refine mf_broken hz hmb hR hn12 (by omega) hsh.z hsh.2.2.2.2.2 hL ?_
        rw [show (1 : Nat) + 96 = 97 from rfl, a97] at hq
        exact hq
      · refine lf_isGood hz g4 g5 hn12 (Nat.le_refl n) hsh.z g8 ?_
        have hrf : ∀ x : Int, x = (if goodb (vw (M 126)) v n (rl r n) = true then 1 else 0) → Q1 x M2 := by
          intro x hx
          refine ref _ fun M3 Q2 ft hmb hR hL hq => BR_f n0 (BR_f n1 (BR_f n2 (BR_f n3 (mf_isGood hz hmb hR hn12 (by omega) hsh.z hsh.2.2.2.2.2 hL ?_))))
          rw [← hx]
          split at hx
          · subst hx
            exact BR_f q1 hq
          · subst hx
            exact BR_t q0 hq
        split
        · exact BR_f q1 (hrf _ (by rw [if_pos (by assumption)]))
        · exact BR_t q0 (hrf _ (by rw [if_neg (by assumption)]))
  unfold wX11_judge
  exact wi_i (fun h => key 1 (fun h0 => absurd h0 q1) (fun _ => h)) (fun h => key 0 (fun _ => h) (fun h0 => absurd q0 h0))
