theorem ShRow.cg {M M' : Mem} {k v n : Nat} {r : Nat → Nat} (h : ShRow M k v n r) (e : ∀ a, (a = 126 ∨ a = 145 ∨ a = 146) → M' a = M a) : ShRow M' k v n r := by
  obtain ⟨h1, h2, h3, h4, h5, h6⟩ := h
  exact ⟨by rw [e 145 (by omega)]; exact h1, h2, h3, fun i hi => by rw [e 146 (by omega)]; exact h4 i hi, by rw [e 126 (by omega)]; exact h5, h6⟩
theorem st_ill {t : Int} {M : Mem} (hI : Inv t M) {a b c d : Int} (ea : bm a = a) (eb : bm b = b) (ec : bm c = c) (ed : bm d = d) : Step t M (fun M Q => wX11_ill 1 a b c d M Q) (fun M Q => wX12_ill 125 a b c d M Q) := by
  intro Q1 hQ1
  have hz := hI.zok
  have n2 : bm (-2) = -2 := by decide +kernel
  have n1 : bm (-1) = -1 := li_n1
  have e2 : bm 2 = 2 := by decide +kernel
  have e7 : bm 7 = 7 := by decide +kernel
  have key : ∀ o : Int, (bm o = 0 → ¬ (-2) ≤ bm d) → (bm o ≠ 0 → (-2) ≤ bm d) → wX11_ill_J15 Q1 1 c d o b a 1 M := by
    intro o ho0 ho1
    have ce : ∀ (x : Int) (M' : Mem), ¬ bm x = 0 → wX11_error 1 x M' (fun r M => Q1 r M) → wX11_ill_J44 Q1 1 c d x M' := by
      intro x M' hx he
      unfold wX11_ill_J44 wX11_ill_J69 wX11_ill_J111
      exact BR_f hx (BR_f hx (BR_f hx he))
    have ce2 : ∀ (x : Int) (M' : Mem), ¬ bm x = 0 → wX11_error 1 x M' (fun r M => Q1 r M) → wX11_ill_J69 Q1 1 c d x M' := by
      intro x M' hx he
      unfold wX11_ill_J69 wX11_ill_J111
      exact BR_f hx (BR_f hx he)
    unfold wX11_ill_J15
    refine row_both (Rl := RI) (g := fun x => x) (B := fun M Q => wX12_ill 125 a b c d M Q) (TK := fun Q2 r M_5 => BR (bm r ≤ 0) (wX12_in (M_5 125 13) 2 7 M_5 (fun r_8 M_7 => BR (bm r_8 = 0) (wX12_error 125 5 M_7 (fun r_53 M_52 => Q2 r_53 M_52)) (wX12_in c 0 ((M_7 125 13) - 1) M_7 (fun r_10 M_9 => BR (bm r_10 = 0) (wX12_error 125 1 M_9 (fun r_51 M_50 => Q2 r_51 M_50)) (∃ N_49, wX12_ill_L88 Q2 (fun x6_25 x7_26 M_27 => BR (bm b ≤ bm c) (wX12_ill_J151 Q2 125 b d x6_25 x7_26 0 b M_27) (wX12_ill_J151 Q2 125 b d x6_25 x7_26 1 b M_27)) 125 b c d N_49 0 0 0 M_9))))) (wX12_error 125 r M_5 (fun r_55 M_54 => Q2 r_55 M_54))) hI ea eb (fun r r2 h => h) hQ1 (fun r M' hr he => BR_f (by rcases hr with rfl | rfl | rfl <;> decide +kernel) (ce _ _ (by rcases hr with rfl | rfl | rfl <;> decide +kernel) he)) (fun hb M1 Q2 h126 he => ?_) (fun k hk hak ho M1 Q2 h126 ht => ?_) (fun r M1 Q2 hr he => BR_f (by rcases hr with rfl | rfl <;> decide +kernel) he) (fun k v n r hk hak ho hbk hbv hsh M' f h1 h2 h3 => BR_t bm0 ?_)
    · unfold wX12_ill wX12_ill_J14
      exact sh_i ea (fun hs => BR_f q1 (BR_f (by rcases hb with h | h; exact absurd hs h; exact ho0 h) he)) (fun hs => BR_t q0 he)
    · subst hak
      unfold wX12_ill
      exact sh_i ea (fun hs => BR_f q1 (BR_t (ho1 ho) ht)) (fun hs => absurd (by omega) hs)
    · subst hak hbv
      have hd := ho1 ho
      have hn12 := hsh.2.1
      have hvn := hsh.2.2.1
      have hcb : CB (vw (M 126)) M' := hI.cb.congr hz fun c hc => f c (by omega) (by omega)
      have hw' : WzOk M' := hI.wz.congr fun c q1 q2 => f c (by omega) (by omega)
      have hI' : Inv t M' := hI.scr (scr87 f) hw'
      -- the reference takes the row
      have ref : ∀ (M2 M1 : Mem) (Q2 : Int → Mem → Prop), Inv t M2 → (∀ x, (x = 126 ∨ (144 ≤ x ∧ x ≤ 146)) → M2 x = M x) → (∀ x, x ≠ 86 → M1 x = M2 x) → (∀ M3, FrT M1 M3 → MB (vw (M 126)) M3 → RB v n r M3 → wX12_in (n : Int) 2 7 M3 (fun r_8 M_7 => BR (bm r_8 = 0) (wX12_error 125 5 M_7 (fun r_53 M_52 => Q2 r_53 M_52)) (wX12_in c 0 ((M_7 125 13) - 1) M_7 (fun r_10 M_9 => BR (bm r_10 = 0) (wX12_error 125 1 M_9 (fun r_51 M_50 => Q2 r_51 M_50)) (∃ N_49, wX12_ill_L88 Q2 (fun x6_25 x7_26 M_27 => BR (bm (v : Int) ≤ bm c) (wX12_ill_J151 Q2 125 (v : Int) d x6_25 x7_26 0 (v : Int) M_27) (wX12_ill_J151 Q2 125 (v : Int) d x6_25 x7_26 1 (v : Int) M_27)) 125 (v : Int) c d N_49 0 0 0 M_9))))) → wX12_ill 125 (k : Int) (v : Int) c d M1 Q2 := by
        intro M2 M1 Q2 hI2 e h1 hx
        unfold wX12_ill
        refine sh_i ea (fun hs => BR_f q1 (BR_t hd (mf_tookE hI2 hk (by rw [e 144 (by omega)]; exact hbk) (hsh.cg fun x hx => e x (by omega)) Scr.rf h1 fun M3 ft hmb hR hL => BR_t (by decide +kernel) ?_))) (fun hs => absurd (by omega) hs)
        rw [hR.1]
        rw [e 126 (by omega)] at hmb
        exact hx M3 ft hmb hR
      have err : ∀ (M2 : Mem) (k : Nat) (i : Int), i = (k : Int) → k ≤ 6 → Inv t M2 → ∀ Q2 : Int → Mem → Prop, (∀ r2 M2, bm (-1000000 - (k : Int)) = bm r2 → Inv (t + 1) M2 → Q2 r2 M2) → ∀ M3, Scr (up M2 86 k (M2 86 k + 1)) M3 → (∀ a, 94 ≤ a → a ≤ 100 → M3 a = M2 a) → wX12_error 125 i M3 (fun r M => Q2 r M) := by
        intro M2 k i hi hk hI2 Q2 hQ2 M3 hs hw
        exact er12 hI2 hi hk hs (hI2.wz.congr hw) hQ2
      have ft94 : ∀ {M2 M1 M3 : Mem}, (∀ x, x ≠ 86 → M1 x = M2 x) → FrT M1 M3 → ∀ a, 94 ≤ a → a ≤ 100 → M3 a = M2 a := fun h1 ft a q1 q2 => by rw [ft.1 a (by omega) (by omega) (by omega) (by omega) (by omega), h1 a (by omega)]
      have u86 : ∀ {M2 : Mem} {k : Nat} {v : Int}, ∀ x, x ≠ 86 → up M2 86 k v x = M2 x := fun x h => up_c h
      have e' : ∀ x, (x = 126 ∨ (144 ≤ x ∧ x ≤ 146)) → M' x = M x := fun x hx => f x (by omega) (by omega)
      rw [show (1 : Nat) + 86 = 87 from rfl, h1]
      refine wi_i (fun hw => BR_f q1 ?_) (fun hw => BR_t q0 (ce 5 M' (by decide +kernel) (lf_error11 (k := 5) rfl (by decide) (by decide) (hQ1 _ _ fun Q2 hQ2 => ref M' _ Q2 hI' e' u86 fun M3 ft hmb hR => mi_i (fun h => absurd h hw) (fun _ => BR_t q0 (err M' 5 _ rfl (by decide) hI' Q2 hQ2 M3 ft.scr (ft94 u86 ft)))))))
      have hw2 := hw
      rw [e2, e7, bm_nat (n := n) (by omega)] at hw2
      unfold wX11_ill_J44
      refine BR_t bm0 ?_
      rw [show (1 : Nat) + 86 = 87 from rfl, h1]
      refine wi_i (fun hc => BR_f q1 ?_) (fun hc => BR_t q0 (ce2 1 M' q1 (lf_error11 (k := 1) rfl (by decide) (by decide) (hQ1 _ _ fun Q2 hQ2 => ref M' _ Q2 hI' e' u86 fun M3 ft hmb hR => mi_t hw (BR_f q1 (by
        rw [hR.1]
        exact mi_i (fun h => absurd h hc) (fun _ => BR_t q0 (err M' 1 _ rfl (by decide) hI' Q2 hQ2 M3 ft.scr (ft94 u86 ft)))))))))
      have hc2 := hc
      rw [bm0, ec, bm_id (z := (n : Int) - 1) (by omega) (by omega)] at hc2
      obtain ⟨o', rfl⟩ : ∃ o' : Nat, c = (o' : Int) := ⟨c.toNat, by omega⟩
      have ho' : o' < n := by omega
      unfold wX11_ill_J69
      refine BR_t bm0 (lf_moveLeast hz hcb hw' h1 h2 h3 (by omega) (by omega) hvn ho' hsh.z hsh.2.2.2.2.2 fun M2 g1 g13 g3 gw g5 hCI => ?_)
      have hI2 : Inv t M2 := by
        refine hI.se (fun a q1 q2 q3 q4 q5 q6 => by rw [g1 a (by omega), f a (by omega) (by omega)]) (by rw [g13, f 103 (by decide) (by decide)]) (by rw [g1 125 (by omega), f 125 (by decide) (by decide)]) (by rw [g1 125 (by omega), f 125 (by decide) (by decide)]) gw (SeOk.off g3)
      have e2' : ∀ x, (x = 126 ∨ (144 ≤ x ∧ x ≤ 146)) → M2 x = M x := fun x hx => by rw [g1 x (by omega), f x (by omega) (by omega)]
      -- no row
      have none2 : (∀ (M4 : Mem) (Q2 : Int → Mem → Prop) (x10 : Int), RIl (vw (M 126)) (n - 1) M4 x10 (ilS (vw (M 126)) r n v o') → wX12_ill_J286 Q2 125 M4 → BR (bm x10 < 0) (wX12_ill_J286 Q2 125 M4) (BR (bm d < bm ((n - 1 : Nat) : Int)) (BR (bm d = (-1)) (Q2 x10 M4) (BR (bm d = (-2)) (Q2 (ivl v o' n : Int) M4) (inb d 12 ∧ Q2 (rd M4 (125 + 11) d) M4))) (wX12_ill_J286 Q2 125 M4))) → wX11_ill_J108 Q1 1 d M2 := by
        intro hx
        unfold wX11_ill_J108 wX11_ill_J111
        refine BR_f (by decide +kernel) (lf_error11 (k := 2) rfl (by decide) (by decide) (hQ1 _ _ fun Q2 hQ2 => ref M2 _ Q2 hI2 e2' u86 fun M3 ft hmb hR => mi_t hw (BR_f q1 ?_)))
        rw [hR.1]
        refine mi_t hc (BR_f q1 (mf_illTail hz hmb hR (by omega) (by omega) hvn ho' hsh.z hsh.2.2.2.2.2 fun M4 x10 hs h94 hRI => hx M4 Q2 x10 hRI ?_))
        unfold wX12_ill_J286
        exact err M2 2 _ rfl (by decide) hI2 Q2 hQ2 M4 (ft.scr.tr hs) fun a q1 q2 => by rw [h94 a q1 q2, ft94 u86 ft a q1 q2]
      rw [show (1 : Nat) + 102 = 103 from rfl, g5, bm_nat (n := n - 1) (by omega), ed]
      cases hst : ilS (vw (M 126)) r n v o' with
      | none =>
        rw [hst] at hCI
        have h6 : M2 103 6 = 0 := hCI
        rw [h6]
        refine BR_t bm0 (none2 fun M4 Q2 x10 hR he => ?_)
        rw [hst] at hR
        have hx : x10 = -1 := hR
        subst hx
        exact BR_t (by rw [n1]; decide) he
      | some p =>
        obtain ⟨mv, cc⟩ := p
        rw [hst] at hCI
        obtain ⟨a1, a2, a3, a4, a5, a6⟩ := hCI
        rw [a1]
        refine BR_f q1 (BR_i (fun hdm => ?_) (fun hdm => none2 fun M4 Q2 x10 hR he => ?_))
        · unfold wX11_ill_J111
          rw [show (1 : Nat) + 102 = 103 from rfl, show (1 : Nat) + 104 = 105 from rfl, show (1 : Nat) + 105 = 106 from rfl, a2, a5, ed]
          have fin : ∀ y : Int, (∀ (M4 : Mem) (Q2 : Int → Mem → Prop), (∀ i, i < n - 1 → M4 136 i = ((cc.1.getD i 0 : Nat) : Int)) → Q2 y M4 → BR (d = (-1)) (Q2 (mv : Int) M4) (BR (d = (-2)) (Q2 (ivl v o' n : Int) M4) (inb d 12 ∧ Q2 (rd M4 (125 + 11) d) M4))) → Q1 y M2 := by
            intro y hy
            refine hQ1 _ _ fun Q2 hQ2 => ref M2 M2 Q2 hI2 e2' (fun _ _ => rfl) fun M3 ft hmb hR => mi_t hw (BR_f q1 ?_)
            rw [hR.1]
            refine mi_t hc (BR_f q1 (mf_illTail hz hmb hR (by omega) (by omega) hvn ho' hsh.z hsh.2.2.2.2.2 fun M4 x10 hs h94 hRI => ?_))
            rw [hst] at hRI
            obtain ⟨b1, b2, b3, b4⟩ := hRI
            subst b1
            rw [bm_nat (n := mv) (by omega), bm_nat (n := n - 1) (by omega), ed]
            refine BR_f (by omega) (BR_t hdm (hy M4 Q2 b4 (hQ2 _ _ rfl ?_)))
            exact Inv.mono (hI2.scr (ft.scr.tr hs) (gw.congr fun a q1 q2 => by rw [h94 a q1 q2, ft94 (fun _ _ => rfl) ft a q1 q2])) (by omega)
          refine BR_t bm0 (BR_i (fun hd1 => fin _ fun M4 Q2 _ hq => BR_t hd1 hq) (fun hd1 => BR_i (fun hd2 => fin _ fun M4 Q2 _ hq => BR_f hd1 (BR_t hd2 hq)) (fun hd2 => ?_)))
          rw [ed] at hd
          obtain ⟨d', rfl⟩ : ∃ d' : Nat, d = (d' : Int) := ⟨d.toNat, by omega⟩
          refine ⟨inb_of rfl (by omega) (by decide), ?_⟩
          rw [rd_at (n := d') rfl (by omega), a6 d' (by omega)]
          refine fin _ fun M4 Q2 h136 hq => BR_f hd1 (BR_f hd2 ⟨inb_of rfl (by omega) (by decide), ?_⟩)
          rw [rd_at (n := d') rfl (by omega), show (125 : Nat) + 11 = 136 from rfl, h136 d' (by omega)]
          exact hq
        · rw [hst] at hR
          obtain ⟨b1, b2, _, _⟩ := hR
          subst b1
          rw [bm_nat (n := mv) (by omega), bm_nat (n := n - 1) (by omega), ed]
          exact BR_f (by omega) (BR_f hdm he)
  unfold wX11_ill
  rw [ed]
  exact BR_i (fun h => key 0 (fun _ => by rw [ed]; omega) (fun h0 => absurd q0 h0)) (fun h => key 1 (fun h0 => absurd h0 q1) (fun _ => by rw [ed]; omega))
