theorem st_past {t : Int} {M : Mem} (hI : Inv t M) {a b c : Int} (ea : bm a = a) (eb : bm b = b) (ec : bm c = c) : Step t M (fun M Q => wX11_past 1 a b c M Q) (fun M Q => wX12_past 125 a b c M Q) := by
  intro Q1 hQ1
  have hS := hI.2.2.2.2.1
  have e0 := hI.2.1.1.1
  have c0 := hI.1.1.1
  have e3 : M 2 11 = M 126 3 := hI.2.1.1.2.2.2.1
  have c3 := hI.1.1.2.2.2.1
  obtain ⟨nq, hnq⟩ : ∃ n : Nat, M 126 3 = (n : Int) := ⟨(M 126 3).toNat, by omega⟩
  have bad : ∀ M', M' 126 = M 126 → ∀ Q2 : Int → Mem → Prop, ¬ ((0 ≤ a ∧ a ≤ 3) ∧ 0 ≤ b ∧ b ≤ 3) → wX12_error 125 1 M' Q2 → wX12_past 125 a b c M' Q2 := by
    intro M' _ Q2 hn he
    unfold wX12_past wX12_past_J14
    exact sh_i ea (fun ha => BR_f q1 (sh_i eb (fun hb => absurd ⟨ha, hb⟩ hn) (fun _ => BR_t q0 he))) (fun _ => BR_t q0 he)
  have err1 : ¬ ((0 ≤ a ∧ a ≤ 3) ∧ 0 ≤ b ∧ b ≤ 3) → wX11_error 1 1 M (fun r_4 M_3 => Q1 r_4 M_3) := fun hn =>
    lf_error11 (k := 1) rfl (by decide) (by decide) (hQ1 _ _ fun Q2 hQ2 => bad _ (up_c (by decide)) Q2 hn (st_err hI (k := 1) rfl (by decide) hQ2))
  unfold wX11_past wX11_past_J14
  refine lf_noSh ea (fun ha => BR_t q0 (lf_noSh eb (fun hb => BR_t q0 ?_) (fun hb => BR_f q1 (err1 fun h => hb h.2)))) (fun ha => BR_f q1 (err1 fun h => ha h.1))
  obtain ⟨ka, rfl⟩ : ∃ k : Nat, a = (k : Int) := ⟨a.toNat, by omega⟩
  obtain ⟨kb, rfl⟩ : ∃ k : Nat, b = (k : Int) := ⟨b.toNat, by omega⟩
  have hka : ka < 4 := by omega
  have hkb : kb < 4 := by omega
  obtain ⟨s1, s2, s3, s4, s5, s6⟩ := hS ka hka
  obtain ⟨u1, u2, u3, u4, u5, u6⟩ := hS kb hkb
  have e86 : ∀ {k : Nat} {v : Int} x, x ≠ 86 → up M 86 k v x = M x := fun x h => up_c h
  have err2 : (M 144 ka = 0 ∨ M 144 kb = 0) → wX11_past_J44 Q1 1 M := by
    intro h
    unfold wX11_past_J44
    refine lf_error11 (k := 2) rfl (by decide) (by decide) (hQ1 _ _ fun Q2 hQ2 => pm_pre hka hkb (by rw [e86 144 (by decide)]; exact s3) (by rw [e86 144 (by decide)]; exact u3) (fun _ => st_err hI (k := 2) rfl (by decide) hQ2) fun h1 h2 => ?_)
    rw [e86 144 (by decide)] at h1 h2
    exact absurd h fun h => h.elim h1 h2
  rw [bnn (n := ka) (by omega), bnn (n := kb) (by omega), show 1 + 116 + 2 * ka = 117 + 2 * ka by omega, show 1 + 116 + 2 * kb = 117 + 2 * kb by omega, s1, u1]
  refine ⟨inb_of rfl hka (by decide), BR_i (fun h => err2 (Or.inl ((bits0 s3).mp h))) (fun h => ⟨inb_of rfl hkb (by decide), BR_i (fun h' => err2 (Or.inr ((bits0 u3).mp h'))) (fun h' => ⟨inb_of rfl hka (by decide), ?_⟩)⟩)⟩
  have hta : M 144 ka ≠ 0 := fun e => h ((bits0 s3).mpr e)
  have htb : M 144 kb ≠ 0 := fun e => h' ((bits0 u3).mpr e)
  -- a fault of a row
  have err5 : ∀ M', (∀ x, ¬ (87 ≤ x ∧ x ≤ 90) → M' x = M x) → ¬ (okRow (M 126 0) (fun i => M 146 (24 * ka + i)) (M 145 ka) c ∧ okRow (M 126 0) (fun i => M 146 (24 * kb + i)) (M 145 kb) c) → wX11_past_J102 Q1 1 M' := by
    intro M' f hn
    have e : ∀ x, ¬ (86 ≤ x ∧ x ≤ 90) → up M' 86 5 (M' 86 5 + 1) x = M x := fun x hx => by rw [up_c (by omega), f x (by omega)]
    unfold wX11_past_J102 wX11_past_J103
    refine BR_t bm0 (lf_error11 (k := 5) rfl (by decide) (by decide) (hQ1 _ _ fun Q2 hQ2 => pm_pre hka hkb (by rw [e 144 (by decide)]; exact s3) (by rw [e 144 (by decide)]; exact u3) (fun h => absurd h (by rw [e 144 (by decide)]; exact fun h => h.elim hta htb)) fun _ _ => ?_))
    have fin : ∀ M2, FrT (up M' 86 5 (M' 86 5 + 1)) M2 → wX12_past_J62 Q2 125 M2 := by
      intro M2 fr
      unfold wX12_past_J62
      refine er12 hI (k := 5) rfl (by decide) ?_ ?_ fun r2 M2 hr hi => hQ2 _ _ hr hi
      · refine Scr.tr (M' := up M' 86 5 (M' 86 5 + 1)) ⟨fun c q1 _ _ _ _ _ _ => ?_, ?_, ?_⟩ fr.scr
        · by_cases hc : c = 86
          · subst hc
            funext j
            rw [up_k, up_k, f 86 (by decide)]
          · rw [up_c hc, up_c hc, f c (by omega)]
        · rw [up_c (by decide), up_c (by decide), f 125 (by decide)]
        · rw [up_c (by decide), up_c (by decide), f 125 (by decide)]
      · exact hI.wz.congr fun c q1 q2 => by rw [fr.1 c (by omega) (by omega) (by omega) (by omega) (by omega), e c (by omega)]
    refine mf_tk hI hka ec (by rw [e 126 (by decide)]) (hI.mb.congr (e 126 (by decide))) (e 144 (by decide)) (e 145 (by decide)) (e 146 (by decide)) (fun x _ _ => e x (by omega)) hta (fun hn M2 fr => BR_t (by decide +kernel) (fin M2 fr)) fun va na ra hva hsa M2 fr _ _ => BR_f (by rw [bm0]; omega) ?_
    have e2 : ∀ x, ¬ (86 ≤ x ∧ x ≤ 90) → x ≠ 125 → ¬ (132 ≤ x ∧ x ≤ 135) → M2 x = M x := fun x q1 q2 q3 => by rw [fr.1 x q2 (by omega) (by omega) (by omega) (by omega), e x q1]
    refine mf_tk hI hkb ec (by rw [e2 126 (by decide) (by decide) (by decide)]) (hI.mb.congr (e2 126 (by decide) (by decide) (by decide))) (e2 144 (by decide) (by decide) (by decide)) (e2 145 (by decide) (by decide) (by decide)) (e2 146 (by decide) (by decide) (by decide)) (fun x _ _ => e2 x (by omega) (by omega) (by omega)) htb (fun hn M3 fr3 => ?_) fun vb nb rb hvb hsb M3 _ _ _ => absurd ⟨?_, ?_⟩ hn
    · unfold ptl2
      refine BR_f (by decide +kernel) (fin M3 ⟨fun x q1 q2 q3 q4 q5 => ?_, fun j q1 q2 => ?_⟩)
      · rw [fr3.1 x q1 q2 q3 q4 q5, fr.1 x q1 q2 q3 q4 q5]
      · rw [fr3.2 j q1 q2, fr.2 j q1 q2]
    · rw [hva]
      exact hsa.ok hI
    · rw [hvb]
      exact hsb.ok hI
  have n2 : M (1 + 1) 1 = M 126 0 := e0
  rw [n2]
  refine lf_takes (f := fun i => M 146 (24 * ka + i)) (s := M 145 ka) (by omega) (by omega) (by omega) s2 ⟨s4, s5⟩ ec c0 (fun i hi => ?_) (fun i hi => (s6 i hi).2) (fun hn M' f1 => BR_t q0 (err5 M' (fun x hx => f1 x (by omega)) fun h => hn h.1)) (fun ok M3 f1 f2 f3 f4 => BR_f q1 ⟨inb_of rfl hkb (by decide), ?_⟩)
  · rw [show 117 + 2 * ka + 1 = 118 + 2 * ka by omega]
    exact (s6 i hi).1
  have n3 : M3 (1 + 1) 1 = M 126 0 := by rw [f1 (1 + 1) (by decide) (by decide)]; exact e0
  rw [n3]
  refine lf_takes (f := fun i => M 146 (24 * kb + i)) (s := M 145 kb) (by omega) (by omega) (by omega) (by rw [f1 _ (by omega) (by omega)]; exact u2) ⟨u4, u5⟩ ec c0 (fun i hi => ?_) (fun i hi => (u6 i hi).2) (fun hn M' g1 => BR_t q0 (err5 M' (fun x hx => by rw [g1 x (by omega), f1 x (by omega) (by omega)]) fun h => hn h.2)) (fun ok' M4 g1 g2 g3 g4 => BR_f q1 ?_)
  · rw [show 117 + 2 * kb + 1 = 118 + 2 * kb by omega, f1 _ (by omega) (by omega)]
    exact (u6 i hi).1
  obtain ⟨va, na, ra, hva, ha⟩ := ok.sh
  obtain ⟨vb, nb, rb, hvb, hb⟩ := ok'.sh
  have evb : vb = va := by omega
  subst evb hva
  have f : ∀ x, ¬ (87 ≤ x ∧ x ≤ 90) → M4 x = M x := fun x hx => by rw [g1 x (by omega) (by omega), f1 x (by omega) (by omega)]
  have na12 := ha.2.1
  have nb12 := hb.2.1
  have hM11 : M4 (1 + 1) 11 = (nq : Int) := by rw [f (1 + 1) (by decide)]; exact e3.trans hnq
  unfold wX11_past_J103
  rw [hM11, bm_nat (n := nq) (by omega), Int.toNat_natCast]
  refine BR_f q1 (BR_i (fun hq8 => ⟨inb_of rfl (by omega) (by decide), ?_⟩) (fun hq8 => ?_))
  · refine cf_r (b0 := 1 + 52 + 4 * nq) (b1 := 1 + 86) (by omega) fun M5 a1 a2 a3 a4 => ?_
    have h5 : M5 (1 + 1) 11 = (nq : Int) := by rw [a1 (1 + 1) (by omega) (by omega)]; exact hM11
    rw [h5, bnn (n := nq) (by omega)]
    refine ⟨inb_of rfl (by omega) (by decide), cf_r (b0 := 1 + 54 + 4 * nq) (b1 := 1 + 88) (by omega) fun M6 d1 d2 d3 d4 => ?_⟩
    have h6 : M6 (1 + 1) 11 = (nq : Int) := by rw [d1 (1 + 1) (by omega) (by omega)]; exact h5
    rw [h6]
    refine LET_i ?_
    rw [up_s]
    refine hQ1 _ _ fun Q2 hQ2 => ?_
    have hC : PastC M (up M6 (1 + 1) 11 ((nq : Int) + 1)) na nb vb nq ra rb := by
      have o : ∀ x, x ≠ 2 → up M6 (1 + 1) 11 ((nq : Int) + 1) x = M6 x := fun x h => up_c h
      refine ⟨fun x q1 q2 q3 => ?_, fun j hj => ?_, by rw [show (2 : Nat) = 1 + 1 from rfl, up_s], ?_, ?_, fun i hi => ?_, ?_, ?_, fun i hi => ?_⟩
      · rw [o x q1, d1 x (by omega) (by omega), a1 x (by omega) (by omega), f x q2]
      · rw [show (2 : Nat) = 1 + 1 from rfl, up_kn hj, d1 (1 + 1) (by omega) (by omega), a1 (1 + 1) (by omega) (by omega), f (1 + 1) (by decide)]
      · rw [o _ (by omega), d1 _ (by omega) (by omega), show 53 + 4 * nq = 1 + 52 + 4 * nq by omega, a2, g1 (1 + 86) (by decide) (by decide)]
        exact f2.trans ha.1
      · rw [o _ (by omega), d1 _ (by omega) (by omega), show 53 + 4 * nq = 1 + 52 + 4 * nq by omega, a3, g1 (1 + 86) (by decide) (by decide)]
        exact f3
      · rw [o _ (by omega), d1 _ (by omega) (by omega), show 54 + 4 * nq = 1 + 52 + 4 * nq + 1 by omega, a4 i (by omega), g1 (1 + 86 + 1) (by decide) (by decide)]
        exact (f4 i (by have := ha.1; omega)).trans (ha.2.2.2.1 i hi)
      · rw [o _ (by omega), show 55 + 4 * nq = 1 + 54 + 4 * nq by omega, d2, a1 (1 + 88) (by omega) (by omega)]
        exact g2.trans hb.1
      · rw [o _ (by omega), show 55 + 4 * nq = 1 + 54 + 4 * nq by omega, d3, a1 (1 + 88) (by omega) (by omega)]
        exact g3
      · rw [o _ (by omega), show 56 + 4 * nq = 1 + 54 + 4 * nq + 1 by omega, d4 i (by omega), a1 (1 + 88 + 1) (by omega) (by omega)]
        exact (g4 i (by have := hb.1; omega)).trans (hb.2.2.2.1 i hi)
    have hq8' : nq < 8 := by omega
    exact mf_past hI hka hkb hta htb hC hnq hq8' ha hb fun M2 hR => hQ2 _ _ rfl (past_inv hI hC hR hnq hq8' ha hb)
  · have hq : nq = 8 := by omega
    have e : ∀ x, ¬ (86 ≤ x ∧ x ≤ 90) → up M4 86 4 (M4 86 4 + 1) x = M x := fun x hx => by rw [up_c (by omega), f x (by omega)]
    refine lf_error11 (k := 4) rfl (by decide) (by decide) (hQ1 _ _ fun Q2 hQ2 => pm_pre hka hkb (by rw [e 144 (by decide)]; exact s3) (by rw [e 144 (by decide)]; exact u3) (fun h => absurd h (by rw [e 144 (by decide)]; exact fun h => h.elim hta htb)) fun _ _ => ?_)
    refine mf_tk hI hka ec (by rw [e 126 (by decide)]) (hI.mb.congr (e 126 (by decide))) (e 144 (by decide)) (e 145 (by decide)) (e 146 (by decide)) (fun x _ _ => e x (by omega)) hta (fun hn => absurd ok hn) fun _ _ _ _ _ M2 fr _ _ => BR_f (by rw [bm0]; omega) ?_
    have e2 : ∀ x, ¬ (86 ≤ x ∧ x ≤ 90) → x ≠ 125 → ¬ (132 ≤ x ∧ x ≤ 135) → M2 x = M x := fun x q1 q2 q3 => by rw [fr.1 x q2 (by omega) (by omega) (by omega) (by omega), e x q1]
    refine mf_tk hI hkb ec (by rw [e2 126 (by decide) (by decide) (by decide)]) (hI.mb.congr (e2 126 (by decide) (by decide) (by decide))) (e2 144 (by decide) (by decide) (by decide)) (e2 145 (by decide) (by decide) (by decide)) (e2 146 (by decide) (by decide) (by decide)) (fun x _ _ => e2 x (by omega) (by omega) (by omega)) htb (fun hn => absurd ok' hn) fun _ _ _ _ _ M3 fr3 _ _ => ?_
    have e33 : M3 126 3 = 8 := by rw [fr3.1 126 (by decide) (by decide) (by decide) (by decide) (by decide), e2 126 (by decide) (by decide) (by decide), hnq, hq]; rfl
    unfold ptl2
    rw [rd_at (i := 3) (n := 3) rfl (by decide), show (125 : Nat) + 1 = 126 from rfl, e33]
    refine BR_t (by rw [bm0]; omega) (BR_t (by decide +kernel) (er12 hI (k := 4) rfl (by decide) ?_ ?_ fun r2 M2 hr hi => hQ2 _ _ hr hi))
    · refine Scr.tr (M' := up M4 86 4 (M4 86 4 + 1)) ⟨fun c q1 _ _ _ _ _ _ => ?_, ?_, ?_⟩ (fr.scr.tr fr3.scr)
      · by_cases hc : c = 86
        · subst hc
          funext j
          rw [up_k, up_k, f 86 (by decide)]
        · rw [up_c hc, up_c hc, f c (by omega)]
      · rw [up_c (by decide), up_c (by decide), f 125 (by decide)]
      · rw [up_c (by decide), up_c (by decide), f 125 (by decide)]
    · exact hI.wz.congr fun c q1 q2 => by rw [fr3.1 c (by omega) (by omega) (by omega) (by omega) (by omega), fr.1 c (by omega) (by omega) (by omega) (by omega) (by omega), e c (by omega)]
