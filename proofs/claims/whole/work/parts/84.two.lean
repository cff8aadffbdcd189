/-! TWO EVENINGS -/
def tf (z : Fl) (s : Nat) : Nat → Int
  | 0 => 0
  | i + 1 => tf z s i + (if s.testBit i then pMin z i else 0)
def tg (z : Fl) (s : Nat) : Nat → Int
  | 0 => 0
  | i + 1 => tg z s i + (if s.testBit i then 0 else pMin z i)
def tl (z : Fl) (s : Nat) : Nat → Int
  | 0 => 0
  | i + 1 => tl z s i + (if s.testBit i then pLoud z i else -pLoud z i)
theorem t_b {z : Fl} (hz : ZOk z) {s : Nat} : ∀ i : Nat, (i : Int) ≤ z 0 → (0 ≤ tf z s i ∧ tf z s i ≤ 60 * i) ∧ (0 ≤ tg z s i ∧ tg z s i ≤ 60 * i) ∧ (-(9 * i) ≤ tl z s i ∧ tl z s i ≤ 9 * i)
  | 0, _ => by simp [tf, tg, tl]
  | i + 1, h => by
    have ih := t_b hz (s := s) i (by omega)
    have hp := hz.2.2.2.2.1 i (by omega)
    have hm := hp.1
    have hl := hp.2.2.1
    have e1 : tf z s (i + 1) = tf z s i + (if s.testBit i then pMin z i else 0) := rfl
    have e2 : tg z s (i + 1) = tg z s i + (if s.testBit i then 0 else pMin z i) := rfl
    have e3 : tl z s (i + 1) = tl z s i + (if s.testBit i then pLoud z i else -pLoud z i) := rfl
    rw [e1, e2, e3]
    cases s.testBit i
    · simp only [Bool.false_eq_true, if_false]
      omega
    · simp only [if_true]
      omega
def ab (x : Int) : Int := if 0 ≤ x then x else -x
theorem ab_c (x : Int) : (0 ≤ x ∧ ab x = x) ∨ (x < 0 ∧ ab x = -x) := by
  unfold ab
  by_cases h : 0 ≤ x
  · exact Or.inl ⟨h, if_pos h⟩
  · exact Or.inr ⟨by omega, if_neg h⟩
def tok (z : Fl) (np : Nat) (m : Int) (o : Option Nat) (a : Int) (s : Nat) : Prop := tf z s np ≤ m ∧ tg z s np ≤ m ∧ (o = none ∨ ab (tl z s np) < a)
noncomputable def tws (z : Fl) (np : Nat) (m : Int) : Nat → Option Nat × Int
  | 0 => (none, 0)
  | s + 1 => @ite _ (tok z np m (tws z np m s).1 (tws z np m s).2 s) (Classical.propDecidable _) (some s, ab (tl z s np)) (tws z np m s)
theorem tws_t {z : Fl} {np : Nat} {m : Int} {s : Nat} (h : tok z np m (tws z np m s).1 (tws z np m s).2 s) : tws z np m (s + 1) = (some s, ab (tl z s np)) := by
  show @ite _ _ (Classical.propDecidable _) _ _ = _
  rw [if_pos h]
theorem tws_f {z : Fl} {np : Nat} {m : Int} {s : Nat} (h : ¬ tok z np m (tws z np m s).1 (tws z np m s).2 s) : tws z np m (s + 1) = tws z np m s := by
  show @ite _ _ (Classical.propDecidable _) _ _ = _
  rw [if_neg h]
theorem tws_b {z : Fl} (hz : ZOk z) {np : Nat} (hnp : z 0 = (np : Int)) {m : Int} : ∀ s, (0 ≤ (tws z np m s).2 ∧ (tws z np m s).2 ≤ 108) ∧ ∀ c, (tws z np m s).1 = some c → c < s
  | 0 => ⟨by show (0 : Int) ≤ 0 ∧ (0 : Int) ≤ 108; decide, fun c h => by cases h⟩
  | s + 1 => by
    obtain ⟨h1, h2⟩ := tws_b hz hnp (m := m) s
    have hz0 := hz.1
    have hb := (t_b hz (s := s) np (by omega)).2.2
    by_cases h : tok z np m (tws z np m s).1 (tws z np m s).2 s
    · rw [tws_t h]
      have := ab_c (tl z s np)
      refine ⟨?_, fun c hc => ?_⟩
      · show 0 ≤ ab (tl z s np) ∧ ab (tl z s np) ≤ 108
        omega
      · cases hc
        omega
    · rw [tws_f h]
      exact ⟨h1, fun c hc => by have := h2 c hc; omega⟩
theorem lf_abs {x : Int} {M : Mem} {Q : Int → Mem → Prop} (hx : bm x = x) (hQ : Q (ab x) M) : wJ9_abs_0f7a4 x M Q := by
  unfold wJ9_abs_0f7a4
  unfold ab at hQ
  rw [hx]
  refine BR_i (fun h => ?_) (fun h => ?_)
  · rw [if_pos h] at hQ
    exact hQ
  · rw [if_neg h] at hQ
    exact hQ
theorem fe38_L {z : Fl} {np s : Nat} {M : Mem} {y1 y2 y3 y4 : Int} {Q : Int → Mem → Prop} {E : Int → Int → Int → Mem → Prop} (hz : ZOk z) (hc : CB z M) (hnp : z 0 = (np : Int)) (hs : s < 4096) (hQ : E (tf z s np - tg z s np) (tf z s np + tg z s np) (tl z s np) M) : ∀ (m i : Nat) (x6 x7 x8 x9 : Int), i + m = np → x9 = (i : Int) → x6 = tf z s i - tg z s i → x7 = tf z s i + tg z s i → x8 = tl z s i → wX7_firstEvening_L38 Q E 108 y1 y2 y3 y4 (s : Int) (m + 1) x6 x7 x8 x9 M
  | 0, i, x6, x7, x8, x9, hi, h9, h6, h7, h8 => by
    subst h9 h6 h7 h8
    obtain rfl : i = np := by omega
    unfold wX7_firstEvening_L38
    rw [show (108 : Nat) - 106 = 2 from rfl, hc.1, hnp]
    exact BR_t (Int.le_refl _) hQ
  | m + 1, i, x6, x7, x8, x9, hi, h9, h6, h7, h8 => by
    subst h9 h6 h7 h8
    have hz0 := hz.1
    have e1 : tf z s (i + 1) = tf z s i + (if s.testBit i then pMin z i else 0) := rfl
    have e2 : tg z s (i + 1) = tg z s i + (if s.testBit i then 0 else pMin z i) := rfl
    have e3 : tl z s (i + 1) = tl z s i + (if s.testBit i then pLoud z i else -pLoud z i) := rfl
    obtain ⟨pm, pk, pl, -, -⟩ := piece_f (q := i) hc (by omega)
    unfold wX7_firstEvening_L38 wX7_firstEvening_J77
    rw [show (108 : Nat) - 106 = 2 from rfl, hc.1, hnp, bm_nat (n := np) (by omega), bm_nat (n := i) (by omega), Int.toNat_natCast, show 2 + 9 + i = 11 + i by omega, lf_isIn rfl rfl hs (by omega), pm, pl]
    refine BR_f (by omega) ⟨inb_of rfl (by omega) (by decide), ?_⟩
    cases hb : s.testBit i
    · rw [hb] at e1 e2 e3
      simp only [Bool.false_eq_true, if_false] at e1 e2 e3
      rw [if_neg (by decide)]
      refine BR_t q0 (LET_i (LET_i (LET_i (LET_i (fe38_L hz hc hnp hs hQ m (i + 1) _ _ _ _ (by omega) (by omega) (by omega) (by omega) (by omega))))))
    · rw [hb] at e1 e2 e3
      simp only [if_true] at e1 e2 e3
      rw [if_pos rfl]
      refine BR_f q1 (LET_i (LET_i (LET_i (LET_i (fe38_L hz hc hnp hs hQ m (i + 1) _ _ _ _ (by omega) (by omega) (by omega) (by omega) (by omega))))))
theorem fe20_L {z : Fl} {np mi : Nat} {M : Mem} {Q : Int → Mem → Prop} (hz : ZOk z) (hc : CB z M) (hnp : z 0 = (np : Int)) (hm : mi ≤ 999) (hQ : Q (oI (tws z np mi (2 ^ np)).1) M) : ∀ (m s : Nat) (x3 x4 x5 : Int), s + m = 2 ^ np → x5 = (s : Int) → x3 = oI (tws z np mi s).1 → x4 = (tws z np mi s).2 → wX7_firstEvening_L20 Q 108 (mi : Int) (((2 ^ np : Nat) : Int) - 1) (m + 1) x3 x4 x5 M
  | 0, s, x3, x4, x5, hs, h5, h3, h4 => by
    subst h5 h3 h4
    have hz0 := hz.1
    have hp : 2 ^ np ≤ 4096 := Nat.le_trans (p2le (m := 12) (by omega)) (by decide)
    have hp0 : 0 < 2 ^ np := Nat.two_pow_pos np
    obtain rfl : s = 2 ^ np := by omega
    unfold wX7_firstEvening_L20
    rw [bm_id (z := ((2 ^ np : Nat) : Int) - 1) (by omega) (by omega), bm_nat (n := 2 ^ np) (by omega)]
    exact BR_t (by omega) hQ
  | m + 1, s, x3, x4, x5, hs, h5, h3, h4 => by
    subst h5 h3 h4
    have hz0 := hz.1
    have hp : 2 ^ np ≤ 4096 := Nat.le_trans (p2le (m := 12) (by omega)) (by decide)
    obtain ⟨b1, b2, b3⟩ := t_b hz (s := s) np (by omega)
    obtain ⟨b4, b5⟩ := tws_b hz hnp (m := mi) s
    have a1 := ab_c (tf z s np - tg z s np)
    have a2 := ab_c (tl z s np)
    have hlong : iDiv (tf z s np + tg z s np + ab (tf z s np - tg z s np)) 2 = (tf z s np + tg z s np + ab (tf z s np - tg z s np)) / 2 := by
      rw [show (2 : Int) = ((2 : Nat) : Int) from rfl, iDiv_nn (by rw [bm_id (z := tf z s np + tg z s np + ab (tf z s np - tg z s np)) (by omega) (by omega)]; omega) (by decide) (by decide), bm_id (z := tf z s np + tg z s np + ab (tf z s np - tg z s np)) (by omega) (by omega)]
    unfold wX7_firstEvening_L20
    rw [bm_id (z := ((2 ^ np : Nat) : Int) - 1) (by omega) (by omega), bm_nat (n := s) (by omega)]
    refine BR_f (by omega) ⟨np + 1, fe38_L hz hc hnp (by omega) ?_ np 0 _ _ _ _ (by omega) rfl rfl rfl rfl⟩
    refine lf_abs (x := tf z s np - tg z s np) (bm_id (by omega) (by omega)) (LET_i ?_)
    refine lf_abs (x := tl z s np) (bm_id (by omega) (by omega)) ?_
    rw [hlong, bm_nat (n := mi) (by omega), bm_id (z := (tf z s np + tg z s np + ab (tf z s np - tg z s np)) / 2) (by omega) (by omega), bm_id (z := ab (tl z s np)) (by omega) (by omega), bm_id (z := (tws z np mi s).2) (by omega) (by omega)]
    have skip : ¬ tok z np mi (tws z np mi s).1 (tws z np mi s).2 s → LET ((s : Int) + 1) (fun x5 => wX7_firstEvening_L20 Q 108 (mi : Int) (((2 ^ np : Nat) : Int) - 1) (m + 1) (oI (tws z np mi s).1) (tws z np mi s).2 x5 M) := fun h =>
      LET_i (fe20_L hz hc hnp hm hQ m (s + 1) _ _ _ (by omega) (by omega) (by rw [tws_f h]) (by rw [tws_f h]))
    have takes : tok z np mi (tws z np mi s).1 (tws z np mi s).2 s → wX7_firstEvening_J157 Q (fun x3' x4' x5' M' => wX7_firstEvening_L20 Q 108 (mi : Int) (((2 ^ np : Nat) : Int) - 1) (m + 1) x3' x4' x5' M') 108 (mi : Int) (((2 ^ np : Nat) : Int) - 1) (s : Int) (ab (tl z s np)) M := fun h => by
      unfold wX7_firstEvening_J157
      exact LET_i (fe20_L hz hc hnp hm hQ m (s + 1) _ _ _ (by omega) (by omega) (by rw [tws_t h]; rfl) (by rw [tws_t h]))
    refine BR_i (fun h => skip fun q => ?_) (fun h => ?_)
    · have q1' := q.1
      have q2' := q.2.1
      omega
    · cases ho : (tws z np mi s).1 with
      | none =>
        rw [ho] at takes
        exact BR_t (by decide +kernel) (takes ⟨by omega, by omega, Or.inl rfl⟩)
      | some c =>
        have hc' := b5 c ho
        rw [ho] at skip takes
        show BR (bm (c : Int) < 0) _ _
        rw [bm_nat (n := c) (by omega)]
        refine BR_f (by omega) (BR_i (fun h' => skip fun q => ?_) (fun h' => takes ⟨by omega, by omega, Or.inr (by omega)⟩))
        rcases q.2.2 with e | e
        · cases e
        · omega
theorem tw49_L {z : Fl} {np s : Nat} {M : Mem} {y1 y2 y3 : Int} {Q : Int → Mem → Prop} {E : Int → Int → Int → Mem → Prop} (hz : ZOk z) (hb : MB z M) (hnp : z 0 = (np : Int)) (hs : s < 4096) (hQ : E (tf z s np) (tg z s np) (tl z s np) M) : ∀ (m i : Nat) (x5 x6 x7 x8 : Int), i + m = np → x8 = (i : Int) → x5 = tf z s i → x6 = tg z s i → x7 = tl z s i → wX12_two_L49 Q E 125 y1 y2 y3 (s : Int) (m + 1) x5 x6 x7 x8 M
  | 0, i, x5, x6, x7, x8, hi, h8, h5, h6, h7 => by
    subst h8 h5 h6 h7
    obtain rfl : i = np := by omega
    unfold wX12_two_L49
    rw [rd_at (i := 0) (n := 0) rfl (by decide), show (125 : Nat) + 1 = 126 from rfl, hb 0 (by omega), hnp]
    exact BR_t (Int.le_refl _) hQ
  | m + 1, i, x5, x6, x7, x8, hi, h8, h5, h6, h7 => by
    subst h8 h5 h6 h7
    have hz0 := hz.1
    have e1 : tf z s (i + 1) = tf z s i + (if s.testBit i then pMin z i else 0) := rfl
    have e2 : tg z s (i + 1) = tg z s i + (if s.testBit i then 0 else pMin z i) := rfl
    have e3 : tl z s (i + 1) = tl z s i + (if s.testBit i then pLoud z i else -pLoud z i) := rfl
    have em : z (20 + 6 * i + 0) = pMin z i := rfl
    have el : z (20 + 6 * i + 2) = pLoud z i := by unfold pLoud; congr 1; omega
    unfold wX12_two_L49
    rw [rd_at (i := 0) (n := 0) rfl (by decide), show (125 : Nat) + 1 = 126 from rfl, hb 0 (by omega), hnp, bm_nat (n := np) (by omega), bm_nat (n := i) (by omega), shr_bit hs (by omega)]
    refine BR_f (by omega) ?_
    cases hbt : s.testBit i
    · rw [hbt] at e1 e2 e3
      simp only [Bool.false_eq_true, if_false] at e1 e2 e3
      rw [if_neg (by decide)]
      refine BR_f (by decide +kernel) ?_
      unfold wX12_two_J76 wX12_two_J96 wX12_two_J117 wX12_two_J145
      refine BR_t bm0 (LET_i (BR_t bm0 (mf_of (p := i) (w := 0) hb (by omega) (by decide) rfl rfl (LET_i (BR_t bm0 (mf_of (p := i) (w := 2) hb (by omega) (by decide) rfl rfl (LET_i (LET_i ?_))))))))
      rw [em, el]
      exact tw49_L hz hb hnp hs hQ m (i + 1) _ _ _ _ (by omega) (by omega) (by omega) (by omega) (by omega)
    · rw [hbt] at e1 e2 e3
      simp only [if_true] at e1 e2 e3
      rw [if_pos rfl]
      refine BR_t (by decide +kernel) ?_
      unfold wX12_two_J76 wX12_two_J96 wX12_two_J117 wX12_two_J145
      refine BR_f bn1 (mf_of (p := i) (w := 0) hb (by omega) (by decide) rfl rfl (LET_i (BR_f bn1 (LET_i (BR_f bn1 (mf_of (p := i) (w := 2) hb (by omega) (by decide) rfl rfl (LET_i (LET_i ?_))))))))
      rw [em, el]
      exact tw49_L hz hb hnp hs hQ m (i + 1) _ _ _ _ (by omega) (by omega) (by omega) (by omega) (by omega)
theorem tw24_L {z : Fl} {np mi : Nat} {M : Mem} {Q : Int → Mem → Prop} {E : Int → Mem → Prop} (hz : ZOk z) (hb : MB z M) (hnp : z 0 = (np : Int)) (hm : mi ≤ 999) (hQ : E (oI (tws z np mi (2 ^ np)).1) M) : ∀ (m s : Nat) (x2 x3 x4 : Int), s + m = 2 ^ np → x4 = (s : Int) → x2 = oI (tws z np mi s).1 → x3 = (tws z np mi s).2 → wX12_two_L24 Q E 125 (mi : Int) (m + 1) x2 x3 x4 M
  | 0, s, x2, x3, x4, hs, h4, h2, h3 => by
    subst h4 h2 h3
    have hz0 := hz.1
    obtain rfl : s = 2 ^ np := by omega
    unfold wX12_two_L24
    rw [rd_at (i := 0) (n := 0) rfl (by decide), show (125 : Nat) + 1 = 126 from rfl, hb 0 (by omega), hnp, shl_13 np (by omega)]
    exact BR_t (Int.le_refl _) hQ
  | m + 1, s, x2, x3, x4, hs, h4, h2, h3 => by
    subst h4 h2 h3
    have hz0 := hz.1
    have hp : 2 ^ np ≤ 4096 := Nat.le_trans (p2le (m := 12) (by omega)) (by decide)
    obtain ⟨b1, b2, b3⟩ := t_b hz (s := s) np (by omega)
    obtain ⟨b4, b5⟩ := tws_b hz hnp (m := mi) s
    have a2 := ab_c (tl z s np)
    unfold wX12_two_L24
    rw [rd_at (i := 0) (n := 0) rfl (by decide), show (125 : Nat) + 1 = 126 from rfl, hb 0 (by omega), hnp, shl_13 np (by omega), bm_nat (n := 2 ^ np) (by omega), bm_nat (n := s) (by omega)]
    have skip : ¬ tok z np mi (tws z np mi s).1 (tws z np mi s).2 s → LET ((s : Int) + 1) (fun x4 => wX12_two_L24 Q E 125 (mi : Int) (m + 1) (oI (tws z np mi s).1) (tws z np mi s).2 x4 M) := fun h =>
      LET_i (tw24_L hz hb hnp hm hQ m (s + 1) _ _ _ (by omega) (by omega) (by rw [tws_f h]) (by rw [tws_f h]))
    have takes : tok z np mi (tws z np mi s).1 (tws z np mi s).2 s → wX12_two_J191 Q (fun x2' x3' x4' M' => wX12_two_L24 Q E 125 (mi : Int) (m + 1) x2' x3' x4' M') 125 (mi : Int) (s : Int) (ab (tl z s np)) M := fun h => by
      unfold wX12_two_J191
      exact LET_i (tw24_L hz hb hnp hm hQ m (s + 1) _ _ _ (by omega) (by omega) (by rw [tws_t h]; rfl) (by rw [tws_t h]))
    have j167 : ∀ w : Int, w = ab (tl z s np) → wX12_two_J167 Q (fun x2' x3' x4' M' => wX12_two_L24 Q E 125 (mi : Int) (m + 1) x2' x3' x4' M') 125 (mi : Int) (oI (tws z np mi s).1) (tws z np mi s).2 (s : Int) (tf z s np) (tg z s np) w M := by
      intro w hw
      subst hw
      unfold wX12_two_J167
      rw [bm_nat (n := mi) (by omega), bm_id (z := tf z s np) (by omega) (by omega), bm_id (z := tg z s np) (by omega) (by omega), bm_id (z := ab (tl z s np)) (by omega) (by omega), bm_id (z := (tws z np mi s).2) (by omega) (by omega)]
      refine BR_i (fun h => skip fun q => ?_) (fun h => BR_i (fun h2 => skip fun q => ?_) (fun h2 => ?_))
      · have := q.1
        omega
      · have := q.2.1
        omega
      · cases ho : (tws z np mi s).1 with
        | none =>
          rw [ho] at takes
          exact BR_t (by decide +kernel) (takes ⟨by omega, by omega, Or.inl rfl⟩)
        | some c =>
          have hc' := b5 c ho
          rw [ho] at skip takes
          show BR (bm (c : Int) < 0) _ _
          rw [bm_nat (n := c) (by omega)]
          refine BR_f (by omega) (BR_i (fun h' => skip fun q => ?_) (fun h' => takes ⟨by omega, by omega, Or.inr (by omega)⟩))
          rcases q.2.2 with e | e
          · cases e
          · omega
    refine BR_f (by omega) ⟨np + 1, tw49_L hz hb hnp (by omega) ?_ np 0 _ _ _ _ (by omega) rfl rfl rfl rfl⟩
    rw [bm_id (z := tl z s np) (by omega) (by omega)]
    exact BR_i (fun h => j167 _ (by omega)) (fun h => j167 _ (by omega))
theorem st_two {t : Int} {M : Mem} (hI : Inv t M) {a : Int} (ea : bm a = a) : Step t M (fun M Q => wX11_two 1 a M Q) (fun M Q => wX12_two 125 a M Q) := by
  intro Q1 hQ1
  have hz := hI.zok
  have hz0 := hz.1
  obtain ⟨np, hnp⟩ : ∃ np : Nat, vw (M 126) 0 = (np : Int) := ⟨(vw (M 126) 0).toNat, by omega⟩
  have hp : 2 ^ np ≤ 4096 := Nat.le_trans (p2le (m := 12) (by omega)) (by decide)
  unfold wX11_two
  refine wi_i (fun h => BR_f q1 ?_) (fun h => BR_t q0 (lf_error11 (k := 1) rfl (by decide) (by decide) (hQ1 _ _ fun Q2 hQ2 => ?_)))
  · have h' := h
    rw [bm1, li_999, ea] at h'
    obtain ⟨mi, rfl⟩ : ∃ mi : Nat, a = (mi : Int) := ⟨a.toNat, by omega⟩
    have hb := (tws_b hz hnp (m := mi) (2 ^ np)).2
    have ref : ∀ (M1 : Mem) (Q2 : Int → Mem → Prop), M1 126 = M 126 → BR (0 ≤ bm (oI (tws (vw (M 126)) np mi (2 ^ np)).1)) (Q2 (oI (tws (vw (M 126)) np mi (2 ^ np)).1) M1) (wX12_error 125 2 M1 (fun r_35 M_34 => Q2 r_35 M_34)) → wX12_two 125 (mi : Int) M1 Q2 := by
      intro M1 Q2 h1 hr
      unfold wX12_two
      exact mi_t h (BR_f q1 (LET_i ⟨2 ^ np + 1, tw24_L hz (mb_of h1) hnp (by omega) hr (2 ^ np) 0 _ _ _ (by omega) rfl rfl rfl⟩))
    unfold wX7_firstEvening
    rw [show M (108 - 106) 1 = (np : Int) by rw [← hnp]; exact hI.cb.1, shl_13 np (by omega)]
    refine LET_i (LET_i ⟨2 ^ np + 1, fe20_L hz hI.cb hnp (by omega) ?_ (2 ^ np) 0 _ _ _ (by omega) rfl rfl rfl⟩)
    refine BR_i (fun h2 => hQ1 _ _ fun Q2 hQ2 => ref M Q2 rfl (BR_t h2 (hQ2 _ _ rfl (hI.mono (by omega))))) (fun h2 => lf_error11 (k := 2) rfl (by decide) (by decide) (hQ1 _ _ fun Q2 hQ2 => ref _ Q2 (up_c (by decide)) (BR_f h2 (st_err hI (k := 2) rfl (by decide) hQ2))))
  · unfold wX12_two
    exact mi_f h (BR_t q0 (st_err hI (k := 1) rfl (by decide) hQ2))
