/-! THE REFERENCE TAKES A ROW; calls that take one -/
theorem RowPs.eq {z z' : Fl} {r : Nat → Nat} {n : Nat} (h : RowPs z r n) (e : z' 0 = z 0) : RowPs z' r n := fun k hk => by rw [e]; exact h k hk
/-- what take leaves -/
def FrT (M M' : Mem) : Prop := (∀ a, a ≠ 125 → a ≠ 132 → a ≠ 133 → a ≠ 134 → a ≠ 135 → M' a = M a) ∧ ∀ j, j ≠ 13 → j ≠ 14 → M' 125 j = M 125 j
theorem FrT.scr {M M' : Mem} (h : FrT M M') : Scr M M' := ⟨fun a _ _ _ _ q5 q6 _ => h.1 a q5 (by omega) (by omega) (by omega) (by omega), h.2 2 (by decide) (by decide), h.2 33 (by decide) (by decide)⟩
theorem FrP.scr {M M' : Mem} (h : FrP M M') : Scr M M' := ⟨fun a _ _ _ _ _ q6 _ => h a (by omega) (by omega), by rw [h 125 (by decide) (by decide)], by rw [h 125 (by decide) (by decide)]⟩
theorem WzOk.c {M M' : Mem} (h : WzOk M) (e : ∀ a, 94 ≤ a → a ≤ 100 → M' a = M a) : WzOk M' := h.congr e
theorem tm_L {k v : Nat} {f : Nat → Int} {s cnt : Int} {M0 : Mem} {Q : Int → Mem → Prop} {E : Mem → Prop} (hk : k < 4) (h13 : M0 125 13 = s) (hs12 : 1 ≤ s ∧ s ≤ 12) (hb : (v : Int) < s) (hc : 0 ≤ cnt ∧ cnt ≤ 12) (hcz : M0 126 0 = cnt) (hf : ∀ i, i < 24 → M0 146 (24 * k + i) = f i) (hbm : ∀ i, i < 24 → bm (f i) = f i)
    (h0 : ¬ okRow cnt f s (v : Int) → ∀ M', (∀ a, a ≠ 132 → M' a = M0 a) → Q 5 M') (h1 : okRow cnt f s (v : Int) → ∀ M', (∀ a, a ≠ 132 → M' a = M0 a) → (∀ i : Nat, (i : Int) < s → M' 132 i = f i) → E M') : ∀ (m i : Nat) (M : Mem) (x3 x4 : Int), (i : Int) + m = s → x4 = (i : Int) → x3 = (stb (rl (fun i => (f i).toNat) i) : Int) → (∀ a, a ≠ 132 → M a = M0 a) → (∀ j : Nat, j < i → M 132 j = f j) → (∀ j : Nat, j < i → (0 ≤ f j ∧ f j < cnt) ∧ ∀ k, k < j → f k ≠ f j) → wX12_take_L63 Q E 125 (k : Int) (m + 1) x3 x4 M
  | 0, i, M, x3, x4, hi, h4, h3, f1, f2, f3 => by
    subst h4 h3
    unfold wX12_take_L63
    rw [f1 125 (by decide), h13, bm_id (z := s) (by omega) (by omega), bm_nat (n := i) (by omega)]
    exact BR_t (by omega) (h1 ⟨hs12, by omega, fun j hj => f3 j (by omega)⟩ M f1 fun j hj => f2 j (by omega))
  | m + 1, i, M, x3, x4, hi, h4, h3, f1, f2, f3 => by
    subst h4 h3
    have g1 : ∀ a, a ≠ 132 → up M 132 i (f i) a = M0 a := fun a ha => by rw [up_c ha]; exact f1 a ha
    have gr : rd (up M 132 i (f i)) 132 (i : Int) = f i := by rw [rd_at (n := i) rfl (by omega), up_s]
    unfold wX12_take_L63
    rw [f1 125 (by decide), h13, bm_id (z := s) (by omega) (by omega), bm_nat (n := i) (by omega), rd_at (i := 24 * (k : Int) + (i : Int)) (n := 24 * k + i) (by omega) (by omega), show (125 : Nat) + 21 = 146 from rfl, f1 146 (by decide), hf i (by omega), wr_up (n := i) rfl (by omega), show (125 : Nat) + 7 = 132 from rfl]
    have hn0 : up M 132 i (f i) 126 0 = (cnt.toNat : Int) := by rw [g1 126 (by decide), hcz]; omega
    refine BR_f (by omega) ⟨inb_of (n := 24 * k + i) (by omega) (by omega) (by decide), inb_of rfl (by omega) (by decide), LET_i ⟨inb_of rfl (by omega) (by decide), ?_⟩⟩
    rw [gr]
    refine lf_isPc hn0 (fun hw => BR_f q1 ⟨inb_of rfl (by omega) (by decide), ?_⟩) (fun hw => BR_t q0 (h0 (fun ok => hw ?_) _ g1))
    · rw [gr]
      rw [bm0, hbm i (by omega), bm_id (z := (cnt.toNat : Int) - 1) (by omega) (by omega)] at hw
      have hst : stb (rl (fun i => (f i).toNat) i) < 2 ^ 12 := stb_lt _ (by
        intro q hq
        have hps : RowPs (fun j => if j = 0 then cnt else 0) (fun i => (f i).toNat) i := fun k hk => by
          have := (f3 k hk).1
          show ((f k).toNat : Int) < cnt
          omega
        have := hps.pcs q hq
        have h' : (q : Int) < cnt := this
        omega)
      obtain ⟨c, hcf⟩ : ∃ c : Nat, f i = (c : Int) := ⟨(f i).toNat, by omega⟩
      have hbit := okRow_i (f := f) (r := fun i => (f i).toNat) (i := i) rfl (fun j hj => (f3 j hj).1.1) hw.1
      rw [hcf, Int.toNat_natCast] at hbit
      rw [hcf] at g1 gr
      rw [hcf, shr_bit hst (by omega)]
      cases ht : (stb (rl (fun i => (f i).toNat) i)).testBit c
      · rw [if_neg (by decide)]
        have hn : ¬ ∃ j, j < i ∧ f j = f i := by
          intro h
          rw [hcf] at h
          rw [hbit.mpr h] at ht
          cases ht
        refine BR_f (by decide +kernel) ⟨inb_of rfl (by omega) (by decide), LET_i (LET_i ?_)⟩
        refine tm_L hk h13 hs12 hb hc hcz hf hbm h0 h1 m (i + 1) _ _ _ (by omega) (by omega) ?_ g1 (fun j hj => ?_) (fun j hj => ?_)
        · show _ = ((stb ((f i).toNat :: rl (fun i => (f i).toNat) i) : Nat) : Int)
          rw [stb_cons, hcf, Int.toNat_natCast, shl_one c (by omega)]
          exact iOr_n (by omega) (Nat.lt_of_le_of_lt (p2le (m := 12) (by omega)) (by decide))
        · by_cases hji : j = i
          · subst hji
            rw [up_s, hcf]
          · rw [up_kn hji]
            exact f2 j (by omega)
        · by_cases hji : j = i
          · subst hji
            exact ⟨by omega, fun k hk he => hn ⟨k, hk, he⟩⟩
          · exact f3 j (by omega)
      · rw [if_pos rfl]
        refine BR_t (by decide +kernel) (h0 (fun ok => ?_) _ g1)
        obtain ⟨j, h2, h3⟩ := hbit.mp ht
        exact (ok.2.2 i (by omega)).2 j h2 (by rw [h3, hcf])
    · have := (ok.2.2 i (by omega)).1
      rw [bm0, hbm i (by omega), bm_id (z := (cnt.toNat : Int) - 1) (by omega) (by omega)]
      omega
theorem mf_take {M : Mem} {k : Nat} {b : Int} {z : Fl} {Q : Int → Mem → Prop} (hz : ZOk z) (hb : MB z M) (hS : ShOk M) (hk : k < 4) (eb : bm b = b) (hN : M 144 k = 0 → Q 2 M) (hK : M 144 k ≠ 0 → ¬ okRow (M 126 0) (fun i => M 146 (24 * k + i)) (M 145 k) b → ∀ M', FrT M M' → Q 5 M')
    (h0 : ∀ v n : Nat, M 144 k ≠ 0 → b = (v : Int) → M 145 k = (n : Int) → okRow (M 126 0) (fun i => M 146 (24 * k + i)) (M 145 k) b → ∀ M', FrT M M' → (∀ r : Nat → Nat, (∀ i, i < n → M 146 (24 * k + i) = (r i : Int)) → RB v n r M' ∧ LaidAt z v r n M') → Q 0 M') : wX12_take 125 (k : Int) b M Q := by
  obtain ⟨s1, s2, s3, s4, s5, s6⟩ := hS k hk
  have hz0 := hz.1
  have e0 : M 126 0 = z 0 := hb 0 (by omega)
  unfold wX12_take
  rw [rd_at (k := 125 + 19) (n := k) rfl (by omega), rd_at (k := 125 + 20) (n := k) rfl (by omega), show (125 : Nat) + 19 = 144 from rfl, show (125 : Nat) + 20 = 145 from rfl]
  have hsb : bm (M 144 k) = 0 ↔ M 144 k = 0 := by
    rcases s3 with h | h | h | h
    · rw [h, bm0]
    · rw [h, li_8]
    · rw [h, show bm 16 = 16 by decide +kernel]
    · rw [h, show bm 32 = 32 by decide +kernel]
  refine ⟨inb_of rfl hk (by decide), BR_i (fun h => hN (hsb.mp h)) (fun h => ⟨inb_of rfl hk (by decide), LET_i (LET_i ?_)⟩)⟩
  have hb' : M 144 k ≠ 0 := fun h' => h (hsb.mpr h')
  generalize hM1 : up (up M 125 13 (M 145 k)) 125 14 b = M1
  have G : ∀ a, a ≠ 125 → M1 a = M a := fun a ha => by subst hM1; simp (disch := omega) only [up_c]
  have G2 : ∀ j, j ≠ 13 → j ≠ 14 → M1 125 j = M 125 j := fun j q1 q2 => by subst hM1; simp (disch := omega) only [up_kn]
  have G13 : M1 125 13 = M 145 k := by subst hM1; simp (disch := omega) only [up_kn, up_s]
  have G14 : M1 125 14 = b := by subst hM1; simp (disch := omega) only [up_s]
  clear hM1
  have frT : ∀ M', (∀ a, a ≠ 132 → M' a = M1 a) → FrT M M' := fun M' f => ⟨fun a q1 q2 _ _ _ => by rw [f a q2, G a q1], fun j q1 q2 => by rw [f 125 (by decide), G2 j q1 q2]⟩
  rw [G13]
  refine BR_i (fun h1 => hK hb' (fun ok => ?_) M1 (frT M1 fun _ _ => rfl)) (fun h1 => BR_i (fun h2 => hK hb' (fun ok => ?_) M1 (frT M1 fun _ _ => rfl)) (fun h2 => mi_i (fun hw => BR_f q1 ?_) (fun hw => BR_t q0 (hK hb' (fun ok => hw ?_) M1 (frT M1 fun _ _ => rfl)))))
  · have := ok.1
    rw [bm_id (z := M 145 k) (by omega) (by omega)] at h1
    omega
  · have := ok.1
    rw [bm_id (z := M 145 k) (by omega) (by omega)] at h2
    omega
  · rw [bm_id (z := M 145 k) (by omega) (by omega)] at h1 h2
    rw [bm0, eb, bm_id (z := M 145 k - 1) (by omega) (by omega)] at hw
    obtain ⟨v, rfl⟩ : ∃ v : Nat, b = (v : Int) := ⟨b.toNat, by omega⟩
    refine ⟨(M 145 k).toNat + 1, tm_L (v := v) (f := fun i => M 146 (24 * k + i)) (s := M 145 k) (cnt := M 126 0) hk G13 (by omega) (by omega) (by omega) (by rw [G 126 (by decide)]) (fun i hi => by rw [G 146 (by decide)]) (fun i hi => (s6 i hi).2) (fun hn M' f1 => hK hb' hn M' (frT M' f1)) (fun ok M' f1 f2 => ?_) (M 145 k).toNat 0 M1 _ _ (by omega) rfl rfl (fun _ _ => rfl) (fun j hj => by omega) (fun j hj => by omega)⟩
    have fr := frT M' f1
    obtain ⟨v', n, r, hv, hsh⟩ := ok.sh
    obtain rfl : v' = v := by omega
    have hR : RB v' n r M' := by
      refine ⟨by rw [f1 125 (by decide), G13, hsh.1], by rw [f1 125 (by decide), G14], fun i hi => ?_⟩
      have := f2 i (by rw [hsh.1]; omega)
      rw [this]
      exact hsh.2.2.2.1 i hi
    have hps : RowPs z r n := fun i hi => by
      have := hsh.2.2.2.2.1 i hi
      rw [vw_at (by omega), e0] at this
      exact this
    refine mf_layRow hz (hb.congr (fr.1 126 (by decide) (by decide) (by decide) (by decide) (by decide))) hR hsh.2.1 (by have := hsh.2.1; have := hsh.2.2.1; omega) hps fun M2 fl hL => ?_
    refine h0 v' n hb' rfl hsh.1 ok M2 ⟨fun a q1 q2 q3 q4 q5 => by rw [fl a q3 q4 q5]; exact fr.1 a q1 q2 q3 q4 q5, fun j q1 q2 => by rw [fl 125 (by decide) (by decide) (by decide)]; exact fr.2 j q1 q2⟩ fun r' hr' => ?_
    have er : ∀ i, i < n → r' i = r i := fun i hi => by
      have h1 := hr' i hi
      have h2 := hsh.2.2.2.1 i hi
      omega
    have hR2 : RB v' n r M2 := hR.congr (fl 125 (by decide) (by decide) (by decide)) (fl 132 (by decide) (by decide) (by decide))
    refine ⟨⟨hR2.1, hR2.2.1, fun i hi => by rw [hR2.2.2 i hi, er i hi]⟩, fun i hi => ?_⟩
    have el : ∀ j, j ≤ n → rl r' j = rl r j := fun j hj => rl_congr fun c hc => er c (by omega)
    rw [el i (by omega), el (i + 1) (by omega), er i hi]
    exact hL i hi
  · have := ok.2.1
    have := ok.1
    rw [bm0, eb, bm_id (z := M 145 k - 1) (by omega) (by omega)]
    omega
/-- both sides: a class's call, then the reference's -/
def StR (Rl : Int → Int → Prop) (t : Int) (M : Mem) (A B : Mem → (Int → Mem → Prop) → Prop) : Prop := ∀ Q1 : Int → Mem → Prop, (∀ r M1, (∀ Q2 : Int → Mem → Prop, (∀ r2 M2, Rl r r2 → Inv (t + 1) M2 → Q2 r2 M2) → B M1 Q2) → Q1 r M1) → A M Q1
abbrev RI (a b : Int) : Prop := bm a = bm b
abbrev RL (a b : Int) : Prop := bl a = bl b
/-- the errors of a call that takes a row -/
theorem row_both {Rl : Int → Int → Prop} {g : Int → Int} {t : Int} {M : Mem} {a b o : Int} {Q1 QC : Int → Mem → Prop} {B : Mem → (Int → Mem → Prop) → Prop} {TK : (Int → Mem → Prop) → Int → Mem → Prop} (hI : Inv t M) (ea : bm a = a) (eb : bm b = b) (hRl : ∀ r r2, bm r = bm r2 → Rl (g r) (g r2))
    (hQ1 : ∀ r M1, (∀ Q2 : Int → Mem → Prop, (∀ r2 M2, Rl r r2 → Inv (t + 1) M2 → Q2 r2 M2) → B M1 Q2) → Q1 r M1)
    (hCe : ∀ r M', (r = 1 ∨ r = 2 ∨ r = 5) → wX11_error 1 r M' (fun r M => Q1 (g r) M) → QC r M')
    (hB1 : (¬ (0 ≤ a ∧ a ≤ 3) ∨ bm o = 0) → ∀ M1 Q2, M1 126 = M 126 → wX12_error 125 1 M1 (fun r M => Q2 (g r) M) → B M1 Q2)
    (hTk : ∀ k : Nat, k < 4 → a = (k : Int) → bm o ≠ 0 → ∀ M1 Q2, M1 126 = M 126 → wX12_take 125 (k : Int) b M1 (TK Q2) → B M1 Q2)
    (hTe : ∀ r M1 Q2, (r = 2 ∨ r = 5) → wX12_error 125 r M1 (fun r M => Q2 (g r) M) → TK Q2 r M1)
    (h0 : ∀ (k v n : Nat) (r : Nat → Nat), k < 4 → a = (k : Int) → bm o ≠ 0 → M 144 k ≠ 0 → b = (v : Int) → ShRow M k v n r → ∀ M', (∀ c, c ≠ 87 → c ≠ 88 → M' c = M c) → M' 87 1 = (n : Int) → M' 87 2 = (v : Int) → (∀ i, i < n → M' 88 i = (r i : Int)) → QC 0 M') : wX11_rowFault 1 a b o M QC := by
  have hS := hI.2.2.2.2.1
  refine lf_rowFault hI ea eb (fun hb => ?_) (fun k hk hak ho hbk => ?_) (fun k hk hak ho hbk hn M' f => ?_) h0
  · refine hCe 1 M (Or.inl rfl) (lf_error11 (k := 1) rfl (by decide) (by decide) (hQ1 _ _ fun Q2 hQ2 => hB1 hb _ _ (up_c (by decide)) ?_))
    exact st_err hI (k := 1) rfl (by decide) fun r2 M2 hr hi => hQ2 _ _ (hRl _ _ hr) hi
  · refine hCe 2 M (Or.inr (Or.inl rfl)) (lf_error11 (k := 2) rfl (by decide) (by decide) (hQ1 _ _ fun Q2 hQ2 => hTk k hk hak ho _ _ (up_c (by decide)) ?_))
    refine mf_take (z := vw (M 126)) hI.zok (hI.mb.congr (up_c (by decide))) (hS.congr (fun a q1 q2 => up_c (by omega)) (up_c (by decide)) (up_c (by decide)) (up_c (by decide))) hk eb (fun _ => ?_) (fun h => absurd (by rw [up_c (by decide)]; exact hbk) h) (fun v n h => absurd (by rw [up_c (by decide)]; exact hbk) h)
    refine hTe 2 _ _ (Or.inl rfl) ?_
    exact st_err hI (k := 2) rfl (by decide) fun r2 M2 hr hi => hQ2 _ _ (hRl _ _ hr) hi
  · refine hCe 5 M' (Or.inr (Or.inr rfl)) (lf_error11 (k := 5) rfl (by decide) (by decide) (hQ1 _ _ fun Q2 hQ2 => hTk k hk hak ho _ _ (by rw [up_c (by decide), f 126 (by decide)]) ?_))
    have e : ∀ c, c ≠ 86 → c ≠ 88 → up M' 86 5 (M' 86 5 + 1) c = M c := fun c q1 q2 => by rw [up_c q1, f c q2]
    refine mf_take (z := vw (M 126)) hI.zok (hI.mb.congr (e 126 (by decide) (by decide))) (hS.congr (fun a q1 q2 => e a (by omega) (by omega)) (e _ (by decide) (by decide)) (e _ (by decide) (by decide)) (e _ (by decide) (by decide))) hk eb (fun h => absurd (by rw [e 144 (by decide) (by decide)] at h; exact h) hbk) (fun _ _ M2 fr => ?_) (fun v n _ _ _ ok => absurd (by rw [e 126 (by decide) (by decide), e 145 (by decide) (by decide), e 146 (by decide) (by decide)] at ok; exact ok) hn)
    refine hTe 5 _ _ (Or.inr rfl) ?_
    have e86 : M' 86 = M 86 := f 86 (by decide)
    refine er12 hI (k := 5) rfl (by decide) ?_ ?_ fun r2 M2 hr hi => hQ2 _ _ (hRl _ _ hr) hi
    · refine Scr.tr (M' := up M' 86 5 (M' 86 5 + 1)) ⟨fun c q1 _ _ _ _ _ _ => ?_, ?_, ?_⟩ fr.scr
      · by_cases hc : c = 86
        · subst hc
          funext j
          rw [up_k, up_k, e86]
        · rw [up_c hc, up_c hc, f c (by omega)]
      · rw [up_c (by decide), up_c (by decide), f 125 (by decide)]
      · rw [up_c (by decide), up_c (by decide), f 125 (by decide)]
    · exact hI.wz.congr fun c q1 q2 => by rw [fr.1 c (by omega) (by omega) (by omega) (by omega) (by omega), e c (by omega) (by omega)]
/-- the reference takes the row that the class took -/
theorem mf_took {t : Int} {M M1 : Mem} {k v n : Nat} {r : Nat → Nat} {Q : Int → Mem → Prop} (hI : Inv t M) (hk : k < 4) (hb : M 144 k ≠ 0) (hsh : ShRow M k v n r) (h126 : M1 126 = M 126) (h144 : M1 144 = M 144) (h145 : M1 145 = M 145) (h146 : M1 146 = M 146) (hs : ∀ a, 117 ≤ a → a ≤ 124 → M1 a = M a) (hQ : ∀ M', FrT M1 M' → RB v n r M' → LaidAt (vw (M 126)) v r n M' → Q 0 M') : wX12_take 125 (k : Int) (v : Int) M1 Q := by
  have ok := hsh.ok hI
  have hz := hI.zok
  refine mf_take (z := vw (M 126)) hz (hI.mb.congr h126) (hI.2.2.2.2.1.congr hs h144 h145 h146) hk (bm_nat (by have := hsh.2.1; have := hsh.2.2.1; omega)) (fun h => absurd (by rw [h144] at h; exact h) hb) (fun _ hn => absurd (by rw [h126, h145, h146]; exact ok) hn) (fun v' n' _ hv hn' _ M' fr hr => ?_)
  have e1 : n' = n := by
    rw [h145, hsh.1] at hn'
    omega
  have e2 : v' = v := by omega
  subst e1 e2
  obtain ⟨r1, r2⟩ := hr r (fun i hi => by rw [h146]; exact hsh.2.2.2.1 i hi)
  exact hQ M' fr r1 r2
/-- behind a walk of the class -/
theorem along_scr {M M' M'' : Mem} (f : ∀ c, c ≠ 87 → c ≠ 88 → M' c = M c) (h : ∀ a, ¬ (91 ≤ a ∧ a ≤ 102) → M'' a = M' a) : Scr M M'' :=
  ⟨fun a q1 _ _ _ _ _ _ => by rw [h a (by omega), f a (by omega) (by omega)], by rw [h 125 (by omega), f 125 (by decide) (by decide)], by rw [h 125 (by omega), f 125 (by decide) (by decide)]⟩
theorem ShRow.z {M : Mem} {k v n : Nat} {r : Nat → Nat} (h : ShRow M k v n r) : RowPs (vw (M 126)) r n := h.2.2.2.2.1
/-- the class goes along the row that it took -/
theorem lf_along87 {t : Int} {M M' : Mem} {k v n b : Nat} {r : Nat → Nat} {Q : Mem → Prop} {x : Int} (hI : Inv t M) (hsh : ShRow M k v n r) (f : ∀ c, c ≠ 87 → c ≠ 88 → M' c = M c) (h1 : M' 87 1 = (n : Int)) (h2 : M' 87 2 = (v : Int)) (h3 : ∀ i, i < n → M' 88 i = (r i : Int)) (hb2 : b < 4096) (hx : x = (b : Int))
    (hQ : ∀ M'', Scr M M'' → WzOk M'' → (∀ a, ¬ (91 ≤ a ∧ a ≤ 102) → M'' a = M' a) → CB (vw (M 126)) M'' → M'' 91 1 = (n : Int) → M'' 91 2 = (v : Int) → M'' 91 3 = (b : Int) → RowAt (vw (M 126)) v n r n M'' → SumAt (vw (M 126)) v n r b n M'' → Q M'') : wX10_along 91 87 x M' Q := by
  subst hx
  have hz := hI.zok
  have hcb : CB (vw (M 126)) M' := hI.cb.congr hz fun a ha => f a (by omega) (by omega)
  refine lf_along hz hcb (hI.wz.congr fun a q1 q2 => f a (by omega) (by omega)) (by omega) h1 h2 hb2 hsh.2.1 (by have := hsh.2.1; have := hsh.2.2.1; omega) hsh.z h3 fun M2 g1 g2 g3 g4 g5 g6 g7 => ?_
  exact hQ M2 (along_scr f g1) g2 g1 (hcb.congr hz fun a ha => g1 a (by omega)) g3 g4 g5 g6 g7
