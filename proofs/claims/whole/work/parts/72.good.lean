/-! THE CLASS GOES THROUGH ALL GOOD ROWS -/
def FrJ (i : Nat) (M M' : Mem) : Prop := (∀ k, k < i → M' 92 k = M 92 k ∧ M' 93 k = M 93 k) ∧ (∀ k, k ≤ i → M' 94 k = M 94 k ∧ M' 95 k = M 95 k ∧ M' 96 k = M 96 k ∧ M' 97 k = M 97 k ∧ M' 98 k = M 98 k) ∧ (∀ k, k < 8 * (i + 1) → M' 99 k = M 99 k) ∧ ∀ k, k < 10 * (i + 1) → M' 100 k = M 100 k
theorem FrI.j {i : Nat} {M M' : Mem} (h : FrI i M M') : FrJ i M M' := h.2
theorem FrJ.rf {i : Nat} {M : Mem} : FrJ i M M := ⟨fun _ _ => ⟨rfl, rfl⟩, fun _ _ => ⟨rfl, rfl, rfl, rfl, rfl⟩, fun _ _ => rfl, fun _ _ => rfl⟩
theorem FrJ.tr {i j k : Nat} {M M' M'' : Mem} (h : FrJ i M M') (h' : FrJ j M' M'') (hi : k ≤ i) (hj : k ≤ j) : FrJ k M M'' := by
  obtain ⟨a2, a3, a4, a5⟩ := h
  obtain ⟨b2, b3, b4, b5⟩ := h'
  refine ⟨fun c hc => ?_, fun c hc => ?_, fun c hc => by rw [b4 c (by omega), a4 c (by omega)], fun c hc => by rw [b5 c (by omega), a5 c (by omega)]⟩
  · rw [(b2 c (by omega)).1, (b2 c (by omega)).2]
    exact a2 c (by omega)
  · obtain ⟨x1, x2, x3, x4, x5⟩ := b3 c (by omega)
    rw [x1, x2, x3, x4, x5]
    exact a3 c (by omega)
theorem FrJ.of {i : Nat} {M M' : Mem} (h : ∀ a, 92 ≤ a → a ≤ 100 → M' a = M a) : FrJ i M M' := by
  refine ⟨fun k _ => ?_, fun k _ => ?_, fun k _ => ?_, fun k _ => ?_⟩
  · rw [h 92 (by decide) (by decide), h 93 (by decide) (by decide)]
    exact ⟨rfl, rfl⟩
  · rw [h 94 (by decide) (by decide), h 95 (by decide) (by decide), h 96 (by decide) (by decide), h 97 (by decide) (by decide), h 98 (by decide) (by decide)]
    exact ⟨rfl, rfl, rfl, rfl, rfl⟩
  · rw [h 99 (by decide) (by decide)]
  · rw [h 100 (by decide) (by decide)]
theorem RowAt.frj {z : Fl} {v n i : Nat} {r : Nat → Nat} {M M' : Mem} (h : RowAt z v n r i M) (f : FrJ i M M') : RowAt z v n r i M' := by
  obtain ⟨b2, b3, b4, -⟩ := f
  refine ⟨fun k hk => ?_, fun k hk => ?_⟩
  · rw [(b2 k hk).1, (b2 k hk).2]
    exact h.1 k hk
  · obtain ⟨x1, x2, x3, x4, x5⟩ := b3 k hk
    obtain ⟨c1, c2, c3, c4, c5, c6⟩ := h.2 k hk
    refine ⟨by rw [x1]; exact c1, by rw [x2]; exact c2, by rw [x3]; exact c3, by rw [x4]; exact c4, by rw [x5]; exact c5, fun j hj => ?_⟩
    rw [b4 _ (by omega)]
    exact c6 j hj
theorem SumAt.frj {z : Fl} {v n b i j : Nat} {r : Nat → Nat} {M M' : Mem} (hz : ZOk z) (h : SumAt z v n r b i M) (f : FrJ j M M') (hj : i ≤ j) : SumAt z v n r b i M' := fun k hk l hl hb => by
  have := hz.2.1
  rw [f.2.2.2 _ (by omega)]
  exact h k hk l hl hb
theorem WzOk.frj {i : Nat} {M M' : Mem} (h : WzOk M) (f : FrJ i M M') : WzOk M' := by
  obtain ⟨h1, h2, h3, h4, h5, h6, h7⟩ := h
  obtain ⟨-, b3, b4, b5⟩ := f
  obtain ⟨x1, x2, x3, x4, x5⟩ := b3 0 (by omega)
  exact ⟨by rw [x1]; exact h1, by rw [x2]; exact h2, by rw [x3]; exact h3, by rw [x4]; exact h4, by rw [x5]; exact h5, fun p hp => by rw [b4 p (by omega)]; exact h6 p hp, fun l hl => by rw [b5 l (by omega)]; exact h7 l hl⟩
/-- what stands during the search -/
def GS (z : Fl) (k n v b : Nat) (L : List Nat) (Ls : List Cand) (M : Mem) : Prop := CB z M ∧ M 91 1 = (n : Int) ∧ M 91 2 = (v : Int) ∧ M 91 3 = (b : Int) ∧ M 103 5 = (n : Int) ∧ M 103 4 = (k : Int) ∧ (∀ i, i < n → M 104 i = (L.getD i 0 : Nat)) ∧ SR z n Ls (M 103 6) (M 103 7) (M 103 8) (M 103 9) (M 105 2) (M 106)
def FrF (M M' : Mem) : Prop := (∀ a, ¬ (92 ≤ a ∧ a ≤ 102) → a ≠ 103 → a ≠ 105 → a ≠ 106 → M' a = M a) ∧ ∀ j, (j < 6 ∨ 9 < j) → M' 103 j = M 103 j
theorem FrF.rf {M : Mem} : FrF M M := ⟨fun _ _ _ _ _ => rfl, fun _ _ => rfl⟩
theorem FrF.tr {M M' M'' : Mem} (h : FrF M M') (h' : FrF M' M'') : FrF M M'' := ⟨fun a q1 q2 q3 q4 => by rw [h'.1 a q1 q2 q3 q4, h.1 a q1 q2 q3 q4], fun j hj => by rw [h'.2 j hj, h.2 j hj]⟩
theorem FrF.of {M M' : Mem} (h : ∀ a, ¬ (92 ≤ a ∧ a ≤ 102) → M' a = M a) : FrF M M' := ⟨fun a q _ _ _ => h a q, fun j _ => by rw [h 103 (by omega)]⟩
theorem GS.fr {z : Fl} {k n v b : Nat} {L : List Nat} {Ls : List Cand} {M M' : Mem} (hz : ZOk z) (h : GS z k n v b L Ls M) (f : ∀ a, ¬ (92 ≤ a ∧ a ≤ 102) → M' a = M a) : GS z k n v b L Ls M' := by
  obtain ⟨h1, h2, h3, h4, h5, h6, h7, h8⟩ := h
  unfold GS
  rw [f 91 (by omega), f 103 (by omega), f 104 (by omega), f 105 (by omega), f 106 (by omega)]
  exact ⟨h1.congr hz fun a ha => f a (by omega), h2, h3, h4, h5, h6, h7, h8⟩
theorem rl_get {r : Nat → Nat} : ∀ {n i : Nat}, i < n → (rl r n).reverse.getD i 0 = r i
  | 0, i, h => by omega
  | n + 1, i, h => by
    show (r n :: rl r n).reverse.getD i 0 = r i
    rw [List.reverse_cons, List.getD_eq_getElem?_getD]
    rcases Nat.lt_or_ge i n with h1 | h1
    · rw [List.getElem?_append_left (by rw [List.length_reverse, rl_len]; exact h1), ← List.getD_eq_getElem?_getD]
      exact rl_get h1
    · obtain rfl : i = n := by omega
      rw [List.getElem?_append_right (by rw [List.length_reverse, rl_len]; exact Nat.le_refl _), List.length_reverse, rl_len, Nat.sub_self]
      rfl
theorem stb_mem {c : Nat} : ∀ {l : List Nat}, (stb l).testBit c = true ↔ c ∈ l
  | [] => by
    show (Nat.testBit 0 c) = true ↔ _
    rw [Nat.zero_testBit]
    simp
  | q :: l => by
    rw [stb_cons, or_bit_tb, Bool.or_eq_true, stb_mem (l := l), decide_eq_true_eq, List.mem_cons]
    exact ⟨fun h => h.elim Or.inr fun h => Or.inl h.symm, fun h => h.elim (fun h => Or.inr h.symm) Or.inl⟩
theorem lf_keepFound {x1 : Int} {M : Mem} {Q : Mem → Prop} (hQ : ∀ M', (∀ a, a ≠ 105 → a ≠ 106 → M' a = M a) → M' 105 1 = M 103 5 → M' 105 2 = x1 → (∀ j, j < 12 → M' 106 j = M 92 j) → Q M') : wX6_keepFound 103 x1 M Q := by
  unfold wX6_keepFound
  refine LET_i (LET_i ⟨?_, LET_i (hQ _ (fun a q1 q2 => ?_) ?_ ?_ fun j hj => ?_)⟩)
  · rw [bm0, li_12]
    decide
  · rw [cpy_c q2, up_c q1, up_c q1]
  · rw [cpy_c (by decide), up_kn (by decide), up_s]
  · rw [cpy_c (by decide), up_s]
  · show cpy _ 92 106 0 0 12 106 j = _
    rw [cpy_at (n := 12) (k := 12) rfl (by decide), if_pos hj, up_c (by decide), up_c (by decide)]
/-- one that is worth as much -/
theorem te_L {n : Nat} {r P : Nat → Nat} {F0 : Nat} {M0 : Mem} {x1 : Int} {Q : Mem → Prop} {E : Int → Mem → Prop} (hn : M0 103 5 = (n : Int)) (hn12 : n ≤ 12) (hr : ∀ i, i < n → M0 92 i = (r i : Int) ∧ r i < 12) (hP : ∀ i, i < n → M0 106 i = (P i : Int) ∧ P i < 12) (hF0 : F0 < 2 ^ 12)
    (hQ : ∀ (M' : Mem) (x2 : Int) (F : Nat), (∀ a, a ≠ 103 → M' a = M0 a) → (∀ j, j ≠ 8 → M' 103 j = M0 103 j) → M' 103 8 = (F : Int) → F < 2 ^ 12 → (∀ j, F.testBit j = true ↔ F0.testBit j = true ∧ ∀ i, i < n → P i = j → r i = P i) → isB x2 → (x2 = 1 ↔ ∃ q, q < n ∧ (∀ i, i < q → r i = P i) ∧ r q < P q) → E x2 M') : ∀ (m p : Nat) (M : Mem) (x2 x3 x4 : Int) (F : Nat), p + m = n → x4 = (p : Int) → (∀ a, a ≠ 103 → M a = M0 a) → (∀ j, j ≠ 8 → M 103 j = M0 103 j) → M 103 8 = (F : Int) → F < 2 ^ 12 → (∀ j, F.testBit j = true ↔ F0.testBit j = true ∧ ∀ i, i < p → P i = j → r i = P i) → isB x2 → (x2 = 1 ↔ ∃ q, q < p ∧ (∀ i, i < q → r i = P i) ∧ r q < P q) → isB x3 → (x3 = 1 ↔ ∀ i, i < p → r i = P i) → wX6_takeEqual_L7 Q E 103 x1 (m + 1) x2 x3 x4 M
  | 0, p, M, x2, x3, x4, F, hp, h4, f1, f2, f3, f4, f5, b2, h2, b3, h3 => by
    subst h4
    obtain rfl : p = n := by omega
    unfold wX6_takeEqual_L7
    rw [f2 5 (by decide), hn]
    exact BR_t (Int.le_refl _) (hQ M x2 F f1 f2 f3 f4 f5 b2 h2)
  | m + 1, p, M, x2, x3, x4, F, hp, h4, f1, f2, f3, f4, f5, b2, h2, b3, h3 => by
    subst h4
    obtain ⟨r1, r2⟩ := hr p (by omega)
    obtain ⟨p1, p2⟩ := hP p (by omega)
    unfold wX6_takeEqual_L7
    rw [f2 5 (by decide), hn, bm_nat (n := n) (by omega), bm_nat (n := p) (by omega), rd_at (n := p) rfl (by omega), rd_at (n := p) rfl (by omega), show (103 : Nat) + 3 = 106 from rfl, show (103 : Nat) - 12 + 1 = 92 from rfl, f1 106 (by decide), f1 92 (by decide), r1, p1, bm_nat (n := r p) (by omega)]
    refine BR_f (by omega) ⟨inb_of rfl (by omega) (by decide), LET_i ⟨inb_of rfl (by omega) (by decide), ?_⟩⟩
    rw [bm_nat (n := P p) (by omega)]
    refine BR_i (fun h => LET_i (te_L hn hn12 hr hP hF0 hQ m (p + 1) M _ _ _ F (by omega) (by omega) f1 f2 f3 f4 (fun j => ?_) b2 ?_ b3 ?_)) (fun h => LET_i ?_)
    · rw [f5 j]
      refine ⟨fun q => ⟨q.1, fun i hi he => ?_⟩, fun q => ⟨q.1, fun i hi he => q.2 i (by omega) he⟩⟩
      rcases Nat.lt_or_ge i p with h1 | h1
      · exact q.2 i h1 he
      · obtain rfl : i = p := by omega
        omega
    · rw [h2]
      refine ⟨fun ⟨q, a1, a2, a3⟩ => ⟨q, by omega, a2, a3⟩, fun ⟨q, a1, a2, a3⟩ => ⟨q, ?_, a2, a3⟩⟩
      rcases Nat.lt_or_ge q p with h1 | h1
      · exact h1
      · obtain rfl : q = p := by omega
        omega
    · rw [h3]
      refine ⟨fun q i hi => ?_, fun q i hi => q i (by omega)⟩
      rcases Nat.lt_or_ge i p with h1 | h1
      · exact q i h1
      · obtain rfl : i = p := by omega
        omega
    · have hne : r p ≠ P p := fun e => h (by omega)
      have hFn : iAnd (M 103 8) (iXor (iShl 1 (P p : Int)) (-1)) = ((and_not F (2 ^ P p) : Nat) : Int) := by
        rw [f3, shl_one (P p) p2]
        exact iAnd_not (by omega) (Nat.lt_of_le_of_lt (p2le (m := 12) (by omega)) (by decide))
      rw [hFn]
      have g1 : ∀ a, a ≠ 103 → up M 103 8 ((and_not F (2 ^ P p) : Nat) : Int) a = M0 a := fun a ha => by rw [up_c ha]; exact f1 a ha
      have g2 : ∀ j, j ≠ 8 → up M 103 8 ((and_not F (2 ^ P p) : Nat) : Int) 103 j = M0 103 j := fun j hj => by rw [up_kn hj]; exact f2 j hj
      have g4 : and_not F (2 ^ P p) < 2 ^ 12 := Nat.lt_of_le_of_lt (and_not_le _ _) f4
      have g5 : ∀ j, (and_not F (2 ^ P p)).testBit j = true ↔ F0.testBit j = true ∧ ∀ i, i < p + 1 → P i = j → r i = P i := by
        intro j
        rcases Nat.lt_or_ge j 12 with hj | hj
        · rw [and_not_tb (by omega), Bool.and_eq_true, f5 j, Nat.testBit_two_pow, Bool.not_eq_true', decide_eq_false_iff_not]
          constructor
          · rintro ⟨⟨q1, q2⟩, q3⟩
            refine ⟨q1, fun i hi he => ?_⟩
            rcases Nat.lt_or_ge i p with h1 | h1
            · exact q2 i h1 he
            · obtain rfl : i = p := by omega
              exact absurd he q3
          · rintro ⟨q1, q2⟩
            exact ⟨⟨q1, fun i hi he => q2 i (by omega) he⟩, fun he => hne (q2 p (by omega) he)⟩
        · rw [tb_big g4 hj, tb_big hF0 hj]
          simp
      have nxt : ∀ x : Int, isB x → (x = 1 ↔ ∃ q, q < p + 1 ∧ (∀ i, i < q → r i = P i) ∧ r q < P q) → wX6_takeEqual_J86 Q (fun x2' x3' x4' M' => wX6_takeEqual_L7 Q E 103 x1 (m + 1) x2' x3' x4' M') 103 x1 (p : Int) x (up M 103 8 ((and_not F (2 ^ P p) : Nat) : Int)) := by
        intro x bx hx
        unfold wX6_takeEqual_J86
        refine LET_i (te_L hn hn12 hr hP hF0 hQ m (p + 1) _ _ _ _ (and_not F (2 ^ P p)) (by omega) (by omega) g1 g2 (up_s _ _ _ _) g4 g5 bx hx isB0 ⟨fun e => (by cases e), fun q => absurd (q p (by omega)) hne⟩)
      have hrd : rd (up M 103 8 ((and_not F (2 ^ P p) : Nat) : Int)) 92 (p : Int) = (r p : Int) := by rw [rd_at (n := p) rfl (by omega), g1 92 (by decide)]; exact r1
      rcases b3 with h0 | h0
      · subst h0
        refine BR_t bm0 (nxt x2 b2 ?_)
        rw [h2]
        have hno : ¬ ∀ i, i < p → r i = P i := fun q => by
          have := h3.mpr q
          cases this
        refine ⟨fun ⟨q, a1, a2, a3⟩ => ⟨q, by omega, a2, a3⟩, fun ⟨q, a1, a2, a3⟩ => ⟨q, ?_, a2, a3⟩⟩
        rcases Nat.lt_or_ge q p with h1 | h1
        · exact h1
        · obtain rfl : q = p := by omega
          exact absurd a2 hno
      · subst h0
        have hal := h3.mp rfl
        refine BR_f q1 ⟨inb_of rfl (by omega) (by decide), ?_⟩
        rw [hrd, bm_nat (n := r p) (by omega)]
        refine BR_i (fun h' => nxt 0 isB0 ⟨fun e => (by cases e), ?_⟩) (fun h' => nxt 1 isB1 ⟨fun _ => ⟨p, by omega, hal, by omega⟩, fun _ => rfl⟩)
        rintro ⟨q, a1, a2, a3⟩
        rcases Nat.lt_or_ge q p with h1 | h1
        · have := hal q h1
          omega
        · obtain rfl : q = p := by omega
          omega
theorem POk.lt12 {k n : Nat} {l : List Nat} (hk : k < 2 ^ 12) (h : POk k n l) {i : Nat} (hi : i < n) : l.getD i 0 < 12 := by
  have ht := (h.2.2 (l.getD i 0)).mpr ⟨i, hi, rfl⟩
  rcases Nat.lt_or_ge (l.getD i 0) 12 with h1 | h1
  · exact h1
  · rw [tb_big hk h1] at ht
    cases ht
theorem lf_takeGood {z : Fl} {k n v nl : Nat} {L : List Nat} {Ls : List Cand} {r : Nat → Nat} {M : Mem} {Q : Mem → Prop} (hz : ZOk z) (hk : k < 2 ^ 12) (hnl : z 1 = (nl : Int)) (hn12 : n ≤ 12) (hG : GS z k n v (bits (isOn z) nl) L Ls M) (hR : RowAt z v n r n M) (hS : SumAt z v n r (bits (isOn z) nl) n M) (hc : POk k n (rl r n).reverse) (hLs : ∀ d ∈ Ls, POk k n d.1 ∧ d.2 ≤ v) (hlen : Ls.length < 1000000)
    (hQ : ∀ M', FrF M M' → (∀ a, 92 ≤ a → a ≤ 102 → M' a = M a) → GS z k n v (bits (isOn z) nl) L (((rl r n).reverse, v) :: Ls) M' → Q M') : wX6_takeGood 103 (v : Int) M Q := by
  obtain ⟨g1, g2, g3, g4, g5, g6, g7, g8⟩ := hG
  have hcw : cwo z n ((rl r n).reverse, v) = worth z v n (rl r n) := by
    unfold cwo
    rw [List.reverse_reverse]
  have hwb := worth_b hz v n (rl r n)
  have hG0 : M 103 6 = (Ls.length : Int) := g8.1
  unfold wX6_takeGood
  refine lf_total hz g1 hnl g2 g4 hn12 hR hS (LET_i ?_)
  rw [up_s, hG0, bm_id (z := (Ls.length : Int) + 1) (by omega) (by omega)]
  have hcr : ∀ i, i < n → M 92 i = (r i : Int) := fun i hi => (hR.1 i hi).1
  have r12 : ∀ i, i < n → r i < 12 := fun i hi => by
    have := hc.lt12 hk hi
    rw [rl_get hi] at this
    exact this
  have j35 : (∀ d ∈ Ls, cwo z n d < cwo z n ((rl r n).reverse, v)) → wX6_takeGood_J35 Q 103 (v : Int) (worth z v n (rl r n)) (up M 103 6 ((Ls.length : Int) + 1)) := by
    intro hm
    unfold wX6_takeGood_J35
    refine LET_i (LET_i (LET_i (lf_keepFound fun M' f1 f2 f3 f4 => hQ M' ⟨fun a q1 q2 q3 q4 => ?_, fun j hj => ?_⟩ (fun a q1 q2 => ?_) ?_)))
    · rw [f1 a q3 q4, up_c q2, up_c q2, up_c q2, up_c q2]
    · rw [f1 103 (by decide) (by decide), up_kn (by omega), up_kn (by omega), up_kn (by omega), up_kn (by omega)]
    · rw [f1 a (by omega) (by omega), up_c (by omega), up_c (by omega), up_c (by omega), up_c (by omega)]
    · generalize hM1 : up (up (up (up M 103 6 ((Ls.length : Int) + 1)) 103 9 (worth z v n (rl r n))) 103 7 1) 103 8 (up (up (up M 103 6 ((Ls.length : Int) + 1)) 103 9 (worth z v n (rl r n))) 103 7 1 103 4) = M1 at f1 f2 f3 f4
      have e : ∀ a, a ≠ 103 → M1 a = M a := fun a ha => by subst hM1; rw [up_c ha, up_c ha, up_c ha, up_c ha]
      have e4 : M1 103 4 = (k : Int) := by subst hM1; simp (disch := omega) only [up_kn]; exact g6
      have e5 : M1 103 5 = (n : Int) := by subst hM1; simp (disch := omega) only [up_kn]; exact g5
      have e6 : M1 103 6 = M 103 6 + 1 := by subst hM1; simp (disch := omega) only [up_kn, up_s]; rw [hG0]
      have e7 : M1 103 7 = 1 := by subst hM1; simp (disch := omega) only [up_kn, up_s]
      have e8 : M1 103 8 = (k : Int) := by subst hM1; simp (disch := omega) only [up_kn, up_s]; exact g6
      have e9 : M1 103 9 = worth z v n (rl r n) := by subst hM1; simp (disch := omega) only [up_kn, up_s]
      clear hM1
      have e' : ∀ a, a ≠ 103 → a ≠ 105 → a ≠ 106 → M' a = M a := fun a q1 q2 q3 => by rw [f1 a q2 q3, e a q1]
      have e103 : M' 103 = M1 103 := f1 103 (by decide) (by decide)
      refine ⟨g1.congr hz fun a ha => e' a (by omega) (by omega) (by omega), by rw [e' 91 (by decide) (by decide) (by decide)]; exact g2, by rw [e' 91 (by decide) (by decide) (by decide)]; exact g3, by rw [e' 91 (by decide) (by decide) (by decide)]; exact g4, by rw [e103]; exact e5, by rw [e103]; exact e4, fun i hi => by rw [e' 104 (by decide) (by decide) (by decide)]; exact g7 i hi, ?_⟩
      rw [e103, e6, e7, e8, e9, ← hcw]
      refine g8.more (c := ((rl r n).reverse, v)) hk hc hm f3 fun i hi => ?_
      rw [f4 i (by omega), e 92 (by decide), hcr i hi]
      exact congrArg _ (rl_get hi).symm
  refine BR_i (fun h => j35 fun d hd => ?_) (fun h => ?_)
  · have : Ls = [] := List.length_eq_zero_iff.mp (by omega)
    rw [this] at hd
    cases hd
  · have hne : Ls ≠ [] := fun e => h (by rw [e]; rfl)
    obtain ⟨b, hb⟩ := isBest_e (z := z) (n := n) (fun d hd => (hLs d hd).1.1) hne
    obtain ⟨a1, a2, a3, a4, a5⟩ := g8.2.2 b hb
    have hwb2 : -487049291366400 ≤ cwo z n b ∧ cwo z n b ≤ 487049291366400 := worth_b hz _ _ _
    have pb := (hLs b hb.1).1
    rw [show up M 103 6 ((Ls.length : Int) + 1) 103 9 = M 103 9 from up_kn (by decide), a2, lc_le, lc_eq, bl_id (z := worth z v n (rl r n)) (by omega) (by omega), bl_id (z := cwo z n b) (by omega) (by omega)]
    refine BR_i (fun h1 => BR_i (fun h2 => LET_i ?_) (fun h2 => ?_)) (fun h1 => j35 fun d hd => ?_)
    · -- as much
      unfold wX6_takeEqual
      have e7 : up M 103 6 ((Ls.length : Int) + 1) 103 7 = M 103 7 := up_kn (by decide)
      rw [e7]
      generalize hM1 : up (up M 103 6 ((Ls.length : Int) + 1)) 103 7 (M 103 7 + 1) = M1
      have e : ∀ a, a ≠ 103 → M1 a = M a := fun a ha => by subst hM1; rw [up_c ha, up_c ha]
      have ej : ∀ j, j ≠ 6 → j ≠ 7 → M1 103 j = M 103 j := fun j q1 q2 => by subst hM1; rw [up_kn q2, up_kn q1]
      have x6 : M1 103 6 = M 103 6 + 1 := by subst hM1; simp (disch := omega) only [up_kn, up_s]; rw [hG0]
      have x7 : M1 103 7 = M 103 7 + 1 := by subst hM1; rw [up_s]
      clear hM1
      have hF := fixs_lt (z := z) (Ls := Ls) hk pb n (Nat.le_refl n)
      refine ⟨n + 1, te_L (n := n) (r := r) (P := fun i => b.1.getD i 0) (F0 := fixs z n Ls b n) (by rw [ej 5 (by decide) (by decide)]; exact g5) hn12 (fun i hi => ⟨by rw [e 92 (by decide)]; exact hcr i hi, r12 i hi⟩) (fun i hi => ⟨by rw [e 106 (by decide)]; exact a4 i hi, pb.lt12 hk hi⟩) hF (fun M2 x2 F f1 f2 f3 f4 f5 b2 h2' => ?_) n 0 M1 _ _ _ (fixs z n Ls b n) (by omega) rfl (fun _ _ => rfl) (fun _ _ => rfl) (by rw [ej 8 (by decide) (by decide)]; exact a5) hF (fun j => ⟨fun q => ⟨q, fun i hi => by omega⟩, fun q => q.1⟩) isB0 ⟨fun q => (by cases q), fun ⟨q, hq, _⟩ => by omega⟩ isB1 ⟨fun _ i hi => by omega, fun _ => rfl⟩⟩
      have hlex : lexLt (rl r n).reverse b.1 ↔ ∃ q, q < n ∧ (∀ i, i < q → r i = b.1.getD i 0) ∧ r q < b.1.getD q 0 := by
        rw [lex_iff hc.1 pb.1]
        constructor
        · rintro ⟨p, q1, q2, q3⟩
          refine ⟨p, q1, fun i hi => ?_, ?_⟩
          · rw [← rl_get (r := r) (n := n) (by omega)]
            exact q2 i hi
          · rw [rl_get q1] at q3
            exact q3
        · rintro ⟨p, q1, q2, q3⟩
          refine ⟨p, q1, fun i hi => ?_, ?_⟩
          · rw [rl_get (by omega)]
            exact q2 i hi
          · rw [rl_get q1]
            exact q3
      have hF' : ∀ j, F.testBit j = true ↔ (fixs z n Ls b n).testBit j = true ∧ ∀ i, i < n → b.1.getD i 0 = j → (((rl r n).reverse, v) : Cand).1.getD i 0 = b.1.getD i 0 := by
        intro j
        rw [f5 j]
        refine ⟨fun q => ⟨q.1, fun i hi he => ?_⟩, fun q => ⟨q.1, fun i hi he => ?_⟩⟩
        · show (rl r n).reverse.getD i 0 = _
          rw [rl_get hi]
          exact q.2 i hi he
        · have := q.2 i hi he
          change (rl r n).reverse.getD i 0 = _ at this
          rw [rl_get hi] at this
          exact this
      have fin : ∀ M3 : Mem, (∀ a, a ≠ 105 → a ≠ 106 → M3 a = M2 a) → (lexLt (rl r n).reverse b.1 → M3 105 2 = (v : Int) ∧ ∀ i, i < n → M3 106 i = ((rl r n).reverse.getD i 0 : Nat)) → (¬ lexLt (rl r n).reverse b.1 → M3 105 2 = M 105 2 ∧ ∀ i, i < n → M3 106 i = M 106 i) → Q M3 := by
        intro M3 k1 k2 k3
        have e' : ∀ a, a ≠ 103 → a ≠ 105 → a ≠ 106 → M3 a = M a := fun a q1 q2 q3 => by rw [k1 a q2 q3, f1 a q1, e a q1]
        have e103 : M3 103 = M2 103 := k1 103 (by decide) (by decide)
        refine hQ M3 ⟨fun a q1 q2 q3 q4 => e' a q2 q3 q4, fun j hj => by rw [e103, f2 j (by omega), ej j (by omega) (by omega)]⟩ (fun a q1 q2 => e' a (by omega) (by omega) (by omega)) ?_
        refine ⟨g1.congr hz fun a ha => e' a (by omega) (by omega) (by omega), by rw [e' 91 (by decide) (by decide) (by decide)]; exact g2, by rw [e' 91 (by decide) (by decide) (by decide)]; exact g3, by rw [e' 91 (by decide) (by decide) (by decide)]; exact g4, by rw [e103, f2 5 (by decide), ej 5 (by decide) (by decide)]; exact g5, by rw [e103, f2 4 (by decide), ej 4 (by decide) (by decide)]; exact g6, fun i hi => by rw [e' 104 (by decide) (by decide) (by decide)]; exact g7 i hi, ?_⟩
        rw [e103, f2 6 (by decide), f2 7 (by decide), f2 9 (by decide), f3, x6, x7, ej 9 (by decide) (by decide)]
        exact g8.same (b := b) (c := ((rl r n).reverse, v)) hk hb (fun d hd => (hLs d hd).1) hc (by rw [hcw]; exact h2) (fun _ => (hLs b hb.1).2) f4 hF' k2 k3
      rcases b2 with h0 | h0
      · subst h0
        have hno : ¬ lexLt (rl r n).reverse b.1 := fun q => by
          have := h2'.mpr (hlex.mp q)
          cases this
        exact BR_t bm0 (fin M2 (fun _ _ _ => rfl) (fun q => absurd q hno) fun _ => ⟨by rw [f1 105 (by decide), e 105 (by decide)], fun i hi => by rw [f1 106 (by decide), e 106 (by decide)]⟩)
      · subst h0
        have hyes := hlex.mpr (h2'.mp rfl)
        refine BR_f q1 (lf_keepFound fun M3 k1 k2 k3 k4 => fin M3 k1 (fun _ => ⟨k3, fun i hi => ?_⟩) (fun q => absurd hyes q))
        rw [k4 i (by omega), f1 92 (by decide), e 92 (by decide), hcr i hi, rl_get hi]
    · -- less
      refine hQ _ ⟨fun a q1 q2 q3 q4 => up_c q2, fun j hj => up_kn (by omega)⟩ (fun a q1 q2 => up_c (by omega)) ?_
      have e : ∀ a, a ≠ 103 → up M 103 6 ((Ls.length : Int) + 1) a = M a := fun a ha => up_c ha
      refine ⟨g1.congr hz fun a ha => e a (by omega), g2, g3, g4, by rw [up_kn (by decide)]; exact g5, by rw [up_kn (by decide)]; exact g6, fun i hi => g7 i hi, ?_⟩
      rw [up_s, up_kn (by decide), up_kn (by decide), up_kn (by decide), ← hG0]
      exact g8.less (c := ((rl r n).reverse, v)) hb (by rw [hcw]; omega)
    · -- more
      rw [hcw]
      rcases hb.2 d hd with q | ⟨q, _⟩ <;> omega
