/-! ROWS: musts, the reference -/
def plc (r : Nat → Nat) (p : Int) : Nat → Int
  | 0 => -1
  | i + 1 => if (r i : Int) = p then (i : Int) else plc r p i
theorem plc_s (r : Nat → Nat) (p : Int) (i : Nat) : plc r p (i + 1) = if (r i : Int) = p then (i : Int) else plc r p i := rfl
theorem plc_nn (r : Nat → Nat) (p : Int) : ∀ n, -1 ≤ plc r p n ∧ plc r p n < n
  | 0 => by simp [plc]
  | n + 1 => by
    have := plc_nn r p n
    rw [plc_s]
    split <;> omega
theorem plc_neg {r : Nat → Nat} {p : Int} : ∀ {n}, plc r p n < 0 → ∀ k, k < n → (r k : Int) ≠ p
  | 0, _, k, hk => by omega
  | n + 1, h, k, hk => by
    rw [plc_s] at h
    split at h
    · omega
    · rcases Nat.lt_or_ge k n with h1 | h1
      · exact plc_neg h k h1
      · obtain rfl : k = n := by omega
        assumption
theorem plc_pos {r : Nat → Nat} {p : Int} : ∀ {n : Nat}, 0 ≤ plc r p n → ∃ k : Nat, plc r p n = (k : Int) ∧ k < n ∧ (r k : Int) = p
  | 0, h => by simp [plc] at h
  | n + 1, h => by
    rw [plc_s] at h ⊢
    split
    · exact ⟨n, rfl, by omega, by assumption⟩
    · rw [if_neg (by assumption)] at h
      obtain ⟨k, h1, h2, h3⟩ := plc_pos h
      exact ⟨k, h1, by omega, h3⟩
def Inj (r : Nat → Nat) (n : Nat) : Prop := ∀ i j, i < n → j < n → r i = r j → i = j
theorem Inj.le {r : Nat → Nat} {n m : Nat} (h : Inj r n) (hm : m ≤ n) : Inj r m := fun i j hi hj e => h i j (by omega) (by omega) e
theorem plc_at {r : Nat → Nat} {n k : Nat} (hi : Inj r n) (hk : k < n) : plc r (r k : Int) n = (k : Int) := by
  by_cases h : plc r (r k : Int) n < 0
  · exact absurd rfl (plc_neg h k hk)
  · obtain ⟨j, h1, h2, h3⟩ := plc_pos (r := r) (p := (r k : Int)) (n := n) (by omega)
    rw [h1, hi j k h2 hk (by omega)]
theorem stb_rl {r : Nat → Nat} {c : Nat} : ∀ {i : Nat}, (stb (rl r i)).testBit c = true ↔ ∃ k, k < i ∧ r k = c
  | 0 => by
    show (Nat.testBit 0 c) = true ↔ _
    rw [Nat.zero_testBit]
    exact ⟨fun h => (by cases h), fun ⟨k, hk, _⟩ => by omega⟩
  | i + 1 => by
    show (stb (rl r i) ||| 2 ^ r i).testBit c = true ↔ _
    rw [or_bit_tb, Bool.or_eq_true, stb_rl (i := i), decide_eq_true_eq]
    constructor
    · rintro (⟨k, h1, h2⟩ | h)
      · exact ⟨k, by omega, h2⟩
      · exact ⟨i, by omega, h⟩
    · rintro ⟨k, h1, h2⟩
      rcases Nat.lt_or_ge k i with h3 | h3
      · exact Or.inl ⟨k, h3, h2⟩
      · obtain rfl : k = i := by omega
        exact Or.inr h2
/-- what the reference says of a must -/
def apt (v : Nat) (i : Int) : Bool := decide (0 < v ∧ i = (v : Int))
def rbk (z : Fl) (v n : Nat) (r : Nat → Nat) (m : Nat) : Bool :=
  if plc r (mA z m) n < 0 then false
  else if (mS z m = 0 ∨ mS z m = 1 ∨ mS z m = 5) ∧ plc r (mB z m) n < 0 then false
  else if mS z m = 0 then decide (plc r (mA z m) n = plc r (mB z m) n + 1)
  else if mS z m = 1 then !((decide (plc r (mA z m) n = plc r (mB z m) n + 1) && !apt v (plc r (mA z m) n)) || (decide (plc r (mB z m) n = plc r (mA z m) n + 1) && !apt v (plc r (mB z m) n)))
  else if mS z m = 2 then decide (mM z m < en z v (rl r ((plc r (mA z m) n).toNat + 1)))
  else if mS z m = 3 then decide (plc r (mA z m) n = 0)
  else if mS z m = 4 then decide (plc r (mA z m) n = (n : Int) - 1)
  else if mS z m = 5 then decide (plc r (mB z m) n < plc r (mA z m) n)
  else if mS z m = 6 then apt v (plc r (mA z m) n)
  else decide (0 < v ∧ (v : Int) ≤ plc r (mA z m) n)
theorem bk_tb {z : Fl} {v n m nm : Nat} {r : Nat → Nat} (hnm : z 2 = (nm : Int)) (hm : m < nm) : ∀ {i : Nat}, (bk z v n (rl r i)).testBit m = true ↔ ∃ k, k < i ∧ bkAt z v n m (r k) (rl r k) = true
  | 0 => by
    show (Nat.testBit 0 m) = true ↔ _
    rw [Nat.zero_testBit]
    exact ⟨fun h => (by cases h), fun ⟨k, hk, _⟩ => by omega⟩
  | i + 1 => by
    show (bk z v n (r i :: rl r i)).testBit m = true ↔ _
    rw [bk_cons, Nat.testBit_or, Bool.or_eq_true, bk_tb hnm hm (i := i), bits_tb, hnm, Int.toNat_natCast, decide_eq_true hm, Bool.true_and]
    constructor
    · rintro (⟨k, h1, h2⟩ | h)
      · exact ⟨k, by omega, h2⟩
      · exact ⟨i, by omega, h⟩
    · rintro ⟨k, h1, h2⟩
      rcases Nat.lt_or_ge k i with h3 | h3
      · exact Or.inl ⟨k, h3, h2⟩
      · obtain rfl : k = i := by omega
        exact Or.inr h2
theorem hd_rl {r : Nat → Nat} {i c : Nat} : hd (rl r i) = (c : Int) ↔ ∃ k, i = k + 1 ∧ r k = c := by
  cases i with
  | zero =>
    show (-1 : Int) = (c : Int) ↔ _
    exact ⟨fun h => by omega, fun ⟨k, h, _⟩ => by omega⟩
  | succ k =>
    show (r k : Int) = (c : Int) ↔ _
    constructor
    · intro h
      exact ⟨k, rfl, by omega⟩
    · rintro ⟨j, h1, h2⟩
      obtain rfl : k = j := by omega
      omega
theorem rbk_ok {z : Fl} {v n m nm : Nat} {r : Nat → Nat} (hz : ZOk z) (hnm : z 2 = (nm : Int)) (hm : m < nm) (hi : Inj r n) : rbk z v n r m = (bk z v n (rl r n)).testBit m := by
  obtain ⟨⟨s0, s7⟩, ⟨A0, A1⟩, ⟨B0, B1⟩, hne, -⟩ := hz.2.2.2.2.2.2 m (by omega)
  obtain ⟨A, hA⟩ : ∃ A : Nat, mA z m = (A : Int) := ⟨(mA z m).toNat, by omega⟩
  obtain ⟨B, hB⟩ : ∃ B : Nat, mB z m = (B : Int) := ⟨(mB z m).toNat, by omega⟩
  have pa := plc_nn r (mA z m) n
  have pb := plc_nn r (mB z m) n
  rw [Bool.eq_iff_iff, bk_tb hnm hm]
  by_cases h1 : mS z m = 1
  · -- neighbours
    have e1 : ∀ q l, bkAt z v n m q l = ((decide ((q : Int) = mA z m) || decide ((q : Int) = mB z m)) && ((stb l).testBit (if (q : Int) = mA z m then mB z m else mA z m).toNat && (decide (l.length = v) || !decide (hd l = if (q : Int) = mA z m then mB z m else mA z m)))) := by
      intro q l
      unfold bkAt
      rw [if_pos h1]
    have er : rbk z v n r m = (if plc r (mA z m) n < 0 then false else if plc r (mB z m) n < 0 then false else !((decide (plc r (mA z m) n = plc r (mB z m) n + 1) && !apt v (plc r (mA z m) n)) || (decide (plc r (mB z m) n = plc r (mA z m) n + 1) && !apt v (plc r (mB z m) n)))) := by
      unfold rbk
      rw [h1]
      simp
    rw [er]
    -- one of them comes at k, behind the other one
    have key : ∀ (k : Nat) (P O : Nat), k < n → r k = P → P ≠ O → ((P = A ∧ O = B) ∨ (P = B ∧ O = A)) → (bkAt z v n m (r k) (rl r k) = true ↔ ∃ j : Nat, j < k ∧ r j = O ∧ (k = v ∨ k ≠ j + 1)) := by
      intro k P O hk hP hPO hPA
      rw [e1, hP, rl_len]
      have eo : (if (P : Int) = mA z m then mB z m else mA z m) = (O : Int) := by
        rcases hPA with ⟨q1, q2⟩ | ⟨q1, q2⟩
        · rw [if_pos (by omega), hB, q2]
        · rw [if_neg (by omega), hA, q2]
      have ep : (decide ((P : Int) = mA z m) || decide ((P : Int) = mB z m)) = true := by
        rw [Bool.or_eq_true, decide_eq_true_eq, decide_eq_true_eq]
        omega
      rw [eo, ep, Bool.true_and, Int.toNat_natCast, Bool.and_eq_true, Bool.or_eq_true, Bool.not_eq_true', decide_eq_true_eq, decide_eq_false_iff_not, stb_rl, hd_rl]
      constructor
      · rintro ⟨⟨j, h1, h2⟩, h3⟩
        refine ⟨j, h1, h2, h3.imp id fun h4 h5 => h4 ⟨j, h5, h2⟩⟩
      · rintro ⟨j, h1, h2, h3⟩
        refine ⟨⟨j, h1, h2⟩, h3.imp id fun h4 => ?_⟩
        rintro ⟨j', h5, h6⟩
        have := hi j j' (by omega) (by omega) (by omega)
        omega
    by_cases ha : plc r (mA z m) n < 0
    · rw [if_pos ha]
      refine ⟨fun h => (by cases h), ?_⟩
      rintro ⟨k, hk, h⟩
      have na := plc_neg ha
      rw [e1, Bool.and_eq_true, Bool.or_eq_true, decide_eq_true_eq, decide_eq_true_eq] at h
      obtain ⟨h2 | h2, h3⟩ := h
      · exact absurd h2 (na k hk)
      · rw [if_neg (by omega), hA, Int.toNat_natCast, Bool.and_eq_true, stb_rl] at h3
        obtain ⟨⟨j, h4, h5⟩, -⟩ := h3
        exact absurd (by omega) (na j (by omega))
    · rw [if_neg ha]
      obtain ⟨a, ea, han, hra⟩ := plc_pos (r := r) (p := mA z m) (n := n) (by omega)
      by_cases hb : plc r (mB z m) n < 0
      · rw [if_pos hb]
        refine ⟨fun h => (by cases h), ?_⟩
        rintro ⟨k, hk, h⟩
        have nb := plc_neg hb
        rw [e1, Bool.and_eq_true, Bool.or_eq_true, decide_eq_true_eq, decide_eq_true_eq] at h
        obtain ⟨h2 | h2, h3⟩ := h
        · rw [if_pos h2, hB, Int.toNat_natCast, Bool.and_eq_true, stb_rl] at h3
          obtain ⟨⟨j, h4, h5⟩, -⟩ := h3
          exact absurd (by omega) (nb j (by omega))
        · exact absurd h2 (nb k hk)
      · rw [if_neg hb]
        obtain ⟨b, eb, hbn, hrb⟩ := plc_pos (r := r) (p := mB z m) (n := n) (by omega)
        have hab : a ≠ b := fun h => by subst h; omega
        unfold apt
        rw [ea, eb, Bool.not_eq_true', Bool.or_eq_false_iff, Bool.and_eq_false_iff, Bool.and_eq_false_iff, Bool.not_eq_false', Bool.not_eq_false', decide_eq_true_eq, decide_eq_true_eq, decide_eq_false_iff_not, decide_eq_false_iff_not]
        constructor
        · rintro ⟨q1, q2⟩
          rcases Nat.lt_or_ge b a with h | h
          · exact ⟨a, han, (key a A B han (by omega) (by omega) (by omega)).mpr ⟨b, h, by omega, by omega⟩⟩
          · exact ⟨b, hbn, (key b B A hbn (by omega) (by omega) (by omega)).mpr ⟨a, by omega, by omega, by omega⟩⟩
        · rintro ⟨k, hk, h⟩
          have h' := h
          rw [e1, Bool.and_eq_true, Bool.or_eq_true, decide_eq_true_eq, decide_eq_true_eq] at h'
          rcases h'.1 with h2 | h2
          · have hka : k = a := hi k a hk han (by omega)
            subst hka
            obtain ⟨j, h3, h4, h5⟩ := (key k A B hk (by omega) (by omega) (by omega)).mp h
            have hjb : j = b := hi j b (by omega) hbn (by omega)
            omega
          · have hkb : k = b := hi k b hk hbn (by omega)
            subst hkb
            obtain ⟨j, h3, h4, h5⟩ := (key k B A hk (by omega) (by omega) (by omega)).mp h
            have hja : j = a := hi j a (by omega) han (by omega)
            omega
  · -- the others hang on where a stands
    have e1 : ∀ q l, bkAt z v n m q l = (if (q : Int) = mA z m then
        if mS z m = 0 then decide (hd l = mB z m)
        else if mS z m = 2 then decide (mM z m < en z v (q :: l))
        else if mS z m = 3 then decide (l.length = 0)
        else if mS z m = 4 then decide (l.length + 1 = n)
        else if mS z m = 5 then (stb l).testBit (mB z m).toNat
        else if mS z m = 6 then decide (0 < v ∧ l.length = v)
        else decide (0 < v ∧ v ≤ l.length)
      else false) := by
      intro q l
      unfold bkAt
      rw [if_neg h1]
    by_cases ha : plc r (mA z m) n < 0
    · unfold rbk
      rw [if_pos ha]
      refine ⟨fun h => (by cases h), ?_⟩
      rintro ⟨k, hk, h⟩
      rw [e1, if_neg (plc_neg ha k hk)] at h
      cases h
    · obtain ⟨a, ea, han, hra⟩ := plc_pos (r := r) (p := mA z m) (n := n) (by omega)
      have ex : (∃ k, k < n ∧ bkAt z v n m (r k) (rl r k) = true) ↔ bkAt z v n m (r a) (rl r a) = true := by
        refine ⟨?_, fun h => ⟨a, han, h⟩⟩
        rintro ⟨k, hk, h⟩
        have h' := h
        rw [e1] at h'
        split at h'
        · rw [hi a k han hk (by omega)]
          exact h
        · cases h'
      rw [ex, e1, if_pos hra, rl_len]
      unfold rbk apt
      rw [if_neg ha, ea, Int.toNat_natCast]
      by_cases h0 : mS z m = 0
      · rw [if_pos h0, if_pos h0, hB, decide_eq_true_eq, hd_rl]
        by_cases hb : plc r (mB z m) n < 0
        · rw [if_pos ⟨Or.inl h0, by rw [← hB]; exact hb⟩]
          refine ⟨fun h => (by cases h), ?_⟩
          rintro ⟨k, h2, h3⟩
          exact absurd (by omega) (plc_neg hb k (by omega))
        · obtain ⟨b, eb, hbn, hrb⟩ := plc_pos (r := r) (p := mB z m) (n := n) (by omega)
          rw [hB] at eb hb
          rw [if_neg (fun h => hb h.2), eb, decide_eq_true_eq]
          refine ⟨fun h => ⟨b, by omega, by omega⟩, ?_⟩
          rintro ⟨k, h2, h3⟩
          have := hi k b (by omega) hbn (by omega)
          omega
      · rw [if_neg h0, if_neg h0]
        by_cases h5 : mS z m = 5
        · rw [if_neg h1, if_neg (show ¬ mS z m = 2 by omega), if_neg (show ¬ mS z m = 2 by omega), if_neg (show ¬ mS z m = 3 by omega), if_neg (show ¬ mS z m = 3 by omega), if_neg (show ¬ mS z m = 4 by omega), if_neg (show ¬ mS z m = 4 by omega), if_pos h5, if_pos h5, hB, Int.toNat_natCast, stb_rl]
          by_cases hb : plc r (mB z m) n < 0
          · rw [if_pos ⟨Or.inr (Or.inr h5), by rw [← hB]; exact hb⟩]
            refine ⟨fun h => (by cases h), ?_⟩
            rintro ⟨k, h2, h3⟩
            exact absurd (by omega) (plc_neg hb k (by omega))
          · obtain ⟨b, eb, hbn, hrb⟩ := plc_pos (r := r) (p := mB z m) (n := n) (by omega)
            rw [hB] at eb hb
            rw [if_neg (fun h => hb h.2), eb, decide_eq_true_eq]
            refine ⟨fun h => ⟨b, by omega, by omega⟩, ?_⟩
            rintro ⟨k, h2, h3⟩
            have := hi k b (by omega) hbn (by omega)
            omega
        · rw [if_neg (fun h => by omega), if_neg h1]
          by_cases h2 : mS z m = 2
          · rw [if_pos h2, if_pos h2]
            exact Iff.rfl
          · rw [if_neg h2, if_neg h2]
            by_cases h3 : mS z m = 3
            · rw [if_pos h3, if_pos h3, decide_eq_true_eq, decide_eq_true_eq]
              omega
            · rw [if_neg h3, if_neg h3]
              by_cases h4 : mS z m = 4
              · rw [if_pos h4, if_pos h4, decide_eq_true_eq, decide_eq_true_eq]
                omega
              · rw [if_neg h4, if_neg h4, if_neg h5, if_neg h5]
                by_cases h6 : mS z m = 6
                · rw [if_pos h6, if_pos h6, decide_eq_true_eq, decide_eq_true_eq]
                  omega
                · rw [if_neg h6, if_neg h6, decide_eq_true_eq, decide_eq_true_eq]
                  omega
theorem po_L {v n : Nat} {r : Nat → Nat} {M : Mem} {p : Int} {Q : Int → Mem → Prop} (hR : RB v n r M) (hn12 : n ≤ 12) (hr : ∀ k, k < n → r k < 12) (hp : 0 ≤ p ∧ p < 12) (hQ : Q (plc r p n) M) : ∀ (m i : Nat) (x2 x3 : Int), i + m = n → x3 = (i : Int) → x2 = plc r p i → wX12_placeOf_L4 Q 125 p (m + 1) x2 x3 M
  | 0, i, x2, x3, hi, h3, h2 => by
    subst h3 h2
    obtain rfl : i = n := by omega
    unfold wX12_placeOf_L4
    rw [hR.1]
    exact BR_t (Int.le_refl _) hQ
  | m + 1, i, x2, x3, hi, h3, h2 => by
    subst h3
    have hri := hr i (by omega)
    unfold wX12_placeOf_L4 wX12_placeOf_J27
    rw [hR.1, bm_nat (n := n) (by omega), bm_nat (n := i) (by omega), rd_at (n := i) rfl (by omega), show (125 : Nat) + 7 = 132 from rfl, hR.2.2 i (by omega), bm_nat (n := r i) (by omega), bm_id (z := p) (by omega) (by omega)]
    refine BR_f (by omega) ⟨inb_of rfl (by omega) (by decide), BR_i (fun h => LET_i ?_) (fun h => LET_i ?_)⟩
    · exact po_L hR hn12 hr hp hQ m (i + 1) _ _ (by omega) (by omega) (by rw [plc_s, if_pos h])
    · exact po_L hR hn12 hr hp hQ m (i + 1) _ _ (by omega) (by omega) (by rw [plc_s, if_neg h, h2])
theorem mf_placeOf {v n : Nat} {r : Nat → Nat} {M : Mem} {p : Int} {Q : Int → Mem → Prop} (hR : RB v n r M) (hn12 : n ≤ 12) (hr : ∀ k, k < n → r k < 12) (hp : 0 ≤ p ∧ p < 12) (hQ : Q (plc r p n) M) : wX12_placeOf 125 p M Q :=
  LET_i ⟨n + 1, po_L hR hn12 hr hp hQ n 0 _ _ (by omega) rfl rfl⟩
theorem mf_apt {v n : Nat} {r : Nat → Nat} {M : Mem} {x : Int} {Q : Int → Mem → Prop} (hR : RB v n r M) (hv12 : v ≤ 12) (hx : 0 ≤ x ∧ x ≤ 12) (hQ : Q (if apt v x = true then 1 else 0) M) : wX12_isApart 125 x M Q := by
  refine mf_apart (i := x.toNat) hR.2.1 hv12 (by omega) (by omega) ?_
  unfold apt at hQ
  by_cases h : 0 < v ∧ x.toNat = v
  · rw [decide_eq_true (by omega), if_pos rfl] at hQ
    rw [if_pos h]
    exact hQ
  · rw [decide_eq_false (by omega), if_neg (by decide)] at hQ
    rw [if_neg h]
    exact hQ
theorem mf_isBroken {z : Fl} {v n m nm : Nat} {r : Nat → Nat} {M : Mem} {Q : Int → Mem → Prop} (hz : ZOk z) (hb : MB z M) (hR : RB v n r M) (hn12 : n ≤ 12) (hv12 : v ≤ 12) (hr : RowPs z r n) (hL : LaidAt z v r n M) (hnm : z 2 = (nm : Int)) (hm : m < nm) (hQ : Q (if rbk z v n r m = true then 1 else 0) M) : wX12_isBroken 125 (m : Int) M Q := by
  obtain ⟨⟨s0, s7⟩, ⟨A0, A1⟩, ⟨B0, B1⟩, hne, ⟨m0, m1⟩⟩ := hz.2.2.2.2.2.2 m (by omega)
  have hz0 := hz.1
  have hz2 := hz.2.2.1
  have hr12 : ∀ k, k < n → r k < 12 := fun k hk => by have := hr k hk; omega
  have e0 : rd M (125 + 1) (1200 + 4 * (m : Int)) = mS z m := by rw [rd_at (n := 1200 + 4 * m) (by omega) (by omega)]; exact hb _ (by omega)
  have e1 : rd M (125 + 1) (1200 + 4 * (m : Int) + 1) = mA z m := by
    rw [rd_at (n := 1201 + 4 * m) (by omega) (by omega)]
    exact hb _ (by omega)
  have e2 : rd M (125 + 1) (1200 + 4 * (m : Int) + 2) = mB z m := by
    rw [rd_at (n := 1202 + 4 * m) (by omega) (by omega)]
    exact hb _ (by omega)
  have e3 : rd M (125 + 1) (1200 + 4 * (m : Int) + 3) = mM z m := by
    rw [rd_at (n := 1203 + 4 * m) (by omega) (by omega)]
    exact hb _ (by omega)
  unfold wX12_isBroken
  refine LET_i ⟨inb_of (n := 1200 + 4 * m) (by omega) (by omega) (by decide), LET_i ⟨inb_of (n := 1201 + 4 * m) (by omega) (by omega) (by decide), ?_⟩⟩
  rw [e1]
  refine mf_placeOf hR hn12 hr12 (by omega) ⟨inb_of (n := 1202 + 4 * m) (by omega) (by omega) (by decide), ?_⟩
  rw [e2]
  refine mf_placeOf hR hn12 hr12 (by omega) ?_
  rw [e0]
  have pa := plc_nn r (mA z m) n
  have pb := plc_nn r (mB z m) n
  unfold rbk at hQ
  generalize hpa : plc r (mA z m) n = a at hQ pa ⊢
  generalize hpb : plc r (mB z m) n = b at hQ pb ⊢
  have ba : bm a = a := bm_id (by omega) (by omega)
  have bb : bm b = b := bm_id (by omega) (by omega)
  have ba1 : bm (a + 1) = a + 1 := bm_id (by omega) (by omega)
  have bb1 : bm (b + 1) = b + 1 := bm_id (by omega) (by omega)
  have bS : bm (mS z m) = mS z m := bm_id (by omega) (by omega)
  by_cases ha : a < 0
  · rw [if_pos ha, if_neg (by decide)] at hQ
    have h62 : ∀ x : Int, wX12_isBroken_J62 Q 125 (1200 + 4 * (m : Int)) (mS z m) a b x M := fun x => by
      unfold wX12_isBroken_J62
      exact BR_t (by omega) hQ
    unfold wX12_isBroken_J57
    exact BR_i (fun _ => h62 _) (fun _ => BR_i (fun _ => h62 _) (fun _ => BR_i (fun _ => h62 _) (fun _ => h62 _)))
  · rw [if_neg ha] at hQ
    have h81 : ((mS z m = 0 ∨ mS z m = 1 ∨ mS z m = 5) → ¬ b < 0) → wX12_isBroken_J81 Q 125 (1200 + 4 * (m : Int)) (mS z m) a b M := by
      intro hb5
      rw [if_neg (show ¬ ((mS z m = 0 ∨ mS z m = 1 ∨ mS z m = 5) ∧ b < 0) from fun h => hb5 h.1 h.2)] at hQ
      unfold wX12_isBroken_J81
      rw [bS, ba, bb, bb1]
      refine BR_i (fun h0 => ?_) (fun h0 => BR_i (fun h1 => ?_) (fun h1 => BR_i (fun h2 => ?_) (fun h2 => BR_i (fun h3 => ?_) (fun h3 => BR_i (fun h4 => ?_) (fun h4 => BR_i (fun h5 => ?_) (fun h5 => BR_i (fun h6 => ?_) (fun h6 => ?_)))))))
      · rw [if_pos h0] at hQ
        refine BR_i (fun h => ?_) (fun h => ?_)
        · rw [decide_eq_true h, if_pos rfl] at hQ
          exact hQ
        · rw [decide_eq_false h, if_neg (by decide)] at hQ
          exact hQ
      · rw [if_neg h0, if_pos h1] at hQ
        have hbn := hb5 (Or.inr (Or.inl h1))
        have j157 : (decide (a = b + 1) && !apt v a) = false → wX12_isBroken_J157 Q 125 a b M := by
          intro hf
          rw [hf, Bool.false_or] at hQ
          unfold wX12_isBroken_J157
          rw [bb, ba1]
          refine BR_i (fun h => mf_apt hR hv12 (by omega) ?_) (fun h => ?_)
          · rw [decide_eq_true h, Bool.true_and, Bool.not_not] at hQ
            cases hap : apt v b
            · rw [hap, if_neg (by decide)] at hQ
              rw [if_neg (by decide)]
              exact BR_t q0 hQ
            · rw [hap, if_pos rfl] at hQ
              rw [if_pos rfl]
              exact BR_f q1 hQ
          · rw [decide_eq_false h, Bool.false_and, if_pos (by decide)] at hQ
            exact hQ
        refine BR_i (fun h => mf_apt hR hv12 (by omega) ?_) (fun h => j157 ?_)
        · cases hap : apt v a
          · rw [decide_eq_true h, hap, if_neg (by simp)] at hQ
            rw [if_neg (by decide)]
            exact BR_t q0 hQ
          · rw [if_pos rfl]
            exact BR_f q1 (j157 (by rw [hap]; simp))
        · rw [decide_eq_false h, Bool.false_and]
      · rw [if_neg h0, if_neg h1, if_pos h2] at hQ
        obtain ⟨k, ek, hk, -⟩ := plc_pos (r := r) (p := mA z m) (n := n) (by omega)
        rw [hpa] at ek
        subst ek
        rw [Int.toNat_natCast] at hQ
        have hen := en_nn hz v (rl r (k + 1)) (hr.le (by omega)).pcs
        rw [rl_len] at hen
        refine ⟨inb_of rfl (by omega) (by decide), inb_of (n := 1203 + 4 * m) (by omega) (by omega) (by decide), ?_⟩
        rw [e3, rd_at (n := k) rfl (by omega), show (125 : Nat) + 9 = 134 from rfl, (hL k hk).2.1, bm_id (z := mM z m) (by omega) (by omega), bm_id (z := en z v (rl r (k + 1))) (by omega) (by omega)]
        refine BR_i (fun h => ?_) (fun h => ?_)
        · rw [decide_eq_false (by omega), if_neg (by decide)] at hQ
          exact hQ
        · rw [decide_eq_true (by omega), if_pos rfl] at hQ
          exact hQ
      · rw [if_neg h0, if_neg h1, if_neg h2, if_pos h3] at hQ
        refine BR_i (fun h => ?_) (fun h => ?_)
        · rw [decide_eq_true h, if_pos rfl] at hQ
          exact hQ
        · rw [decide_eq_false h, if_neg (by decide)] at hQ
          exact hQ
      · rw [if_neg h0, if_neg h1, if_neg h2, if_neg h3, if_pos h4] at hQ
        rw [hR.1, bm_id (z := (n : Int) - 1) (by omega) (by omega)]
        refine BR_i (fun h => ?_) (fun h => ?_)
        · rw [decide_eq_true h, if_pos rfl] at hQ
          exact hQ
        · rw [decide_eq_false h, if_neg (by decide)] at hQ
          exact hQ
      · rw [if_neg h0, if_neg h1, if_neg h2, if_neg h3, if_neg h4, if_pos h5] at hQ
        refine BR_i (fun h => ?_) (fun h => ?_)
        · rw [decide_eq_false (by omega), if_neg (by decide)] at hQ
          exact hQ
        · rw [decide_eq_true (by omega), if_pos rfl] at hQ
          exact hQ
      · rw [if_neg h0, if_neg h1, if_neg h2, if_neg h3, if_neg h4, if_neg h5, if_pos h6] at hQ
        refine mf_apt hR hv12 (by omega) ⟨?_, hQ⟩
        split
        · exact isB1
        · exact isB0
      · rw [if_neg h0, if_neg h1, if_neg h2, if_neg h3, if_neg h4, if_neg h5, if_neg h6] at hQ
        rw [hR.2.1, bm_nat (n := v) (by omega)]
        refine BR_i (fun h => ?_) (fun h => BR_i (fun h' => ?_) (fun h' => ?_))
        · rw [decide_eq_false (by omega), if_neg (by decide)] at hQ
          exact hQ
        · rw [decide_eq_false (by omega), if_neg (by decide)] at hQ
          exact hQ
        · rw [decide_eq_true (by omega), if_pos rfl] at hQ
          exact hQ
    have h57 : (mS z m = 0 ∨ mS z m = 1 ∨ mS z m = 5) → wX12_isBroken_J57 Q 125 (1200 + 4 * (m : Int)) (mS z m) a b M := by
      intro h5
      unfold wX12_isBroken_J57 wX12_isBroken_J62
      rw [ba, bb]
      refine BR_f ha (BR_f q1 (BR_i (fun h => h81 fun _ => by omega) (fun h => ?_)))
      rw [if_pos (show (mS z m = 0 ∨ mS z m = 1 ∨ mS z m = 5) ∧ b < 0 from ⟨h5, by omega⟩), if_neg (by decide)] at hQ
      exact hQ
    rw [bS]
    refine BR_i (fun h => h57 (Or.inl h)) (fun h0 => BR_i (fun h => h57 (Or.inr (Or.inl h))) (fun h1 => BR_i (fun h => h57 (Or.inr (Or.inr h))) (fun h5 => ?_)))
    unfold wX12_isBroken_J62
    rw [ba]
    exact BR_f ha (BR_t q0 (h81 fun h => by omega))
theorem bits_cg {f g : Nat → Bool} : ∀ {n : Nat}, (∀ i, i < n → f i = g i) → bits f n = bits g n
  | 0, _ => rfl
  | n + 1, h => by rw [bits_s, bits_s, bits_cg (n := n) (fun i hi => h i (by omega)), h n (by omega)]
theorem rbk_bits {z : Fl} {v n nm : Nat} {r : Nat → Nat} (hz : ZOk z) (hnm : z 2 = (nm : Int)) (hi : Inj r n) : bits (rbk z v n r) nm = bk z v n (rl r n) := by
  have hz2 := hz.2.2.1
  have hlt : bk z v n (rl r n) < 2 ^ nm := by
    have : ∀ l, bk z v n l < 2 ^ nm := by
      intro l
      induction l with
      | nil => exact Nat.two_pow_pos nm
      | cons q l ih =>
        rw [bk_cons, hnm, Int.toNat_natCast]
        exact Nat.or_lt_two_pow ih (bits_lt nm)
    exact this _
  refine set_ext (bits_lt nm) hlt fun i hin => ?_
  rw [bits_tb, decide_eq_true hin, Bool.true_and]
  exact rbk_ok hz hnm hin hi
theorem br_L {z : Fl} {v n nm : Nat} {r : Nat → Nat} {M : Mem} {Q : Int → Mem → Prop} (hz : ZOk z) (hb : MB z M) (hR : RB v n r M) (hn12 : n ≤ 12) (hv12 : v ≤ 12) (hr : RowPs z r n) (hL : LaidAt z v r n M) (hnm : z 2 = (nm : Int)) (hQ : Q (bits (rbk z v n r) nm : Nat) M) : ∀ (k m : Nat) (x1 x2 : Int), m + k = nm → x2 = (m : Int) → x1 = (bits (rbk z v n r) m : Nat) → wX12_broken_L4 Q 125 (k + 1) x1 x2 M
  | 0, m, x1, x2, hm, h2, h1 => by
    subst h2 h1
    obtain rfl : m = nm := by omega
    unfold wX12_broken_L4
    rw [rd_at (i := 2) (n := 2) rfl (by decide), show (125 : Nat) + 1 = 126 from rfl, hb 2 (by omega), hnm]
    exact BR_t (Int.le_refl _) hQ
  | k + 1, m, x1, x2, hm, h2, h1 => by
    subst h2 h1
    have hz2 := hz.2.2.1
    have hb2 : bits (rbk z v n r) m < 2 ^ 10 := Nat.lt_of_lt_of_le (bits_lt m) (p2le (by omega))
    unfold wX12_broken_L4 wX12_broken_J30
    rw [rd_at (i := 2) (n := 2) rfl (by decide), show (125 : Nat) + 1 = 126 from rfl, hb 2 (by omega), hnm, bm_nat (n := nm) (by omega), bm_nat (n := m) (by omega)]
    refine BR_f (by omega) (mf_isBroken hz hb hR hn12 hv12 hr hL hnm (by omega) ?_)
    cases hk : rbk z v n r m
    · rw [if_neg (by decide)]
      refine BR_t q0 (LET_i (LET_i (br_L hz hb hR hn12 hv12 hr hL hnm hQ k (m + 1) _ _ (by omega) (by omega) ?_)))
      rw [bits_s, hk, if_neg (by decide), Nat.or_zero]
      rw [show (0 : Int) = ((0 : Nat) : Int) from rfl, iOr_n (by omega) (by omega), Nat.or_zero]
    · rw [if_pos rfl]
      refine BR_f q1 (LET_i (LET_i (br_L hz hb hR hn12 hv12 hr hL hnm hQ k (m + 1) _ _ (by omega) (by omega) ?_)))
      rw [bits_s, hk, if_pos rfl, shl_one m (by omega)]
      exact iOr_n (by omega) (Nat.lt_of_le_of_lt (p2le (m := 12) (by omega)) (by decide))
theorem mf_broken {z : Fl} {v n : Nat} {r : Nat → Nat} {M : Mem} {Q : Int → Mem → Prop} (hz : ZOk z) (hb : MB z M) (hR : RB v n r M) (hn12 : n ≤ 12) (hv12 : v ≤ 12) (hr : RowPs z r n) (hi : Inj r n) (hL : LaidAt z v r n M) (hQ : Q (bk z v n (rl r n) : Nat) M) : wX12_broken 125 M Q := by
  obtain ⟨nm, hnm⟩ : ∃ nm : Nat, z 2 = (nm : Int) := ⟨(z 2).toNat, by have := hz.2.2.1; omega⟩
  refine ⟨nm + 1, br_L hz hb hR hn12 hv12 hr hL hnm ?_ nm 0 _ _ (by omega) rfl rfl⟩
  rw [rbk_bits hz hnm hi]
  exact hQ
theorem mf_isGood {z : Fl} {v n : Nat} {r : Nat → Nat} {M : Mem} {Q : Int → Mem → Prop} (hz : ZOk z) (hb : MB z M) (hR : RB v n r M) (hn12 : n ≤ 12) (hv12 : v ≤ 12) (hr : RowPs z r n) (hi : Inj r n) (hL : LaidAt z v r n M) (hQ : Q (if goodb z v n (rl r n) = true then 1 else 0) M) : wX12_isGood 125 M Q := by
  have hm := mt_nn hz v (rl r n) hr.pcs
  rw [rl_len] at hm
  have h9 := hz.2.2.2.1.2.2.2
  have hbk := bk_lt hz v n (rl r n)
  unfold wX12_isGood
  refine mf_greatest hz hR hn12 hr hL ?_
  rw [rd_at (i := 9) (n := 9) rfl (by decide), show (125 : Nat) + 1 = 126 from rfl, hb 9 (by omega), bm_id (z := z 9) (by omega) (by omega), bm_id (z := mt z v (rl r n)) (by omega) (by omega)]
  unfold goodb at hQ
  refine BR_i (fun h => ?_) (fun h => mf_broken hz hb hR hn12 hv12 hr hi hL ?_)
  · rw [decide_eq_false (by omega), Bool.false_and, if_neg (by decide)] at hQ
    exact hQ
  · rw [decide_eq_true (by omega), Bool.true_and] at hQ
    rw [bm_nat (n := bk z v n (rl r n)) (by omega)]
    refine BR_i (fun h2 => ?_) (fun h2 => ?_)
    · rw [decide_eq_true (by omega), if_pos rfl] at hQ
      exact hQ
    · rw [decide_eq_false (by omega), if_neg (by decide)] at hQ
      exact hQ
