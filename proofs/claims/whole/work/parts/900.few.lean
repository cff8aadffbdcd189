/-! FEWEST: pure -/
theorem rmb_tb {st j i : Nat} (hi : i < 32) : (rmb st j).testBit i = (st.testBit i && !decide (i = j)) := by
  unfold rmb
  rw [and_not_tb hi, Nat.testBit_two_pow]
  by_cases h : i = j
  · subst h
    simp
  · rw [decide_eq_false (fun e => h e.symm), decide_eq_false h]
theorem rmb_le {st j : Nat} : rmb st j ≤ st := and_not_le _ _
theorem rmb_lt {st j : Nat} (hj : j < 32) (h : st.testBit j = true) : rmb st j < st := by
  rcases Nat.lt_or_ge (rmb st j) st with q | q
  · exact q
  · have e : rmb st j = st := Nat.le_antisymm rmb_le q
    have h2 := rmb_tb (st := st) (j := j) hj
    rw [e, h, decide_eq_true rfl] at h2
    cases h2
theorem popn_rmb {st j : Nat} (hj : st.testBit j = true) : ∀ {n : Nat}, n ≤ 12 → popn (rmb st j) n + (if j < n then 1 else 0) = popn st n
  | 0, _ => by rw [if_neg (by omega)]; rfl
  | n + 1, hn => by
    have ih := popn_rmb hj (n := n) (by omega)
    rw [popn_s, popn_s, rmb_tb (by omega)]
    by_cases h : n = j
    · subst h
      rw [hj, decide_eq_true rfl]
      rw [if_neg (show ¬ n < n by omega)] at ih
      rw [if_pos (show n < n + 1 by omega)]
      simp only [Bool.not_true, Bool.and_false]
      show popn (rmb st n) n + 0 + 1 = popn st n + 1
      omega
    · rw [decide_eq_false h]
      have e : (j < n + 1) ↔ (j < n) := by omega
      by_cases hjn : j < n
      · rw [if_pos hjn] at ih
        rw [if_pos (show j < n + 1 by omega), Bool.not_false, Bool.and_true]
        omega
      · rw [if_neg hjn] at ih
        rw [if_neg (show ¬ j < n + 1 by omega), Bool.not_false, Bool.and_true]
        omega
theorem pop_rmb {st j : Nat} (hj : st.testBit j = true) (h12 : j < 12) : pop (rmb st j) + 1 = pop st := by
  have := popn_rmb hj (n := 12) (Nat.le_refl _)
  rw [if_pos h12] at this
  exact this
theorem pop_pos {st : Nat} (h12 : st < 2 ^ 12) (h : st ≠ 0) : 1 ≤ pop st := by
  rcases Nat.eq_zero_or_pos (pop st) with h0 | h0
  · have hl : (mems st 12).length = 0 := by rw [mems_len]; exact h0
    have hl' := List.length_eq_zero_iff.mp hl
    refine absurd (Nat.eq_of_testBit_eq fun i => ?_) h
    rw [Nat.zero_testBit]
    cases hb : st.testBit i
    · rfl
    · have hi : i < 12 := by
        rcases Nat.lt_or_ge i 12 with h1 | h1
        · exact h1
        · rw [tb_big h12 h1] at hb
          cases hb
      have := mem_mems.mpr ⟨hi, hb⟩
      rw [hl'] at this
      cases this
  · exact h0
theorem mnl_cg {f g : Nat → Int} {p q : Nat → Bool} : ∀ {n : Nat}, (∀ j, j < n → p j = q j) → (∀ j, j < n → p j = true → f j = g j) → mnl f p n = mnl g q n
  | 0, _, _ => rfl
  | n + 1, hp, hf => by
    have ih := mnl_cg (n := n) (fun j hj => hp j (by omega)) (fun j hj => hf j (by omega))
    show (if p n = true ∧ f n < mnl f p n then f n else mnl f p n) = (if q n = true ∧ g n < mnl g q n then g n else mnl g q n)
    rw [ih, ← hp n (by omega)]
    by_cases h : p n = true
    · rw [hf n (by omega) h]
    · rw [if_neg (fun e => h e.1), if_neg (fun e => h e.1)]
theorem amn_cg {f g : Nat → Int} {p q : Nat → Bool} : ∀ {n : Nat}, (∀ j, j < n → p j = q j) → (∀ j, j < n → p j = true → f j = g j) → amn f p n = amn g q n ∧ ∀ b, amn f p n = some b → b < n ∧ p b = true
  | 0, _, _ => ⟨rfl, fun b h => by cases h⟩
  | n + 1, hp, hf => by
    obtain ⟨ih, ih2⟩ := amn_cg (n := n) (fun j hj => hp j (by omega)) (fun j hj => hf j (by omega))
    have e1 : amn f p (n + 1) = if p n then (match amn f p n with
      | none => some n
      | some b => if f n < f b then some n else some b) else amn f p n := rfl
    have e2 : amn g q (n + 1) = if q n then (match amn g q n with
      | none => some n
      | some b => if g n < g b then some n else some b) else amn g q n := rfl
    rw [e1, e2, ← ih, ← hp n (by omega)]
    cases hpn : p n
    · rw [if_neg (by decide), if_neg (by decide)]
      exact ⟨rfl, fun b hb => ⟨by have := (ih2 b hb).1; omega, (ih2 b hb).2⟩⟩
    · rw [if_pos rfl, if_pos rfl]
      cases ha : amn f p n with
      | none =>
        refine ⟨rfl, fun b hb => ?_⟩
        have : n = b := Option.some.inj hb
        subst this
        exact ⟨by omega, hpn⟩
      | some b0 =>
        obtain ⟨q1, q2⟩ := ih2 b0 ha
        show (if f n < f b0 then some n else some b0) = (if g n < g b0 then some n else some b0) ∧ _
        rw [← hf n (by omega) hpn, ← hf b0 (by omega) q2]
        refine ⟨rfl, fun b hb => ?_⟩
        have hb' : (if f n < f b0 then some n else some b0) = some b := hb
        split at hb'
        · have : n = b := Option.some.inj hb'
          subst this
          exact ⟨by omega, hpn⟩
        · have : b0 = b := Option.some.inj hb'
          subst this
          exact ⟨by omega, q2⟩
theorem amn_s (f : Nat → Int) (p : Nat → Bool) (n : Nat) : amn f p (n + 1) = if p n then (match amn f p n with
    | none => some n
    | some b => if f n < f b then some n else some b) else amn f p n := rfl
theorem mnl_s (f : Nat → Int) (p : Nat → Bool) (n : Nat) : mnl f p (n + 1) = if p n = true ∧ f n < mnl f p n then f n else mnl f p n := rfl
/-- the first of the least -/
theorem amn_mnl {f : Nat → Int} {p : Nat → Bool} : ∀ {n : Nat}, (∀ j, j < n → p j = true → f j < 1000000) → (amn f p n = none → mnl f p n = 1000000 ∧ ∀ j, j < n → p j = false) ∧ ∀ b, amn f p n = some b → mnl f p n = f b ∧ b < n ∧ p b = true ∧ (∀ j, j < n → p j = true → f b ≤ f j) ∧ ∀ j, j < b → p j = true → f j ≠ f b
  | 0, _ => ⟨fun _ => ⟨rfl, fun j hj => by omega⟩, fun b h => by cases h⟩
  | n + 1, hf => by
    obtain ⟨ih1, ih2⟩ := amn_mnl (n := n) (fun j hj => hf j (by omega))
    rw [amn_s, mnl_s]
    cases hpn : p n
    · rw [if_neg (by decide), if_neg (fun e => by cases e.1)]
      refine ⟨fun h => ⟨(ih1 h).1, fun j hj => ?_⟩, fun b hb => ?_⟩
      · by_cases hjn : j = n
        · subst hjn
          exact hpn
        · exact (ih1 h).2 j (by omega)
      · obtain ⟨a1, a2, a3, a4, a5⟩ := ih2 b hb
        refine ⟨a1, by omega, a3, fun j hj hpj => ?_, a5⟩
        by_cases hjn : j = n
        · subst hjn
          rw [hpn] at hpj
          cases hpj
        · exact a4 j (by omega) hpj
    · have hfn := hf n (by omega) hpn
      rw [if_pos rfl]
      cases ha : amn f p n with
      | none =>
        obtain ⟨b1, b2⟩ := ih1 ha
        refine ⟨fun h => (by cases h), fun b hb => ?_⟩
        have : n = b := Option.some.inj hb
        subst this
        rw [b1, if_pos ⟨rfl, hfn⟩]
        refine ⟨rfl, by omega, hpn, fun j hj hpj => ?_, fun j hj hpj => ?_⟩
        · by_cases hjn : j = n
          · subst hjn
            exact Int.le_refl _
          · rw [b2 j (by omega)] at hpj
            cases hpj
        · rw [b2 j hj] at hpj
          cases hpj
      | some b0 =>
        obtain ⟨a1, a2, a3, a4, a5⟩ := ih2 b0 ha
        rw [a1]
        refine ⟨fun h => ?_, fun b hb => ?_⟩
        · have h' : (if f n < f b0 then some n else some b0) = none := h
          split at h' <;> cases h'
        · have hb' : (if f n < f b0 then some n else some b0) = some b := hb
          by_cases hlt : f n < f b0
          · rw [if_pos hlt] at hb'
            have : n = b := Option.some.inj hb'
            subst this
            rw [if_pos ⟨rfl, hlt⟩]
            refine ⟨rfl, by omega, hpn, fun j hj hpj => ?_, fun j hj hpj => ?_⟩
            · by_cases hjn : j = n
              · subst hjn
                exact Int.le_refl _
              · have := a4 j (by omega) hpj
                omega
            · have := a4 j hj hpj
              omega
          · rw [if_neg hlt] at hb'
            have : b0 = b := Option.some.inj hb'
            subst this
            rw [if_neg (fun e => hlt e.2)]
            refine ⟨rfl, by omega, a3, fun j hj hpj => ?_, a5⟩
            by_cases hjn : j = n
            · subst hjn
              omega
            · exact a4 j (by omega) hpj
theorem fcs_s (z : Fl) (L : List Nat) (f st i : Nat) : fcs z L (f + 1) st i = if st = 0 then 0 else mnl (fun j => (car z (L.getD i 0) (L.getD j 0) : Int) + fcs z L f (rmb st j) j) (fun j => st.testBit j) L.length := rfl
theorem fcs_fuel {z : Fl} {L : List Nat} (hL : L.length ≤ 12) : ∀ {f st i : Nat}, st < 2 ^ 12 → pop st ≤ f → fcs z L f st i = fcs z L (f + 1) st i
  | 0, st, i, h12, hp => by
    have : st = 0 := by
      rcases Nat.eq_zero_or_pos st with h | h
      · exact h
      · have := pop_pos h12 (by omega)
        omega
    subst this
    rfl
  | f + 1, st, i, h12, hp => by
    rw [fcs_s z L f, fcs_s z L (f + 1)]
    by_cases h0 : st = 0
    · rw [if_pos h0, if_pos h0]
    · rw [if_neg h0, if_neg h0]
      refine mnl_cg (fun _ _ => rfl) fun j hj hb => ?_
      have hpr := pop_rmb hb (by omega)
      have := fcs_fuel (z := z) (i := j) hL (f := f) (Nat.lt_of_le_of_lt rmb_le h12) (show pop (rmb st j) ≤ f by omega)
      show (car z (L.getD i 0) (L.getD j 0) : Int) + fcs z L f (rmb st j) j = (car z (L.getD i 0) (L.getD j 0) : Int) + fcs z L (f + 1) (rmb st j) j
      rw [this]
/-- the step of the recursion -/
def fst (z : Fl) (L : List Nat) (i st j : Nat) : Int := (car z (L.getD i 0) (L.getD j 0) : Int) + fcs z L 12 (rmb st j) j
theorem fcs_eq {z : Fl} {L : List Nat} (hL : L.length ≤ 10) {st i : Nat} (h : st < 2 ^ L.length) : fcs z L 12 st i = if st = 0 then 0 else mnl (fst z L i st) (fun j => st.testBit j) L.length := by
  have h12 : st < 2 ^ 12 := Nat.lt_of_lt_of_le h (p2le (by omega))
  rw [fcs_s z L 11]
  by_cases h0 : st = 0
  · rw [if_pos h0, if_pos h0]
  · rw [if_neg h0, if_neg h0]
    refine mnl_cg (fun _ _ => rfl) fun j hj hb => ?_
    have hpr := pop_rmb hb (by omega)
    have := pop_le st
    unfold fst
    rw [fcs_fuel (z := z) (L := L) (by omega) (f := 11) (Nat.lt_of_le_of_lt rmb_le h12) (by omega)]
theorem mnl_le {f : Nat → Int} {p : Nat → Bool} : ∀ {n j : Nat}, j < n → p j = true → mnl f p n ≤ f j
  | 0, j, h, _ => by omega
  | n + 1, j, h, hp => by
    rw [mnl_s]
    by_cases hjn : j = n
    · subst hjn
      by_cases hlt : f j < mnl f p j
      · rw [if_pos ⟨hp, hlt⟩]
        exact Int.le_refl _
      · rw [if_neg (fun e => hlt e.2)]
        omega
    · have := mnl_le (f := f) (p := p) (n := n) (j := j) (by omega) hp
      split <;> omega
theorem mnl_nn {f : Nat → Int} {p : Nat → Bool} : ∀ {n : Nat}, (∀ j, j < n → p j = true → 0 ≤ f j) → 0 ≤ mnl f p n
  | 0, _ => by show (0 : Int) ≤ 1000000; decide
  | n + 1, h => by
    have := mnl_nn (f := f) (p := p) (n := n) fun j hj => h j (by omega)
    rw [mnl_s]
    split
    · rename_i h'
      exact h n (by omega) h'.1
    · exact this
theorem fcs_b {z : Fl} {L : List Nat} (hL : L.length ≤ 12) : ∀ {f st i : Nat}, st < 2 ^ L.length → 0 ≤ fcs z L f st i ∧ fcs z L f st i ≤ 12 * pop st
  | 0, st, i, _ => ⟨Int.le_refl _, by show (0 : Int) ≤ _; omega⟩
  | f + 1, st, i, h => by
    have h12 : st < 2 ^ 12 := Nat.lt_of_lt_of_le h (p2le hL)
    rw [fcs_s]
    by_cases h0 : st = 0
    · rw [if_pos h0]
      omega
    · rw [if_neg h0]
      have hex : ∃ j, j < L.length ∧ st.testBit j = true := by
        refine Classical.byContradiction fun hn => h0 (Nat.eq_of_testBit_eq fun i => ?_)
        rw [Nat.zero_testBit]
        cases hb : st.testBit i
        · rfl
        · refine absurd ⟨i, ?_, hb⟩ hn
          rcases Nat.lt_or_ge i L.length with q | q
          · exact q
          · rw [tb_big h q] at hb
            cases hb
      obtain ⟨j, hj, hb⟩ := hex
      have hpr := pop_rmb hb (by omega)
      have ih := fun j => fcs_b (z := z) hL (f := f) (st := rmb st j) (i := j) (Nat.lt_of_le_of_lt rmb_le h)
      have hle := mnl_le (f := fun j => (car z (L.getD i 0) (L.getD j 0) : Int) + fcs z L f (rmb st j) j) (p := fun j => st.testBit j) hj hb
      have hcar := car_le z (L.getD i 0) (L.getD j 0)
      have := (ih j).2
      refine ⟨mnl_nn fun j _ _ => ?_, ?_⟩
      · have := (ih j).1
        show 0 ≤ (car z (L.getD i 0) (L.getD j 0) : Int) + fcs z L f (rmb st j) j
        omega
      · refine Int.le_trans hle ?_
        show (car z (L.getD i 0) (L.getD j 0) : Int) + fcs z L f (rmb st j) j ≤ _
        omega
