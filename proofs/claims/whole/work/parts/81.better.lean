/-! THE BETTER of a row: both sides -/
theorem sw_sw (r : Nat → Nat) (i j k : Nat) : sw (sw r i j) i j k = r k := by
  unfold sw
  by_cases h1 : k = j
  · subst h1
    rw [if_pos rfl]
    by_cases h2 : i = k
    · rw [if_pos h2, h2]
    · rw [if_neg h2, if_pos rfl]
  · rw [if_neg h1]
    by_cases h2 : k = i
    · subst h2
      rw [if_pos rfl, if_pos rfl]
    · rw [if_neg h2, if_neg h1, if_neg h2]
theorem sw_lt {r : Nat → Nat} {i j k : Nat} (h1 : k < i) (h2 : i < j) : sw r i j k = r k := by
  unfold sw
  rw [if_neg (by omega), if_neg (by omega)]
theorem sw_ps {z : Fl} {r : Nat → Nat} {n i j : Nat} (h : RowPs z r n) (hi : i < n) (hj : j < n) : RowPs z (sw r i j) n := fun k hk => by
  unfold sw
  split
  · exact h i hi
  · split
    · exact h j hj
    · exact h k hk
def tau (i j k : Nat) : Nat := if k = j then i else if k = i then j else k
theorem sw_tau (r : Nat → Nat) (i j k : Nat) : sw r i j k = r (tau i j k) := by
  unfold sw tau
  by_cases h1 : k = j
  · rw [if_pos h1, if_pos h1]
  · rw [if_neg h1, if_neg h1]
    by_cases h2 : k = i
    · rw [if_pos h2, if_pos h2]
    · rw [if_neg h2, if_neg h2]
theorem tau_c (i j k : Nat) : (k = j ∧ tau i j k = i) ∨ (k ≠ j ∧ k = i ∧ tau i j k = j) ∨ (k ≠ j ∧ k ≠ i ∧ tau i j k = k) := by
  unfold tau
  by_cases h1 : k = j
  · exact Or.inl ⟨h1, if_pos h1⟩
  · by_cases h2 : k = i
    · exact Or.inr (Or.inl ⟨h1, h2, by rw [if_neg h1, if_pos h2]⟩)
    · exact Or.inr (Or.inr ⟨h1, h2, by rw [if_neg h1, if_neg h2]⟩)
theorem sw_inj {r : Nat → Nat} {n i j : Nat} (h : Inj r n) (hi : i < n) (hj : j < n) : Inj (sw r i j) n := by
  intro a b ha hb he
  rw [sw_tau, sw_tau] at he
  have ca := tau_c i j a
  have cb := tau_c i j b
  have := h _ _ (by omega) (by omega) he
  omega
abbrev BSt : Type := Int × Option (Nat × Nat)
def wsw (z : Fl) (v n : Nat) (r : Nat → Nat) (i j : Nat) : Int := worth z v n (rl (sw r i j) n)
def gsw (z : Fl) (v n : Nat) (r : Nat → Nat) (i j : Nat) : Bool := goodb z v n (rl (sw r i j) n)
def bstep (z : Fl) (v n : Nat) (r : Nat → Nat) (i j : Nat) (s : BSt) : BSt := if gsw z v n r i j = true ∧ s.1 < wsw z v n r i j then (wsw z v n r i j, some (i, j)) else s
def bin (z : Fl) (v n : Nat) (r : Nat → Nat) (i : Nat) : Nat → BSt → BSt
  | 0, s => s
  | m + 1, s => bstep z v n r i (i + 1 + m) (bin z v n r i m s)
def bout (z : Fl) (v n : Nat) (r : Nat → Nat) : Nat → BSt → BSt
  | 0, s => s
  | i + 1, s => bin z v n r i (n - 1 - i) (bout z v n r i s)
def now (z : Fl) (v n : Nat) (r : Nat → Nat) : Int := worth z v n (rl r n)
def chg (z : Fl) (v n : Nat) (r : Nat → Nat) : Option (Nat × Nat) := (bout z v n r (n - 1) (now z v n r, none)).2
def chv : Option (Nat × Nat) → Int
  | none => -1
  | some p => 100 * (p.1 : Int) + (p.2 : Int)
/-- what holds of a state -/
def BOk (z : Fl) (v n : Nat) (r : Nat → Nat) (s : BSt) : Prop := (-487049291366400 ≤ s.1 ∧ s.1 ≤ 487049291366400) ∧ (s.2 = none → s.1 = now z v n r) ∧ ∀ p, s.2 = some p → now z v n r < s.1 ∧ p.1 < p.2 ∧ p.2 < n
theorem BOk.step {z : Fl} {v n : Nat} {r : Nat → Nat} {i j : Nat} {s : BSt} (hz : ZOk z) (h : BOk z v n r s) (hij : i < j) (hj : j < n) : BOk z v n r (bstep z v n r i j s) := by
  unfold bstep
  split
  · rename_i hc
    refine ⟨worth_b hz _ _ _, fun e => (by cases e), fun p hp => ?_⟩
    cases hp
    refine ⟨?_, hij, hj⟩
    obtain ⟨h1, h2, h3⟩ := h
    cases hs : s.2 with
    | none =>
      have := h2 hs
      have := hc.2
      show now z v n r < wsw z v n r i j
      omega
    | some q =>
      have := (h3 q hs).1
      have := hc.2
      show now z v n r < wsw z v n r i j
      omega
  · exact h
theorem BOk.bin {z : Fl} {v n : Nat} {r : Nat → Nat} {i : Nat} {s : BSt} (hz : ZOk z) (h : BOk z v n r s) : ∀ m, i + 1 + m ≤ n → BOk z v n r (bin z v n r i m s)
  | 0, _ => h
  | m + 1, hm => (BOk.bin hz h m (by omega)).step hz (by omega) (by omega)
theorem BOk.bout {z : Fl} {v n : Nat} {r : Nat → Nat} {s : BSt} (hz : ZOk z) (h : BOk z v n r s) : ∀ i, i + 1 ≤ n → BOk z v n r (bout z v n r i s)
  | 0, _ => h
  | i + 1, hi => (BOk.bout hz h i (by omega)).bin hz _ (by omega)
theorem BOk.zero {z : Fl} {v n : Nat} {r : Nat → Nat} (hz : ZOk z) : BOk z v n r (now z v n r, none) := ⟨worth_b hz _ _ _, fun _ => rfl, fun p hp => by cases hp⟩
