/-! ILL: the class's search -/
def mvr (old : Nat → Nat) : List Nat → Nat
  | [] => 0
  | x :: l => mvr old l + cnt (fun y => decide (old x < old y)) l
theorem mvr_s (old : Nat → Nat) (x : Nat) (l : List Nat) : mvr old (x :: l) = mvr old l + cnt (fun y => decide (old x < old y)) l := rfl
theorem cnt_le {α : Type} {p : α → Bool} : ∀ {l : List α}, cnt p l ≤ l.length
  | [] => Nat.le_refl 0
  | a :: l => by
    have := cnt_le (p := p) (l := l)
    rw [cnt_s, List.length_cons]
    split <;> omega
theorem mvr_le {old : Nat → Nat} : ∀ {l : List Nat}, l.length ≤ 12 → mvr old l ≤ 12 * l.length
  | [], _ => Nat.le_refl 0
  | x :: l, h => by
    rw [List.length_cons] at h ⊢
    have h1 := mvr_le (old := old) (l := l) (by omega)
    have h2 := cnt_le (p := fun y => decide (old x < old y)) (l := l)
    rw [mvr_s]
    omega
theorem mvr_app {old : Nat → Nat} : ∀ {s l : List Nat}, mvr old l ≤ mvr old (s ++ l)
  | [], l => Nat.le_refl _
  | x :: s, l => by
    have := mvr_app (old := old) (s := s) (l := l)
    show mvr old l ≤ mvr old (x :: (s ++ l))
    rw [mvr_s]
    omega
theorem dl_ext {p : List Nat → Bool} {v : Nat} {L : List Nat} {c : Cand} : ∀ {m : Nat} {l : List Nat}, c ∈ dl p v L m l → ∃ s, c.1.reverse = s ++ l
  | 0, l, h => by
    have h' : c ∈ [(l.reverse, v)] := h
    have e := List.mem_singleton.mp h'
    subst e
    exact ⟨[], by simp⟩
  | m + 1, l, h => by
    rw [dl_s] at h
    obtain ⟨x, _, hx⟩ := List.mem_flatMap.mp h
    split at hx
    · cases hx
    · split at hx
      · obtain ⟨s, hs⟩ := dl_ext hx
        exact ⟨s ++ [x], by rw [hs]; simp⟩
      · cases hx
def ist (z : Fl) (n : Nat) (old : Nat → Nat) (st : Option (Nat × Cand)) (c : Cand) : Option (Nat × Cand) := match st with
  | none => some (mvr old c.1.reverse, c)
  | some (a, b) => if mvr old c.1.reverse < a ∨ (mvr old c.1.reverse = a ∧ cwo z n b < cwo z n c) then some (mvr old c.1.reverse, c) else some (a, b)
theorem ist_skip {z : Fl} {n : Nat} {old : Nat → Nat} {a : Nat} {b : Cand} : ∀ {l : List Cand}, (∀ c ∈ l, a < mvr old c.1.reverse) → l.foldl (ist z n old) (some (a, b)) = some (a, b)
  | [], _ => rfl
  | c :: l, h => by
    have hc := h c List.mem_cons_self
    rw [List.foldl_cons]
    have e : ist z n old (some (a, b)) c = some (a, b) := if_neg (by omega)
    rw [e]
    exact ist_skip fun d hd => h d (List.mem_cons_of_mem _ hd)
/-- what the class keeps -/
def CI (z : Fl) (n v : Nat) (M : Mem) : Option (Nat × Cand) → Prop
  | none => M 103 6 = 0
  | some (a, c) => M 103 6 = 1 ∧ M 103 10 = (a : Int) ∧ a < 1000 ∧ M 103 9 = cwo z n c ∧ M 105 2 = (v : Int) ∧ ∀ i, i < n → M 106 i = (c.1.getD i 0 : Nat)
theorem CI.congr {z : Fl} {n v : Nat} {M M' : Mem} {st : Option (Nat × Cand)} (h : CI z n v M st) (h3 : M' 103 = M 103) (h5 : M' 105 = M 105) (h6 : M' 106 = M 106) : CI z n v M' st := by
  cases st with
  | none => exact (congrFun h3 6).trans h
  | some p =>
    obtain ⟨a1, a2, a3, a4, a5, a6⟩ := h
    exact ⟨by rw [h3]; exact a1, by rw [h3]; exact a2, a3, by rw [h3]; exact a4, by rw [h5]; exact a5, fun i hi => by rw [h6]; exact a6 i hi⟩
def GI (z : Fl) (n v b : Nat) (L : List Nat) (old : Nat → Nat) (st : Option (Nat × Cand)) (M : Mem) : Prop := CB z M ∧ M 91 1 = (n : Int) ∧ M 91 2 = (v : Int) ∧ M 91 3 = (b : Int) ∧ M 103 5 = (n : Int) ∧ (∀ i, i < n → M 104 i = (L.getD i 0 : Nat)) ∧ (∀ x ∈ L, M 107 x = (old x : Int)) ∧ CI z n v M st
def FrIl (M M' : Mem) : Prop := (∀ a, ¬ (92 ≤ a ∧ a ≤ 102) → a ≠ 103 → a ≠ 105 → a ≠ 106 → M' a = M a) ∧ ∀ j, (j < 6 ∨ 10 < j) → M' 103 j = M 103 j
theorem FrIl.rf {M : Mem} : FrIl M M := ⟨fun _ _ _ _ _ => rfl, fun _ _ => rfl⟩
theorem FrIl.tr {M M' M'' : Mem} (h : FrIl M M') (h' : FrIl M' M'') : FrIl M M'' := ⟨fun a q1 q2 q3 q4 => by rw [h'.1 a q1 q2 q3 q4, h.1 a q1 q2 q3 q4], fun j hj => by rw [h'.2 j hj, h.2 j hj]⟩
theorem FrIl.of {M M' : Mem} (h : ∀ a, ¬ (92 ≤ a ∧ a ≤ 102) → M' a = M a) : FrIl M M' := ⟨fun a q _ _ _ => h a q, fun j _ => by rw [h 103 (by omega)]⟩
theorem GI.fr {z : Fl} {n v b : Nat} {L : List Nat} {old : Nat → Nat} {st : Option (Nat × Cand)} {M M' : Mem} (hz : ZOk z) (h : GI z n v b L old st M) (f : ∀ a, ¬ (92 ≤ a ∧ a ≤ 102) → M' a = M a) : GI z n v b L old st M' := by
  obtain ⟨g1, g2, g3, g4, g5, g6, g7, g8⟩ := h
  exact ⟨g1.congr hz fun a ha => f a (by omega), by rw [f 91 (by omega)]; exact g2, by rw [f 91 (by omega)]; exact g3, by rw [f 91 (by omega)]; exact g4, by rw [f 103 (by omega)]; exact g5, fun i hi => by rw [f 104 (by omega)]; exact g6 i hi, fun x hx => by rw [f 107 (by omega)]; exact g7 x hx, g8.congr (f 103 (by omega)) (f 105 (by omega)) (f 106 (by omega))⟩
theorem lf_takeMoved {z : Fl} {n v nl : Nat} {L : List Nat} {old r : Nat → Nat} {st : Option (Nat × Cand)} {M : Mem} {Q : Mem → Prop} (hz : ZOk z) (hnl : z 1 = (nl : Int)) (hn12 : n ≤ 12) (hG : GI z n v (bits (isOn z) nl) L old st M) (hR : RowAt z v n r n M) (hS : SumAt z v n r (bits (isOn z) nl) n M)
    (hQ : ∀ M', FrIl M M' → (∀ a, 92 ≤ a → a ≤ 102 → M' a = M a) → GI z n v (bits (isOn z) nl) L old (ist z n old st ((rl r n).reverse, v)) M' → Q M') : wX6_takeMoved 103 (v : Int) (mvr old (rl r n) : Int) M Q := by
  obtain ⟨g1, g2, g3, g4, g5, g6, g7, g8⟩ := id hG
  have hcw : cwo z n ((rl r n).reverse, v) = worth z v n (rl r n) := by
    unfold cwo
    rw [List.reverse_reverse]
  have hwb := worth_b hz v n (rl r n)
  have hml := mvr_le (old := old) (l := rl r n) (by rw [rl_len]; omega)
  rw [rl_len] at hml
  unfold wX6_takeMoved
  refine lf_total hz g1 hnl g2 g4 hn12 hR hS ?_
  have hcr : ∀ i, i < n → M 92 i = (r i : Int) := fun i hi => (hR.1 i hi).1
  have j40 : ist z n old st ((rl r n).reverse, v) = some (mvr old (rl r n), ((rl r n).reverse, v)) → wX6_takeMoved_J40 Q 103 (v : Int) (mvr old (rl r n) : Int) (worth z v n (rl r n)) M := by
    intro hst
    unfold wX6_takeMoved_J40
    refine LET_i (LET_i (LET_i (lf_keepFound fun M' f1 f2 f3 f4 => hQ M' ⟨fun a q1 q2 q3 q4 => ?_, fun j hj => ?_⟩ (fun a q1 q2 => ?_) ?_)))
    · rw [f1 a q3 q4, up_c q2, up_c q2, up_c q2]
    · rw [f1 103 (by decide) (by decide), up_kn (by omega), up_kn (by omega), up_kn (by omega)]
    · rw [f1 a (by omega) (by omega), up_c (by omega), up_c (by omega), up_c (by omega)]
    · have e' : ∀ a, a ≠ 103 → a ≠ 105 → a ≠ 106 → M' a = M a := fun a q1 q2 q3 => by rw [f1 a q2 q3, up_c q1, up_c q1, up_c q1]
      have e5 : M' 103 5 = M 103 5 := by rw [f1 103 (by decide) (by decide), up_kn (by decide), up_kn (by decide), up_kn (by decide)]
      rw [hst]
      refine ⟨g1.congr hz fun a ha => e' a (by omega) (by omega) (by omega), by rw [e' 91 (by decide) (by decide) (by decide)]; exact g2, by rw [e' 91 (by decide) (by decide) (by decide)]; exact g3, by rw [e' 91 (by decide) (by decide) (by decide)]; exact g4, by rw [e5]; exact g5, fun i hi => by rw [e' 104 (by decide) (by decide) (by decide)]; exact g6 i hi, fun x hx => by rw [e' 107 (by decide) (by decide) (by decide)]; exact g7 x hx, ?_, ?_, by omega, ?_, f3, fun i hi => ?_⟩
      · rw [f1 103 (by decide) (by decide), up_kn (by decide), up_kn (by decide), up_s]
      · rw [f1 103 (by decide) (by decide), up_kn (by decide), up_s]
      · rw [f1 103 (by decide) (by decide), up_s, hcw]
      · rw [f4 i (by omega), up_c (by decide), up_c (by decide), up_c (by decide), hcr i hi]
        exact congrArg _ (rl_get hi).symm
  have stay : ist z n old st ((rl r n).reverse, v) = st → Q M := fun h => hQ M FrIl.rf (fun _ _ _ => rfl) (by rw [h]; exact hG)
  cases st with
  | none =>
    have g8' : M 103 6 = 0 := g8
    rw [g8']
    refine BR_t bm0 (j40 ?_)
    show some (mvr old (rl r n).reverse.reverse, ((rl r n).reverse, v)) = _
    rw [List.reverse_reverse]
  | some p =>
    obtain ⟨a, b⟩ := p
    obtain ⟨a1, a2, a3, a4, a5, a6⟩ := g8
    have hwb2 : -487049291366400 ≤ cwo z n b ∧ cwo z n b ≤ 487049291366400 := worth_b hz _ _ _
    have hi : ist z n old (some (a, b)) ((rl r n).reverse, v) = if mvr old (rl r n) < a ∨ (mvr old (rl r n) = a ∧ cwo z n b < worth z v n (rl r n)) then some (mvr old (rl r n), ((rl r n).reverse, v)) else some (a, b) := by
      show (if mvr old (rl r n).reverse.reverse < a ∨ (mvr old (rl r n).reverse.reverse = a ∧ cwo z n b < cwo z n ((rl r n).reverse, v)) then some (mvr old (rl r n).reverse.reverse, ((rl r n).reverse, v)) else some (a, b)) = _
      rw [List.reverse_reverse, hcw]
    rw [a1, a2, a4, bm_nat (n := mvr old (rl r n)) (by omega), bm_nat (n := a) (by omega), lc_le, bl_id (z := worth z v n (rl r n)) (by omega) (by omega), bl_id (z := cwo z n b) (by omega) (by omega)]
    refine BR_f q1 (BR_i (fun h => j40 ?_) (fun h => BR_i (fun h1 => BR_i (fun h2 => stay ?_) (fun h2 => j40 ?_)) (fun h1 => stay ?_)))
    · rw [hi, if_pos (Or.inl (by omega))]
    · rw [hi, if_neg (by omega)]
    · rw [hi, if_pos (Or.inr ⟨by omega, by omega⟩)]
    · rw [hi, if_neg (by omega)]
theorem pb_L {old r : Nat → Nat} {x i : Nat} {M : Mem} {Q : Int → Mem → Prop} (hx : x < 12) (hx7 : M 107 x = (old x : Int)) (hox : old x < 12) (hi12 : i ≤ 12) (hr : ∀ k, k < i → M 92 k = (r k : Int) ∧ r k < 12 ∧ M 107 (r k) = (old (r k) : Int) ∧ old (r k) < 12) (hQ : Q (cnt (fun y => decide (old x < old y)) (rl r i) : Int) M) : ∀ (m j : Nat) (x3 x4 : Int), j + m = i → x4 = (j : Int) → x3 = (cnt (fun y => decide (old x < old y)) (rl r j) : Int) → wX6_passedBy_L5 Q 103 (x : Int) (i : Int) (m + 1) x3 x4 M
  | 0, j, x3, x4, hj, h4, h3 => by
    subst h4 h3
    obtain rfl : j = i := by omega
    unfold wX6_passedBy_L5
    exact BR_t (Int.le_refl _) hQ
  | m + 1, j, x3, x4, hj, h4, h3 => by
    subst h4 h3
    obtain ⟨r1, r2, r3, r4⟩ := hr j (by omega)
    have e : cnt (fun y => decide (old x < old y)) (rl r (j + 1)) = cnt (fun y => decide (old x < old y)) (rl r j) + (if decide (old x < old (r j)) = true then 1 else 0) := cnt_s _ _ _
    unfold wX6_passedBy_L5
    rw [bm_nat (n := i) (by omega), bm_nat (n := j) (by omega), rd_at (k := 103 - 12 + 1) (n := j) rfl (by omega), show (103 : Nat) - 12 + 1 = 92 from rfl, r1, rd_at (k := 103 + 4) (n := r j) rfl (by omega), rd_at (k := 103 + 4) (n := x) rfl (by omega), show (103 : Nat) + 4 = 107 from rfl, r3, hx7, bm_nat (n := old (r j)) (by omega), bm_nat (n := old x) (by omega)]
    refine BR_f (by omega) ⟨inb_of rfl (by omega) (by decide), inb_of rfl r2 (by decide), inb_of rfl hx (by decide), BR_i (fun h => LET_i (pb_L hx hx7 hox hi12 hr hQ m (j + 1) _ _ (by omega) (by omega) ?_)) (fun h => LET_i (LET_i (pb_L hx hx7 hox hi12 hr hQ m (j + 1) _ _ (by omega) (by omega) ?_)))⟩
    · rw [e, decide_eq_false (by omega : ¬ old x < old (r j))]
      rfl
    · rw [e, decide_eq_true (by omega : old x < old (r j))]
      rfl
