/-! ILL: the row without one piece; the class's search from its start -/
def rlo (r : Nat → Nat) (o : Nat) : Nat → List Nat
  | 0 => []
  | k + 1 => if k = o then rlo r o k else r k :: rlo r o k
theorem rlo_s (r : Nat → Nat) (o k : Nat) : rlo r o (k + 1) = if k = o then rlo r o k else r k :: rlo r o k := rfl
theorem rlo_mem {r : Nat → Nat} {o x : Nat} : ∀ {n : Nat}, x ∈ rlo r o n ↔ ∃ k, k < n ∧ k ≠ o ∧ r k = x
  | 0 => ⟨fun h => (by cases h), fun ⟨k, hk, _⟩ => (by omega)⟩
  | n + 1 => by
    rw [rlo_s]
    by_cases hn : n = o
    · rw [if_pos hn, rlo_mem]
      exact ⟨fun ⟨k, h1, h2, h3⟩ => ⟨k, by omega, h2, h3⟩, fun ⟨k, h1, h2, h3⟩ => ⟨k, by omega, h2, h3⟩⟩
    · rw [if_neg hn, List.mem_cons, rlo_mem]
      constructor
      · rintro (h | ⟨k, h1, h2, h3⟩)
        · exact ⟨n, by omega, hn, h.symm⟩
        · exact ⟨k, by omega, h2, h3⟩
      · rintro ⟨k, h1, h2, h3⟩
        by_cases hk : k = n
        · subst hk
          exact Or.inl h3.symm
        · exact Or.inr ⟨k, by omega, h2, h3⟩
theorem rlo_nd {r : Nat → Nat} {o : Nat} : ∀ {n : Nat}, Inj r n → (rlo r o n).Nodup
  | 0, _ => List.nodup_nil
  | n + 1, h => by
    rw [rlo_s]
    have h' := rlo_nd (o := o) (h.le (Nat.le_succ n))
    split
    · exact h'
    · refine List.nodup_cons.mpr ⟨fun hm => ?_, h'⟩
      obtain ⟨k, h1, _, h3⟩ := rlo_mem.mp hm
      have := h k n (by omega) (by omega) h3
      omega
theorem rlo_len {r : Nat → Nat} {o : Nat} : ∀ {n : Nat}, (rlo r o n).length = if o < n then n - 1 else n
  | 0 => by rw [if_neg (by omega)]; rfl
  | n + 1 => by
    have h := rlo_len (r := r) (o := o) (n := n)
    rw [rlo_s]
    by_cases hn : n = o
    · rw [if_pos hn, h, if_neg (by omega), if_pos (by omega)]
      omega
    · rw [if_neg hn, List.length_cons, h]
      by_cases ho : o < n
      · rw [if_pos ho, if_pos (by omega)]
        omega
      · rw [if_neg ho, if_neg (by omega)]
theorem mems_perm {l : List Nat} (hn : l.Nodup) (h : ∀ x ∈ l, x < 12) : (mems (stb l) 12).Perm l := by
  refine (List.perm_ext_iff_of_nodup (mems_nd _ _) hn).mpr fun x => ?_
  rw [mem_mems, stb_mem]
  exact ⟨fun q => q.2, fun q => ⟨h x q, q⟩⟩
theorem pop_stb {l : List Nat} (hn : l.Nodup) (h : ∀ x ∈ l, x < 12) : pop (stb l) = l.length := by
  rw [← (mems_perm hn h).length_eq, mems_len]
  rfl
def od (r : Nat → Nat) (n x : Nat) : Nat := (plc r (x : Int) n).toNat
theorem od_at {r : Nat → Nat} {n k : Nat} (hi : Inj r n) (hk : k < n) : od r n (r k) = k := by
  unfold od
  rw [plc_at hi hk]
  rfl
theorem ml_L {r : Nat → Nat} {n o : Nat} {M0 : Mem} {Q : Mem → Prop} {E : Int → Mem → Prop} (hn12 : n ≤ 12) (h1 : M0 87 1 = (n : Int)) (h3 : ∀ i, i < n → M0 88 i = (r i : Int)) (hr : ∀ i, i < n → r i < 12) (hj : Inj r n) (ho : o < n) (hQ : ∀ M', (∀ a, a ≠ 107 → M' a = M0 a) → (∀ k, k < n → M' 107 (r k) = (k : Int)) → E (stb (rlo r o n) : Int) M') : ∀ (m j : Nat) (M : Mem) (x3 x4 : Int), j + m = n → x4 = (j : Int) → x3 = (stb (rlo r o j) : Int) → (∀ a, a ≠ 107 → M a = M0 a) → (∀ k, k < j → M 107 (r k) = (k : Int)) → wX6_moveLeast_L5 Q E 103 87 (o : Int) (m + 1) x3 x4 M
  | 0, j, M, x3, x4, hm, h4, hx, f1, f2 => by
    subst h4 hx
    obtain rfl : j = n := by omega
    unfold wX6_moveLeast_L5
    rw [f1 87 (by decide), h1]
    exact BR_t (Int.le_refl _) (hQ M f1 f2)
  | m + 1, j, M, x3, x4, hm, h4, hx, f1, f2 => by
    subst h4 hx
    have hrj := hr j (by omega)
    have hst : stb (rlo r o j) < 2 ^ 12 := stb_lt _ fun q hq => by
      obtain ⟨k, k1, _, k3⟩ := rlo_mem.mp hq
      rw [← k3]
      exact hr k (by omega)
    unfold wX6_moveLeast_L5
    rw [f1 87 (by decide), h1, bm_nat (n := n) (by omega), bm_nat (n := j) (by omega), rd_at (k := 87 + 1) (n := j) rfl (by omega), show (87 : Nat) + 1 = 88 from rfl, f1 88 (by decide), h3 j (by omega), bm_nat (n := o) (by omega)]
    have c1 : ∀ a, a ≠ 107 → up M 107 (r j) (j : Int) a = M0 a := fun a ha => by rw [up_c ha]; exact f1 a ha
    have c2 : ∀ k, k < j + 1 → up M 107 (r j) (j : Int) 107 (r k) = (k : Int) := fun k hk => by
      by_cases hkj : k = j
      · subst hkj
        rw [up_s]
      · rw [up_kn (fun e => hkj (hj k j (by omega) (by omega) e))]
        exact f2 k (by omega)
    refine BR_f (by omega) ⟨inb_of rfl (by omega) (by decide), LET_i ⟨inb_of rfl hrj (by decide), ?_⟩⟩
    rw [wr_up (k := 103 + 4) (n := r j) rfl (by omega), show (103 : Nat) + 4 = 107 from rfl]
    refine LET_i (BR_i (fun h => LET_i (ml_L hn12 h1 h3 hr hj ho hQ m (j + 1) _ _ _ (by omega) (by omega) ?_ c1 c2)) (fun h => LET_i (LET_i (ml_L hn12 h1 h3 hr hj ho hQ m (j + 1) _ _ _ (by omega) (by omega) ?_ c1 c2))))
    · rw [rlo_s, if_pos (by omega)]
    · rw [rlo_s, if_neg (by omega), stb_cons, shl_one _ hrj]
      exact iOr_n (by omega) (Nat.lt_of_lt_of_le (Nat.pow_lt_pow_right (by decide) hrj) (by decide))
/-- the interval's place -/
def ivl (v o n : Nat) : Nat := if (if v ≤ o then v else v - 1) < n - 1 then (if v ≤ o then v else v - 1) else 0
def ilK (r : Nat → Nat) (n o : Nat) : Nat := stb (rlo r o n)
def ilS (z : Fl) (r : Nat → Nat) (n v o : Nat) : Option (Nat × Cand) := (dl (goodb z (ivl v o n) (n - 1)) (ivl v o n) (mems (ilK r n o) 12) (n - 1) []).foldl (ist z (n - 1) (od r n)) none
theorem lf_moveLeast {z : Fl} {n v o : Nat} {r : Nat → Nat} {M : Mem} {Q : Mem → Prop} (hz : ZOk z) (hcb : CB z M) (hw : WzOk M) (h1 : M 87 1 = (n : Int)) (h2 : M 87 2 = (v : Int)) (h3 : ∀ i, i < n → M 88 i = (r i : Int)) (hn2 : 2 ≤ n) (hn7 : n ≤ 7) (hv : v < n) (ho : o < n) (hr : RowPs z r n) (hj : Inj r n) (hQ : ∀ M', (∀ a, ¬ (91 ≤ a ∧ a ≤ 107) → M' a = M a) → M' 103 13 = M 103 13 → M' 103 3 = 0 → WzOk M' → M' 103 5 = ((n - 1 : Nat) : Int) → CI z (n - 1) (ivl v o n) M' (ilS z r n v o) → Q M') : wX6_moveLeast 103 87 (o : Int) M Q := by
  have hz0 := hz.1
  obtain ⟨nl, hnl⟩ : ∃ nl : Nat, z 1 = (nl : Int) := ⟨(z 1).toNat, by have := hz.2.1; omega⟩
  obtain ⟨np, hnp⟩ : ∃ np : Nat, z 0 = (np : Int) := ⟨(z 0).toNat, by omega⟩
  have hz1 := hz.2.1
  have hr12 : ∀ i, i < n → r i < 12 := fun i hi => by have := hr i hi; omega
  have hm12 : ∀ x ∈ rlo r o n, x < np := fun x hx => by
    obtain ⟨k, k1, _, k3⟩ := rlo_mem.mp hx
    have := hr k k1
    omega
  have hnd := rlo_nd (o := o) hj
  have hpop : pop (ilK r n o) = n - 1 := by
    unfold ilK
    rw [pop_stb hnd (fun x hx => by have := hm12 x hx; omega), rlo_len, if_pos ho]
  have hlt : ilK r n o < 2 ^ np := by
    refine Nat.lt_of_lt_of_le (Nat.lt_of_le_of_lt (Nat.le_refl _) (?_ : ilK r n o < 2 ^ np)) (Nat.le_refl _)
    refine Nat.lt_pow_two_of_testBit _ fun i hi => ?_
    cases hb : (ilK r n o).testBit i
    · rfl
    · have := hm12 i (stb_mem.mp hb)
      omega
  have hmem : ∀ x ∈ mems (ilK r n o) 12, (x : Int) < z 0 ∧ od r n x < 12 ∧ ∃ k, k < n ∧ r k = x := fun x hx => by
    have hb := (mem_mems.mp hx).2
    have hx' := stb_mem.mp hb
    obtain ⟨k, k1, _, k3⟩ := rlo_mem.mp hx'
    refine ⟨?_, ?_, k, k1, k3⟩
    · rw [← k3]
      exact hr k k1
    · rw [← k3, od_at hj k1]
      omega
  unfold wX6_moveLeast
  refine ⟨n + 1, ml_L (by omega) h1 h3 hr12 hj ho (fun M1 a1 a2 => LET_i ?_) n 0 M _ _ (by omega) rfl rfl (fun _ _ => rfl) (fun k hk => by omega)⟩
  show wX6_gather 103 (ilK r n o : Int) (up M1 103 3 0) _
  refine lf_gather (np := np) (by rw [up_c (by decide), a1 2 (by decide), hcb.1]; exact hnp) (by omega) hlt fun M2 b1 b2 b3 b4 b5 b6 b7 b8 => ?_
  rw [hpop] at b4 b8
  have e2 : ∀ a, a ≠ 103 → a ≠ 104 → a ≠ 107 → M2 a = M a := fun a q1 q2 q3 => by rw [b1 a q1 q2, up_c q1, a1 a q3]
  have e3 : M2 103 3 = 0 := by rw [b2 3 (by decide) (by decide) (by decide) (by decide) (by decide), up_s]
  have e13 : M2 103 13 = M 103 13 := by rw [b2 13 (by decide) (by decide) (by decide) (by decide) (by decide), up_kn (by decide), a1 103 (by decide)]
  have hcb2 : CB z M2 := hcb.congr hz fun a ha => e2 a (by omega) (by omega) (by omega)
  have hw2 : WzOk M2 := hw.congr fun a q1 q2 => e2 a (by omega) (by omega) (by omega)
  have h107 : ∀ x ∈ mems (ilK r n o) 12, M2 107 x = (od r n x : Int) := fun x hx => by
    obtain ⟨_, _, k, k1, k3⟩ := hmem x hx
    rw [b1 107 (by decide) (by decide), up_c (by decide), ← k3, a2 k k1, od_at hj k1]
  have hon : ∀ l, l < nl → M2 (2 + 21 + 2 * l) 4 = if isOn z l then 1 else 0 := fun l hl => by
    rw [(hcb2.2.2.2.2.2.1 l (by omega)).2.2.2.2.1]
    unfold isOn
    rcases (hz.2.2.2.2.2.1 l (by omega)).2.2.2.1 with h | h <;> rw [h] <;> rfl
  have j96 : ∀ x : Int, x = (ivl v o n : Int) → wX6_moveLeast_J96 Q 103 x M2 := by
    intro x hx
    subst hx
    unfold wX6_moveLeast_J96
    have hvn : ivl v o n < n - 1 := by
      unfold ivl
      by_cases h : (if v ≤ o then v else v - 1) < n - 1
      · rw [if_pos h]
        exact h
      · rw [if_neg h]
        omega
    refine ⟨nl + 1, lf_on_L (B := 2) (f := isOn z) (by rw [hcb2.2.1, hnl]) (by omega) hon ?_ nl 0 _ _ (by omega) rfl rfl⟩
    rw [b4]
    refine lf_start (by omega) fun M3 s1 s2 s3 s4 => ?_
    have hw3 : WzOk M3 := hw2.congr fun a q1 q2 => s4 a (by omega)
    have hg : GI z (n - 1) (ivl v o n) (bits (isOn z) nl) (mems (ilK r n o) 12) (od r n) none M3 := ⟨hcb2.congr hz fun a ha => s4 a (by omega), s1, s2, s3, by rw [s4 103 (by decide)]; exact b4, fun i hi => by rw [s4 104 (by decide)]; exact b8 i hi, fun x hx => by rw [s4 107 (by decide)]; exact h107 x hx, by show M3 103 6 = 0; rw [s4 103 (by decide)]; exact b5⟩
    unfold wX6_goOnMoving
    refine gi_all (old := od r n) hz hnl (by omega) (by omega) (by rw [mems_len]; exact hpop) (fun x hx => ⟨(hmem x hx).1, (hmem x hx).2.1⟩) (n - 1) 0 8 (by omega) (by omega) (fun _ => 0) M3 none _ (fun q hq => by omega) (fun q hq => by omega) (RowAt.zero hw3) (SumAt.zero hz hw3) hg fun M4 fj ff hg4 => ?_
    refine hQ M4 (fun a ha => ?_) ?_ ?_ (hw3.frj fj) hg4.2.2.2.2.1 hg4.2.2.2.2.2.2.2
    · rw [ff.1 a (by omega) (by omega) (by omega) (by omega), s4 a (by omega), e2 a (by omega) (by omega) (by omega)]
    · rw [ff.2 13 (by decide), s4 103 (by decide), e13]
    · rw [ff.2 3 (by decide), s4 103 (by decide), e3]
  have j82 : ∀ x : Int, x = ((if v ≤ o then v else v - 1 : Nat) : Int) → wX6_moveLeast_J82 Q 103 x M2 := by
    intro x hx
    subst hx
    unfold wX6_moveLeast_J82
    rw [b4, bm_nat (n := n - 1) (by omega), bm_nat (n := if v ≤ o then v else v - 1) (by split <;> omega)]
    refine BR_i (fun h => j96 _ ?_) (fun h => j96 _ ?_)
    · unfold ivl
      rw [if_pos (by omega : (if v ≤ o then v else v - 1) < n - 1)]
    · unfold ivl
      rw [if_neg (by omega : ¬ (if v ≤ o then v else v - 1) < n - 1)]
      rfl
  rw [e2 87 (by decide) (by decide) (by decide), h2, bm_nat (n := v) (by omega), bm_nat (n := o) (by omega)]
  refine BR_i (fun h => j82 _ ?_) (fun h => j82 _ ?_)
  · rw [if_pos (by omega)]
  · rw [if_neg (by omega)]
    omega
