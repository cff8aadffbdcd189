/-! BARS on both sides -/
def sp (f : Nat → Bool) : Nat → Nat → Bool
  | 0, m => f m
  | i + 1, m => sp f i m || (m.testBit i && sp f i (and_not m (2 ^ i)))
theorem sp_s (f : Nat → Bool) (i m : Nat) : sp f (i + 1) m = (sp f i m || (m.testBit i && sp f i (and_not m (2 ^ i)))) := rfl
theorem tb_le {m : Nat} (h : m < 2 ^ 10) {b : Nat} (hb : m.testBit b = true) : b < 10 := by
  rcases Nat.lt_or_ge b 10 with h1 | h1
  · exact h1
  · rw [tb_big h h1] at hb
    cases hb
theorem and_not_tb' {m i b : Nat} (hm : m < 2 ^ 10) : (and_not m (2 ^ i)).testBit b = true ↔ m.testBit b = true ∧ b ≠ i := by
  rcases Nat.lt_or_ge b 32 with h1 | h1
  · rw [and_not_tb h1, Bool.and_eq_true, Nat.testBit_two_pow, Bool.not_eq_true', decide_eq_false_iff_not]
    exact ⟨fun h => ⟨h.1, fun e => h.2 e.symm⟩, fun h => ⟨h.1, fun e => h.2 e.symm⟩⟩
  · have hl := and_not_le m (2 ^ i)
    constructor
    · intro h
      have := tb_le (Nat.lt_of_le_of_lt hl hm) h
      omega
    · intro h
      have := tb_le hm h.1
      omega
theorem sp_iff {f : Nat → Bool} : ∀ {i m : Nat}, m < 2 ^ 10 → (sp f i m = true ↔ ∃ S, f S = true ∧ (∀ b, S.testBit b = true → m.testBit b = true) ∧ ∀ b, m.testBit b = true → S.testBit b = true ∨ b < i)
  | 0, m, hm => by
    show f m = true ↔ _
    constructor
    · intro h
      exact ⟨m, h, fun b hb => hb, fun b hb => Or.inl hb⟩
    · rintro ⟨S, h1, h2, h3⟩
      have : S = m := Nat.eq_of_testBit_eq fun b => by
        rw [Bool.eq_iff_iff]
        exact ⟨h2 b, fun hb => (h3 b hb).resolve_right (by omega)⟩
      rw [← this]
      exact h1
  | i + 1, m, hm => by
    have hl := Nat.lt_of_le_of_lt (and_not_le m (2 ^ i)) hm
    rw [sp_s, Bool.or_eq_true, Bool.and_eq_true, sp_iff (i := i) hm, sp_iff (i := i) hl]
    constructor
    · rintro (⟨S, h1, h2, h3⟩ | ⟨h0, S, h1, h2, h3⟩)
      · exact ⟨S, h1, h2, fun b hb => (h3 b hb).imp id fun h => by omega⟩
      · refine ⟨S, h1, fun b hb => ((and_not_tb' hm).mp (h2 b hb)).1, fun b hb => ?_⟩
        by_cases hbi : b = i
        · exact Or.inr (by omega)
        · exact (h3 b ((and_not_tb' hm).mpr ⟨hb, hbi⟩)).imp id fun h => by omega
    · rintro ⟨S, h1, h2, h3⟩
      by_cases hSi : S.testBit i = true
      · refine Or.inl ⟨S, h1, h2, fun b hb => ?_⟩
        rcases h3 b hb with h | h
        · exact Or.inl h
        · by_cases hbi : b = i
          · subst hbi
            exact Or.inl hSi
          · exact Or.inr (by omega)
      · by_cases hmi : m.testBit i = true
        · refine Or.inr ⟨hmi, S, h1, fun b hb => (and_not_tb' hm).mpr ⟨h2 b hb, fun e => hSi (e ▸ hb)⟩, fun b hb => ?_⟩
          obtain ⟨h4, h5⟩ := (and_not_tb' hm).mp hb
          exact (h3 b h4).imp id fun h => by omega
        · refine Or.inl ⟨S, h1, h2, fun b hb => ?_⟩
          rcases h3 b hb with h | h
          · exact Or.inl h
          · by_cases hbi : b = i
            · subst hbi
              exact absurd hb hmi
            · exact Or.inr (by omega)
/-- what the reference says of some musts -/
def barb (f : Nat → Bool) (nm some : Nat) : Bool := (List.range (2 ^ nm)).all fun k => !f k || decide (k &&& some ≠ 0)
theorem barb_sp {f : Nat → Bool} {nm s : Nat} (hnm : nm ≤ 10) (hf : ∀ S, f S = true → S < 2 ^ nm) (_hs : s < 2 ^ nm) : barb f nm s = !sp f nm (and_not (2 ^ nm - 1) s) := by
  have hm : and_not (2 ^ nm - 1) s < 2 ^ 10 := Nat.lt_of_le_of_lt (and_not_le _ _) (Nat.lt_of_lt_of_le (Nat.sub_lt (Nat.two_pow_pos nm) (by decide)) (p2le hnm))
  have hm2 : and_not (2 ^ nm - 1) s < 2 ^ nm := Nat.lt_of_le_of_lt (and_not_le _ _) (Nat.sub_lt (Nat.two_pow_pos nm) (by decide))
  have htb : ∀ b, (and_not (2 ^ nm - 1) s).testBit b = true ↔ b < nm ∧ s.testBit b = false := by
    intro b
    rcases Nat.lt_or_ge b 32 with h1 | h1
    · rw [and_not_tb h1, Nat.testBit_two_pow_sub_one, Bool.and_eq_true, decide_eq_true_eq, Bool.not_eq_true']
    · constructor
      · intro h
        have := tb_le hm h
        omega
      · intro h
        omega
  rw [Bool.eq_iff_iff, Bool.not_eq_true', ← Bool.not_eq_true, sp_iff hm]
  unfold barb
  rw [List.all_eq_true]
  constructor
  · rintro h ⟨S, h1, h2, h3⟩
    have hS := h S (List.mem_range.mpr (hf S h1))
    rw [h1] at hS
    have hS' : S &&& s ≠ 0 := by simpa using hS
    refine hS' (Nat.eq_of_testBit_eq fun b => ?_)
    rw [Nat.testBit_and, Nat.zero_testBit]
    cases hb : S.testBit b
    · rfl
    · rw [((htb b).mp (h2 b hb)).2]
      rfl
  · intro h k hk
    cases hfk : f k
    · rfl
    · have : k &&& s ≠ 0 := by
        intro h0
        refine h ⟨k, hfk, fun b hb => (htb b).mpr ⟨?_, ?_⟩, fun b hb => Or.inr ((htb b).mp hb).1⟩
        · rcases Nat.lt_or_ge b nm with h1 | h1
          · exact h1
          · rw [tb_big (hf k hfk) h1] at hb
            cases hb
        · have h2 : (k &&& s).testBit b = false := by rw [h0, Nat.zero_testBit]
          rw [Nat.testBit_and, hb, Bool.true_and] at h2
          exact h2
      simp [this]
/-- the class's spreading -/
theorem sp15_L {B i : Nat} {f : Nat → Bool} {M0 : Mem} {Q : Mem → Prop} {E : Mem → Prop} (hi : i < 10) (hQ : ∀ M' : Mem, (∀ a, a ≠ B → M' a = M0 a) → (∀ j, j < 1024 → M' B j = if sp f (i + 1) j = true then 1 else 0) → E M') : ∀ (c m : Nat) (M : Mem) (x3 : Int), m + c = 1024 → x3 = (m : Int) → (∀ a, a ≠ B → M a = M0 a) → (∀ j, j < m → M B j = if sp f (i + 1) j = true then 1 else 0) → (∀ j, m ≤ j → j < 1024 → M B j = if sp f i j = true then 1 else 0) → wX6_spread_L15 Q E 103 B (i : Int) (c + 1) x3 M
  | 0, m, M, x3, hm, h3, f1, f2, f3 => by
    subst h3
    obtain rfl : m = 1024 := by omega
    unfold wX6_spread_L15
    exact BR_t (by decide +kernel) (hQ M f1 f2)
  | c + 1, m, M, x3, hm, h3, f1, f2, f3 => by
    subst h3
    have hm10 : m < 2 ^ 10 := by
      have : (2 : Nat) ^ 10 = 1024 := rfl
      omega
    have es := sp_s f i m
    have nxt : ∀ M' : Mem, (∀ a, a ≠ B → M' a = M a) → (∀ j, j ≠ m → M' B j = M B j) → (M' B m = if sp f (i + 1) m = true then 1 else 0) → LET ((m : Int) + 1) (fun x3 => wX6_spread_L15 Q E 103 B (i : Int) (c + 1) x3 M') := by
      intro M' g1 g2 g3
      refine LET_i (sp15_L hi hQ c (m + 1) M' _ (by omega) (by omega) (fun a ha => by rw [g1 a ha, f1 a ha]) (fun j hj => ?_) (fun j h1 h2 => by rw [g2 j (by omega)]; exact f3 j (by omega) h2))
      by_cases hjm : j = m
      · subst hjm
        exact g3
      · rw [g2 j hjm]
        exact f2 j (by omega)
    unfold wX6_spread_L15
    rw [bm_nat (n := m) (by omega), lf_isIn rfl rfl (by omega) (by omega)]
    refine BR_f (by omega) ?_
    cases hb : m.testBit i
    · rw [if_neg (by decide)]
      rw [hb, Bool.false_and, Bool.or_false] at es
      refine BR_t q0 (nxt M (fun _ _ => rfl) (fun _ _ => rfl) ?_)
      rw [f3 m (Nat.le_refl m) (by omega), es]
    · rw [if_pos rfl]
      rw [hb, Bool.true_and] at es
      have hle := and_not_le m (2 ^ i)
      have ea : iAnd (m : Int) (iXor (iShl 1 (i : Int)) (-1)) = ((and_not m (2 ^ i) : Nat) : Int) := by
        rw [shl_one i (by omega)]
        exact iAnd_not (by omega) (Nat.lt_of_le_of_lt (p2le (m := 10) (by omega)) (by decide))
      have hrd : rd M B (iAnd (m : Int) (iXor (iShl 1 (i : Int)) (-1))) = if sp f i (and_not m (2 ^ i)) = true then 1 else 0 := by
        rw [ea, rd_at (n := and_not m (2 ^ i)) rfl (by omega)]
        rcases Nat.lt_or_ge (and_not m (2 ^ i)) m with h | h
        · rw [f2 _ h]
          have e2 := sp_s f i (and_not m (2 ^ i))
          have e3 : (and_not m (2 ^ i)).testBit i = false := by
            cases hc : (and_not m (2 ^ i)).testBit i
            · rfl
            · exact absurd rfl ((and_not_tb' hm10).mp hc).2
          rw [e3, Bool.false_and, Bool.or_false] at e2
          rw [e2]
        · exact f3 _ h (by omega)
      refine BR_f q1 ⟨by rw [ea]; exact inb_of rfl (by omega) (by decide), ?_⟩
      rw [hrd]
      cases hs : sp f i (and_not m (2 ^ i))
      · rw [if_neg (by decide)]
        rw [hs, Bool.or_false] at es
        refine BR_t q0 (nxt M (fun _ _ => rfl) (fun _ _ => rfl) ?_)
        rw [f3 m (Nat.le_refl m) (by omega), es]
      · rw [if_pos rfl]
        rw [hs, Bool.or_true] at es
        refine BR_f q1 ⟨inb_of rfl (by omega) (by decide), LET_i ?_⟩
        rw [wr_up (n := m) rfl (by omega)]
        refine nxt _ (fun a ha => up_c ha) (fun j hj => up_kn hj) ?_
        rw [up_s, es, if_pos rfl]
theorem sp2_L {B nm : Nat} {f : Nat → Bool} {M0 : Mem} {Q : Mem → Prop} (hB : 148 ≤ B) (hnm : M0 2 6 = (nm : Int)) (hn10 : nm ≤ 10) (hQ : ∀ M' : Mem, (∀ a, a ≠ B → M' a = M0 a) → (∀ j, j < 1024 → M' B j = if sp f nm j = true then 1 else 0) → Q M') : ∀ (m i : Nat) (M : Mem) (x2 : Int), i + m = nm → x2 = (i : Int) → (∀ a, a ≠ B → M a = M0 a) → (∀ j, j < 1024 → M B j = if sp f i j = true then 1 else 0) → wX6_spread_L2 Q 103 B (m + 1) x2 M
  | 0, i, M, x2, hi, h2, f1, f2 => by
    subst h2
    obtain rfl : i = nm := by omega
    unfold wX6_spread_L2
    rw [show (103 : Nat) - 101 = 2 from rfl, f1 2 (by omega), hnm]
    exact BR_t (Int.le_refl _) (hQ M f1 f2)
  | m + 1, i, M, x2, hi, h2, f1, f2 => by
    subst h2
    unfold wX6_spread_L2
    rw [show (103 : Nat) - 101 = 2 from rfl, f1 2 (by omega), hnm, bm_nat (n := nm) (by omega), bm_nat (n := i) (by omega)]
    refine BR_f (by omega) ⟨1024 + 1, sp15_L (f := f) (M0 := M) (by omega) (fun M' g1 g2 => LET_i (sp2_L hB hnm hn10 hQ m (i + 1) M' _ (by omega) (by omega) (fun a ha => by rw [g1 a ha, f1 a ha]) g2)) 1024 0 M _ rfl rfl (fun _ _ => rfl) (fun j hj => by omega) (fun j _ hj => f2 j hj)⟩
/-- the fewest of the class -/
def cfw (b : Nat → Bool) (all : Nat) : Nat → Nat
  | 0 => all
  | i + 1 => if b i = true ∧ pop i < pop (cfw b all i) then i else cfw b all i
theorem cfw_s (b : Nat → Bool) (all i : Nat) : cfw b all (i + 1) = if b i = true ∧ pop i < pop (cfw b all i) then i else cfw b all i := rfl
theorem cfw_le {b : Nat → Bool} {all : Nat} : ∀ {i}, i ≤ all + 1 → cfw b all i ≤ all
  | 0, _ => Nat.le_refl all
  | i + 1, h => by
    rw [cfw_s]
    have := cfw_le (b := b) (all := all) (i := i) (by omega)
    split <;> omega
theorem b62_L {B nm : Nat} {f : Nat → Bool} {M : Mem} {Q : Int → Mem → Prop} (hn10 : nm ≤ 10) (hf : ∀ S, f S = true → S < 2 ^ nm) (hM : ∀ j, j < 1024 → M B j = if sp f nm j = true then 1 else 0) (hQ : Q (cfw (barb f nm) (2 ^ nm - 1) (2 ^ nm) : Nat) M) : ∀ (m i : Nat) (x3 x4 : Int), i + m = 2 ^ nm → x4 = (i : Int) → x3 = (cfw (barb f nm) (2 ^ nm - 1) i : Nat) → wX6_barring_L62 Q B ((2 ^ nm - 1 : Nat) : Int) (m + 1) x3 x4 M
  | 0, i, x3, x4, hi, h4, h3 => by
    subst h4 h3
    have hp : 2 ^ nm ≤ 1024 := Nat.le_trans (p2le hn10) (by decide)
    have hp0 : 0 < 2 ^ nm := Nat.two_pow_pos nm
    obtain rfl : i = 2 ^ nm := by omega
    unfold wX6_barring_L62
    rw [bm_nat (n := 2 ^ nm - 1) (by omega), bm_nat (n := 2 ^ nm) (by omega)]
    exact BR_t (by omega) hQ
  | m + 1, i, x3, x4, hi, h4, h3 => by
    subst h4 h3
    have hp : 2 ^ nm ≤ 1024 := Nat.le_trans (p2le hn10) (by decide)
    have hp0 : 0 < 2 ^ nm := Nat.two_pow_pos nm
    have hle := and_not_le (2 ^ nm - 1) i
    have ea : iAnd ((2 ^ nm - 1 : Nat) : Int) (iXor (i : Int) (-1)) = ((and_not (2 ^ nm - 1) i : Nat) : Int) := iAnd_not (by omega) (by omega)
    have hbs := barb_sp (f := f) (s := i) hn10 hf (by omega)
    have hcl := cfw_le (b := barb f nm) (all := 2 ^ nm - 1) (i := i) (by omega)
    have es := cfw_s (barb f nm) (2 ^ nm - 1) i
    have hp1 := pop_le i
    have hp2 := pop_le (cfw (barb f nm) (2 ^ nm - 1) i)
    unfold wX6_barring_L62
    rw [bm_nat (n := 2 ^ nm - 1) (by omega), bm_nat (n := i) (by omega), ea, rd_at (n := and_not (2 ^ nm - 1) i) rfl (by omega), hM _ (by omega)]
    refine BR_f (by omega) ⟨inb_of rfl (by omega) (by decide), ?_⟩
    cases hs : sp f nm (and_not (2 ^ nm - 1) i)
    · rw [hs] at hbs
      rw [if_neg (by decide)]
      refine BR_t q0 ?_
      rw [lf_bitCount rfl (by omega), lf_bitCount rfl (by omega), bm_nat (n := pop i) (by omega), bm_nat (n := pop (cfw (barb f nm) (2 ^ nm - 1) i)) (by omega)]
      refine BR_i (fun h => LET_i (b62_L hn10 hf hM hQ m (i + 1) _ _ (by omega) (by omega) ?_)) (fun h => LET_i (b62_L hn10 hf hM hQ m (i + 1) _ _ (by omega) (by omega) ?_))
      · rw [es, if_neg (fun q => by have := q.2; omega)]
      · rw [es, if_pos ⟨hbs, by omega⟩]
    · rw [hs] at hbs
      rw [if_pos rfl]
      refine BR_f q1 (LET_i (b62_L hn10 hf hM hQ m (i + 1) _ _ (by omega) (by omega) ?_))
      rw [es, if_neg (fun q => by have := q.1; rw [hbs] at this; cases this)]
/-- the reference -/
theorem br4_L {z : Fl} {nm s : Nat} {f : Nat → Bool} {M : Mem} {Q : Int → Mem → Prop} (h2 : M 126 2 = (nm : Int)) (hn10 : nm ≤ 10) (hs : s < 2 ^ nm) (hM : ∀ j, j < 1024 → M 138 j = if f j = true then 1 else 0) (hQ : Q (if barb f nm s = true then 1 else 0) M) (_hz : z = z) : ∀ (m k : Nat) (x2 x3 : Int), k + m = 2 ^ nm → x3 = (k : Int) → isB x2 → (x2 = 1 ↔ ∀ j, j < k → f j = true → j &&& s ≠ 0) → wX12_bar_L4 Q 125 (s : Int) (m + 1) x2 x3 M
  | 0, k, x2, x3, hk, h3, hb, hx => by
    subst h3
    have hp : 2 ^ nm ≤ 1024 := Nat.le_trans (p2le hn10) (by decide)
    obtain rfl : k = 2 ^ nm := by omega
    unfold wX12_bar_L4
    rw [rd_at (i := 2) (n := 2) rfl (by decide), show (125 : Nat) + 1 = 126 from rfl, h2, shl_13 nm (by omega)]
    refine BR_t (Int.le_refl _) ⟨hb, ?_⟩
    have e : x2 = if barb f nm s = true then 1 else 0 := by
      by_cases hbb : barb f nm s = true
      · rw [if_pos hbb]
        refine hx.mpr fun j hj hf => ?_
        have := List.all_eq_true.mp hbb j (List.mem_range.mpr hj)
        rw [hf] at this
        simpa using this
      · rw [if_neg hbb]
        rcases hb with h | h
        · exact h
        · refine absurd (List.all_eq_true.mpr fun j hj => ?_) hbb
          have h1 := hx.mp h j (List.mem_range.mp hj)
          cases hf : f j
          · rfl
          · have := h1 hf
            simp [this]
    rw [e]
    exact hQ
  | m + 1, k, x2, x3, hk, h3, hb, hx => by
    subst h3
    have hp : 2 ^ nm ≤ 1024 := Nat.le_trans (p2le hn10) (by decide)
    unfold wX12_bar_L4 wX12_bar_J35
    rw [rd_at (i := 2) (n := 2) rfl (by decide), show (125 : Nat) + 1 = 126 from rfl, h2, shl_13 nm (by omega), bm_nat (n := 2 ^ nm) (by omega), bm_nat (n := k) (by omega)]
    refine BR_f (by omega) ?_
    rcases hb with h0 | h0
    · subst h0
      refine BR_t bm0 ⟨isB0, ?_⟩
      have : ¬ barb f nm s = true := fun hbb => by
        have : (0 : Int) = 1 := hx.mpr fun j hj hf => by
          have := List.all_eq_true.mp hbb j (List.mem_range.mpr (by omega))
          rw [hf] at this
          simpa using this
        cases this
      rw [if_neg this] at hQ
      exact hQ
    · subst h0
      have hall := hx.mp rfl
      have nxt : ∀ x : Int, isB x → (x = 1 ↔ (f k = true → k &&& s ≠ 0)) → wX12_bar_J40 Q (fun x2' x3' M' => wX12_bar_L4 Q 125 (s : Int) (m + 1) x2' x3' M') 125 (s : Int) (k : Int) x M := by
        intro x hbx hxx
        unfold wX12_bar_J40
        refine LET_i (br4_L (z := z) h2 hn10 hs hM hQ rfl m (k + 1) _ _ (by omega) (by omega) hbx ?_)
        rw [hxx]
        constructor
        · intro h j hj hf
          rcases Nat.lt_or_ge j k with h1 | h1
          · exact hall j h1 hf
          · obtain rfl : j = k := by omega
            exact h hf
        · intro h
          exact h k (by omega)
      refine BR_f q1 ⟨inb_of rfl (by omega) (by decide), ?_⟩
      rw [rd_at (n := k) rfl (by omega), show (125 : Nat) + 13 = 138 from rfl, hM k (by omega), iAnd_n (by omega)]
      cases hf : f k
      · rw [if_neg (by decide)]
        exact BR_t q0 (nxt 1 isB1 ⟨fun _ h => absurd (hf ▸ h : false = true) (by decide), fun _ => rfl⟩)
      · rw [if_pos rfl]
        have hle : k &&& s ≤ k := Nat.and_le_left
        rw [bm_nat (n := k &&& s) (by omega)]
        refine BR_f q1 (BR_i (fun h => nxt 0 isB0 ⟨fun e => (by cases e), fun h' => absurd (by omega) (h' hf)⟩) (fun h => nxt 1 isB1 ⟨fun _ _ => by omega, fun _ => rfl⟩))
theorem mf_bar {nm s : Nat} {f : Nat → Bool} {M : Mem} {Q : Int → Mem → Prop} (h2 : M 126 2 = (nm : Int)) (hn10 : nm ≤ 10) (hs : s < 2 ^ nm) (hM : ∀ j, j < 1024 → M 138 j = if f j = true then 1 else 0) (hQ : Q (if barb f nm s = true then 1 else 0) M) : wX12_bar 125 (s : Int) M Q :=
  ⟨2 ^ nm + 1, br4_L (z := fun _ => 0) h2 hn10 hs hM hQ rfl (2 ^ nm) 0 _ _ (by omega) rfl isB1 ⟨fun _ j hj => by omega, fun _ => rfl⟩⟩
def rfw (b : Nat → Bool) : Nat → Option Nat
  | 0 => none
  | i + 1 => match rfw b i with
    | none => if b i = true then some i else none
    | some c => if pop i < pop c ∧ b i = true then some i else some c
theorem rfw_lt {b : Nat → Bool} : ∀ {i c}, rfw b i = some c → c < i
  | 0, c, h => by cases h
  | i + 1, c, h => by
    have h' : (match rfw b i with
      | none => if b i = true then some i else none
      | some c => if pop i < pop c ∧ b i = true then some i else some c) = some c := h
    cases hr : rfw b i with
    | none =>
      rw [hr] at h'
      have h2 : (if b i = true then some i else none) = some c := h'
      split at h2
      · cases h2
        omega
      · cases h2
    | some d =>
      have := rfw_lt hr
      rw [hr] at h'
      have h2 : (if pop i < pop d ∧ b i = true then some i else some d) = some c := h'
      split at h2
      · cases h2
        omega
      · cases h2
        omega
def oI : Option Nat → Int
  | none => -1
  | some c => (c : Int)
theorem b51_L {nm : Nat} {f : Nat → Bool} {M : Mem} {Q : Int → Mem → Prop} (h2 : M 126 2 = (nm : Int)) (hn10 : nm ≤ 10) (hM : ∀ j, j < 1024 → M 138 j = if f j = true then 1 else 0) (hQ : Q (oI (rfw (barb f nm) (2 ^ nm))) M) : ∀ (m i : Nat) (x2 x3 : Int), i + m = 2 ^ nm → x3 = (i : Int) → x2 = oI (rfw (barb f nm) i) → wX12_bars_L51 Q 125 (m + 1) x2 x3 M
  | 0, i, x2, x3, hi, h3, hx => by
    subst h3 hx
    have hp : 2 ^ nm ≤ 1024 := Nat.le_trans (p2le hn10) (by decide)
    obtain rfl : i = 2 ^ nm := by omega
    unfold wX12_bars_L51
    rw [rd_at (i := 2) (n := 2) rfl (by decide), show (125 : Nat) + 1 = 126 from rfl, h2, shl_13 nm (by omega)]
    exact BR_t (Int.le_refl _) hQ
  | m + 1, i, x2, x3, hi, h3, hx => by
    subst h3 hx
    have hp : 2 ^ nm ≤ 1024 := Nat.le_trans (p2le hn10) (by decide)
    have es : rfw (barb f nm) (i + 1) = (match rfw (barb f nm) i with
      | none => if barb f nm i = true then some i else none
      | some c => if pop i < pop c ∧ barb f nm i = true then some i else some c) := rfl
    have nxt : ∀ x : Int, x = oI (rfw (barb f nm) (i + 1)) → wX12_bars_J91 Q (fun x2' x3' M' => wX12_bars_L51 Q 125 (m + 1) x2' x3' M') 125 (i : Int) x M := by
      intro x hx
      unfold wX12_bars_J91
      exact LET_i (b51_L h2 hn10 hM hQ m (i + 1) _ _ (by omega) (by omega) hx)
    have hp1 := pop_le i
    unfold wX12_bars_L51 wX12_bars_J78 wX12_bars_J90
    rw [rd_at (i := 2) (n := 2) rfl (by decide), show (125 : Nat) + 1 = 126 from rfl, h2, shl_13 nm (by omega), bm_nat (n := 2 ^ nm) (by omega), bm_nat (n := i) (by omega)]
    refine BR_f (by omega) ?_
    cases hr : rfw (barb f nm) i with
    | none =>
      rw [hr] at es
      refine BR_t (by decide +kernel) (mf_bar h2 hn10 (by omega) hM ?_)
      by_cases hb : barb f nm i = true
      · rw [if_pos hb]
        refine BR_f q1 (nxt _ ?_)
        have es' : rfw (barb f nm) (i + 1) = if barb f nm i = true then some i else none := es
        rw [es', if_pos hb]
        rfl
      · rw [if_neg hb]
        refine BR_t q0 (nxt _ ?_)
        have es' : rfw (barb f nm) (i + 1) = if barb f nm i = true then some i else none := es
        rw [es', if_neg hb]
    | some c =>
      have hc := rfw_lt hr
      have hp2 := pop_le c
      rw [hr] at es
      have es' : rfw (barb f nm) (i + 1) = if pop i < pop c ∧ barb f nm i = true then some i else some c := es
      show BR (bm (c : Int) < 0) _ _
      rw [bm_nat (n := c) (by omega)]
      refine BR_f (by omega) (lf_ones rfl (by omega) (lf_ones rfl (by omega) ?_))
      rw [bm_nat (n := pop i) (by omega), bm_nat (n := pop c) (by omega)]
      refine BR_i (fun h => nxt _ ?_) (fun h => mf_bar h2 hn10 (by omega) hM ?_)
      · rw [es', if_neg (fun q => by have := q.1; omega)]
      · by_cases hb : barb f nm i = true
        · rw [if_pos hb]
          refine BR_f q1 (nxt _ ?_)
          rw [es', if_pos ⟨by omega, hb⟩]
          rfl
        · rw [if_neg hb]
          refine BR_t q0 (nxt _ ?_)
          rw [es', if_neg (fun q => hb q.2)]
theorem pop_all : ∀ nm, nm ≤ 10 → pop (2 ^ nm - 1) = nm := by decide +kernel
theorem pop_eq {nm i : Nat} (hn : nm ≤ 10) (hi : i < 2 ^ nm) (h : nm ≤ pop i) : i = 2 ^ nm - 1 := by
  have e1 : popn i nm = pop i := by
    have := popn_zero hi (12 - nm)
    rw [show nm + (12 - nm) = 12 by omega] at this
    exact this.symm
  have key : ∀ m, m ≤ popn i m → ∀ b, b < m → i.testBit b = true := by
    intro m
    induction m with
    | zero => intro _ b hb; omega
    | succ m ih =>
      intro h b hb
      rw [popn_s] at h
      have hl := popn_le i m
      cases ht : i.testBit m
      · rw [ht] at h
        have h' : m + 1 ≤ popn i m + 0 := h
        omega
      · rw [ht] at h
        have h' : m + 1 ≤ popn i m + 1 := h
        rcases Nat.lt_or_ge b m with h1 | h1
        · exact ih (by omega) b h1
        · obtain rfl : b = m := by omega
          exact ht
  refine set_ext (n := nm) hi (Nat.sub_lt (Nat.two_pow_pos nm) (by decide)) fun b hb => ?_
  rw [key nm (by omega) b hb, Nat.testBit_two_pow_sub_one, decide_eq_true hb]
theorem fw_both {b : Nat → Bool} {nm : Nat} (hn : nm ≤ 10) (hall : b (2 ^ nm - 1) = true) : oI (rfw b (2 ^ nm)) = (cfw b (2 ^ nm - 1) (2 ^ nm) : Nat) := by
  have key : ∀ i, i ≤ 2 ^ nm → (rfw b i = none ∧ cfw b (2 ^ nm - 1) i = 2 ^ nm - 1 ∧ ∀ j, j < i → b j = false) ∨ rfw b i = some (cfw b (2 ^ nm - 1) i) := by
    intro i
    induction i with
    | zero => intro _; exact Or.inl ⟨rfl, rfl, fun j hj => by omega⟩
    | succ i ih =>
      intro h
      have es : rfw b (i + 1) = (match rfw b i with
        | none => if b i = true then some i else none
        | some c => if pop i < pop c ∧ b i = true then some i else some c) := rfl
      have ec := cfw_s b (2 ^ nm - 1) i
      rcases ih (by omega) with ⟨h1, h2, h3⟩ | h1
      · rw [h1] at es
        have es' : rfw b (i + 1) = if b i = true then some i else none := es
        rw [h2, pop_all nm hn] at ec
        by_cases hb : b i = true
        · rw [if_pos hb] at es'
          right
          rw [es', ec]
          by_cases hp : pop i < nm
          · rw [if_pos ⟨hb, hp⟩]
          · rw [if_neg (fun q => hp q.2), pop_eq (nm := nm) (i := i) hn (by omega) (by omega)]
        · rw [if_neg hb] at es'
          left
          refine ⟨es', by rw [ec, if_neg (fun q => hb q.1)], fun j hj => ?_⟩
          rcases Nat.lt_or_ge j i with h4 | h4
          · exact h3 j h4
          · obtain rfl : j = i := by omega
            simpa using hb
      · rw [h1] at es
        have es' : rfw b (i + 1) = if pop i < pop (cfw b (2 ^ nm - 1) i) ∧ b i = true then some i else some (cfw b (2 ^ nm - 1) i) := es
        right
        rw [es', ec]
        by_cases hb : b i = true ∧ pop i < pop (cfw b (2 ^ nm - 1) i)
        · rw [if_pos hb, if_pos ⟨hb.2, hb.1⟩]
        · rw [if_neg hb, if_neg (fun q => hb ⟨q.2, q.1⟩)]
  have hp0 : 0 < 2 ^ nm := Nat.two_pow_pos nm
  rcases key (2 ^ nm) (Nat.le_refl _) with ⟨_, _, h3⟩ | h
  · have := h3 (2 ^ nm - 1) (by omega)
    rw [hall] at this
    cases this
  · rw [h]
    rfl
theorem bk_lt_nm {z : Fl} {nm : Nat} (hnm : z 2 = (nm : Int)) (v n : Nat) : ∀ l : List Nat, bk z v n l < 2 ^ nm
  | [] => Nat.two_pow_pos nm
  | q :: l => by
    rw [bk_cons, hnm, Int.toNat_natCast]
    exact Nat.or_lt_two_pow (bk_lt_nm hnm v n l) (bits_lt nm)
theorem bs_lt {z : Fl} {k nm S : Nat} (hnm : z 2 = (nm : Int)) (h : bs z k S = true) : S < 2 ^ nm := by
  unfold bs at h
  rw [List.any_eq_true] at h
  obtain ⟨c, _, hb⟩ := h
  unfold brc at hb
  rw [Bool.and_eq_true, decide_eq_true_eq, decide_eq_true_eq] at hb
  rw [← hb.2]
  exact bk_lt_nm hnm _ _ _
theorem bs_all {z : Fl} {k nm : Nat} (hnm : z 2 = (nm : Int)) (hne : cands z k = []) : barb (bs z k) nm (2 ^ nm - 1) = true := by
  unfold barb
  rw [List.all_eq_true]
  intro j hj
  cases hb : bs z k j
  · rfl
  · have hjn := bs_lt hnm hb
    have hj0 : j ≠ 0 := by
      intro e
      subst e
      unfold bs at hb
      rw [List.any_eq_true] at hb
      obtain ⟨c, hc, hb⟩ := hb
      have : c ∈ cands z k := by
        rw [cands_allk, List.mem_filter]
        exact ⟨hc, hb⟩
      rw [hne] at this
      cases this
    have : j &&& (2 ^ nm - 1) = j := by
      refine Nat.eq_of_testBit_eq fun b => ?_
      rw [Nat.testBit_and, Nat.testBit_two_pow_sub_one]
      rcases Nat.lt_or_ge b nm with h | h
      · rw [decide_eq_true h, Bool.and_true]
      · rw [tb_big hjn h]
        rfl
    simp [this, hj0]
theorem st_bars {t : Int} {M : Mem} (hI : Inv t M) {a : Int} (ea : bm a = a) : Step t M (fun M Q => wX11_bars 1 a M Q) (fun M Q => wX12_bars 125 a M Q) := by
  intro Q1 hQ1
  have hz := hI.zok
  obtain ⟨nm, hnm⟩ : ∃ nm : Nat, vw (M 126) 2 = (nm : Int) := ⟨(vw (M 126) 2).toNat, by have := hz.2.2.1; omega⟩
  have hn10 : nm ≤ 10 := by have := hz.2.2.1; omega
  have hp : 2 ^ nm ≤ 1024 := Nat.le_trans (p2le hn10) (by decide)
  have hp0 : 0 < 2 ^ nm := Nat.two_pow_pos nm
  unfold wX11_bars
  refine set_both (Rl := RI) (g := fun x => x) (B := fun M Q => wX12_bars 125 a M Q) hI ea (fun r r2 h => h) hQ1 (fun r M' hr he => BR_f (by rcases hr with rfl | rfl <;> decide +kernel) ?_) (fun hb M1 Q2 h126 he => ?_) (fun k hk hi ho hs M1 Q2 h126 he => ?_) (fun k hk ho hs M' h126 hI' hsr => BR_t bm0 ?_)
  · unfold wX11_bars_J23
    exact BR_f (by rcases hr with rfl | rfl <;> decide +kernel) he
  · unfold wX12_bars
    exact mf_isSet hz (e0_of h126) ea (fun hs => by rcases hb with h | h; exact absurd hs h; exact absurd h q1) (fun hs => BR_t q0 he)
  · subst hk
    unfold wX12_bars
    exact mf_isSet hz (e0_of h126) ea (fun _ => BR_f q1 (mf_isSmall (hi.lt hz).1 (most := 6) rfl (by decide) (fun h => absurd h hs) (fun _ => BR_t q0 he))) (fun h => absurd hi h)
  · subst hk
    have hin := inS_k hs
    have hk12 := (hin.lt hz).1
    have hlen := cands_len (z := vw (M 126)) hs.2.2
    obtain ⟨h5, hm, g1, g2, g3⟩ := hsr
    have ref : ∀ (M1 : Mem) (Q2 : Int → Mem → Prop), M1 126 = M 126 → (∀ M2, FrQ M1 M2 → RH (vw (M 126)) k M2 → BR (bm (M2 125 22) ≤ 0) (LET ((-1)) (fun x2_6 => ∃ N_16, wX12_bars_L51 Q2 125 N_16 x2_6 0 M2)) (wX12_error 125 3 M2 (fun r_18 M_17 => Q2 r_18 M_17))) → wX12_bars 125 (k : Int) M1 Q2 := by
      intro M1 Q2 h1 hr
      unfold wX12_bars
      exact mf_isSet hz (e0_of h1) ea (fun _ => BR_f q1 (mf_isSmall hk12 (most := 6) rfl (by decide) (fun _ => BR_f q1 (mf_seesAll hz (mb_of h1) hs hr)) (fun h => absurd ⟨hs.2.1, hs.2.2⟩ h))) (fun h => absurd hin h)
    rw [show M' (1 + 102) 6 = _ from g1, bm_nat (n := (cands (vw (M 126)) k).length) (by omega)]
    unfold wX11_bars_J23
    refine BR_i (fun hc0 => BR_t bm0 ?_) (fun hc0 => BR_f (by decide +kernel) (lf_error11 (k := 3) rfl (by decide) (by decide) (hQ1 _ _ fun Q2 hQ2 => ref _ Q2 (by rw [up_c (by decide), h126]) fun M2 f hr => ?_)))
    · have hne : cands (vw (M 126)) k = [] := List.length_eq_zero_iff.mp (by omega)
      have hmz : ∀ x ∈ mems k 12, (x : Int) < vw (M 126) 0 := fun x hx => by
        have hb := (mem_mems.mp hx).2
        have hz0 := hz.1
        rcases Nat.lt_or_ge x (vw (M 126) 0).toNat with h | h
        · omega
        · rw [tb_big hs.1 h] at hb
          cases hb
      unfold wX6_barring
      refine lf_brk hI' fun M1 B hI1 hB h148 hkB hz1 f1 f2 => ⟨⟨by omega, hkB⟩, ?_⟩
      have hcb1 : CB (vw (M 126)) M1 := by
        have := hI1.cb
        rw [show M1 126 = M 126 by rw [f1 126 (by decide) (by decide) (by decide), h126]] at this
        exact this
      refine ⟨pop k + 1, ba_L hz h148 hs.2.1 hs.2.2 hmz (fun M2 e1 e2 e3 => ?_) (pop k) 0 M1 _ (by omega) rfl hcb1 hI1.wz (fun _ _ _ => rfl) (by rw [f2 5 (by decide)]; exact h5) (fun i hi => by rw [f1 104 (by decide) (by decide) (by decide)]; exact hm i hi) (fun j hj => by rw [hz1 j hj]; rfl)⟩
      have h26 : M2 2 6 = (nm : Int) := by rw [e1 2 (by omega) (by omega), hcb1.2.2.1, hnm]
      refine ⟨nm + 1, sp2_L (f := bs (vw (M 126)) k) h148 h26 hn10 (fun M3 d1 d2 => LET_i ?_) nm 0 M2 _ (by omega) rfl (fun _ _ => rfl) e3⟩
      rw [show M3 (103 - 101) 6 = (nm : Int) by rw [d1 (103 - 101) (by omega)]; exact h26, shl_13 nm (by omega), show ((2 ^ nm : Nat) : Int) - 1 = ((2 ^ nm - 1 : Nat) : Int) by omega]
      refine ⟨2 ^ nm + 1, b62_L hn10 (fun S h => bs_lt hnm h) d2 (hQ1 _ _ fun Q2 hQ2 => ?_) (2 ^ nm) 0 _ _ (by omega) rfl rfl⟩
      have hI3 : Inv t M3 := (hI1.b2 (M' := M3) hB h148 (fun a q1 q2 => by rw [d1 a q2, e1 a (by omega) q2]) (e2.congr fun a q1 q2 => d1 a (by omega)))
      have h3126 : M3 126 = M 126 := by rw [d1 126 (by omega), e1 126 (by omega) (by omega), f1 126 (by decide) (by decide) (by decide), h126]
      refine ref M3 Q2 h3126 fun M4 f hr => ?_
      rw [hr.2.1, hne]
      refine BR_t (by decide +kernel) (LET_i ⟨2 ^ nm + 1, b51_L (f := bs (vw (M 126)) k) (by rw [f.1 126 (by decide) (by decide), h3126, ← hnm, vw_at (by omega)]) hn10 hr.2.2.2.2 ?_ (2 ^ nm) 0 _ _ (by omega) rfl rfl⟩)
      rw [fw_both hn10 (bs_all hnm hne)]
      exact hQ2 _ _ rfl (q_inv hI3 f)
    · rw [hr.2.1, bm_nat (n := (cands (vw (M 126)) k).length) (by omega)]
      exact BR_f hc0 (q_err hI' (k := 3) rfl (by decide) f hQ2)
