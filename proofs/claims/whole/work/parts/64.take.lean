/-! PARTS OF A WORTH; a sheet's row on both sides -/
theorem lc_c (a b : Int) : bm (lCmp a b) = lCmp a b := by
  unfold lCmp
  split
  · exact bm1
  · split
    · exact bm0
    · exact li_n1
theorem lc_ge {a b : Int} : 0 ≤ bm (lCmp a b) ↔ bl b ≤ bl a := by
  rw [lc_c]
  unfold lCmp
  split
  · omega
  · split <;> omega
theorem lc_eq {a b : Int} : bm (lCmp a b) = 0 ↔ bl a = bl b := by
  rw [lc_c]
  unfold lCmp
  split
  · omega
  · split <;> omega
theorem lc_lt {a b : Int} : bm (lCmp a b) < 0 ↔ bl a < bl b := by
  rw [lc_c]
  unfold lCmp
  split
  · omega
  · split <;> omega
theorem lc_le {a b : Int} : bm (lCmp a b) ≤ 0 ↔ bl a ≤ bl b := by
  rw [lc_c]
  unfold lCmp
  split
  · omega
  · split <;> omega
theorem bl0 : bl 0 = 0 := by decide +kernel
theorem bl1 : bl 1 = 1 := by decide +kernel
theorem bl_nat {n : Nat} (h : n < 9223372036854775808) : bl (n : Int) = (n : Int) := bl_id (by omega) (by omega)
theorem lRem_nn {a b : Nat} (ha : a < 4611686018427387904) (hb : 0 < b) (hb2 : b < 4611686018427387904) : lRem (a : Int) (b : Int) = ((a % b : Nat) : Int) := by
  have ea : (Int64.ofInt (a : Int)).toInt = (a : Int) := bl_nat (by omega)
  have eb : (Int64.ofInt (b : Int)).toInt = (b : Int) := bl_nat (by omega)
  have hle : a / b ≤ a := Nat.div_le_self a b
  have e0 : Int64.ofInt (a : Int) / Int64.ofInt (b : Int) = Int64.ofInt ((a / b : Nat) : Int) := by
    rw [← Int64.toInt_inj, Int64.toInt_div, ea, eb]
    have e1 : (Int64.ofInt ((a / b : Nat) : Int)).toInt = ((a / b : Nat) : Int) := bl_nat (by omega)
    rw [e1, Int.tdiv_eq_ediv_of_nonneg (by omega), Int.natCast_ediv]
    have h0 : (0 : Int) ≤ (a : Int) / (b : Int) := Int.ediv_nonneg (by omega) (by omega)
    have h1 : (a : Int) / (b : Int) ≤ (a : Int) := Int.ediv_le_self _ (by omega)
    exact Int.bmod_eq_of_le (by omega) (by omega)
  unfold lRem
  rw [e0, ← Int64.ofInt_mul, ← Int64.ofInt_sub]
  have e3 : (a : Int) - ((a / b : Nat) : Int) * (b : Int) = ((a % b : Nat) : Int) := by
    rw [Int.natCast_ediv, Int.natCast_emod, Int.emod_def, Int.mul_comm]
  rw [e3]
  have := Nat.mod_lt a hb
  exact bl_nat (by omega)
def euc : Nat → Nat → Nat → Option Nat
  | 0, _, _ => none
  | f + 1, a, b => if b = 0 then some a else euc f b (a % b)
theorem euc_s (f a b : Nat) : euc (f + 1) a b = if b = 0 then some a else euc f b (a % b) := rfl
theorem euc_gcd : ∀ {f a b g : Nat}, euc f a b = some g → g = Nat.gcd b a
  | 0, _, _, _, h => by cases h
  | f + 1, a, b, g, h => by
    rw [euc_s] at h
    split at h
    · cases h
      rename_i h0
      rw [h0, Nat.gcd_zero_left]
    · rw [euc_gcd h, Nat.gcd_rec b a]
def all_euc : Bool := (List.range 2520).all fun b => (euc 40 2520 b).isSome
theorem all_euc_t : all_euc = true := by decide +kernel
theorem euc_40 {b : Nat} (h : b < 2520) : ∃ g, euc 40 2520 b = some g := Option.isSome_iff_exists.mp (List.all_eq_true.mp all_euc_t b (List.mem_range.mpr h))
theorem euc_mono : ∀ {f a b g : Nat}, euc f a b = some g → euc (f + 1) a b = some g
  | 0, _, _, _, h => by cases h
  | f + 1, a, b, g, h => by
    rw [euc_s] at h ⊢
    split
    · rw [if_pos (by assumption)] at h
      exact h
    · rw [if_neg (by assumption)] at h
      exact euc_mono h
/-- the reference's way begins with the other one -/
theorem euc_41 (b : Nat) : ∃ g, euc 41 b 2520 = some g := by
  rw [euc_s, if_neg (by decide)]
  exact euc_40 (Nat.mod_lt _ (by decide))
theorem euc_42 (b : Nat) : ∃ g, euc 42 2520 b = some g := by
  rcases Nat.lt_trichotomy b 2520 with h | h | h
  · obtain ⟨g, hg⟩ := euc_40 h
    exact ⟨g, euc_mono (euc_mono hg)⟩
  · subst h
    exact ⟨2520, by decide +kernel⟩
  · rw [euc_s, if_neg (by omega), Nat.mod_eq_of_lt h]
    exact euc_41 b
theorem pc_L {l0 x2 : Int} {M : Mem} {g : Nat} {Q : Int → Mem → Prop} {E : Int → Mem → Prop} (hQ : E (g : Int) M) : ∀ (f a b : Nat) (l3 l5 x7 : Int) (c : Nat), euc f a b = some g → a < 4611686018427387904 → b < 4611686018427387904 → l3 = (a : Int) → l5 = (b : Int) → x7 = (c : Int) → c + f ≤ 100 → wX11_partOf_L13 Q E l0 x2 f l3 l5 x7 M
  | 0, a, b, l3, l5, x7, c, h, _, _, _, _, _, _ => by cases h
  | f + 1, a, b, l3, l5, x7, c, h, ha, hb, e3, e5, e7, hc => by
    subst e3 e5 e7
    unfold wX11_partOf_L13
    rw [bm_nat (n := c) (by omega), lc_eq, bl0, bl_nat (n := b) (by omega)]
    rw [euc_s] at h
    refine BR_f (by omega) (BR_i (fun h0 => ?_) (fun h0 => ⟨h0, LET_i (LET_i ?_)⟩))
    · rw [if_pos (by omega)] at h
      cases h
      exact hQ
    · rw [if_neg (by omega)] at h
      have hlt := Nat.mod_lt a (show 0 < b by omega)
      exact pc_L hQ f b (a % b) _ _ _ (c + 1) h hb (by omega) rfl (lRem_nn ha (by omega) hb) (by omega) (by omega)
theorem pm_L {l0 x2 : Int} {M : Mem} {g : Nat} {Q : Int → Mem → Prop} {E : Int → Mem → Prop} (hQ : E (g : Int) M) : ∀ (f a b : Nat) (l3 l5 : Int), euc f a b = some g → a < 4611686018427387904 → b < 4611686018427387904 → l3 = (a : Int) → l5 = (b : Int) → wX12_partOf_L18 Q E l0 x2 f l3 l5 M
  | 0, a, b, l3, l5, h, _, _, _, _ => by cases h
  | f + 1, a, b, l3, l5, h, ha, hb, e3, e5 => by
    subst e3 e5
    unfold wX12_partOf_L18
    rw [lc_eq, bl0, bl_nat (n := b) (by omega)]
    rw [euc_s] at h
    refine BR_i (fun h0 => ?_) (fun h0 => ⟨h0, LET_i ?_⟩)
    · rw [if_pos (by omega)] at h
      cases h
      exact hQ
    · rw [if_neg (by omega)] at h
      have hlt := Nat.mod_lt a (show 0 < b by omega)
      exact pm_L hQ f b (a % b) _ _ h hb (by omega) rfl (lRem_nn ha (by omega) hb)
def prt (w x2 : Int) : Int := if bm x2 = 0 then lDiv w (Nat.gcd 2520 w.natAbs : Int) else lDiv 2520 (Nat.gcd 2520 w.natAbs : Int)
theorem gcd_b (w : Nat) : 1 ≤ Nat.gcd 2520 w ∧ Nat.gcd 2520 w ≤ 2520 := ⟨Nat.gcd_pos_of_pos_left w (by decide), Nat.gcd_le_left w (by decide)⟩
theorem lf_partOf {w x2 : Int} {M : Mem} {Q : Int → Mem → Prop} (hw : -4611686018427387904 < w ∧ w < 4611686018427387904) (hQ : Q (prt w x2) M) : wX11_partOf w x2 M Q := by
  obtain ⟨g, hg⟩ := euc_42 w.natAbs
  have hgg : g = Nat.gcd 2520 w.natAbs := by rw [euc_gcd hg, Nat.gcd_comm]
  have hb := gcd_b w.natAbs
  have bw : bl w = w := bl_id (by omega) (by omega)
  have key : ∀ a : Int, a = (w.natAbs : Int) → ∃ N_13, wX11_partOf_L13 Q (fun l3_7 M_8 => wX11_partOf_J46 Q w x2 l3_7 M_8) w x2 N_13 2520 a 0 M := by
    intro a ha
    refine ⟨42, pc_L ?_ 42 2520 w.natAbs _ _ _ 0 hg (by omega) (by omega) rfl ha rfl (by omega)⟩
    unfold wX11_partOf_J46 wJ9_max_f86c9
    rw [lc_lt, bl1, bl_nat (n := g) (by omega)]
    have fin : ∀ x : Int, x = (g : Int) → BR (bm x2 = 0) ((¬ bl x = 0) ∧ (Q (lDiv w x) M)) ((¬ bl x = 0) ∧ (Q (lDiv 2520 x) M)) := by
      intro x hx
      subst hx
      rw [bl_nat (n := g) (by omega)]
      unfold prt at hQ
      rw [← hgg] at hQ
      refine BR_i (fun h => ⟨by omega, ?_⟩) (fun h => ⟨by omega, ?_⟩)
      · rw [if_pos h] at hQ
        exact hQ
      · rw [if_neg h] at hQ
        exact hQ
    exact BR_i (fun h => fin _ rfl) (fun h => fin _ (by omega))
  unfold wX11_partOf wJ9_abs_067f4
  rw [lc_ge, bl0, bw]
  exact BR_i (fun h => key _ (by omega)) (fun h => key _ (by omega))
theorem mf_partOf {w x2 : Int} {M : Mem} {Q : Int → Mem → Prop} (hw : -4611686018427387904 < w ∧ w < 4611686018427387904) (hQ : Q (prt w x2) M) : wX12_partOf w x2 M Q := by
  obtain ⟨g, hg⟩ := euc_41 w.natAbs
  have hgg : g = Nat.gcd 2520 w.natAbs := euc_gcd hg
  have hb := gcd_b w.natAbs
  have bw : bl w = w := bl_id (by omega) (by omega)
  have key : ∀ a : Int, a = (w.natAbs : Int) → wX12_partOf_J12 Q w x2 a M := by
    intro a ha
    unfold wX12_partOf_J12
    refine ⟨41, pm_L ?_ 41 w.natAbs 2520 _ _ hg (by omega) (by omega) ha rfl⟩
    rw [bl_nat (n := g) (by omega)]
    unfold prt at hQ
    rw [← hgg] at hQ
    refine BR_i (fun h => ⟨by omega, ?_⟩) (fun h => ⟨by omega, ?_⟩)
    · rw [if_pos h] at hQ
      exact hQ
    · rw [if_neg h] at hQ
      exact hQ
  unfold wX12_partOf
  rw [lc_ge, bl0, bw]
  exact BR_i (fun h => key _ (by omega)) (fun h => key _ (by omega))
/-- scratch alone has changed -/
def Scr (M M' : Mem) : Prop := (∀ a, ¬ (87 ≤ a ∧ a ≤ 102) → a ≠ 107 → ¬ (111 ≤ a ∧ a ≤ 113) → a ≠ 116 → a ≠ 125 → ¬ (129 ≤ a ∧ a ≤ 142) → a ≠ 147 → M' a = M a) ∧ M' 125 2 = M 125 2 ∧ M' 125 33 = M 125 33
theorem Scr.rf {M : Mem} : Scr M M := ⟨fun _ _ _ _ _ _ _ _ => rfl, rfl, rfl⟩
theorem Scr.tr {M M' M'' : Mem} (h : Scr M M') (h' : Scr M' M'') : Scr M M'' := ⟨fun a q1 q2 q3 q4 q5 q6 q7 => by rw [h'.1 a q1 q2 q3 q4 q5 q6 q7, h.1 a q1 q2 q3 q4 q5 q6 q7], by rw [h'.2.1, h.2.1], by rw [h'.2.2, h.2.2]⟩
theorem Inv.scr {t : Int} {M M' : Mem} (hI : Inv t M) (h : Scr M M') (hw : WzOk M') : Inv t M' := by
  obtain ⟨h1, h2, h3⟩ := h
  have e : ∀ a, ¬ (87 ≤ a ∧ a ≤ 102) → a ≠ 107 → ¬ (111 ≤ a ∧ a ≤ 113) → a ≠ 116 → a ≠ 125 → ¬ (129 ≤ a ∧ a ≤ 142) → a ≠ 147 → M' a = M a := h1
  refine hI.keep (fun a ha => e a (by omega) (by omega) (by omega) (by omega) (by omega) (by omega) (by omega)) hw (fun j => by rw [e 103 (by omega) (by omega) (by omega) (by omega) (by omega) (by omega) (by omega)]) (e _ (by omega) (by omega) (by omega) (by omega) (by omega) (by omega) (by omega)) (e _ (by omega) (by omega) (by omega) (by omega) (by omega) (by omega) (by omega)) (e _ (by omega) (by omega) (by omega) (by omega) (by omega) (by omega) (by omega)) (e _ (by omega) (by omega) (by omega) (by omega) (by omega) (by omega) (by omega)) (e _ (by omega) (by omega) (by omega) (by omega) (by omega) (by omega) (by omega)) (by rw [e 114 (by omega) (by omega) (by omega) (by omega) (by omega) (by omega) (by omega)]) (e _ (by omega) (by omega) (by omega) (by omega) (by omega) (by omega) (by omega)) (fun a q1 q2 => e a (by omega) (by omega) (by omega) (by omega) (by omega) (by omega) (by omega))
    h2 h3 (e _ (by omega) (by omega) (by omega) (by omega) (by omega) (by omega) (by omega)) (e _ (by omega) (by omega) (by omega) (by omega) (by omega) (by omega) (by omega)) (fun a q1 q2 => e a (by omega) (by omega) (by omega) (by omega) (by omega) (by omega) (by omega)) (fun a q1 => e a (by omega) (by omega) (by omega) (by omega) (by omega) (by omega) (by omega)) ?_
  intro j
  rw [e 86 (by omega) (by omega) (by omega) (by omega) (by omega) (by omega) (by omega), e 128 (by omega) (by omega) (by omega) (by omega) (by omega) (by omega) (by omega)]
  exact hI.2.2.2.2.2.2.1 j
/-- an error of the reference, behind scratch -/
theorem er12 {t : Int} {M M2 : Mem} {k : Nat} {i : Int} (hI : Inv t M) (hi : i = (k : Int)) (h6 : k ≤ 6) (hs : Scr (up M 86 k (M 86 k + 1)) M2) (hw : WzOk M2) {Q2 : Int → Mem → Prop} (hQ : ∀ r2 M2, bm (-1000000 - (k : Int)) = bm r2 → Inv (t + 1) M2 → Q2 r2 M2) : wX12_error 125 i M2 Q2 := by
  obtain ⟨h1, h2, h3⟩ := hs
  have hM : up (fun a j => if a = 86 then M 86 j else M2 a j : Mem) 86 k ((fun a j => if a = 86 then M 86 j else M2 a j : Mem) 86 k + 1) = M2 := by
    funext a j
    by_cases ha : a = 86
    · subst ha
      rw [h1 86 (by omega) (by omega) (by omega) (by omega) (by omega) (by omega) (by omega), up_k, up_k]
      simp
    · rw [up_c ha]
      simp [ha]
  have hI' : Inv t (fun a j => if a = 86 then M 86 j else M2 a j : Mem) := by
    refine hI.scr ⟨fun a q1 q2 q3 q4 q5 q6 q7 => ?_, ?_, ?_⟩ ?_
    · funext j
      by_cases ha : a = 86
      · subst ha
        simp
      · have := congrFun (h1 a q1 q2 q3 q4 q5 q6 q7) j
        rw [up_c ha] at this
        simp [ha, this]
    · simp [h2, up_c]
    · simp [h3, up_c]
    · exact hw.congr fun a q1 q2 => by
        funext j
        simp [show a ≠ 86 by omega]
  rw [← hM]
  exact st_err hI' hi h6 hQ
/-- whether a sheet tells a row -/
def okRow (cnt : Int) (f : Nat → Int) (s b : Int) : Prop := (1 ≤ s ∧ s ≤ 12) ∧ (0 ≤ b ∧ b < s) ∧ ∀ i : Nat, (i : Int) < s → (0 ≤ f i ∧ f i < cnt) ∧ ∀ j, j < i → f j ≠ f i
theorem okRow_i {f : Nat → Int} {r : Nat → Nat} {i : Nat} (hr : r = fun i => (f i).toNat) (h : ∀ j : Nat, j < i → 0 ≤ f j) (hf : 0 ≤ f i) : (stb (rl r i)).testBit (f i).toNat = true ↔ ∃ j, j < i ∧ f j = f i := by
  subst hr
  rw [stb_rl]
  constructor
  · rintro ⟨k, h1, h2⟩
    have h2' : (f k).toNat = (f i).toNat := h2
    have := h k h1
    exact ⟨k, h1, by omega⟩
  · rintro ⟨k, h1, h2⟩
    exact ⟨k, h1, by show (f k).toNat = (f i).toNat; rw [h2]⟩
theorem tk_L {a0 a1 : Nat} {f : Nat → Int} {s b cnt : Int} {M0 : Mem} {Q : Int → Mem → Prop} {E : Mem → Prop} (hd : a1 ≠ a0 + 1) (hd2 : a1 + 1 ≠ a0 + 1) (hs : M0 a1 2 = s) (hs12 : 1 ≤ s ∧ s ≤ 12) (hb : 0 ≤ b ∧ b < s) (hc : 0 ≤ cnt ∧ cnt ≤ 12) (hf : ∀ i, i < 24 → M0 (a1 + 1) i = f i) (hbm : ∀ i, i < 24 → bm (f i) = f i)
    (h0 : ¬ okRow cnt f s b → ∀ M', (∀ a, a ≠ a0 + 1 → M' a = M0 a) → Q 0 M') (h1 : okRow cnt f s b → ∀ M', (∀ a, a ≠ a0 + 1 → M' a = M0 a) → (∀ i : Nat, (i : Int) < s → M' (a0 + 1) i = f i) → E M') : ∀ (m i : Nat) (M : Mem) (x4 x5 : Int), (i : Int) + m = s → x5 = (i : Int) → x4 = (stb (rl (fun i => (f i).toNat) i) : Int) → (∀ a, a ≠ a0 + 1 → M a = M0 a) → (∀ j : Nat, j < i → M (a0 + 1) j = f j) → (∀ j : Nat, j < i → (0 ≤ f j ∧ f j < cnt) ∧ ∀ k, k < j → f k ≠ f j) → wX5_takesSheet_L35 Q E a0 a1 b cnt (m + 1) x4 x5 M
  | 0, i, M, x4, x5, hi, h5, h4, f1, f2, f3 => by
    subst h5 h4
    unfold wX5_takesSheet_L35
    rw [f1 a1 hd, hs, bm_id (z := s) (by omega) (by omega), bm_nat (n := i) (by omega)]
    exact BR_t (by omega) (h1 ⟨hs12, hb, fun j hj => f3 j (by omega)⟩ M f1 fun j hj => f2 j (by omega))
  | m + 1, i, M, x4, x5, hi, h5, h4, f1, f2, f3 => by
    subst h5 h4
    unfold wX5_takesSheet_L35
    rw [f1 a1 hd, hs, bm_id (z := s) (by omega) (by omega), bm_nat (n := i) (by omega), rd_at (n := i) rfl (by omega), f1 (a1 + 1) hd2, hf i (by omega)]
    refine BR_f (by omega) ⟨inb_of rfl (by omega) (by decide), LET_i (wi_i (fun hw => BR_f q1 ?_) (fun hw => BR_t q0 (h0 (fun ok => hw ?_) M f1)))⟩
    · rw [bm0, hbm i (by omega), bm_id (z := cnt - 1) (by omega) (by omega)] at hw
      have hst : stb (rl (fun i => (f i).toNat) i) < 2 ^ 12 := stb_lt _ (by
        intro q hq
        have hps : RowPs (fun j => if j = 0 then cnt else 0) (fun i => (f i).toNat) i := fun k hk => by
          have := (f3 k hk).1
          show ((f k).toNat : Int) < cnt
          omega
        have := hps.pcs q hq
        have h' : (q : Int) < cnt := this
        omega)
      obtain ⟨c, hcf⟩ : ∃ c : Nat, f i = (c : Int) := ⟨(f i).toNat, by omega⟩
      have hbit := okRow_i (f := f) (r := fun i => (f i).toNat) (i := i) rfl (fun j hj => (f3 j hj).1.1) hw.1
      rw [hcf, Int.toNat_natCast] at hbit
      rw [hcf, lf_isIn (k := stb (rl (fun i => (f i).toNat) i)) (j := c) rfl rfl hst (by omega)]
      cases ht : (stb (rl (fun i => (f i).toNat) i)).testBit c
      · rw [if_neg (by decide)]
        have hn : ¬ ∃ j, j < i ∧ f j = f i := by
          intro h
          rw [hcf] at h
          rw [hbit.mpr h] at ht
          cases ht
        refine BR_t q0 (LET_i ⟨inb_of rfl (by omega) (by decide), LET_i (LET_i ?_)⟩)
        rw [wr_up (n := i) rfl (by omega)]
        refine tk_L hd hd2 hs hs12 hb hc hf hbm h0 h1 m (i + 1) _ _ _ (by omega) (by omega) ?_ (fun a ha => by rw [up_c ha]; exact f1 a ha) (fun j hj => ?_) (fun j hj => ?_)
        · show _ = ((stb ((f i).toNat :: rl (fun i => (f i).toNat) i) : Nat) : Int)
          rw [stb_cons, hcf, Int.toNat_natCast, shl_one c (by omega)]
          exact iOr_n (by omega) (Nat.lt_of_le_of_lt (p2le (m := 12) (by omega)) (by decide))
        · by_cases hji : j = i
          · subst hji
            rw [up_s, hcf]
          · rw [up_kn hji]
            exact f2 j (by omega)
        · by_cases hji : j = i
          · subst hji
            exact ⟨by omega, fun k hk he => hn ⟨k, hk, he⟩⟩
          · exact f3 j (by omega)
      · rw [if_pos rfl]
        refine BR_f q1 (h0 (fun ok => ?_) M f1)
        obtain ⟨j, h2, h3⟩ := hbit.mp ht
        exact (ok.2.2 i (by omega)).2 j h2 (by rw [h3, hcf])
    · have := (ok.2.2 i (by omega)).1
      rw [bm0, hbm i (by omega), bm_id (z := cnt - 1) (by omega) (by omega)]
      omega
theorem lf_takes {a0 a1 : Nat} {f : Nat → Int} {s b cnt : Int} {M : Mem} {Q : Int → Mem → Prop} (hd : a1 ≠ a0 + 1) (hd2 : a1 + 1 ≠ a0 + 1) (hd3 : a1 ≠ a0) (hs : M a1 2 = s) (hs24 : 0 ≤ s ∧ s ≤ 24) (eb : bm b = b) (hc : 0 ≤ cnt ∧ cnt ≤ 12) (hf : ∀ i, i < 24 → M (a1 + 1) i = f i) (hbm : ∀ i, i < 24 → bm (f i) = f i)
    (h0 : ¬ okRow cnt f s b → ∀ M', (∀ a, a ≠ a0 + 1 → M' a = M a) → Q 0 M') (h1 : okRow cnt f s b → ∀ M', (∀ a, a ≠ a0 → a ≠ a0 + 1 → M' a = M a) → M' a0 1 = s → M' a0 2 = b → (∀ i : Nat, (i : Int) < s → M' (a0 + 1) i = f i) → Q 1 M') : wX5_takesSheet a0 a1 b cnt M Q := by
  unfold wX5_takesSheet
  rw [hs]
  refine wi_i (fun hw => BR_f q1 (wi_i (fun hw2 => BR_f q1 ?_) (fun hw2 => BR_t q0 (h0 (fun ok => hw2 ?_) M fun _ _ => rfl)))) (fun hw => BR_t q0 (h0 (fun ok => hw ?_) M fun _ _ => rfl))
  · rw [bm1, li_12, bm_id (z := s) (by omega) (by omega)] at hw
    rw [bm0, eb, hs, bm_id (z := s - 1) (by omega) (by omega)] at hw2
    refine ⟨s.toNat + 1, tk_L hd hd2 hs (by omega) (by omega) hc hf hbm h0 (fun ok M' f1 f2 => LET_i (LET_i (h1 ok _ (fun a q1 q2 => ?_) ?_ ?_ (fun i hi => ?_)))) s.toNat 0 M _ _ (by omega) rfl rfl (fun _ _ => rfl) (fun j hj => by omega) (fun j hj => by omega)⟩
    · rw [up_c q1, up_c q1, f1 a q2]
    · rw [up_kn (by decide), up_s, f1 a1 hd, hs]
    · rw [up_s]
    · rw [up_c (by omega), up_c (by omega)]
      exact f2 i hi
  · have := ok.2.1
    have := ok.1
    rw [bm0, eb, hs, bm_id (z := s - 1) (by omega) (by omega)]
    omega
  · have := ok.1
    rw [bm1, li_12, bm_id (z := s) (by omega) (by omega)]
    omega
/-- what a sheet's row is -/
def ShRow (M : Mem) (k v n : Nat) (r : Nat → Nat) : Prop := M 145 k = (n : Int) ∧ n ≤ 12 ∧ v < n ∧ (∀ i, i < n → M 146 (24 * k + i) = (r i : Int)) ∧ RowPs (vw (M 126)) r n ∧ Inj r n
theorem okRow.sh {M : Mem} {k : Nat} {b : Int} (h : okRow (M 126 0) (fun i => M 146 (24 * k + i)) (M 145 k) b) : ∃ (v n : Nat) (r : Nat → Nat), b = (v : Int) ∧ ShRow M k v n r := by
  obtain ⟨h1, h2, h3⟩ := h
  refine ⟨b.toNat, (M 145 k).toNat, fun i => (M 146 (24 * k + i)).toNat, by omega, by omega, by omega, by omega, fun i hi => ?_, fun i hi => ?_, fun i j hi hj he => ?_⟩
  · have := (h3 i (by omega)).1
    show M 146 (24 * k + i) = ((M 146 (24 * k + i)).toNat : Int)
    have h' : 0 ≤ M 146 (24 * k + i) := this.1
    omega
  · have := (h3 i (by omega)).1
    have h' : 0 ≤ M 146 (24 * k + i) ∧ M 146 (24 * k + i) < M 126 0 := this
    show ((M 146 (24 * k + i)).toNat : Int) < vw (M 126) 0
    rw [vw_at (by omega)]
    omega
  · have hi' := (h3 i (by omega)).1
    have hj' := (h3 j (by omega)).1
    have e1 : 0 ≤ M 146 (24 * k + i) := hi'.1
    have e2 : 0 ≤ M 146 (24 * k + j) := hj'.1
    have he' : (M 146 (24 * k + i)).toNat = (M 146 (24 * k + j)).toNat := he
    rcases Nat.lt_trichotomy i j with h | h | h
    · have := (h3 j (by omega)).2 i h
      exact absurd (show M 146 (24 * k + i) = M 146 (24 * k + j) by omega) this
    · exact h
    · have := (h3 i (by omega)).2 j h
      exact absurd (show M 146 (24 * k + j) = M 146 (24 * k + i) by omega) this
theorem ShRow.ok {t : Int} {M : Mem} {k v n : Nat} {r : Nat → Nat} (hI : Inv t M) (h : ShRow M k v n r) : okRow (M 126 0) (fun i => M 146 (24 * k + i)) (M 145 k) (v : Int) := by
  obtain ⟨h1, h2, h3, h4, h5, h6⟩ := h
  refine ⟨by omega, by omega, fun i hi => ⟨?_, fun j hj he => ?_⟩⟩
  · have := h5 i (by omega)
    rw [vw_at (by omega)] at this
    show 0 ≤ M 146 (24 * k + i) ∧ M 146 (24 * k + i) < M 126 0
    rw [h4 i (by omega)]
    omega
  · have he' : M 146 (24 * k + j) = M 146 (24 * k + i) := he
    rw [h4 i (by omega), h4 j (by omega)] at he'
    have := h6 j i (by omega) (by omega) (by omega)
    omega
/-- the class takes a row -/
theorem lf_rowFault {t : Int} {M : Mem} {a b o : Int} {Q : Int → Mem → Prop} (hI : Inv t M) (ea : bm a = a) (eb : bm b = b)
    (hB : (¬ (0 ≤ a ∧ a ≤ 3) ∨ bm o = 0) → Q 1 M) (hN : ∀ k : Nat, k < 4 → a = (k : Int) → bm o ≠ 0 → M 144 k = 0 → Q 2 M)
    (hK : ∀ k : Nat, k < 4 → a = (k : Int) → bm o ≠ 0 → M 144 k ≠ 0 → ¬ okRow (M 126 0) (fun i => M 146 (24 * k + i)) (M 145 k) b → ∀ M', (∀ c, c ≠ 88 → M' c = M c) → Q 5 M')
    (h0 : ∀ (k v n : Nat) (r : Nat → Nat), k < 4 → a = (k : Int) → bm o ≠ 0 → M 144 k ≠ 0 → b = (v : Int) → ShRow M k v n r → ∀ M', (∀ c, c ≠ 87 → c ≠ 88 → M' c = M c) → M' 87 1 = (n : Int) → M' 87 2 = (v : Int) → (∀ i, i < n → M' 88 i = (r i : Int)) → Q 0 M') : wX11_rowFault 1 a b o M Q := by
  unfold wX11_rowFault wX11_isNoSheet
  have hS := hI.2.2.2.2.1
  refine wi_i (fun hw => BR_f q1 (BR_t q0 (BR_i (fun ho => hB (Or.inr ho)) (fun ho => ?_)))) (fun hw => BR_t q0 (BR_f q1 (hB (Or.inl ?_))))
  · rw [bm0, li_3, ea] at hw
    obtain ⟨k, rfl⟩ : ∃ k : Nat, a = (k : Int) := ⟨a.toNat, by omega⟩
    obtain ⟨s1, s2, s3, s4, s5, s6⟩ := hS k (by omega)
    have e0 := hI.2.1.1.1
    have c0 := hI.1.1.1
    rw [bnn (n := k) (by omega), show 1 + 116 + 2 * k = 117 + 2 * k by omega, s1]
    refine ⟨inb_of rfl (by omega) (by decide), BR_i (fun hb => hN k (by omega) rfl ho ?_) (fun hb => ⟨inb_of rfl (by omega) (by decide), ?_⟩)⟩
    · rcases s3 with h | h | h | h
      · exact h
      · rw [h, li_8] at hb
        omega
      · rw [h, show bm 16 = 16 by decide +kernel] at hb
        omega
      · rw [h, show bm 32 = 32 by decide +kernel] at hb
        omega
    · have hb' : M 144 k ≠ 0 := fun h => hb (by rw [h]; exact bm0)
      refine lf_takes (f := fun i => M 146 (24 * k + i)) (by omega) (by omega) (by omega) s2 ⟨s4, s5⟩ eb (by rw [e0]; exact c0) (fun i hi => ?_) (fun i hi => (s6 i hi).2) (fun hn M' f1 => BR_t q0 (hK k (by omega) rfl ho hb' ?_ M' f1)) (fun ok M' f1 f2 f3 f4 => BR_f q1 ?_)
      · rw [show 117 + 2 * k + 1 = 118 + 2 * k by omega]
        exact (s6 i hi).1
      · rw [show M (1 + 1) 1 = M 126 0 from e0] at hn
        exact hn
      · rw [show M (1 + 1) 1 = M 126 0 from e0] at ok
        obtain ⟨v, n, r, hv, hsh⟩ := ok.sh
        refine h0 k v n r (by omega) rfl ho hb' hv hsh M' f1 (by rw [f2]; exact hsh.1) (by rw [f3, hv]) fun i hi => ?_
        have := f4 i (by rw [hsh.1]; omega)
        rw [this]
        exact hsh.2.2.2.1 i hi
  · rw [bm0, li_3, ea] at hw
    exact hw
