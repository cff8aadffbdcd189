/-! PAST on both sides -/
theorem bits0 {x : Int} (h : x = 0 ∨ x = 8 ∨ x = 16 ∨ x = 32) : bm x = 0 ↔ x = 0 := by
  rcases h with h | h | h | h
  · rw [h, bm0]
  · rw [h, li_8]
  · rw [h, show bm 16 = 16 by decide +kernel]
  · rw [h, show bm 32 = 32 by decide +kernel]
theorem kr_L {c n : Nat} {x1 : Int} {M0 : Mem} {Q : Mem → Prop} (hx : x1 = (c : Int)) (hc : c + 13 ≤ 1522) (hn : n ≤ 12) (h13 : M0 125 13 = (n : Int)) (hQ : ∀ M', (∀ a, a ≠ 126 → M' a = M0 a) → (∀ j, (j ≤ c ∨ c + n < j) → M' 126 j = M0 126 j) → (∀ i, i < n → M' 126 (c + 1 + i) = M0 132 i) → Q M') : ∀ (m i : Nat) (M : Mem) (x2 : Int), i + m = n → x2 = (i : Int) → (∀ a, a ≠ 126 → M a = M0 a) → (∀ j, (j ≤ c ∨ c + i < j) → M 126 j = M0 126 j) → (∀ k, k < i → M 126 (c + 1 + k) = M0 132 k) → wX12_keepRow_L12 Q 125 x1 (m + 1) x2 M
  | 0, i, M, x2, hi, h2, f1, f2, f3 => by
    subst hx h2
    obtain rfl : i = n := by omega
    unfold wX12_keepRow_L12
    rw [f1 125 (by decide), h13]
    exact BR_t (Int.le_refl _) (hQ M f1 f2 f3)
  | m + 1, i, M, x2, hi, h2, f1, f2, f3 => by
    subst hx h2
    unfold wX12_keepRow_L12
    rw [f1 125 (by decide), h13, bm_nat (n := n) (by omega), bm_nat (n := i) (by omega), rd_at (n := i) rfl (by omega), show (125 : Nat) + 7 = 132 from rfl, f1 132 (by decide), wr_up (i := (c : Int) + 1 + (i : Int)) (n := c + 1 + i) (by omega) (by omega), show (125 : Nat) + 1 = 126 from rfl]
    refine BR_f (by omega) ⟨inb_of rfl (by omega) (by decide), inb_of (n := c + 1 + i) (by omega) (by omega) (by decide), LET_i (LET_i (kr_L rfl hc hn h13 hQ m (i + 1) _ _ (by omega) (by omega) (fun a ha => by rw [up_c ha]; exact f1 a ha) (fun j hj => by rw [up_kn (by omega)]; exact f2 j (by omega)) fun k hk => ?_))⟩
    by_cases hki : k = i
    · subst hki
      rw [up_s]
    · rw [up_kn (by omega)]
      exact f3 k (by omega)
theorem mf_keep {c n : Nat} {x1 : Int} {M : Mem} {Q : Mem → Prop} (hx : x1 = (c : Int)) (hc : c + 13 ≤ 1522) (hn : n ≤ 12) (h13 : M 125 13 = (n : Int)) (hQ : ∀ M', (∀ a, a ≠ 126 → M' a = M a) → (∀ j, (j < c ∨ c + n < j) → M' 126 j = M 126 j) → M' 126 c = (n : Int) → (∀ i, i < n → M' 126 (c + 1 + i) = M 132 i) → Q M') : wX12_keepRow 125 x1 M Q := by
  subst hx
  unfold wX12_keepRow
  rw [wr_up (n := c) rfl (by omega), show (125 : Nat) + 1 = 126 from rfl, h13]
  refine ⟨inb_of rfl (by omega) (by decide), LET_i ⟨n + 1, kr_L rfl hc hn (by rw [up_c (by decide)]; exact h13) (fun M' f1 f2 f3 => hQ M' (fun a ha => by rw [f1 a ha, up_c ha]) (fun j hj => by rw [f2 j (by omega), up_kn (by omega)]) (by rw [f2 c (by omega), up_s]) fun i hi => by rw [f3 i hi, up_c (by decide)]) n 0 _ _ (by omega) rfl (fun _ _ => rfl) (fun _ _ => rfl) (fun k hk => by omega)⟩⟩
theorem mf_tk {t : Int} {M M1 : Mem} {k : Nat} {b : Int} {Q : Int → Mem → Prop} (hI : Inv t M) (hk : k < 4) (eb : bm b = b) (h126 : M1 126 0 = M 126 0) (hmb : MB (vw (M 126)) M1) (h144 : M1 144 = M 144) (h145 : M1 145 = M 145) (h146 : M1 146 = M 146) (hs : ∀ a, 117 ≤ a → a ≤ 124 → M1 a = M a) (hb : M 144 k ≠ 0) (hK : ¬ okRow (M 126 0) (fun i => M 146 (24 * k + i)) (M 145 k) b → ∀ M', FrT M1 M' → Q 5 M') (h0 : ∀ (v n : Nat) (r : Nat → Nat), b = (v : Int) → ShRow M k v n r → ∀ M', FrT M1 M' → RB v n r M' → LaidAt (vw (M 126)) v r n M' → Q 0 M') : wX12_take 125 (k : Int) b M1 Q := by
  refine mf_take (z := vw (M 126)) hI.zok hmb (hI.2.2.2.2.1.congr hs h144 h145 h146) hk eb (fun h => absurd (by rw [h144] at h; exact h) hb) (fun _ hn => hK (by rw [h126, h145, h146] at hn; exact hn)) (fun v' n' _ hv hn' ok M' fr hr => ?_)
  rw [h126, h145, h146] at ok
  obtain ⟨v, n, r, e, sh⟩ := ok.sh
  have e1 : n' = n := by
    rw [h145, sh.1] at hn'
    omega
  have e2 : v' = v := by omega
  subst e1 e2
  obtain ⟨r1, r2⟩ := hr r (fun i hi => by rw [h146]; exact sh.2.2.2.1 i hi)
  exact h0 v' n' r e sh M' fr r1 r2
/-- the reference's two takes -/
def ptl2 (a : Int) (c : Int) (Q : Int → Mem → Prop) (r_18 : Int) (M_17 : Mem) : Prop := BR (bm r_18 ≤ 0) (BR (bm (rd M_17 (125 + 1) 3) = 8) (wX12_error 125 4 M_17 (fun r_33 M_32 => Q r_33 M_32)) (LET (1240 + (27 * (rd M_17 (125 + 1) 3))) (fun x4_21 => inb x4_21 1522 ∧ LET (wr M_17 (125 + 1) x4_21 c) (fun M_24 => wX12_keepRow 125 (x4_21 + 14) M_24 (fun M_25 => wX12_take 125 a c M_25 (fun _ M_26 => wX12_keepRow 125 (x4_21 + 1) M_26 (fun M_28 => LET (wr M_28 (125 + 1) 3 ((rd M_28 (125 + 1) 3) + 1)) (fun M_30 => Q (rd M_30 (125 + 1) 3) M_30)))))))) (wX12_past_J62 Q 125 M_17)
theorem pm_pre {ka kb : Nat} {c : Int} {M : Mem} {Q : Int → Mem → Prop} (hka : ka < 4) (hkb : kb < 4) (b1 : M 144 ka = 0 ∨ M 144 ka = 8 ∨ M 144 ka = 16 ∨ M 144 ka = 32) (b2 : M 144 kb = 0 ∨ M 144 kb = 8 ∨ M 144 kb = 16 ∨ M 144 kb = 32) (h0 : M 144 ka = 0 ∨ M 144 kb = 0 → wX12_error 125 2 M Q) (h1 : M 144 ka ≠ 0 → M 144 kb ≠ 0 → wX12_take 125 (ka : Int) c M (fun r_14 M_13 => BR (0 < bm r_14) (wX12_past_J62 Q 125 M_13) (wX12_take 125 (kb : Int) c M_13 (ptl2 (ka : Int) c Q)))) : wX12_past 125 (ka : Int) (kb : Int) c M Q := by
  unfold wX12_past
  refine sh_i (bm_nat (by omega)) (fun _ => BR_f q1 (sh_i (bm_nat (by omega)) (fun _ => BR_f q1 ?_) (fun h => absurd (by omega) h))) (fun h => absurd (by omega) h)
  rw [rd_at (k := 125 + 19) (n := ka) rfl (by omega), rd_at (k := 125 + 19) (n := kb) rfl (by omega), show (125 : Nat) + 19 = 144 from rfl]
  refine ⟨inb_of rfl hka (by decide), BR_i (fun h => h0 (Or.inl ((bits0 b1).mp h))) (fun h => ⟨inb_of rfl hkb (by decide), BR_i (fun h' => h0 (Or.inr ((bits0 b2).mp h'))) (fun h' => ?_)⟩)⟩
  exact h1 (fun e => h ((bits0 b1).mpr e)) (fun e => h' ((bits0 b2).mpr e))
