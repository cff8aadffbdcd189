/-! text -/
theorem plp_le {g : PS → Bool × PS} {c : Int → Bool} {b : Nat → Int} {n : Nat} (hc : ∀ x, c x = true → 0 ≤ x) (hg : ∀ s, s.1 ≤ n → (g s).2.1 ≤ n) : ∀ N s, s.1 ≤ n → (plp g c b n N s).2.1 ≤ n
  | 0, s, h => h
  | N + 1, s, h => by
    unfold plp
    split
    · rename_i hcc
      have hlt := lk_lt rfl (hc _ hcc)
      have h1 := hg (s.1 + 1, s.2.1, s.2.2.1 + 1, s.2.2.2) (by dsimp only; omega)
      split
      · rename_i s' e
        rw [e] at h1
        exact h1
      · rename_i s' e
        rw [e] at h1
        exact plp_le hc hg N _ h1
    · exact h
theorem prs_le {b : Nat → Int} {n : Nat} {kd : Int} : ∀ f k s, s.1 ≤ n → (prs b n kd f k s).2.1 ≤ n
  | 0, k, s, h => h
  | f + 1, k, s, h => by
    have ih := prs_le (b := b) (n := n) (kd := kd) f
    unfold prs
    split
    · have h1 := ih 1 s h
      split
      · rename_i s1 e
        rw [e] at h1
        exact h1
      · rename_i s1 e
        rw [e] at h1
        split
        · exact h1
        · rename_i hq
          have hlt := lk_lt (Decidable.not_not.mp hq) (by decide)
          split
          · exact h1
          · have h2 := ih 0 (s1.1 + 1, s1.2.1 + 1, s1.2.2.1 + 1, s1.2.2.2) (by dsimp only; omega)
            split
            · rename_i s2 e2
              rw [e2] at h2
              exact h2
            · rename_i s2 e2
              rw [e2] at h2
              split
              · exact h2
              · rename_i hq2
                have hlt2 := lk_lt (Decidable.not_not.mp hq2) (by decide)
                have h3 := ih 0 (s2.1 + 1, s2.2.1, s2.2.2.1, s2.2.2.2) (by dsimp only; omega)
                split
                · rename_i s3 e3
                  rw [e3] at h3
                  exact h3
                · rename_i s3 e3
                  rw [e3] at h3
                  exact h3
    · split
      · have h1 := ih 2 s h
        split
        · rename_i s1 e
          rw [e] at h1
          exact h1
        · rename_i s1 e
          rw [e] at h1
          exact plp_le (fun x hx => (cS_ok x hx).1) (ih 2) _ _ h1
      · split
        · have h1 := ih 3 s h
          split
          · rename_i s1 e
            rw [e] at h1
            exact h1
          · rename_i s1 e
            rw [e] at h1
            exact plp_le (fun x hx => (cP_ok x hx).1) (ih 3) _ _ h1
        · split
          · rename_i hnm
            have hlt := lk_lt rfl (nmI_nn hnm)
            dsimp only
            omega
          · split
            · rename_i hdg
              have hlt := lk_lt (b := b) (n := n) (p := s.1) rfl (by omega)
              split
              · rename_i hdg2
                have hlt2 := lk_lt (b := b) (n := n) (p := s.1 + 1) rfl (by omega)
                dsimp only
                omega
              · dsimp only
                omega
            · split
              · rename_i h45
                have hlt := lk_lt h45 (by decide)
                split
                · exact h
                · have h2 := ih 3 (s.1 + 1, s.2.1 + 1, s.2.2.1 + 1, s.2.2.2) (by dsimp only; omega)
                  split
                  · rename_i s1 e
                    rw [e] at h2
                    exact h2
                  · rename_i s1 e
                    rw [e] at h2
                    exact h2
              · split
                · rename_i h40
                  have hlt := lk_lt h40 (by decide)
                  split
                  · exact h
                  · have h2 := ih 0 (s.1 + 1, s.2.1 + 1, s.2.2.1, s.2.2.2) (by dsimp only; omega)
                    split
                    · rename_i s1 e
                      rw [e] at h2
                      exact h2
                    · rename_i s1 e
                      rw [e] at h2
                      split
                      · exact h2
                      · rename_i hq2
                        have hlt2 := lk_lt (Decidable.not_not.mp hq2) (by decide)
                        dsimp only
                        omega
                · exact h
theorem cs_sd {kd : Int} {M1 M2 : Mem} : ∀ {L : List (Int × Int)}, Cds kd M1 L → Sds M2 L → ∀ i, i < L.length → M1 112 i = cdOf kd (M2 129 (2 * i)) (M2 129 (2 * i + 1)) ∧ (M2 129 (2 * i), M2 129 (2 * i + 1)) ∈ L
  | [], _, _, i, hi => absurd hi (Nat.not_lt_zero i)
  | x :: L, hc, hs, i, hi => by
    simp only [List.length_cons] at hi
    by_cases h : i = L.length
    · subst h
      rw [hs.2.1, hs.2.2]
      exact ⟨hc.2, List.mem_cons_self⟩
    · obtain ⟨a, b⟩ := cs_sd hc.1 hs.1 i (by omega)
      exact ⟨a, List.mem_cons_of_mem _ b⟩
theorem dp_sd {M : Mem} {f : Nat → Int} : ∀ {L : List (Int × Int)}, Sds M L → (∀ i, i < L.length → f i = M 129 (2 * i)) → dp f L.length = dpl L
  | [], _, _ => rfl
  | x :: L, hs, h => by
    simp only [List.length_cons, dp, dpl]
    rw [dp_sd hs.1 (fun i hi => h i (by simp only [List.length_cons]; omega)), h L.length (by simp), hs.2.1]
theorem cpy_c {M : Mem} {s d a : Nat} {sp dp n : Int} (h : a ≠ d) : cpy M s d sp dp n a = M a := by
  funext j
  unfold cpy
  rw [if_neg h]
theorem cpy_at {M : Mem} {s d k : Nat} {n : Int} (hn : n = (k : Int)) (hk : k < 1000) (j : Nat) : cpy M s d 0 0 n d j = if j < k then M s j else M d j := by
  subst hn
  unfold cpy va_cpy
  rw [if_pos rfl, bm_nat (by omega), bm0]
  simp
theorem lf_names {B k : Nat} {M : Mem} {Q : Int → Mem → Prop} (hk : M B 0 = (k : Int)) (h6 : k ≤ 6) (h : Q (if k = 0 ∨ k = 6 then 5 else nmZ (k : Int)) M) : wX1_names B M Q := by
  unfold wX1_names
  rw [hk]
  rcases (show k = 0 ∨ k = 1 ∨ k = 2 ∨ k = 3 ∨ k = 4 ∨ k = 5 ∨ k = 6 by omega) with rfl | rfl | rfl | rfl | rfl | rfl | rfl
  · exact BR_f (by decide +kernel) (BR_f (by decide +kernel) (BR_f (by decide +kernel) (BR_f (by decide +kernel) (BR_f (by decide +kernel) h))))
  · exact BR_t (by decide +kernel) h
  · exact BR_f (by decide +kernel) (BR_t (by decide +kernel) h)
  · exact BR_f (by decide +kernel) (BR_f (by decide +kernel) (BR_t (by decide +kernel) h))
  · exact BR_f (by decide +kernel) (BR_f (by decide +kernel) (BR_f (by decide +kernel) (BR_t (by decide +kernel) h)))
  · exact BR_f (by decide +kernel) (BR_f (by decide +kernel) (BR_f (by decide +kernel) (BR_f (by decide +kernel) (BR_t (by decide +kernel) h))))
  · exact BR_f (by decide +kernel) (BR_f (by decide +kernel) (BR_f (by decide +kernel) (BR_f (by decide +kernel) (BR_f (by decide +kernel) h))))
/-- the class's reading of the tape -/
theorem lf_tape {M : Mem} {n : Nat} {kd x z : Int} {b : Nat → Int} {Q : Int → Mem → Prop} (hk : kd = 1 ∨ kd = 2 ∨ kd = 3 ∨ kd = 4 ∨ kd = 5) (hx : x = (n : Int)) (hn : n ≤ 50) (hz : z = nmZ kd) (hb : ∀ i, i < 50 → -128 ≤ M 7 i ∧ M 7 i < 128) (hb2 : ∀ i, i < n → b i = M 7 i % 256)
    (k1 : ∀ s' M', prs b n kd 40 0 (0, 0, 0, []) = (true, s') → (∀ a, (a < 111 ∨ 113 < a) → M' a = M a) → M' 111 1 = (s'.2.2.2.length : Int) → Cds kd M' s'.2.2.2 → s'.1 = n → Q (s'.2.2.1 : Int) M')
    (k2 : ∀ s' M', prs b n kd 40 0 (0, 0, 0, []) = (true, s') → (∀ a, (a < 111 ∨ 113 < a) → M' a = M a) → s'.1 ≠ n → Q (-10 - (s'.1 : Int)) M')
    (k0 : ∀ s' M', prs b n kd 40 0 (0, 0, 0, []) = (false, s') → (∀ a, (a < 111 ∨ 113 < a) → M' a = M a) → Q (-10 - (s'.1 : Int)) M') : wX4_readTape 111 7 x z M Q := by
  subst hx
  simp only [wX4_readTape, Nat.reduceAdd]
  have l50 : bm 50 = 50 := by decide +kernel
  rw [lf_min, if_neg (by rw [l50]; decide), lf_min, if_neg (by rw [l50, bm_nat (by omega)]; omega), lf_max]
  have go : LET (up M 111 3 (n : Int)) (fun M_7 => (0 ≤ bm 0 ∧ 0 ≤ bm 0 ∧ 0 ≤ bm (M_7 111 3) ∧ bm 0 + bm (M_7 111 3) ≤ ((50 : Nat) : Int) ∧ bm 0 + bm (M_7 111 3) ≤ ((50 : Nat) : Int)) ∧ (∀ j : Nat, bm 0 ≤ (j : Int) → (j : Int) < bm 0 + bm (M_7 111 3) → -128 ≤ M_7 7 j ∧ M_7 7 j < 128) ∧ LET (cpy M_7 7 113 0 0 (M_7 111 3)) (fun M_11 => LET (up M_11 111 4 z) (fun M_12 => LET (up M_12 111 1 0) (fun M_13 => LET (up M_13 111 5 0) (fun M_14 => LET (up M_14 111 6 0) (fun M_15 => LET (up M_15 111 7 0) (fun M_16 => wX4_readChoice 111 M_16 (fun r_18 M_17 => BR (bm r_18 = 0) (Q (((-10)) - (M_17 111 5)) M_17) (BR (bm (M_17 111 5) = bm (M_17 111 3)) (Q (M_17 111 7) M_17) (Q (((-10)) - (M_17 111 5)) M_17)))))))))) := by
    refine LET_i ?_
    rw [up_s, bm_nat (n := n) (by omega), bm0]
    refine ⟨by omega, fun j _ hj => by rw [up_c (by decide)]; exact hb j (by omega), LET_i (LET_i (LET_i (LET_i (LET_i (LET_i ?_)))))⟩
    generalize hMq : up (up (up (up (up (cpy (up M 111 3 (n : Int)) 7 113 0 0 (n : Int)) 111 4 z) 111 1 0) 111 5 0) 111 6 0) 111 7 0 = Mq
    have hc : ∀ a, (a < 111 ∨ 113 < a) → Mq a = M a := by
      intro a ha
      subst hMq
      rw [up_c (by omega), up_c (by omega), up_c (by omega), up_c (by omega), up_c (by omega), cpy_c (by omega), up_c (by omega)]
    have h113 : ∀ j, j < n → Mq 113 j = M 7 j := by
      intro j hj
      subst hMq
      rw [up_c (by decide), up_c (by decide), up_c (by decide), up_c (by decide), up_c (by decide), cpy_at rfl (by omega), if_pos hj, up_c (by decide)]
    have hR : RC (Mq 113) n kd Mq (0, 0, 0, []) := by
      subst hMq
      refine ⟨?_, trivial, ?_, ?_, ?_, ?_, ?_, rfl⟩
      · simp (disch := omega) only [up_s, up_kn]
        rfl
      · simp (disch := omega) only [up_s, up_kn]
        rw [cpy_c (by decide), up_s]
      · simp (disch := omega) only [up_s, up_kn]
        exact hz
      · simp (disch := omega) only [up_s, up_kn]
        rfl
      · simp (disch := omega) only [up_s, up_kn]
        rfl
      · simp (disch := omega) only [up_s, up_kn]
        rfl
    have hB : Byt (Mq 113) b n := ⟨hn, fun i hi => by rw [h113 i hi]; exact ⟨hb i (by omega), hb2 i hi⟩⟩
    clear hMq
    unfold wX4_readChoice
    have hfr : ∀ M', Fr tx Mq M' → ∀ a, (a < 111 ∨ 113 < a) → M' a = M a := fun M' hF a ha => by rw [hF a (by unfold tx; omega)]; exact hc a ha
    refine sc_all hB hk 40 40 0 0 (by decide) (by decide) (by decide) (by decide) (0, 0, 0, []) Mq _ hR (Nat.zero_le _) rfl (Nat.le_refl _) (fun s' M' e hF hR' => BR_f q1 ?_) (fun s' M' e hF h5 => BR_t q0 ?_)
    · have hle := (prs_ok _ _ _ _ e (Nat.zero_le _)).1.2.1
      obtain ⟨r1, r2, r3, r4, r5, r6, r7, r8⟩ := hR'
      rw [r5, r3, r7, bm_nat (n := s'.1) (by omega), bm_nat (n := n) (by omega)]
      refine BR_i (fun h => k1 s' M' e (hfr M' hF) r1 r2 (by omega)) (fun h => k2 s' M' e (hfr M' hF) (by omega))
    · rw [h5]
      exact k0 s' M' e (hfr M' hF)
  rw [bm0, bm_nat (n := n) (by omega)]
  by_cases h0 : (0 : Int) < (n : Int)
  · rw [if_pos h0]
    exact go
  · rw [if_neg h0]
    have : n = 0 := by omega
    subst this
    exact go
