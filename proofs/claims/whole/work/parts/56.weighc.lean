/-! WHAT A PLACE IS WORTH, sums: the class -/
theorem FrN.tr {M M' M'' : Mem} (h : FrN M M') (h' : FrN M' M'') : FrN M M'' := fun a q1 q2 => by rw [h' a q1 q2, h a q1 q2]
theorem lik_f {z : Fl} {M : Mem} {l : Nat} (hc : CB z M) (hl : (l : Int) < z 1) : M (23 + 2 * l) 0 = lK z l ∧ M (23 + 2 * l) 3 = wgt z l ∧ M (23 + 2 * l) 5 = tN z l ∧ ∀ k : Nat, (k : Int) < tN z l → M (24 + 2 * l) k = cdOf (lK z l) (tW z l k) (tV z l k) := by
  obtain ⟨h1, h2, h3, h4, h5, h6, h7⟩ := hc.2.2.2.2.2.1 l hl
  rw [show 2 + 21 + 2 * l = 23 + 2 * l by omega] at h1 h4 h6
  rw [show 2 + 22 + 2 * l = 24 + 2 * l by omega] at h7
  exact ⟨h1, h4, h6, h7⟩
theorem lf_J94 {z : Fl} {l : Nat} {M : Mem} {x4 dflt c : Int} {nm : Int → Int} {Q : Int → Mem → Prop} (hz : ZOk z) (hc : CB z M) (hl : (l : Int) < z 1) (hnm : ∀ c, 0 ≤ nmI (lK z l) c → nmI (lK z l) c < 5 ∧ bm (M 101 (nmI (lK z l) c).toNat) = nm c) (hx : bm x4 = bm dflt) (h5 : lK z l = 5 → M 101 3 = c)
    (hQ : ∀ M' x, FrN M M' → bm x = bm (txt z l nm dflt - (if lK z l = 5 then c else 0)) → Q x M') : wX10_worthAt_J94 Q 91 (23 + 2 * l) 1 x4 M := by
  obtain ⟨k0, k3, k5, kc⟩ := lik_f hc hl
  obtain ⟨⟨lk0, lk6⟩, -, -, -, t0, t50, tst, tdp⟩ := hz.2.2.2.2.2.1 l hl
  have hl10 := hz.2.1
  have fin : ∀ (M' : Mem) (x : Int), (∀ a, a ≠ 102 → M' a = M a) → bm x = bm (txt z l nm dflt) → wX10_worthAt_J124 Q 91 (23 + 2 * l) x M' := by
    intro M' x hf hx'
    unfold wX10_worthAt_J124
    rw [hf (23 + 2 * l) (by omega), k0, bm_id (z := lK z l) (by omega) (by omega)]
    refine BR_i (fun h => ?_) (fun h => ?_)
    · refine hQ M' _ (fun a q1 q2 => hf a q2) ?_
      rw [rd_at (i := 3) (n := 3) rfl (by decide), show (91 : Nat) + 10 = 101 from rfl, hf 101 (by decide), h5 h, if_pos h]
      exact bm_congr_sub hx' rfl
    · refine hQ M' _ (fun a q1 q2 => hf a q2) ?_
      rw [if_neg h, hx', Int.sub_zero]
  unfold wX10_worthAt_J94 wX1_hasText
  rw [k5, bm_id (z := tN z l) (by omega) (by omega)]
  refine BR_f q1 (BR_i (fun h => BR_t q0 (fin M x4 (fun _ _ => rfl) ?_)) (fun h => BR_f q1 ?_))
  · unfold txt
    rw [if_pos (by omega)]
    exact hx
  · obtain ⟨N, hN⟩ : ∃ N : Nat, tN z l = (N : Int) := ⟨(tN z l).toNat, by omega⟩
    unfold wX1_comesTo
    have ht : txt z l nm dflt = (ev z l nm N).headD 0 := by
      unfold txt
      rw [if_neg (by omega), hN, Int.toNat_natCast]
    refine ⟨N + 1, ct_L (z := z) (l := l) (N := N) (nm := nm) (M0 := M) (by rw [k5, hN]) (by omega) (by omega) (fun k hk => ?_) (fun k hk => tst k (by omega)) ?_ hnm (fun M' x hf hx' => fin M' x hf ?_) N 0 M _ _ (by omega) rfl rfl rfl (fun _ _ => rfl) (fun t ht => by simp [ev] at ht)⟩
    · rw [show 23 + 2 * l + 1 = 24 + 2 * l by omega]
      exact kc k (by omega)
    · have := tdp (by omega)
      rw [hN, Int.toNat_natCast] at this
      exact this
    · rw [ht, ← hx', bm_bm]
theorem nmI_pair {k c : Int} (hk : k = 1 ∨ k = 5) (h : 0 ≤ nmI k c) : (c = 97 ∧ nmI k c = 0) ∨ (c = 98 ∧ nmI k c = 1) ∨ (c = 107 ∧ nmI k c = 2) ∨ (c = 115 ∧ nmI k c = 3) := by
  unfold nmI at h ⊢
  rw [if_pos hk] at h ⊢
  by_cases h1 : c = 97
  · exact Or.inl ⟨h1, by rw [if_pos h1]⟩
  · rw [if_neg h1] at h ⊢
    by_cases h2 : c = 98
    · exact Or.inr (Or.inl ⟨h2, by rw [if_pos h2]⟩)
    · rw [if_neg h2] at h ⊢
      by_cases h3 : c = 107
      · exact Or.inr (Or.inr (Or.inl ⟨h3, by rw [if_pos h3]⟩))
      · rw [if_neg h3] at h ⊢
        by_cases h4 : c = 115
        · exact Or.inr (Or.inr (Or.inr ⟨h4, by rw [if_pos h4]⟩))
        · rw [if_neg h4] at h
          omega
theorem nmI_2 {c : Int} (h : 0 ≤ nmI 2 c) : nmI 2 c = 0 := by
  unfold nmI at h ⊢
  rw [if_neg (by decide), if_pos rfl] at h ⊢
  split at h
  · rw [if_pos (by assumption)]
  · omega
theorem nmI_4 {c : Int} (h : 0 ≤ nmI 4 c) : nmI 4 c = 0 := by
  unfold nmI at h ⊢
  rw [if_neg (by decide), if_neg (by decide), if_neg (by decide), if_pos rfl] at h ⊢
  split at h
  · rw [if_pos (by assumption)]
  · omega
theorem nmI_3 {c : Int} (h : 0 ≤ nmI 3 c) : (c = 112 ∧ nmI 3 c = 0) ∨ (c = 110 ∧ nmI 3 c = 1) ∨ (c = 108 ∧ nmI 3 c = 2) ∨ (c = 105 ∧ nmI 3 c = 3) ∨ (c = 106 ∧ nmI 3 c = 4) := by
  unfold nmI at h ⊢
  rw [if_neg (by decide), if_neg (by decide), if_pos rfl] at h ⊢
  by_cases h1 : c = 112
  · exact Or.inl ⟨h1, by rw [if_pos h1]⟩
  · rw [if_neg h1] at h ⊢
    by_cases h2 : c = 110
    · exact Or.inr (Or.inl ⟨h2, by rw [if_pos h2]⟩)
    · rw [if_neg h2] at h ⊢
      by_cases h3 : c = 108
      · exact Or.inr (Or.inr (Or.inl ⟨h3, by rw [if_pos h3]⟩))
      · rw [if_neg h3] at h ⊢
        by_cases h4 : c = 105
        · exact Or.inr (Or.inr (Or.inr (Or.inl ⟨h4, by rw [if_pos h4]⟩)))
        · rw [if_neg h4] at h ⊢
          by_cases h5 : c = 106
          · exact Or.inr (Or.inr (Or.inr (Or.inr ⟨h5, by rw [if_pos h5]⟩)))
          · rw [if_neg h5] at h
            omega
theorem since_nn {z : Fl} (hz : ZOk z) {v : Nat} {key e : Int} : ∀ {L : List Nat}, Pcs z L → since z v key L = some e → 0 ≤ e ∧ e ≤ 168 * L.length
  | [], _, h => by cases h
  | p :: L, hp, h => by
    unfold since at h
    split at h
    · cases h
      exact en_nn hz v (p :: L) hp
    · have := since_nn hz (L := L) (fun q hq => hp q (List.mem_cons_of_mem _ hq)) h
      rw [List.length_cons]
      omega
theorem tiMost_nn {z : Fl} (hz : ZOk z) {v q : Nat} {L : List Nat} (hp : Pcs z (q :: L)) : 0 ≤ tiMost z v q L ∧ tiMost z v q L ≤ 99 * (L.length + 1) := by
  refine mxn_nn (by omega) 8 fun i _ => ?_
  have := ti_nn hz v i (q :: L) hp
  rw [List.length_cons] at this
  split <;> omega
theorem lf_worthAt {z : Fl} {v n i l : Nat} {r : Nat → Nat} {M : Mem} {Q : Int → Mem → Prop} (hz : ZOk z) (hc : CB z M) (hn : M 91 1 = (n : Int)) (hv : M 91 2 = (v : Int)) (hn12 : n ≤ 12) (hv12 : v ≤ 12) (hi : i < n) (hr : RowPs z r (i + 1)) (hR : RowAt z v n r (i + 1) M) (hl : (l : Int) < z 1)
    (hQ : ∀ M' x, FrN M M' → bm x = bm (term z v n l (r i) (rl r i)) → Q x M') : wX10_worthAt 91 (23 + 2 * l) (i : Int) M Q := by
  obtain ⟨k0, k3, k5, kc⟩ := lik_f hc hl
  obtain ⟨⟨lk0, lk6⟩, -⟩ := hz.2.2.2.2.2.1 l hl
  have hl10 := hz.2.1
  have hri := hr i (by omega)
  have hpc : Pcs z (r i :: rl r i) := (hr : RowPs z r (i + 1)).pcs
  have hpl : Pcs z (rl r i) := (hr.le (Nat.le_succ i)).pcs
  have hlen := rl_len r i
  have cbn : ∀ M' : Mem, FrN M M' → CB z M' := fun M' hf => hc.congr hz fun a ha => hf a (by omega) (by omega)
  have h40 : (lK z l = 1 ∨ lK z l = 5) → wX10_worthAt_J40 Q 91 (23 + 2 * l) (i : Int) 0 M := by
    intro hk
    unfold wX10_worthAt_J40
    refine lf_namesPair hz hc hv hv12 (by omega) hr hR (fun h => ?_) (fun M' p hp hiv hf h102 n0 n1 n2 n3 => ?_)
    · unfold wX10_worthAt_J94
      refine BR_t q0 (hQ M _ FrN.rf ?_)
      unfold term
      rw [if_pos hk]
      cases i with
      | zero => rfl
      | succ p =>
        show bm 0 = bm (if (rl r p).length + 1 = v then 0 else _)
        rw [rl_len, if_pos (by omega)]
    · subst hp
      have hrp := hr p (by omega)
      have pp := hz.2.2.2.2.1 _ hrp
      have pq := hz.2.2.2.2.1 _ hri
      refine lf_J94 (c := (car z (r p) (r (p + 1)) : Int)) (nm := nmPair z (r p) (r (p + 1))) (dflt := 0) hz (cbn M' hf) hl (fun c hc' => ?_) rfl (fun _ => n3) (fun M'' x hf' hx => hQ M'' x (hf.tr hf') ?_)
      · have hcar := car_le z (r p) (r (p + 1))
        have hwy := wy_nn pp.2.1 pq.2.1
        rcases nmI_pair hk hc' with ⟨rfl, e⟩ | ⟨rfl, e⟩ | ⟨rfl, e⟩ | ⟨rfl, e⟩
        · rw [e]
          exact ⟨by decide, by rw [show (0 : Int).toNat = 0 from rfl, n0]; exact bm_id (by have := pp.2.2.1; omega) (by have := pp.2.2.1; omega)⟩
        · rw [e]
          exact ⟨by decide, by rw [show (1 : Int).toNat = 1 from rfl, n1]; exact bm_id (by have := pq.2.2.1; omega) (by have := pq.2.2.1; omega)⟩
        · rw [e]
          exact ⟨by decide, by rw [show (2 : Int).toNat = 2 from rfl, n2]; exact bm_id (by omega) (by omega)⟩
        · rw [e]
          exact ⟨by decide, by rw [show (3 : Int).toNat = 3 from rfl, n3]; exact bm_nat (by omega)⟩
      · rw [hx]
        unfold term
        rw [if_pos hk]
        show _ = bm (if (rl r p).length + 1 = v then 0 else bm (txt z l (nmPair z (r p) (r (p + 1))) 0 - (if lK z l = 5 then (car z (r p) (r (p + 1)) : Int) else 0)))
        rw [rl_len, if_neg hiv, bm_bm]
  unfold wX10_worthAt
  rw [k0, bm_id (z := lK z l) (by omega) (by omega)]
  refine BR_i (fun h1 => h40 (Or.inl h1)) (fun h1 => BR_i (fun h2 => ?_) (fun h2 => BR_i (fun h3 => ?_) (fun h3 => BR_i (fun h4 => ?_) (fun h4 => BR_i (fun h5 => h40 (Or.inr h5)) (fun h5 => ?_)))))
  · refine lf_namesSince hz hc (by omega) hr hR (fun hs => LET_i ?_) (fun M' e hs hf h102 n0 => LET_i ?_)
    · unfold wX10_worthAt_J94
      refine BR_t q0 (hQ M _ FrN.rf ?_)
      unfold term
      rw [if_neg (by omega), if_pos h2, hs]
    · have hb1 := en_nn hz v _ hpl
      have hb2 := gp_nn hz v (r i) (rl r i)
      have hb3 := since_nn hz hpl hs
      have hbm : bm (en z v (rl r i) + gp z v (r i) (rl r i) - e) = en z v (rl r i) + gp z v (r i) (rl r i) - e := bm_id (by omega) (by omega)
      refine lf_J94 (c := 0) (nm := fun _ => en z v (rl r i) + gp z v (r i) (rl r i) - e) (dflt := en z v (rl r i) + gp z v (r i) (rl r i) - e) hz (cbn M' hf) hl (fun c hc' => ?_) ?_ (fun h => by omega) (fun M'' x hf' hx => hQ M'' x (hf.tr hf') ?_)
      · rw [h2] at hc' ⊢
        rw [nmI_2 hc']
        exact ⟨by decide, by rw [show (0 : Int).toNat = 0 from rfl, n0, hbm]⟩
      · rw [rd_at (i := 0) (n := 0) rfl (by decide)]
        exact congrArg bm n0
      · rw [hx]
        unfold term
        rw [if_neg (by omega), if_pos h2, hs, if_neg (by omega), Int.sub_zero]
  · refine lf_namesPlace hz hc hn hv hn12 hv12 hi hr hR fun M' hf h102 n0 n1 n2 n3 n4 => ?_
    refine lf_J94 (c := 0) (nm := nmPlace z v n (r i) i) (dflt := 0) hz (cbn M' hf) hl (fun c hc' => ?_) rfl (fun h => by omega) (fun M'' x hf' hx => hQ M'' x (hf.tr hf') ?_)
    · rw [h3] at hc' ⊢
      have pq := (hz.2.2.2.2.1 _ hri).2.2.1
      rcases nmI_3 hc' with ⟨rfl, e⟩ | ⟨rfl, e⟩ | ⟨rfl, e⟩ | ⟨rfl, e⟩ | ⟨rfl, e⟩
      · rw [e]
        exact ⟨by decide, by rw [show (0 : Int).toNat = 0 from rfl, n0]; exact bm_nat (by omega)⟩
      · rw [e]
        exact ⟨by decide, by rw [show (1 : Int).toNat = 1 from rfl, n1]; exact bm_nat (by omega)⟩
      · rw [e]
        exact ⟨by decide, by rw [show (2 : Int).toNat = 2 from rfl, n2]; exact bm_id (by omega) (by omega)⟩
      · rw [e]
        refine ⟨by decide, ?_⟩
        rw [show (3 : Int).toNat = 3 from rfl, n3]
        show bm (if i + 1 = n ∨ i + 1 = v then 1 else 0) = (if i + 1 = n ∨ i + 1 = v then 1 else 0)
        split
        · exact bm1
        · exact bm0
      · rw [e]
        refine ⟨by decide, ?_⟩
        rw [show (4 : Int).toNat = 4 from rfl, n4]
        show bm (if i = 0 ∨ i = v then 1 else 0) = (if i = 0 ∨ i = v then 1 else 0)
        split
        · exact bm1
        · exact bm0
    · rw [hx]
      unfold term
      rw [if_neg (by omega), if_neg (by omega), if_pos h3, hlen, if_neg (by omega), Int.sub_zero]
  · refine lf_namesTired hz hc (by omega) hr hR fun M' hf h102 n0 => LET_i ?_
    have hb := tiMost_nn hz (v := v) hpc
    refine lf_J94 (c := 0) (nm := fun _ => tiMost z v (r i) (rl r i)) (dflt := tiMost z v (r i) (rl r i)) hz (cbn M' hf) hl (fun c hc' => ?_) ?_ (fun h => by omega) (fun M'' x hf' hx => hQ M'' x (hf.tr hf') ?_)
    · rw [h4] at hc' ⊢
      rw [nmI_4 hc']
      exact ⟨by decide, by rw [show (0 : Int).toNat = 0 from rfl, n0]; exact bm_id (by omega) (by omega)⟩
    · rw [rd_at (i := 0) (n := 0) rfl (by decide)]
      exact congrArg bm n0
    · rw [hx]
      unfold term
      rw [if_neg (by omega), if_neg (by omega), if_neg (by omega), if_pos h4, if_neg (by omega), Int.sub_zero]
  · unfold wX10_worthAt_J94
    refine BR_t q0 (hQ M _ FrN.rf ?_)
    unfold term
    rw [if_neg (by omega), if_neg (by omega), if_neg (by omega), if_neg (by omega)]
