/-! ILL: the class goes through the orders -/
def GGi (z : Fl) (n v b : Nat) (L : List Nat) (old : Nat → Nat) (G : Nat → List Int → Mem → (Int → Mem → Prop) → Prop) (m i : Nat) : Prop := ∀ (r : Nat → Nat) (M : Mem) (st : Option (Nat × Cand)) (Qx : Int → Mem → Prop), RowPs z r i → (∀ k, k < i → r k ∈ L) → RowAt z v n r i M → SumAt z v n r b i M → GI z n v b L old st M → (∀ M', FrJ i M M' → FrIl M M' → GI z n v b L old ((dl (goodb z v n) v L m (rl r i)).foldl (ist z n old) st) M' → Qx 0 M') → G 0 [(i : Int), (v : Int), (mvr old (rl r i) : Int)] M Qx
theorem gi_L {z : Fl} {n v nl m i : Nat} {L : List Nat} {old r : Nat → Nat} {M0 : Mem} {st : Option (Nat × Cand)} {G : Nat → List Int → Mem → (Int → Mem → Prop) → Prop} {Q : Mem → Prop} (hz : ZOk z) (hnl : z 1 = (nl : Int)) (hn12 : n ≤ 12) (hv12 : v ≤ 12) (hL : L.length = n) (hLz : ∀ x ∈ L, (x : Int) < z 0 ∧ old x < 12) (hi : i < n) (hr : RowPs z r i) (hrL : ∀ k, k < i → r k ∈ L) (hR : RowAt z v n r i M0) (hS : SumAt z v n r (bits (isOn z) nl) i M0)
    (hG : GGi z n v (bits (isOn z) nl) L old G m (i + 1)) (hQ : ∀ M', FrJ i M0 M' → FrIl M0 M' → GI z n v (bits (isOn z) nl) L old ((dl (goodb z v n) v L (m + 1) (rl r i)).foldl (ist z n old) st) M' → Q M') : ∀ (c j : Nat) (M : Mem) (x4 : Int), j + c = n → x4 = (j : Int) → FrJ i M0 M → FrIl M0 M → GI z n v (bits (isOn z) nl) L old (((L.take j).flatMap (dlx (goodb z v n) v L m (rl r i))).foldl (ist z n old) st) M → wX6_goOnMoving_L18 G Q 103 (i : Int) (v : Int) (mvr old (rl r i) : Int) (c + 1) x4 M
  | 0, j, M, x4, hj, h4, fj, ff, hg => by
    subst h4
    obtain rfl : j = n := by omega
    unfold wX6_goOnMoving_L18
    rw [hg.2.2.2.2.1]
    rw [← hL, List.take_length] at hg
    exact BR_t (Int.le_refl _) (hQ M fj ff (by rw [dl_x, ← hL]; exact hg))
  | c + 1, j, M, x4, hj, h4, fj, ff, hg => by
    subst h4
    have hz0 := hz.1
    obtain ⟨x, hx⟩ : ∃ x, L.getD j 0 = x := ⟨_, rfl⟩
    have hsp := split_at (L := L) (j := j) (by omega)
    have hts := take_s (L := L) (j := j) (by omega)
    rw [hx] at hsp hts
    have hxL : x ∈ L := by
      rw [hsp]
      exact List.mem_append_right _ List.mem_cons_self
    obtain ⟨hxz, hox⟩ := hLz x hxL
    have hR' := hR.frj fj
    have hst : stb (rl r i) < 2 ^ 12 := stb_lt _ (hr.pcs.lt hz)
    have e104 : rd M (103 + 1) (j : Int) = (x : Int) := by rw [rd_at (n := j) rfl (by omega), show (103 : Nat) + 1 = 104 from rfl, hg.2.2.2.2.2.1 j (by omega), hx]
    have e96 : rd M (103 - 12 + 5) (i : Int) = (stb (rl r i) : Int) := by rw [rd_at (n := i) rfl (by omega)]; exact (hR'.2 i (Nat.le_refl i)).2.2.1
    have hml := mvr_le (old := old) (l := rl r i) (by rw [rl_len]; omega)
    have hml1 := mvr_le (old := old) (l := x :: rl r i) (by rw [List.length_cons, rl_len]; omega)
    rw [List.length_cons, rl_len] at hml1
    rw [rl_len] at hml
    have hfm : (L.take (j + 1)).flatMap (dlx (goodb z v n) v L m (rl r i)) = (L.take j).flatMap (dlx (goodb z v n) v L m (rl r i)) ++ dlx (goodb z v n) v L m (rl r i) x := by
      rw [hts, List.flatMap_append]
      simp
    have nxt : ∀ M', FrJ i M0 M' → FrIl M0 M' → GI z n v (bits (isOn z) nl) L old ((dlx (goodb z v n) v L m (rl r i) x).foldl (ist z n old) (((L.take j).flatMap (dlx (goodb z v n) v L m (rl r i))).foldl (ist z n old) st)) M' → LET ((j : Int) + 1) (fun x4 => wX6_goOnMoving_L18 G Q 103 (i : Int) (v : Int) (mvr old (rl r i) : Int) (c + 1) x4 M') := by
      intro M' fj' ff' hg'
      refine LET_i (gi_L hz hnl hn12 hv12 hL hLz hi hr hrL hR hS hG hQ c (j + 1) M' _ (by omega) (by omega) fj' ff' ?_)
      rw [hfm, List.foldl_append]
      exact hg'
    have nxt0 : ∀ M', FrJ i M0 M' → FrIl M0 M' → GI z n v (bits (isOn z) nl) L old (((L.take j).flatMap (dlx (goodb z v n) v L m (rl r i))).foldl (ist z n old) st) M' → dlx (goodb z v n) v L m (rl r i) x = [] → LET ((j : Int) + 1) (fun x4 => wX6_goOnMoving_L18 G Q 103 (i : Int) (v : Int) (mvr old (rl r i) : Int) (c + 1) x4 M') := by
      intro M' fj' ff' hg' h0
      refine nxt M' fj' ff' ?_
      rw [h0]
      exact hg'
    unfold wX6_goOnMoving_L18 wX6_passedBy
    rw [hg.2.2.2.2.1, bm_nat (n := n) (by omega), bm_nat (n := j) (by omega), e104]
    refine BR_f (by omega) ⟨inb_of rfl (by omega) (by decide), LET_i ⟨i + 1, pb_L (old := old) (r := r) (by omega) (hg.2.2.2.2.2.2.1 x hxL) hox (by omega) (fun k hk => ⟨(hR'.1 k hk).1, by have := hr k hk; omega, hg.2.2.2.2.2.2.1 _ (hrL k hk), (hLz _ (hrL k hk)).2⟩) (LET_i ⟨inb_of rfl (by omega) (by decide), ?_⟩) i 0 _ _ (by omega) rfl rfl⟩⟩
    rw [e96, lf_isIn rfl rfl hst (by omega)]
    by_cases hxl : x ∈ rl r i
    · rw [if_pos (stb_mem.mpr hxl)]
      exact BR_f q1 (nxt0 M fj ff hg (by unfold dlx; rw [if_pos hxl]))
    rw [if_neg (fun h => hxl (stb_mem.mp h))]
    refine BR_t q0 ?_
    have e6 : (mvr old (rl r i) : Int) + (cnt (fun y => decide (old x < old y)) (rl r i) : Int) = (mvr old (x :: rl r i) : Int) := by rw [mvr_s]; omega
    rw [e6]
    have j83 : wX6_goOnMoving_J83 G Q (fun x4' M' => wX6_goOnMoving_L18 G Q 103 (i : Int) (v : Int) (mvr old (rl r i) : Int) (c + 1) x4' M') 103 (i : Int) (v : Int) (mvr old (rl r i) : Int) (j : Int) (x : Int) (mvr old (x :: rl r i) : Int) M := by
      have er : ∀ q, q < i → (fun q => if q = i then x else r q) q = r q := fun q hq => if_neg (by omega)
      have erl : rl (fun q => if q = i then x else r q) i = rl r i := rl_congr er
      have eri : (fun q => if q = i then x else r q) i = x := if_pos rfl
      have erl1 : rl (fun q => if q = i then x else r q) (i + 1) = x :: rl r i := by
        show (fun q => if q = i then x else r q) i :: rl (fun q => if q = i then x else r q) i = _
        rw [erl, eri]
      have hr1 : RowPs z (fun q => if q = i then x else r q) (i + 1) := fun q hq => by
        by_cases hqi : q = i
        · subst hqi
          rw [eri]
          exact hxz
        · rw [er q (by omega)]
          exact hr q (by omega)
      have hrL1 : ∀ q, q < i + 1 → (fun q => if q = i then x else r q) q ∈ L := fun q hq => by
        by_cases hqi : q = i
        · subst hqi
          rw [eri]
          exact hxL
        · rw [er q (by omega)]
          exact hrL q (by omega)
      obtain ⟨g1, g2, g3, g4, g5, g6, g7, g8⟩ := id hg
      unfold wX6_goOnMoving_J83
      refine lf_step hz g1 g2 g3 hn12 hv12 hi hxz (hr1.le (Nat.le_succ i)) (hR'.cg er) eri fun M1 hR1 hf1 => ?_
      have hg1 := hg.fr hz (fun a ha => hf1.1 a ha)
      rw [show (i : Int) + 1 = ((i + 1 : Nat) : Int) by omega]
      refine lf_isGood hz hg1.1 hg1.2.1 hn12 (by omega) hr1 hR1 ?_
      have fj1 : FrJ i M0 M1 := fj.tr hf1.j (Nat.le_refl i) (Nat.le_refl i)
      have ff1 : FrIl M0 M1 := ff.tr (FrIl.of hf1.1)
      rw [erl1]
      by_cases hgd : goodb z v n (x :: rl r i) = true
      · rw [if_pos hgd]
        have hdx : dlx (goodb z v n) v L m (rl r i) x = dl (goodb z v n) v L m (x :: rl r i) := by
          unfold dlx
          rw [if_neg hxl, if_pos hgd]
        have hS1 : SumAt z v n (fun q => if q = i then x else r q) (bits (isOn z) nl) i M1 := ((hS.frj hz fj (Nat.le_refl i)).cg er).frj hz hf1.j (Nat.le_refl i)
        refine BR_f q1 (lf_weigh hz hg1.1 hg1.2.1 hg1.2.2.1 hg1.2.2.2.1 (Nat.lt_of_lt_of_le (bits_lt nl) (p2le (m := 12) (by have := hz.2.1; omega))) hn12 hv12 hi hr1 hR1 hS1 fun M2 hf2 hS2 => ?_)
        have hf2' := hf2.fri (Nat.le_refl i)
        have hg2 := hg1.fr hz (fun a ha => hf2'.1 a ha)
        have fj2 : FrJ i M0 M2 := fj1.tr hf2'.j (Nat.le_refl i) (Nat.le_refl i)
        have ff2 : FrIl M0 M2 := ff1.tr (FrIl.of hf2'.1)
        have hGx := hG (fun q => if q = i then x else r q) M2 _ (fun _ M_23 => LET ((j : Int) + 1) (fun x4_24 => wX6_goOnMoving_L18 G Q 103 (i : Int) (v : Int) (mvr old (rl r i) : Int) (c + 1) x4_24 M_23)) hr1 hrL1 (hR1.frs hf2) hS2 hg2 (fun M3 fj3 ff3 hg3 => nxt M3 (fj2.tr fj3 (Nat.le_refl i) (Nat.le_succ i)) (ff2.tr ff3) (by rw [erl1] at hg3; rw [hdx]; exact hg3))
        rw [erl1] at hGx
        exact hGx
      · rw [if_neg hgd]
        exact BR_t q0 (nxt0 M1 fj1 ff1 hg1 (by unfold dlx; rw [if_neg hxl, if_neg hgd]))
    have hCI := hg.2.2.2.2.2.2.2
    cases hse : ((L.take j).flatMap (dlx (goodb z v n) v L m (rl r i))).foldl (ist z n old) st with
    | none =>
      rw [hse] at hCI
      have h0 : M 103 6 = 0 := hCI
      rw [h0]
      exact BR_t (by decide +kernel) j83
    | some p =>
      obtain ⟨a, b⟩ := p
      rw [hse] at hCI
      obtain ⟨a1, a2, a3, _⟩ := hCI
      rw [a1, a2, bm_nat (n := a) (by omega), bm_nat (n := mvr old (x :: rl r i)) (by omega)]
      refine BR_f (by decide +kernel) (BR_i (fun _ => j83) (fun hlt => nxt M fj ff ?_))
      rw [hse, ist_skip]
      · rw [hse] at hg
        exact hg
      · intro d hd
        unfold dlx at hd
        rw [if_neg hxl] at hd
        split at hd
        · obtain ⟨s, hs⟩ := dl_ext hd
          have := mvr_app (old := old) (s := s) (l := x :: rl r i)
          rw [hs]
          omega
        · cases hd
theorem gi_all {z : Fl} {n v nl : Nat} {L : List Nat} {old : Nat → Nat} (hz : ZOk z) (hnl : z 1 = (nl : Int)) (hn12 : n ≤ 12) (hv12 : v ≤ 12) (hL : L.length = n) (hLz : ∀ x ∈ L, (x : Int) < z 0 ∧ old x < 12) : ∀ (m i d : Nat), i + m = n → m < d → GGi z n v (bits (isOn z) nl) L old (wGX6_goOnMoving 103 d) m i
  | 0, i, d, hi, hd => by
    obtain ⟨d', rfl⟩ : ∃ d', d = d' + 1 := ⟨d - 1, by omega⟩
    obtain rfl : i = n := by omega
    intro r M st Qx hr hrL hR hS hg hQ
    show wbX6_goOnMoving (wGX6_goOnMoving 103 d') 103 (i : Int) (v : Int) (mvr old (rl r i) : Int) M (Qx 0)
    unfold wbX6_goOnMoving
    rw [hg.2.2.2.2.1]
    refine BR_f (by omega) (lf_takeMoved hz hnl hn12 hg hR hS fun M' f1 f2 hg' => hQ M' (FrJ.of fun a q1 q2 => f2 a q1 (by omega)) f1 hg')
  | m + 1, i, d, hi, hd => by
    obtain ⟨d', rfl⟩ : ∃ d', d = d' + 1 := ⟨d - 1, by omega⟩
    intro r M st Qx hr hrL hR hS hg hQ
    show wbX6_goOnMoving (wGX6_goOnMoving 103 d') 103 (i : Int) (v : Int) (mvr old (rl r i) : Int) M (Qx 0)
    unfold wbX6_goOnMoving
    rw [hg.2.2.2.2.1, bm_nat (n := n) (by omega), bm_nat (n := i) (by omega)]
    refine BR_t (by omega) ⟨n + 1, gi_L hz hnl hn12 hv12 hL hLz (by omega) hr hrL hR hS (gi_all hz hnl hn12 hv12 hL hLz m (i + 1) d' (by omega) (by omega)) hQ n 0 M _ (by omega) rfl FrJ.rf FrIl.rf ?_⟩
    simpa using hg
