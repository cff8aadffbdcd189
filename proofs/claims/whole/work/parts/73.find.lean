/-! THE CLASS SEARCHES A SET -/
theorem take_s {L : List Nat} {j : Nat} (h : j < L.length) : L.take (j + 1) = L.take j ++ [L.getD j 0] := by
  rw [List.take_succ, List.getD_eq_getElem?_getD, List.getElem?_eq_getElem h]
  rfl
theorem split_at {L : List Nat} {j : Nat} (h : j < L.length) : L = L.take j ++ L.getD j 0 :: L.drop (j + 1) := by
  have h1 := (List.take_append_drop j L).symm
  rw [List.drop_eq_getElem_cons h] at h1
  rw [List.getD_eq_getElem?_getD, List.getElem?_eq_getElem h]
  exact h1
theorem dl_v {p : List Nat → Bool} {v : Nat} {L : List Nat} {c : Cand} : ∀ {m : Nat} {l : List Nat}, c ∈ dl p v L m l → c.2 = v
  | 0, l, h => by
    have : c = (l.reverse, v) := by simpa [dl] using h
    rw [this]
  | m + 1, l, h => by
    rw [dl_s, List.mem_flatMap] at h
    obtain ⟨x, _, h⟩ := h
    split at h
    · cases h
    · split at h
      · exact dl_v h
      · cases h
/-- what is found behind a piece more -/
def dlx (p : List Nat → Bool) (v : Nat) (L : List Nat) (m : Nat) (l : List Nat) (x : Nat) : List Cand := if x ∈ l then [] else if p (x :: l) = true then dl p v L m (x :: l) else []
theorem dl_x (p : List Nat → Bool) (v : Nat) (L : List Nat) (m : Nat) (l : List Nat) : dl p v L (m + 1) l = L.flatMap (dlx p v L m l) := rfl
def GGs (z : Fl) (k n v b : Nat) (L : List Nat) (G : Nat → List Int → Mem → (Int → Mem → Prop) → Prop) (m i : Nat) : Prop := ∀ (r : Nat → Nat) (M : Mem) (Ls : List Cand) (Qx : Int → Mem → Prop), RowPs z r i → RowAt z v n r i M → SumAt z v n r b i M → GS z k n v b L Ls M → (∀ d ∈ Ls, POk k n d.1 ∧ d.2 ≤ v) → (∀ c ∈ dl (goodb z v n) v L m (rl r i), POk k n c.1) → Ls.length + (dl (goodb z v n) v L m (rl r i)).length < 1000000 → (∀ M', FrJ i M M' → FrF M M' → GS z k n v b L ((dl (goodb z v n) v L m (rl r i)).reverse ++ Ls) M' → Qx 0 M') → G 0 [(i : Int), (v : Int)] M Qx
theorem gg_L {z : Fl} {k n v nl m i : Nat} {L : List Nat} {r : Nat → Nat} {M0 : Mem} {Ls : List Cand} {G : Nat → List Int → Mem → (Int → Mem → Prop) → Prop} {Q : Mem → Prop} (hz : ZOk z) (hnl : z 1 = (nl : Int)) (hn12 : n ≤ 12) (hv12 : v ≤ 12) (hL : L.length = n) (hLz : ∀ x ∈ L, (x : Int) < z 0) (hi : i < n) (hr : RowPs z r i) (hR : RowAt z v n r i M0) (hS : SumAt z v n r (bits (isOn z) nl) i M0) (hLs : ∀ d ∈ Ls, POk k n d.1 ∧ d.2 ≤ v) (hD : ∀ c ∈ dl (goodb z v n) v L (m + 1) (rl r i), POk k n c.1) (hlen : Ls.length + (dl (goodb z v n) v L (m + 1) (rl r i)).length < 1000000)
    (hG : GGs z k n v (bits (isOn z) nl) L G m (i + 1)) (hQ : ∀ M', FrJ i M0 M' → FrF M0 M' → GS z k n v (bits (isOn z) nl) L ((dl (goodb z v n) v L (m + 1) (rl r i)).reverse ++ Ls) M' → Q M') : ∀ (c j : Nat) (M : Mem) (x3 : Int), j + c = n → x3 = (j : Int) → FrJ i M0 M → FrF M0 M → GS z k n v (bits (isOn z) nl) L (((L.take j).flatMap (dlx (goodb z v n) v L m (rl r i))).reverse ++ Ls) M → wX6_goOnGood_L16 G Q 103 (i : Int) (v : Int) (c + 1) x3 M
  | 0, j, M, x3, hj, h3, fj, ff, hg => by
    subst h3
    obtain rfl : j = n := by omega
    unfold wX6_goOnGood_L16
    rw [hg.2.2.2.2.1]
    rw [← hL, List.take_length] at hg
    exact BR_t (Int.le_refl _) (hQ M fj ff (by rw [dl_x, ← hL]; exact hg))
  | c + 1, j, M, x3, hj, h3, fj, ff, hg => by
    subst h3
    have hz0 := hz.1
    obtain ⟨x, hx⟩ : ∃ x, L.getD j 0 = x := ⟨_, rfl⟩
    have hsp := split_at (L := L) (j := j) (by omega)
    have hts := take_s (L := L) (j := j) (by omega)
    rw [hx] at hsp hts
    have hxL : x ∈ L := by
      rw [hsp]
      exact List.mem_append_right _ List.mem_cons_self
    have hxz := hLz x hxL
    have hR' := hR.frj fj
    have hst : stb (rl r i) < 2 ^ 12 := stb_lt _ (hr.pcs.lt hz)
    have e104 : rd M (103 + 1) (j : Int) = (x : Int) := by rw [rd_at (n := j) rfl (by omega), show (103 : Nat) + 1 = 104 from rfl, hg.2.2.2.2.2.2.1 j (by omega), hx]
    have e96 : rd M (103 - 12 + 5) (i : Int) = (stb (rl r i) : Int) := by rw [rd_at (n := i) rfl (by omega)]; exact (hR'.2 i (Nat.le_refl i)).2.2.1
    have hfm : (L.take (j + 1)).flatMap (dlx (goodb z v n) v L m (rl r i)) = (L.take j).flatMap (dlx (goodb z v n) v L m (rl r i)) ++ dlx (goodb z v n) v L m (rl r i) x := by
      rw [hts, List.flatMap_append]
      simp
    have hall : dl (goodb z v n) v L (m + 1) (rl r i) = (L.take j).flatMap (dlx (goodb z v n) v L m (rl r i)) ++ (dlx (goodb z v n) v L m (rl r i) x ++ (L.drop (j + 1)).flatMap (dlx (goodb z v n) v L m (rl r i))) := by
      rw [dl_x]
      conv => lhs; arg 2; rw [hsp]
      rw [List.flatMap_append, List.flatMap_cons]
    have nxt0 : ∀ M', FrJ i M0 M' → FrF M0 M' → GS z k n v (bits (isOn z) nl) L (((L.take j).flatMap (dlx (goodb z v n) v L m (rl r i))).reverse ++ Ls) M' → dlx (goodb z v n) v L m (rl r i) x = [] → LET ((j : Int) + 1) (fun x3 => wX6_goOnGood_L16 G Q 103 (i : Int) (v : Int) (c + 1) x3 M') := by
      intro M' fj' ff' hg' h0
      refine LET_i (gg_L hz hnl hn12 hv12 hL hLz hi hr hR hS hLs hD hlen hG hQ c (j + 1) M' _ (by omega) (by omega) fj' ff' ?_)
      rw [hfm, h0, List.append_nil]
      exact hg'
    unfold wX6_goOnGood_L16
    rw [hg.2.2.2.2.1, bm_nat (n := n) (by omega), bm_nat (n := j) (by omega), e104]
    refine BR_f (by omega) ⟨inb_of rfl (by omega) (by decide), LET_i ⟨inb_of rfl (by omega) (by decide), ?_⟩⟩
    rw [e96, lf_isIn rfl rfl hst (by omega)]
    by_cases hxl : x ∈ rl r i
    · rw [if_pos (stb_mem.mpr hxl)]
      exact BR_f q1 (nxt0 M fj ff hg (by unfold dlx; rw [if_pos hxl]))
    · rw [if_neg (fun h => hxl (stb_mem.mp h))]
      have er : ∀ q, q < i → (fun q => if q = i then x else r q) q = r q := fun q hq => if_neg (by omega)
      have erl : rl (fun q => if q = i then x else r q) i = rl r i := rl_congr er
      have eri : (fun q => if q = i then x else r q) i = x := if_pos rfl
      have erl1 : rl (fun q => if q = i then x else r q) (i + 1) = x :: rl r i := by
        show (fun q => if q = i then x else r q) i :: rl (fun q => if q = i then x else r q) i = _
        rw [erl, eri]
      have hr1 : RowPs z (fun q => if q = i then x else r q) (i + 1) := fun q hq => by
        by_cases hqi : q = i
        · subst hqi
          rw [eri]
          exact hxz
        · rw [er q (by omega)]
          exact hr q (by omega)
      obtain ⟨g1, g2, g3, g4, g5, g6, g7, g8⟩ := id hg
      refine BR_t q0 (lf_step hz g1 g2 g3 hn12 hv12 hi hxz (hr1.le (Nat.le_succ i)) (hR'.cg er) eri fun M1 hR1 hf1 => ?_)
      have hg1 := hg.fr hz (fun a ha => hf1.1 a ha)
      rw [show (i : Int) + 1 = ((i + 1 : Nat) : Int) by omega]
      refine lf_isGood hz hg1.1 hg1.2.1 hn12 (by omega) hr1 hR1 ?_
      have fj1 : FrJ i M0 M1 := fj.tr hf1.j (Nat.le_refl i) (Nat.le_refl i)
      have ff1 : FrF M0 M1 := ff.tr (FrF.of hf1.1)
      rw [erl1]
      by_cases hgd : goodb z v n (x :: rl r i) = true
      · rw [if_pos hgd]
        have hdx : dlx (goodb z v n) v L m (rl r i) x = dl (goodb z v n) v L m (x :: rl r i) := by
          unfold dlx
          rw [if_neg hxl, if_pos hgd]
        have hS1 : SumAt z v n (fun q => if q = i then x else r q) (bits (isOn z) nl) i M1 := ((hS.frj hz fj (Nat.le_refl i)).cg er).frj hz hf1.j (Nat.le_refl i)
        refine BR_f q1 (lf_weigh hz hg1.1 hg1.2.1 hg1.2.2.1 hg1.2.2.2.1 (Nat.lt_of_lt_of_le (bits_lt nl) (p2le (m := 12) (by have := hz.2.1; omega))) hn12 hv12 hi hr1 hR1 hS1 fun M2 hf2 hS2 => ?_)
        have hf2' := hf2.fri (Nat.le_refl i)
        have hg2 := hg1.fr hz (fun a ha => hf2'.1 a ha)
        have fj2 : FrJ i M0 M2 := fj1.tr hf2'.j (Nat.le_refl i) (Nat.le_refl i)
        have ff2 : FrF M0 M2 := ff1.tr (FrF.of hf2'.1)
        refine hG (fun q => if q = i then x else r q) M2 _ _ hr1 (hR1.frs hf2) hS2 hg2 (fun d hd => ?_) (fun d hd => ?_) ?_ (fun M3 fj3 ff3 hg3 => ?_)
        · rcases List.mem_append.mp hd with h | h
          · have h' : d ∈ dl (goodb z v n) v L (m + 1) (rl r i) := by
              rw [hall]
              exact List.mem_append_left _ (List.mem_reverse.mp h)
            exact ⟨hD d h', Nat.le_of_eq (dl_v h')⟩
          · exact hLs d h
        · rw [erl1, ← hdx] at hd
          refine hD d ?_
          rw [hall]
          exact List.mem_append_right _ (List.mem_append_left _ hd)
        · rw [erl1, ← hdx, List.length_append, List.length_reverse]
          rw [hall, List.length_append, List.length_append] at hlen
          omega
        · rw [erl1, ← hdx] at hg3
          refine LET_i (gg_L hz hnl hn12 hv12 hL hLz hi hr hR hS hLs hD hlen hG hQ c (j + 1) M3 _ (by omega) (by omega) (fj2.tr fj3 (Nat.le_refl i) (Nat.le_succ i)) (ff2.tr ff3) ?_)
          rw [hfm, List.reverse_append, List.append_assoc]
          exact hg3
      · rw [if_neg hgd]
        exact BR_t q0 (nxt0 M1 fj1 ff1 hg1 (by unfold dlx; rw [if_neg hxl, if_neg hgd]))
theorem gg_all {z : Fl} {k n v nl : Nat} {L : List Nat} (hz : ZOk z) (hk : k < 2 ^ 12) (hnl : z 1 = (nl : Int)) (hn12 : n ≤ 12) (hv12 : v ≤ 12) (hL : L.length = n) (hLz : ∀ x ∈ L, (x : Int) < z 0) : ∀ (m i d : Nat), i + m = n → m < d → GGs z k n v (bits (isOn z) nl) L (wGX6_goOnGood 103 d) m i
  | 0, i, d, hi, hd => by
    obtain ⟨d', rfl⟩ : ∃ d', d = d' + 1 := ⟨d - 1, by omega⟩
    obtain rfl : i = n := by omega
    intro r M Ls Qx hr hR hS hg hLs hD hlen hQ
    show wbX6_goOnGood (wGX6_goOnGood 103 d') 103 (i : Int) (v : Int) M (Qx 0)
    unfold wbX6_goOnGood
    rw [hg.2.2.2.2.1]
    refine BR_f (by omega) (lf_takeGood hz hk hnl hn12 hg hR hS (hD ((rl r i).reverse, v) (by simp [dl])) hLs (by omega) fun M' f1 f2 hg' => hQ M' (FrJ.of fun a q1 q2 => f2 a q1 (by omega)) f1 hg')
  | m + 1, i, d, hi, hd => by
    obtain ⟨d', rfl⟩ : ∃ d', d = d' + 1 := ⟨d - 1, by omega⟩
    intro r M Ls Qx hr hR hS hg hLs hD hlen hQ
    show wbX6_goOnGood (wGX6_goOnGood 103 d') 103 (i : Int) (v : Int) M (Qx 0)
    unfold wbX6_goOnGood
    rw [hg.2.2.2.2.1, bm_nat (n := n) (by omega), bm_nat (n := i) (by omega)]
    refine BR_t (by omega) ⟨n + 1, gg_L hz hnl hn12 hv12 hL hLz (by omega) hr hR hS hLs hD hlen (gg_all hz hk hnl hn12 hv12 hL hLz m (i + 1) d' (by omega) (by omega)) hQ n 0 M _ (by omega) rfl FrJ.rf FrF.rf ?_⟩
    simpa using hg
/-- how many there are -/
theorem ords_len : ∀ (n : Nat) (L : List Nat) (c : Nat), L.length ≤ c → (ords n L).length ≤ c ^ n
  | 0, L, c, _ => by simp [ords]
  | n + 1, L, c, h => by
    show (L.flatMap fun x => (ords n (L.erase x)).map (x :: ·)).length ≤ c ^ (n + 1)
    have key : ∀ S : List Nat, (S.flatMap fun x => (ords n (L.erase x)).map (x :: ·)).length ≤ S.length * c ^ n := by
      intro S
      induction S with
      | nil => simp
      | cons y S ih =>
        rw [List.flatMap_cons, List.length_append, List.length_map, List.length_cons, Nat.add_mul, Nat.one_mul]
        have h1 := ords_len n (L.erase y) c (Nat.le_trans (List.length_erase_le ..) h)
        omega
    rw [Nat.pow_succ, Nat.mul_comm]
    exact Nat.le_trans (key L) (Nat.mul_le_mul_right _ h)
theorem fm_len {α β : Type} {f : α → List β} {b : Nat} : ∀ {A : List α}, (∀ a ∈ A, (f a).length ≤ b) → (A.flatMap f).length ≤ A.length * b
  | [], _ => by simp
  | a :: A, h => by
    rw [List.flatMap_cons, List.length_append, List.length_cons, Nat.add_mul, Nat.one_mul]
    have h1 := h a List.mem_cons_self
    have h2 := fm_len (f := f) (b := b) (A := A) fun x hx => h x (List.mem_cons_of_mem _ hx)
    omega
theorem pw6 {n : Nat} (h : n ≤ 6) : n ^ n ≤ 46656 := by
  have : ∀ n, n ≤ 6 → n ^ n ≤ 46656 := by decide +kernel
  exact this n h
theorem cands_len {z : Fl} {k : Nat} (h6 : pop k ≤ 6) : (cands z k).length ≤ 46656 * 6 := by
  unfold cands candsOf
  refine Nat.le_trans (List.length_filter_le _ _) (Nat.le_trans (fm_len (b := 6) fun r _ => ?_) (Nat.mul_le_mul_right 6 ?_))
  · rw [List.length_map, List.length_range]
    exact h6
  · have h1 := ords_len (pop k) (mems k 12) (pop k) (by rw [mems_len]; exact Nat.le_refl _)
    exact Nat.le_trans h1 (pw6 h6)
/-- the members -/
theorem mems_ext {k n : Nat} (h : k < 2 ^ n) : ∀ m, mems k (n + m) = mems k n
  | 0 => rfl
  | m + 1 => by
    show mems k (n + m) ++ (if k.testBit (n + m) = true then [n + m] else []) = _
    rw [mems_ext h m, tb_big h (by omega)]
    simp
theorem ga_L {k np : Nat} {M0 : Mem} {Q : Mem → Prop} (hnp : M0 2 1 = (np : Int)) (hnp12 : np ≤ 12) (hk : k < 2 ^ np) (h4 : M0 103 4 = (k : Int)) (hQ : ∀ M' : Mem, (∀ a, a ≠ 103 → a ≠ 104 → M' a = M0 a) → (∀ j, j ≠ 5 → M' 103 j = M0 103 j) → M' 103 5 = (popn k np : Int) → (∀ i, i < popn k np → M' 104 i = ((mems k np).getD i 0 : Nat)) → Q M') : ∀ (m j : Nat) (M : Mem) (x2 : Int), j + m = np → x2 = (j : Int) → (∀ a, a ≠ 103 → a ≠ 104 → M a = M0 a) → (∀ i, i ≠ 5 → M 103 i = M0 103 i) → M 103 5 = (popn k j : Int) → (∀ i, i < popn k j → M 104 i = ((mems k j).getD i 0 : Nat)) → wX6_gather_L27 Q 103 (m + 1) x2 M
  | 0, j, M, x2, hj, h2, f1, f2, f3, f4 => by
    subst h2
    obtain rfl : j = np := by omega
    unfold wX6_gather_L27
    rw [show (103 : Nat) - 101 = 2 from rfl, f1 2 (by decide) (by decide), hnp]
    exact BR_t (Int.le_refl _) (hQ M f1 f2 f3 f4)
  | m + 1, j, M, x2, hj, h2, f1, f2, f3, f4 => by
    subst h2
    have hk12 : k < 2 ^ 12 := Nat.lt_of_lt_of_le hk (p2le hnp12)
    have hpl := popn_le k j
    unfold wX6_gather_L27
    rw [show (103 : Nat) - 101 = 2 from rfl, f1 2 (by decide) (by decide), hnp, bm_nat (n := np) (by omega), bm_nat (n := j) (by omega), lf_isIn (k := k) (j := j) (by rw [f2 4 (by decide)]; exact h4) rfl hk12 (by omega)]
    have hml := mems_len k j
    have es : mems k (j + 1) = mems k j ++ (if k.testBit j = true then [j] else []) := rfl
    refine BR_f (by omega) ?_
    cases hb : k.testBit j
    · rw [if_neg (by decide)]
      rw [hb] at es
      refine BR_t q0 (LET_i (ga_L hnp hnp12 hk h4 hQ m (j + 1) M _ (by omega) (by omega) f1 f2 ?_ ?_))
      · rw [popn_s, hb]
        exact f3
      · rw [popn_s, hb, es]
        simpa using f4
    · rw [if_pos rfl]
      rw [hb] at es
      refine BR_f q1 ⟨by rw [f3]; exact inb_of rfl (by omega) (by decide), ?_⟩
      rw [f3, wr_up (n := popn k j) rfl (by omega), show (103 : Nat) + 1 = 104 from rfl]
      refine LET_i (LET_i (LET_i (ga_L hnp hnp12 hk h4 hQ m (j + 1) _ _ (by omega) (by omega) (fun a q1 q2 => by rw [up_c q1, up_c q2]; exact f1 a q1 q2) (fun i hi => by rw [up_kn hi, up_c (by decide)]; exact f2 i hi) ?_ (fun i hi => ?_))))
      · rw [up_s, up_c (by decide), f3, popn_s, hb]
        rfl
      · rw [popn_s, hb] at hi
        have hi' : i < popn k j + 1 := hi
        rw [up_c (by decide), up_k, es, if_pos rfl, List.getD_eq_getElem?_getD]
        by_cases hip : i = popn k j
        · subst hip
          rw [if_pos rfl, List.getElem?_append_right (by omega), hml, Nat.sub_self]
          rfl
        · rw [if_neg hip, List.getElem?_append_left (by omega), ← List.getD_eq_getElem?_getD]
          exact f4 i (by omega)
theorem lf_gather {k np : Nat} {M : Mem} {Q : Mem → Prop} (hnp : M 2 1 = (np : Int)) (hnp12 : np ≤ 12) (hk : k < 2 ^ np) (hQ : ∀ M' : Mem, (∀ a, a ≠ 103 → a ≠ 104 → M' a = M a) → (∀ j, j ≠ 4 → j ≠ 5 → j ≠ 6 → j ≠ 7 → j ≠ 8 → M' 103 j = M 103 j) → M' 103 4 = (k : Int) → M' 103 5 = (pop k : Int) → M' 103 6 = 0 → M' 103 7 = 0 → M' 103 8 = 0 → (∀ i, i < pop k → M' 104 i = ((mems k 12).getD i 0 : Nat)) → Q M') : wX6_gather 103 (k : Int) M Q := by
  have e1 : popn k np = pop k := by
    have := popn_zero hk (12 - np)
    rw [show np + (12 - np) = 12 by omega] at this
    exact this.symm
  have e2 : mems k np = mems k 12 := by
    have := mems_ext hk (12 - np)
    rw [show np + (12 - np) = 12 by omega] at this
    exact this.symm
  unfold wX6_gather
  refine LET_i (LET_i (LET_i (LET_i (LET_i ?_))))
  generalize hM1 : up (up (up (up (up M 103 4 (k : Int)) 103 5 0) 103 6 0) 103 7 0) 103 8 0 = M1
  have E : ∀ a, a ≠ 103 → M1 a = M a := fun a ha => by subst hM1; simp (disch := omega) only [up_c]
  have E2 : ∀ j, j ≠ 4 → j ≠ 5 → j ≠ 6 → j ≠ 7 → j ≠ 8 → M1 103 j = M 103 j := fun j _ _ _ _ _ => by subst hM1; simp (disch := omega) only [up_kn]
  have x4 : M1 103 4 = (k : Int) := by subst hM1; simp (disch := omega) only [up_kn, up_s]
  have x5 : M1 103 5 = 0 := by subst hM1; simp (disch := omega) only [up_kn, up_s]
  have x6 : M1 103 6 = 0 := by subst hM1; simp (disch := omega) only [up_kn, up_s]
  have x7 : M1 103 7 = 0 := by subst hM1; simp (disch := omega) only [up_kn, up_s]
  have x8 : M1 103 8 = 0 := by subst hM1; simp (disch := omega) only [up_s]
  clear hM1
  refine ⟨np + 1, ga_L (k := k) (np := np) (by rw [E 2 (by decide)]; exact hnp) hnp12 hk x4 (fun M' f1 f2 f3 f4 => hQ M' (fun a q1 q2 => by rw [f1 a q1 q2, E a q1]) (fun j q1 q2 q3 q4 q5 => by rw [f2 j q2, E2 j q1 q2 q3 q4 q5]) (by rw [f2 4 (by decide)]; exact x4) (by rw [f3, e1]) (by rw [f2 6 (by decide)]; exact x6) (by rw [f2 7 (by decide)]; exact x7) (by rw [f2 8 (by decide)]; exact x8) fun i hi => by rw [f4 i (by rw [e1]; exact hi), e2]) np 0 M1 _ (by omega) rfl (fun _ _ _ => rfl) (fun _ _ => rfl) x5 (fun i hi => by simp [popn] at hi)⟩
/-- all intervals -/
theorem fi_L {z : Fl} {k nl : Nat} {M0 : Mem} {Q : Mem → Prop} {E : Mem → Prop} (hz : ZOk z) (hk : k < 2 ^ 12) (hnl : z 1 = (nl : Int)) (h1 : 1 ≤ pop k) (h6 : pop k ≤ 6) (hkz : ∀ x ∈ mems k 12, (x : Int) < z 0) (hQ : ∀ M', (∀ a, ¬ (91 ≤ a ∧ a ≤ 102) → a ≠ 103 → a ≠ 105 → a ≠ 106 → M' a = M0 a) → (∀ j, (j < 6 ∨ 9 < j) → M' 103 j = M0 103 j) → WzOk M' → SrHas z k M' → E M') : ∀ (m v : Nat) (M : Mem) (x3 : Int), v + m = pop k → x3 = (v : Int) → CB z M → WzOk M → (∀ a, ¬ (91 ≤ a ∧ a ≤ 102) → a ≠ 103 → a ≠ 105 → a ≠ 106 → M a = M0 a) → (∀ j, (j < 6 ∨ 9 < j) → M 103 j = M0 103 j) → M 103 5 = (pop k : Int) → M 103 4 = (k : Int) → (∀ i, i < pop k → M 104 i = ((mems k 12).getD i 0 : Nat)) → SR z (pop k) (((List.range v).flatMap fun v => dl (goodb z v (pop k)) v (mems k 12) (pop k) []).reverse) (M 103 6) (M 103 7) (M 103 8) (M 103 9) (M 105 2) (M 106) → wX6_find_L31 Q E 103 (bits (isOn z) nl) (m + 1) x3 M
  | 0, v, M, x3, hv, h3, hc, hw, f1, f2, f3, f4, f5, f6 => by
    subst h3
    obtain rfl : v = pop k := by omega
    unfold wX6_find_L31
    rw [f3]
    refine BR_t (Int.le_refl _) (hQ M f1 f2 hw ⟨f3, f5, f6.perm ?_⟩)
    exact (List.reverse_perm _).trans (cands_dl h1).symm
  | m + 1, v, M, x3, hv, h3, hc, hw, f1, f2, f3, f4, f5, f6 => by
    subst h3
    have hz2 := hz.2.1
    have hmem : ∀ (d : Cand) (u : Nat), u < pop k → d ∈ dl (goodb z u (pop k)) u (mems k 12) (pop k) [] → d ∈ cands z k := fun d u hu hd => (cands_dl h1).mem_iff.mpr (List.mem_flatMap.mpr ⟨u, List.mem_range.mpr hu, hd⟩)
    unfold wX6_find_L31
    rw [f3, bm_nat (n := pop k) (by omega), bm_nat (n := v) (by omega)]
    refine BR_f (by omega) (lf_start (by omega) fun M1 s1 s2 s3 s4 => ?_)
    have hc1 : CB z M1 := hc.congr hz fun a ha => s4 a (by omega)
    have hw1 : WzOk M1 := hw.congr fun a q1 q2 => s4 a (by omega)
    have hg1 : GS z k (pop k) v (bits (isOn z) nl) (mems k 12) (((List.range v).flatMap fun v => dl (goodb z v (pop k)) v (mems k 12) (pop k) []).reverse) M1 := ⟨hc1, s1, s2, s3, by rw [s4 103 (by decide)]; exact f3, by rw [s4 103 (by decide)]; exact f4, fun i hi => by rw [s4 104 (by decide)]; exact f5 i hi, by rw [s4 103 (by decide), s4 105 (by decide), s4 106 (by decide)]; exact f6⟩
    have hlen := cands_len (z := z) h6
    rw [(cands_dl (z := z) h1).length_eq] at hlen
    have hpre : ∀ (w : Nat), w < pop k → ((List.range w).flatMap fun v => dl (goodb z v (pop k)) v (mems k 12) (pop k) []).length + (dl (goodb z w (pop k)) w (mems k 12) (pop k) []).length ≤ 46656 * 6 := by
      intro w hw
      have e : (List.range (pop k)) = List.range w ++ (w :: (List.range (pop k)).drop (w + 1)) := by
        have h1 := (List.take_append_drop w (List.range (pop k))).symm
        rw [List.drop_eq_getElem_cons (by rw [List.length_range]; exact hw), List.getElem_range] at h1
        rw [List.take_range, Nat.min_eq_left (by omega)] at h1
        exact h1
      rw [e, List.flatMap_append, List.flatMap_cons, List.length_append, List.length_append] at hlen
      omega
    unfold wX6_goOnGood
    refine gg_all hz hk hnl (by omega) (by omega) (by rw [mems_len]; rfl) hkz (pop k) 0 8 (by omega) (by omega) (fun _ => 0) M1 _ _ (fun q hq => by omega) (RowAt.zero hw1) (SumAt.zero hz hw1) hg1 (fun d hd => ?_) (fun d hd => (cands_ok hk (hmem d v (by omega) hd)).1) ?_ (fun M2 fj ff hg2 => LET_i ?_)
    · rw [List.mem_reverse, List.mem_flatMap] at hd
      obtain ⟨u, hu, hd⟩ := hd
      have hu' := List.mem_range.mp hu
      exact ⟨(cands_ok hk (hmem d u (by omega) hd)).1, by rw [dl_v hd]; omega⟩
    · rw [List.length_reverse]
      have := hpre v (by omega)
      exact Nat.lt_of_le_of_lt this (by decide)
    · obtain ⟨g1, g2, g3, g4, g5, g6, g7, g8⟩ := hg2
      refine fi_L hz hk hnl h1 h6 hkz hQ m (v + 1) M2 _ (by omega) (by omega) g1 (hw1.frj fj) (fun a q1 q2 q3 q4 => by rw [ff.1 a (by omega) q2 q3 q4, s4 a (by omega), f1 a q1 q2 q3 q4]) (fun j hj => by rw [ff.2 j hj, s4 103 (by decide), f2 j hj]) g5 g6 g7 ?_
      rw [List.range_succ, List.flatMap_append, List.reverse_append]
      rw [show rl (fun _ => 0) 0 = [] from rfl] at g8
      simpa using g8
/-- the invariant behind a search -/
theorem Inv.se {t : Int} {M M' : Mem} (hI : Inv t M) (h : ∀ a, ¬ (87 ≤ a ∧ a ≤ 107) → ¬ (111 ≤ a ∧ a ≤ 113) → a ≠ 116 → a ≠ 125 → ¬ (129 ≤ a ∧ a ≤ 142) → a ≠ 147 → M' a = M a) (h13 : M' 103 13 = M 103 13) (h2 : M' 125 2 = M 125 2) (h33 : M' 125 33 = M 125 33) (hw : WzOk M') (hse : SeOk (vw (M 126)) M') : Inv t M' := by
  obtain ⟨i1, i2, i3, i4, i5, i6, i7, i8, i9, i10⟩ := hI
  have e : ∀ a, ¬ (87 ≤ a ∧ a ≤ 107) → ¬ (111 ≤ a ∧ a ≤ 113) → a ≠ 116 → a ≠ 125 → ¬ (129 ≤ a ∧ a ≤ 142) → a ≠ 147 → M' a = M a := h
  have e126 : M' 126 = M 126 := e _ (by omega) (by omega) (by omega) (by omega) (by omega) (by omega)
  refine ⟨by rw [e126]; exact i1, ?_, ?_, ?_, ?_, ?_, ?_, by rw [e126]; exact hse, ?_, hw⟩
  · rw [e126]
    exact i2.congr i1.1 (fun a q1 q2 => e a (by omega) (by omega) (by omega) (by omega) (by omega) (by omega))
  · exact i3.congr (e 1 (by omega) (by omega) (by omega) (by omega) (by omega) (by omega)) (e 0 (by omega) (by omega) (by omega) (by omega) (by omega) (by omega)) h2 (e 127 (by omega) (by omega) (by omega) (by omega) (by omega) (by omega)) (fun a _ _ q => e a (by omega) (by omega) (by omega) (by omega) (by omega) (by omega))
  · exact i4.congr (by rw [e 1 (by omega) (by omega) (by omega) (by omega) (by omega) (by omega)]) (e 0 (by omega) (by omega) (by omega) (by omega) (by omega) (by omega)) h13 (by rw [e 108 (by omega) (by omega) (by omega) (by omega) (by omega) (by omega)])
  · exact i5.congr (fun a q1 q2 => e a (by omega) (by omega) (by omega) (by omega) (by omega) (by omega)) (e 144 (by omega) (by omega) (by omega) (by omega) (by omega) (by omega)) (e 145 (by omega) (by omega) (by omega) (by omega) (by omega) (by omega)) (e 146 (by omega) (by omega) (by omega) (by omega) (by omega) (by omega))
  · exact i6.congr (by rw [e 114 (by omega) (by omega) (by omega) (by omega) (by omega) (by omega)]) h33 (e 115 (by omega) (by omega) (by omega) (by omega) (by omega) (by omega)) (e 143 (by omega) (by omega) (by omega) (by omega) (by omega) (by omega))
  · intro j
    rw [e 86 (by omega) (by omega) (by omega) (by omega) (by omega) (by omega), e 128 (by omega) (by omega) (by omega) (by omega) (by omega) (by omega)]
    exact i7 j
  · rw [e126]
    exact i9.congr (fun j _ => by rw [e 108 (by omega) (by omega) (by omega) (by omega) (by omega) (by omega)]) (e 109 (by omega) (by omega) (by omega) (by omega) (by omega) (by omega))
/-- what find leaves -/
def Fnd (M M' : Mem) : Prop := (∀ a, ¬ (91 ≤ a ∧ a ≤ 106) → M' a = M a) ∧ M' 103 13 = M 103 13
theorem lf_find {z : Fl} {M : Mem} {k : Nat} {Q : Mem → Prop} (hz : ZOk z) (hcb : CB z M) (hw : WzOk M) (hse : SeOk z M) (hk : setIn z k 6) (hQ : ∀ M', Fnd M M' → WzOk M' → M' 103 3 ≠ 0 → isB (M' 103 3) → M' 103 4 = (k : Int) → SrHas z k M' → Q M') : wX6_find 103 (k : Int) M Q := by
  have hz0 := hz.1
  obtain ⟨nl, hnl⟩ : ∃ nl : Nat, z 1 = (nl : Int) := ⟨(z 1).toNat, by have := hz.2.1; omega⟩
  obtain ⟨np, hnp⟩ : ∃ np : Nat, z 0 = (np : Int) := ⟨(z 0).toNat, by omega⟩
  obtain ⟨k1, k2, k3⟩ := hk
  rw [hnp, Int.toNat_natCast] at k1
  have hk12 : k < 2 ^ 12 := Nat.lt_of_lt_of_le k1 (p2le (by omega))
  have h16 : wX6_find_J16 Q 103 (k : Int) M := by
    unfold wX6_find_J16
    refine lf_gather (by rw [hcb.1]; exact hnp) (by omega) k1 fun M1 a1 a2 a3 a4 a5 a6 a7 a8 => ?_
    have hcb1 : CB z M1 := hcb.congr hz fun a ha => a1 a (by omega) (by omega)
    have hw1 : WzOk M1 := hw.congr fun a q1 q2 => a1 a (by omega) (by omega)
    have hon : ∀ l, l < nl → M1 (2 + 21 + 2 * l) 4 = if isOn z l then 1 else 0 := fun l hl => by
      have hz1 := hz.2.1
      rw [a1 _ (by omega) (by omega), (hcb.2.2.2.2.2.1 l (by omega)).2.2.2.2.1]
      unfold isOn
      rcases (hz.2.2.2.2.2.1 l (by omega)).2.2.2.1 with h | h <;> rw [h] <;> rfl
    refine ⟨nl + 1, lf_on_L (f := isOn z) (by rw [hcb1.2.1, hnl]) (by have := hz.2.1; omega) hon ?_ nl 0 _ _ (by omega) rfl rfl⟩
    have hmz : ∀ x ∈ mems k 12, (x : Int) < z 0 := fun x hx => by
      have hb := (mem_mems.mp hx).2
      rw [hnp]
      rcases Nat.lt_or_ge x np with h | h
      · omega
      · rw [tb_big k1 h] at hb
        cases hb
    refine ⟨pop k + 1, fi_L hz hk12 hnl k2 k3 hmz (fun M2 b1 b2 b3 b4 => LET_i (hQ _ ⟨fun a ha => ?_, ?_⟩ ?_ ?_ ?_ ?_ ?_)) (pop k) 0 M1 _ (by omega) rfl hcb1 hw1 (fun _ _ _ _ _ => rfl) (fun _ _ => rfl) a4 a3 a8 ?_⟩
    · rw [up_c (by omega), b1 a (by omega) (by omega) (by omega) (by omega), a1 a (by omega) (by omega)]
    · rw [up_kn (by decide), b2 13 (by decide), a2 13 (by decide) (by decide) (by decide) (by decide) (by decide)]
    · exact b3.congr fun a q1 q2 => up_c (by omega)
    · rw [up_s]
      decide
    · rw [up_s]
      exact isB1
    · rw [up_kn (by decide), b2 4 (by decide)]
      exact a3
    · exact b4.congr (fun j q1 q2 => up_kn q1) (up_c (by decide)) (up_c (by decide)) (up_c (by decide))
    · rw [a5, a6, a7]
      exact SR.nil
  unfold wX6_find
  obtain ⟨se1, se2⟩ := hse
  have hkb : bm (k : Int) = (k : Int) := bm_nat (by omega)
  rcases se1 with h0 | h0
  · rw [h0]
    exact BR_t bm0 h16
  · obtain ⟨k', e1, e2, e3⟩ := se2 (by rw [h0]; decide)
    have hk'12 : k' < 2 ^ 12 := Nat.lt_of_lt_of_le e2.1 (p2le (by rw [hnp, Int.toNat_natCast]; omega))
    rw [h0, e1, hkb, bm_nat (n := k') (by omega)]
    refine BR_f q1 (BR_i (fun h => ?_) (fun _ => h16))
    obtain rfl : k' = k := by omega
    exact hQ M ⟨fun _ _ => rfl, rfl⟩ hw (by rw [h0]; decide) (by rw [h0]; exact isB1) e1 e3
