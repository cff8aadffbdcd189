/-! THE REFERENCE GOES THROUGH ALL ROWS -/
theorem fo_L {k : Nat} {M0 : Mem} {Q : Mem → Prop} (hk : k < 2 ^ 12) (hQ : ∀ M' : Mem, (∀ a, a ≠ 125 → a ≠ 132 → M' a = M0 a) → (∀ j, j ≠ 13 → M' 125 j = M0 125 j) → M' 125 13 = (pop k : Int) → (∀ i, i < pop k → M' 132 i = ((mems k 12).getD i 0 : Nat)) → Q M') : ∀ (m j : Nat) (M : Mem) (x2 : Int), j + m = 12 → x2 = (j : Int) → (∀ a, a ≠ 125 → a ≠ 132 → M a = M0 a) → (∀ i, i ≠ 13 → M 125 i = M0 125 i) → M 125 13 = (popn k j : Int) → (∀ i, i < popn k j → M 132 i = ((mems k j).getD i 0 : Nat)) → wX12_firstOrder_L7 Q 125 (k : Int) (m + 1) x2 M
  | 0, j, M, x2, hj, h2, f1, f2, f3, f4 => by
    subst h2
    obtain rfl : j = 12 := by omega
    unfold wX12_firstOrder_L7
    exact BR_t (by decide +kernel) (hQ M f1 f2 f3 f4)
  | m + 1, j, M, x2, hj, h2, f1, f2, f3, f4 => by
    subst h2
    have hpl := popn_le k j
    have hml := mems_len k j
    have es : mems k (j + 1) = mems k j ++ (if k.testBit j = true then [j] else []) := rfl
    unfold wX12_firstOrder_L7
    rw [bm_nat (n := j) (by omega), shr_bit hk (by omega)]
    refine BR_f (by omega) ?_
    cases hb : k.testBit j
    · rw [hb] at es
      rw [if_neg (by decide)]
      refine BR_f (by decide +kernel) (LET_i (fo_L hk hQ m (j + 1) M _ (by omega) (by omega) f1 f2 ?_ ?_))
      · rw [popn_s, hb]
        exact f3
      · rw [popn_s, hb, es]
        simpa using f4
    · rw [hb] at es
      rw [if_pos rfl]
      refine BR_t (by decide +kernel) ⟨by rw [f3]; exact inb_of rfl (by omega) (by decide), ?_⟩
      rw [f3, wr_up (n := popn k j) rfl (by omega), show (125 : Nat) + 7 = 132 from rfl]
      refine LET_i (LET_i (LET_i (fo_L hk hQ m (j + 1) _ _ (by omega) (by omega) (fun a q1 q2 => by rw [up_c q1, up_c q2]; exact f1 a q1 q2) (fun i hi => by rw [up_kn hi, up_c (by decide)]; exact f2 i hi) ?_ (fun i hi => ?_))))
      · rw [up_s, up_c (by decide), f3, popn_s, hb]
        rfl
      · rw [popn_s, hb] at hi
        have hi' : i < popn k j + 1 := hi
        rw [up_c (by decide), up_k, es, if_pos rfl, List.getD_eq_getElem?_getD]
        by_cases hip : i = popn k j
        · subst hip
          rw [if_pos rfl, List.getElem?_append_right (by omega), hml, Nat.sub_self]
          rfl
        · rw [if_neg hip, List.getElem?_append_left (by omega), ← List.getD_eq_getElem?_getD]
          exact f4 i (by omega)
theorem mf_firstOrder {k : Nat} {M : Mem} {Q : Mem → Prop} (hk : k < 2 ^ 12) (hQ : ∀ M' : Mem, (∀ a, a ≠ 125 → a ≠ 132 → M' a = M a) → (∀ j, j ≠ 13 → M' 125 j = M 125 j) → M' 125 13 = (pop k : Int) → (∀ i, i < pop k → M' 132 i = ((mems k 12).getD i 0 : Nat)) → Q M') : wX12_firstOrder 125 (k : Int) M Q := by
  unfold wX12_firstOrder
  refine LET_i ⟨12 + 1, fo_L hk (fun M' f1 f2 f3 f4 => hQ M' (fun a q1 q2 => by rw [f1 a q1 q2, up_c q1]) (fun j hj => by rw [f2 j hj, up_kn hj]) f3 f4) 12 0 _ _ rfl rfl (fun _ _ _ => rfl) (fun _ _ => rfl) (up_s _ _ _ _) (fun i hi => by simp [popn] at hi)⟩
theorem zb_L {M0 : Mem} {x1 : Int} {Q : Mem → Prop} {E : Mem → Prop} (hQ : ∀ M' : Mem, (∀ a, a ≠ 138 → M' a = M0 a) → (∀ j, j < 1024 → M' 138 j = 0) → E M') : ∀ (m j : Nat) (M : Mem) (x2 : Int), j + m = 1024 → x2 = (j : Int) → (∀ a, a ≠ 138 → M a = M0 a) → (∀ i, i < j → M 138 i = 0) → wX12_seesAll_L12 Q E 125 x1 (m + 1) x2 M
  | 0, j, M, x2, hj, h2, f1, f2 => by
    subst h2
    obtain rfl : j = 1024 := by omega
    unfold wX12_seesAll_L12
    exact BR_t (by decide +kernel) (hQ M f1 f2)
  | m + 1, j, M, x2, hj, h2, f1, f2 => by
    subst h2
    unfold wX12_seesAll_L12
    rw [bm_nat (n := j) (by omega), wr_up (n := j) rfl (by omega), show (125 : Nat) + 13 = 138 from rfl]
    refine BR_f (by omega) ⟨inb_of rfl (by omega) (by decide), LET_i (LET_i (zb_L hQ m (j + 1) _ _ (by omega) (by omega) (fun a ha => by rw [up_c ha]; exact f1 a ha) fun i hi => ?_))⟩
    by_cases hij : i = j
    · subst hij
      rw [up_s]
    · rw [up_kn hij]
      exact f2 i (by omega)
theorem ck_tail {n : Nat} {a : List Nat} : ∀ {l : List (List Nat)}, ck n (a :: l) = true → ck n l = true
  | [], _ => rfl
  | b :: l, h => by
    have h' : ((match nx' n fun k => a.getD k 0 with
      | some g => (List.range n).all fun k => g k == b.getD k 0
      | none => false) && ck n (b :: l)) = true := h
    rw [Bool.and_eq_true] at h'
    exact h'.2
theorem ck_app {n : Nat} : ∀ {l m : List (List Nat)}, ck n (l ++ m) = true → ck n m = true
  | [], _, h => h
  | _ :: l, m, h => ck_app (l := l) (ck_tail h)
theorem ck_one {n : Nat} {a : List Nat} (h : ck n [a] = true) : nx' n (fun k => a.getD k 0) = none := by
  have h' : (nx' n fun k => a.getD k 0).isNone = true := h
  exact Option.isNone_iff_eq_none.mp h'
theorem ck_two {n : Nat} {a b : List Nat} {l : List (List Nat)} (h : ck n (a :: b :: l) = true) : ∃ g, nx' n (fun k => a.getD k 0) = some g ∧ ∀ k, k < n → g k = b.getD k 0 := by
  have h' : ((match nx' n fun k => a.getD k 0 with
      | some g => (List.range n).all fun k => g k == b.getD k 0
      | none => false) && ck n (b :: l)) = true := h
  rw [Bool.and_eq_true] at h'
  have h1 := h'.1
  cases hn : nx' n fun k => a.getD k 0 with
  | none =>
    rw [hn] at h1
    cases h1
  | some g =>
    rw [hn] at h1
    have h1' : ((List.range n).all fun k => g k == b.getD k 0) = true := h1
    exact ⟨g, rfl, fun k hk => eq_of_beq (List.all_eq_true.mp h1' k (List.mem_range.mpr hk))⟩
theorem rl_list {r : Nat → Nat} {n : Nat} {l : List Nat} (hl : l.length = n) (h : ∀ i, i < n → l.getD i 0 = r i) : (rl r n).reverse = l := by
  have hlen : (rl r n).reverse.length = n := by rw [List.length_reverse, rl_len]
  refine List.ext_getElem (by omega) fun i h1 h2 => ?_
  have e1 := rl_get (r := r) (n := n) (i := i) (by omega)
  have e2 := h i (by omega)
  rw [List.getD_eq_getElem?_getD, List.getElem?_eq_getElem h1] at e1
  rw [List.getD_eq_getElem?_getD, List.getElem?_eq_getElem h2] at e2
  exact Eq.trans e1 e2.symm
/-- what a search of the reference leaves -/
def FrQ (M M' : Mem) : Prop := (∀ a, a ≠ 125 → ¬ (129 ≤ a ∧ a ≤ 138) → M' a = M a) ∧ ∀ j, (j < 13 ∨ 23 < j) → M' 125 j = M 125 j
theorem FrQ.rf {M : Mem} : FrQ M M := ⟨fun _ _ _ => rfl, fun _ _ => rfl⟩
theorem FrQ.tr {M M' M'' : Mem} (h : FrQ M M') (h' : FrQ M' M'') : FrQ M M'' := ⟨fun a q1 q2 => by rw [h'.1 a q1 q2, h.1 a q1 q2], fun j hj => by rw [h'.2 j hj, h.2 j hj]⟩
theorem FrO.q {M M' : Mem} (h : FrO M M') : FrQ M M' := ⟨fun a q1 q2 => h.1 a q1 (by omega) (by omega), fun j hj => h.2 j (by omega)⟩
theorem FrQ.scr {M M' : Mem} (h : FrQ M M') : Scr M M' := ⟨fun a _ _ _ _ q5 q6 _ => h.1 a q5 (by omega), h.2 2 (by decide), h.2 33 (by decide)⟩
theorem sv_L {z : Fl} {n : Nat} {r : Nat → Nat} {As0 : List Cand} {M0 : Mem} {Q : Mem → Prop} {E : Mem → Prop} (hz : ZOk z) (hn12 : n ≤ 6) (hr : RowPs z r n) (hi : Inj r n) (hl : ∀ d ∈ As0, d.1.length = n ∧ ∀ i, i < n → d.1.getD i 0 < 12) (hlt : ∀ d ∈ As0, lexLt d.1 (rl r n).reverse) (hlen : As0.length < 900000)
    (hQ : ∀ M', FrQ M0 M' → M' 132 = M0 132 → M' 125 13 = (n : Int) → RS z n (((List.range n).map fun v => ((rl r n).reverse, v)).reverse ++ As0) M' → E M') : ∀ (m v : Nat) (M : Mem) (x3 : Int), v + m = n → x3 = (v : Int) → MB z M → M 125 13 = (n : Int) → (∀ i, i < n → M 132 i = (r i : Int)) → FrQ M0 M → M 132 = M0 132 → RS z n (((List.range v).map fun v => ((rl r n).reverse, v)).reverse ++ As0) M → wX12_seesAll_L45 Q E 125 (m + 1) x3 M
  | 0, v, M, x3, hv, h3, hb, h13, h132, fq, f132, hS => by
    subst h3
    obtain rfl : v = n := by omega
    unfold wX12_seesAll_L45
    rw [h13]
    exact BR_t (Int.le_refl _) (hQ M fq f132 h13 hS)
  | m + 1, v, M, x3, hv, h3, hb, h13, h132, fq, f132, hS => by
    subst h3
    have hz0 := hz.1
    unfold wX12_seesAll_L45
    rw [h13, bm_nat (n := n) (by omega), bm_nat (n := v) (by omega)]
    refine BR_f (by omega) (LET_i ?_)
    have q1 : FrQ M (up M 125 14 (v : Int)) := ⟨fun a q1 _ => up_c q1, fun j hj => up_kn (by omega)⟩
    have hR : RB v n r (up M 125 14 (v : Int)) := ⟨by rw [up_kn (by decide)]; exact h13, up_s _ _ _ _, fun i hi => by rw [up_c (by decide)]; exact h132 i hi⟩
    have hS1 : RS z n (((List.range v).map fun v => ((rl r n).reverse, v)).reverse ++ As0) (up M 125 14 (v : Int)) := hS.congr (up_c (by decide)) (up_c (by decide)) (up_c (by decide)) fun j q1 q2 => up_kn (by omega)
    refine mf_seesOne hz (hb.congr (up_c (by decide))) hR (by omega) (by omega) hr hi hS1 (fun d hd => ?_) (fun d hd => ?_) (fun d hd => ?_) ?_ (fun M2 fo hS2 => LET_i ?_)
    · rcases List.mem_append.mp hd with h | h
      · rw [List.mem_reverse, List.mem_map] at h
        obtain ⟨u, _, rfl⟩ := h
        show (rl r n).reverse.length = n
        rw [List.length_reverse, rl_len]
      · exact (hl d h).1
    · rcases List.mem_append.mp hd with h | h
      · rw [List.mem_reverse, List.mem_map] at h
        obtain ⟨u, _, rfl⟩ := h
        intro i hi
        show (rl r n).reverse.getD i 0 < 12
        rw [rl_get hi]
        have := hr i hi
        omega
      · exact (hl d h).2
    · rcases List.mem_append.mp hd with h | h
      · rw [List.mem_reverse, List.mem_map] at h
        obtain ⟨u, hu, rfl⟩ := h
        exact Or.inr ⟨rfl, List.mem_range.mp hu⟩
      · exact Or.inl (hlt d h)
    · rw [List.length_append, List.length_reverse, List.length_map, List.length_range]
      omega
    · have e132 : M2 132 = M 132 := by rw [fo.1 132 (by decide) (by decide) (by decide), up_c (by decide)]
      refine sv_L hz hn12 hr hi hl hlt hlen hQ m (v + 1) M2 _ (by omega) (by omega) ((hb.congr (up_c (by decide))).fro fo) (by rw [fo.2 13 (by decide), up_kn (by decide)]; exact h13) (fun i hi => by rw [e132]; exact h132 i hi) (fq.tr (q1.tr fo.q)) (by rw [e132, f132]) ?_
      rw [List.range_succ, List.map_append, List.reverse_append]
      simpa using hS2
/-- all rows of a set -/
def allk (k : Nat) : List Cand := (ords (pop k) (mems k 12)).flatMap fun r => (List.range (pop k)).map fun v => (r, v)
theorem cands_allk (z : Fl) (k : Nat) : cands z k = (allk k).filter (gdc z (pop k)) := rfl
def ordE (k : Nat) (a : List Nat) : List Nat := a.map fun i => (mems k 12).getD i 0
theorem ordE_len (k : Nat) (a : List Nat) : (ordE k a).length = a.length := List.length_map ..
theorem ordE_get {k i : Nat} {a : List Nat} (h : i < a.length) : (ordE k a).getD i 0 = (mems k 12).getD (a.getD i 0) 0 := by
  unfold ordE
  rw [List.getD_eq_getElem?_getD, List.getElem?_map, List.getElem?_eq_getElem h, List.getD_eq_getElem?_getD (l := a), List.getElem?_eq_getElem h]
  rfl
/-- the row of an order -/
def rowE (k : Nat) (a : List Nat) : Nat → Nat := fun i => (mems k 12).getD (a.getD i 0) 0
def seenE (k : Nat) (T : List (List Nat)) : List Cand := (T.map (ordE k)).flatMap fun r => (List.range (pop k)).map fun v => (r, v)
theorem sa_V {z : Fl} {k : Nat} {T T1 : List (List Nat)} {a : List Nat} {M : Mem} {Q : Mem → Prop} {E : Mem → Prop} (hz : ZOk z) (hk : k < 2 ^ 12) (hkz : ∀ x ∈ mems k 12, (x : Int) < z 0) (h6 : pop k ≤ 6) (hT : ords (pop k) (List.range (pop k)) = T1 ++ a :: T) (hb : MB z M) (h13 : M 125 13 = (pop k : Int)) (h132 : ∀ i, i < pop k → M 132 i = (rowE k a i : Int)) (hS : RS z (pop k) (seenE k T1).reverse M)
    (hQ : ∀ M', FrQ M M' → M' 125 13 = (pop k : Int) → (∀ i, i < pop k → M' 132 i = (rowE k a i : Int) ∧ rowE k a i < 12) → RS z (pop k) (seenE k (T1 ++ [a])).reverse M' → E M') : ∃ N, wX12_seesAll_L45 Q E 125 N 0 M := by
  have hz0 := hz.1
  have hmemA : ∀ b, b ∈ T1 ++ a :: T → b.length = pop k ∧ ∀ i, i < pop k → b.getD i 0 < pop k := fun b hb => ords_rng (by rw [hT]; exact hb)
  have haA := hmemA a (List.mem_append_right _ List.mem_cons_self)
  have hml : (mems k 12).length = pop k := mems_len k 12
  have hoE : ∀ b, b ∈ T1 ++ a :: T → ordE k b ∈ ords (pop k) (mems k 12) := fun b hb => by
    rw [ords_mems k, hT]
    exact List.mem_map.mpr ⟨b, hb, rfl⟩
  have hpo : ∀ b, b ∈ T1 ++ a :: T → POk k (pop k) (ordE k b) := fun b hb => POk.of hk (ords_perm hml (hoE b hb))
  have hpa := hpo a (List.mem_append_right _ List.mem_cons_self)
  have hre : ∀ i, i < pop k → (ordE k a).getD i 0 = rowE k a i := fun i hi => ordE_get (by rw [haA.1]; exact hi)
  have erl : (rl (rowE k a) (pop k)).reverse = ordE k a := rl_list hpa.1 hre
  have hpw : (T1.map (ordE k) ++ (a :: T).map (ordE k)).Pairwise lexLt := by
    have h := ords_pw (n := pop k) (mems_pw k 12)
    rw [ords_mems k, hT, List.map_append] at h
    exact h
  have r12 : ∀ i, i < pop k → rowE k a i < 12 := fun i hi => by
    rw [← hre i hi]
    exact hpa.lt12 hk hi
  have hr : RowPs z (rowE k a) (pop k) := fun i hi => by
    have hx := (hpa.2.2 ((ordE k a).getD i 0)).mpr ⟨i, hi, rfl⟩
    rw [← hre i hi]
    exact hkz _ (mem_mems.mpr ⟨hpa.lt12 hk hi, hx⟩)
  have hinj : Inj (rowE k a) (pop k) := fun i j hi hj he => hpa.2.1 i j hi hj (by rw [hre i hi, hre j hj]; exact he)
  have hAslen : (allk k).length ≤ 46656 * 6 := by
    unfold allk
    refine Nat.le_trans (fm_len (b := 6) fun r _ => by rw [List.length_map, List.length_range]; exact h6) (Nat.mul_le_mul_right 6 ?_)
    exact Nat.le_trans (ords_len (pop k) (mems k 12) (pop k) (Nat.le_of_eq hml)) (pw6 h6)
  have hsplit : (seenE k T1).length ≤ (allk k).length := by
    have e : allk k = seenE k T1 ++ seenE k (a :: T) := by
      unfold allk seenE
      rw [ords_mems k, hT, List.map_append, List.flatMap_append]
      rfl
    rw [e, List.length_append]
    omega
  have hsee : ∀ d : Cand, d ∈ (seenE k T1).reverse → ∃ b ∈ T1, d.1 = ordE k b := fun d hd => by
    unfold seenE at hd
    rw [List.mem_reverse, List.mem_flatMap] at hd
    obtain ⟨r, hr, hd⟩ := hd
    rw [List.mem_map] at hr hd
    obtain ⟨b, hb, rfl⟩ := hr
    obtain ⟨v, _, rfl⟩ := hd
    exact ⟨b, hb, rfl⟩
  refine ⟨pop k + 1, sv_L hz h6 hr hinj (As0 := (seenE k T1).reverse) (M0 := M) (fun d hd => ?_) (fun d hd => ?_) ?_ (fun M1 fq1 f132 g13 hS1 => hQ M1 fq1 g13 (fun i hi => ⟨by rw [f132]; exact h132 i hi, r12 i hi⟩) ?_) (pop k) 0 M _ (by omega) rfl hb h13 h132 FrQ.rf rfl ?_⟩
  · obtain ⟨b, hb, e⟩ := hsee d hd
    have hp := hpo b (List.mem_append_left _ hb)
    rw [e]
    exact ⟨hp.1, fun i hi => hp.lt12 hk hi⟩
  · obtain ⟨b, hb, e⟩ := hsee d hd
    rw [e, erl]
    rw [List.pairwise_append] at hpw
    exact hpw.2.2 _ (List.mem_map.mpr ⟨b, hb, rfl⟩) _ (List.mem_map.mpr ⟨a, List.mem_cons_self, rfl⟩)
  · rw [List.length_reverse]
    exact Nat.lt_of_le_of_lt (Nat.le_trans hsplit hAslen) (by decide)
  · rw [erl] at hS1
    have e : (seenE k (T1 ++ [a])).reverse = ((List.range (pop k)).map fun v => (ordE k a, v)).reverse ++ (seenE k T1).reverse := by
      unfold seenE
      rw [List.map_append, List.flatMap_append, List.reverse_append]
      congr 1
      simp
    rw [e]
    exact hS1
  · simpa using hS
theorem sa_next {k : Nat} {a : List Nat} {n : Nat} (hn : n = pop k) (h1 : 1 ≤ n) (ha : ∀ i, i < n → a.getD i 0 < n) : nx' n (rowE k a) = (nx' n fun i => a.getD i 0).map fun g i => (mems k 12).getD (g i) 0 := by
  subst hn
  exact nx_map (F := fun i => (mems k 12).getD i 0) h1 (mems_mono k) ha
theorem sa_O {z : Fl} {k : Nat} {M0 : Mem} {Q : Mem → Prop} (hz : ZOk z) (hk : k < 2 ^ 12) (hkz : ∀ x ∈ mems k 12, (x : Int) < z 0) (h1 : 1 ≤ pop k) (h6 : pop k ≤ 6) (hQ : ∀ M', FrQ M0 M' → M' 125 13 = (pop k : Int) → RS z (pop k) (allk k).reverse M' → Q M') : ∀ (T T1 : List (List Nat)) (a : List Nat) (M : Mem) (x2 : Int), ords (pop k) (List.range (pop k)) = T1 ++ a :: T → x2 = 1 → MB z M → M 125 13 = (pop k : Int) → (∀ i, i < pop k → M 132 i = (rowE k a i : Int)) → FrQ M0 M → RS z (pop k) (seenE k T1).reverse M → wX12_seesAll_L39 Q 125 (T.length + 2) x2 M
  | [], T1, a, M, x2, hT, h2, hb, h13, h132, fq, hS => by
    subst h2
    have hck : ck (pop k) [a] = true := ck_app (l := T1) (by rw [← hT]; exact ck_n h6)
    have haA := ords_rng (n := pop k) (a := a) (by rw [hT]; exact List.mem_append_right _ List.mem_cons_self)
    unfold wX12_seesAll_L39
    refine BR_f q1 (sa_V hz hk hkz h6 hT hb h13 h132 hS fun M1 fq1 g13 g132 hS1 => ?_)
    refine mf_next g13 h1 (by omega) g132 (fun _ => ?_) (fun g hg => ?_)
    · show wX12_seesAll_L39 Q 125 1 0 M1
      unfold wX12_seesAll_L39
      refine BR_t bm0 (hQ M1 (fq.tr fq1) g13 ?_)
      have e : allk k = seenE k (T1 ++ [a]) := by
        unfold allk seenE
        rw [ords_mems k, hT]
        rfl
      rw [e]
      exact hS1
    · rw [sa_next rfl h1 haA.2, ck_one hck] at hg
      cases hg
  | b :: T, T1, a, M, x2, hT, h2, hb, h13, h132, fq, hS => by
    subst h2
    have hck : ck (pop k) (a :: b :: T) = true := ck_app (l := T1) (by rw [← hT]; exact ck_n h6)
    have haA := ords_rng (n := pop k) (a := a) (by rw [hT]; exact List.mem_append_right _ List.mem_cons_self)
    obtain ⟨g, hg, hgb⟩ := ck_two hck
    unfold wX12_seesAll_L39
    refine BR_f q1 (sa_V hz hk hkz h6 hT hb h13 h132 hS fun M1 fq1 g13 g132 hS1 => ?_)
    refine mf_next g13 h1 (by omega) g132 (fun hn => ?_) (fun g' hg' M2 f1 f2 => ?_)
    · rw [sa_next rfl h1 haA.2, hg] at hn
      cases hn
    · rw [sa_next rfl h1 haA.2, hg] at hg'
      have hg'' : (fun i => (mems k 12).getD (g i) 0) = g' := Option.some.inj hg'
      have fq2 : FrQ M1 M2 := ⟨fun c _ q2 => f1 c (by omega), fun j _ => by rw [f1 125 (by decide)]⟩
      show wX12_seesAll_L39 Q 125 (T.length + 2) 1 M2
      refine sa_O hz hk hkz h1 h6 hQ T (T1 ++ [a]) b M2 1 (by rw [hT]; simp) rfl ((hb.congr (fq1.1 126 (by decide) (by decide))).congr (f1 126 (by decide))) (by rw [f1 125 (by decide)]; exact g13) (fun i hi => ?_) (fq.tr (fq1.tr fq2)) (hS1.congr (f1 136 (by decide)) (f1 137 (by decide)) (f1 138 (by decide)) fun j _ _ => by rw [f1 125 (by decide)])
      rw [f2 i hi, ← hg'']
      show (((mems k 12).getD (g i) 0 : Nat) : Int) = _
      rw [hgb i hi]
      rfl
theorem RBest.perm {z : Fl} {n : Nat} {Ls Ls' : List Cand} {M : Mem} (hp : Ls.Perm Ls') (h : RBest z n Ls M) : RBest z n Ls' M := by
  obtain ⟨b, hb, a2, a3, a4, a5, a6, a7⟩ := h
  refine ⟨b, ⟨hp.mem_iff.mp hb.1, fun d hd => hb.2 d (hp.mem_iff.mpr hd)⟩, a2, a3, a4, a5, by rw [a6, cnt_perm hp], fun i hi => ?_⟩
  rw [a7 i hi]
  congr 1
  refine propext ?_
  rw [fixb_iff, fixb_iff]
  exact ⟨fun h d hd => h d (hp.mem_iff.mpr hd), fun h d hd => h d (hp.mem_iff.mp hd)⟩
/-- what the reference has found -/
def RH (z : Fl) (k : Nat) (M : Mem) : Prop := M 125 13 = (pop k : Int) ∧ M 125 22 = ((cands z k).length : Int) ∧ (cands z k = [] → M 125 23 = 0) ∧ (cands z k ≠ [] → RBest z (pop k) (cands z k) M) ∧ ∀ j, j < 1024 → M 138 j = if (allk k).any (brc z (pop k) j) = true then 1 else 0
theorem RS.rh {z : Fl} {k : Nat} {M : Mem} (h13 : M 125 13 = (pop k : Int)) (h : RS z (pop k) (allk k).reverse M) : RH z k M := by
  obtain ⟨a1, a2, a3, a4⟩ := h
  have hp : ((allk k).reverse.filter (gdc z (pop k))).Perm (cands z k) := (List.reverse_perm _).filter _
  refine ⟨h13, by rw [a1, hp.length_eq], fun e => a2 (by rw [e] at hp; exact hp.eq_nil), fun e => (a3 fun e' => e (by rw [e'] at hp; exact hp.symm.eq_nil)).perm hp, fun j hj => ?_⟩
  rw [a4 j hj, List.any_reverse]
theorem mf_seesAll {z : Fl} {k : Nat} {M : Mem} {Q : Mem → Prop} (hz : ZOk z) (hb : MB z M) (hk : setIn z k 6) (hQ : ∀ M', FrQ M M' → RH z k M' → Q M') : wX12_seesAll 125 (k : Int) M Q := by
  have hz0 := hz.1
  obtain ⟨np, hnp⟩ : ∃ np : Nat, z 0 = (np : Int) := ⟨(z 0).toNat, by omega⟩
  obtain ⟨k1, k2, k3⟩ := hk
  rw [hnp, Int.toNat_natCast] at k1
  have hk12 : k < 2 ^ 12 := Nat.lt_of_lt_of_le k1 (p2le (by omega))
  have hmz : ∀ x ∈ mems k 12, (x : Int) < z 0 := fun x hx => by
    have hb := (mem_mems.mp hx).2
    rw [hnp]
    rcases Nat.lt_or_ge x np with h | h
    · omega
    · rw [tb_big k1 h] at hb
      cases hb
  unfold wX12_seesAll
  refine LET_i (LET_i ⟨1024 + 1, zb_L (fun M1 f1 f2 => mf_firstOrder hk12 fun M2 g1 g2 g3 g4 => ?_) 1024 0 _ _ rfl rfl (fun _ _ => rfl) (fun i hi => by omega)⟩)
  obtain ⟨a, T, hT⟩ : ∃ a T, ords (pop k) (List.range (pop k)) = [] ++ a :: T := by
    cases h : ords (pop k) (List.range (pop k)) with
    | nil =>
      have hlen : ∀ n, n ≤ 6 → ords n (List.range n) ≠ [] := by decide +kernel
      exact absurd h (hlen (pop k) k3)
    | cons a T => exact ⟨a, T, rfl⟩
  have ha : ∀ i, i < pop k → a.getD i 0 = i := by
    have hall : ∀ n, n ≤ 6 → ((ords n (List.range n)).headD []) = List.range n := by decide +kernel
    have h := hall (pop k) k3
    rw [hT] at h
    have h' : a = List.range (pop k) := h
    intro i hi
    rw [h', List.getD_eq_getElem?_getD, List.getElem?_eq_getElem (by rw [List.length_range]; exact hi), List.getElem_range]
    rfl
  have x22 : M2 125 22 = 0 := by rw [g2 22 (by decide), f1 125 (by decide), up_kn (by decide), up_s]
  have x23 : M2 125 23 = 0 := by rw [g2 23 (by decide), f1 125 (by decide), up_s]
  have fqx : FrQ M M2 := ⟨fun c q1 q2 => by rw [g1 c q1 (by omega), f1 c (by omega), up_c q1, up_c q1], fun j hj => by rw [g2 j (by omega), f1 125 (by decide), up_kn (by omega), up_kn (by omega)]⟩
  refine ⟨T.length + 2, sa_O (M0 := M) hz hk12 hmz k2 k3 (fun M' q1 q2 q3 => hQ M' q1 (RS.rh q2 q3)) T [] a M2 1 hT rfl (hb.congr (fqx.1 126 (by decide) (by decide))) g3 (fun i hi => ?_) fqx ⟨x22, fun _ => x23, fun e => absurd rfl e, fun j hj => ?_⟩⟩
  · rw [g4 i hi]
    show _ = (((mems k 12).getD (a.getD i 0) 0 : Nat) : Int)
    rw [ha i hi]
  · rw [g1 138 (by decide) (by decide), f2 j hj]
    rfl
