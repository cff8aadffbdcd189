/-! ILL: how many pairs have changed -/
def mvq (new : Nat → Nat) : List Nat → Nat
  | [] => 0
  | x :: l => mvq new l + cnt (fun y => decide (new y < new x)) l
theorem mvq_s (new : Nat → Nat) (x : Nat) (l : List Nat) : mvq new (x :: l) = mvq new l + cnt (fun y => decide (new y < new x)) l := rfl
theorem mvq_le {new : Nat → Nat} : ∀ {l : List Nat}, l.length ≤ 12 → mvq new l ≤ 12 * l.length
  | [], _ => Nat.le_refl 0
  | x :: l, h => by
    rw [List.length_cons] at h ⊢
    have h1 := mvq_le (new := new) (l := l) (by omega)
    have h2 := cnt_le (p := fun y => decide (new y < new x)) (l := l)
    rw [mvq_s]
    omega
def smN (f : Nat → Nat) : List Nat → Nat
  | [] => 0
  | x :: l => f x + smN f l
theorem smN_s (f : Nat → Nat) (x : Nat) (l : List Nat) : smN f (x :: l) = f x + smN f l := rfl
theorem smN_perm {f : Nat → Nat} {l l' : List Nat} (h : l.Perm l') : smN f l = smN f l' := by
  induction h with
  | nil => rfl
  | cons x _ ih => rw [smN_s, smN_s, ih]
  | swap x y l =>
    rw [smN_s, smN_s, smN_s, smN_s]
    omega
  | trans _ _ ih1 ih2 => rw [ih1, ih2]
theorem smN_cg {f g : Nat → Nat} : ∀ {l : List Nat}, (∀ x ∈ l, f x = g x) → smN f l = smN g l
  | [], _ => rfl
  | x :: l, h => by
    rw [smN_s, smN_s, h x List.mem_cons_self, smN_cg fun y hy => h y (List.mem_cons_of_mem _ hy)]
theorem cnt_cg {p q : Nat → Bool} : ∀ {l : List Nat}, (∀ x ∈ l, p x = q x) → cnt p l = cnt q l
  | [], _ => rfl
  | x :: l, h => by
    rw [cnt_s, cnt_s, h x List.mem_cons_self, cnt_cg fun y hy => h y (List.mem_cons_of_mem _ hy)]
def prs2 (old new : Nat → Nat) (x y : Nat) : Bool := decide (old x < old y) && decide (new y < new x)
theorem mvr_sm {old new : Nat → Nat} : ∀ {l : List Nat}, l.Pairwise (fun x y => new y < new x) → mvr old l = smN (fun x => cnt (prs2 old new x) l) l
  | [], _ => rfl
  | x :: l, h => by
    obtain ⟨h1, h2⟩ := List.pairwise_cons.mp h
    rw [mvr_s, smN_s, mvr_sm h2]
    have e1 : cnt (prs2 old new x) (x :: l) = cnt (fun y => decide (old x < old y)) l := by
      rw [cnt_s]
      have : prs2 old new x x = false := by
        unfold prs2
        rw [decide_eq_false (by omega : ¬ old x < old x)]
        rfl
      rw [this, if_neg (by decide), Nat.add_zero]
      refine cnt_cg fun y hy => ?_
      unfold prs2
      rw [decide_eq_true (h1 y hy), Bool.and_true]
    have e2 : smN (fun x' => cnt (prs2 old new x') (x :: l)) l = smN (fun x' => cnt (prs2 old new x') l) l := by
      refine smN_cg fun x' hx' => ?_
      rw [cnt_s]
      have : prs2 old new x' x = false := by
        unfold prs2
        have := h1 x' hx'
        rw [decide_eq_false (by omega : ¬ new x < new x'), Bool.and_false]
      rw [this, if_neg (by decide), Nat.add_zero]
    rw [e1, e2, Nat.add_comm]
theorem mvq_sm {old new : Nat → Nat} : ∀ {l : List Nat}, l.Pairwise (fun x y => old x < old y) → mvq new l = smN (fun x => cnt (prs2 old new x) l) l
  | [], _ => rfl
  | x :: l, h => by
    obtain ⟨h1, h2⟩ := List.pairwise_cons.mp h
    rw [mvq_s, smN_s, mvq_sm h2]
    have e1 : cnt (prs2 old new x) (x :: l) = cnt (fun y => decide (new y < new x)) l := by
      rw [cnt_s]
      have : prs2 old new x x = false := by
        unfold prs2
        rw [decide_eq_false (by omega : ¬ old x < old x)]
        rfl
      rw [this, if_neg (by decide), Nat.add_zero]
      refine cnt_cg fun y hy => ?_
      unfold prs2
      rw [decide_eq_true (h1 y hy), Bool.true_and]
    have e2 : smN (fun x' => cnt (prs2 old new x') (x :: l)) l = smN (fun x' => cnt (prs2 old new x') l) l := by
      refine smN_cg fun x' hx' => ?_
      rw [cnt_s]
      have : prs2 old new x' x = false := by
        unfold prs2
        have := h1 x' hx'
        rw [decide_eq_false (by omega : ¬ old x' < old x), Bool.false_and]
      rw [this, if_neg (by decide), Nat.add_zero]
    rw [e1, e2, Nat.add_comm]
theorem mv_eq {old new : Nat → Nat} {l l' : List Nat} (h : l.Pairwise fun x y => new y < new x) (h' : l'.Pairwise fun x y => old x < old y) (hp : l.Perm l') : mvq new l' = mvr old l := by
  rw [mvr_sm h, mvq_sm h', smN_perm hp]
  exact smN_cg fun x _ => (cnt_perm hp).symm
theorem rl_mem {r : Nat → Nat} {i x : Nat} : x ∈ rl r i ↔ ∃ k, k < i ∧ r k = x := by
  rw [← stb_mem]
  exact stb_rl
theorem rl_pw {r : Nat → Nat} {n : Nat} (hj : Inj r n) : ∀ {i : Nat}, i ≤ n → (rl r i).Pairwise fun x y => od r n y < od r n x
  | 0, _ => List.Pairwise.nil
  | i + 1, hi => by
    refine List.pairwise_cons.mpr ⟨fun y hy => ?_, rl_pw hj (by omega)⟩
    obtain ⟨k, hk, rfl⟩ := rl_mem.mp hy
    rw [od_at hj (by omega), od_at hj (by omega)]
    exact hk
theorem rlo_pw {r : Nat → Nat} {n o : Nat} (hj : Inj r n) : ∀ {i : Nat}, i ≤ n → (rlo r o i).Pairwise fun x y => od r n y < od r n x
  | 0, _ => List.Pairwise.nil
  | i + 1, hi => by
    rw [rlo_s]
    have h' := rlo_pw (o := o) hj (show i ≤ n by omega)
    split
    · exact h'
    · refine List.pairwise_cons.mpr ⟨fun y hy => ?_, h'⟩
      obtain ⟨k, hk, _, rfl⟩ := rlo_mem.mp hy
      rw [od_at hj (by omega), od_at hj (by omega)]
      exact hk
/-- the reference counts -/
theorem drop_s {L : List Nat} {j : Nat} (h : j < L.length) : L.drop j = L.getD j 0 :: L.drop (j + 1) := by
  rw [List.drop_eq_getElem_cons h, List.getD_eq_getElem?_getD, List.getElem?_eq_getElem h]
  rfl
theorem mv14_L {m x3 : Nat} {r : Nat → Nat} {O : List Nat} {v : Nat} {M : Mem} {Q : Int → Mem → Prop} {E : Int → Mem → Prop} (hR : RB v m r M) (hm12 : m ≤ 12) (hr : ∀ k, k < m → r k < 12) (hj : Inj r m) (hO : O.length = m) (hin : ∀ x ∈ O, ∃ k, k < m ∧ r k = x) (h141 : ∀ i, i < m → M 141 i = (O.getD i 0 : Nat)) (hx3 : x3 < m) : ∀ (c j a : Nat) (x2 x4 : Int), j + c = m → x4 = (j : Int) → x2 = (a : Int) → a + cnt (fun y => decide (od r m y < od r m (O.getD x3 0))) (O.drop j) < 1000 → E ((a + cnt (fun y => decide (od r m y < od r m (O.getD x3 0))) (O.drop j) : Nat) : Int) M → wX12_moved_L14 Q E 125 (m : Int) (x3 : Int) (c + 1) x2 x4 M
  | 0, j, a, x2, x4, hc, h4, h2, hb, hE => by
    subst h4 h2
    obtain rfl : j = m := by omega
    unfold wX12_moved_L14
    rw [← hO, List.drop_length] at hE
    exact BR_t (Int.le_refl _) hE
  | c + 1, j, a, x2, x4, hc, h4, h2, hb, hE => by
    subst h4 h2
    have hg : ∀ i, i < m → ∃ k, k < m ∧ r k = O.getD i 0 := fun i hi => hin _ (by
      rw [List.getD_eq_getElem?_getD, List.getElem?_eq_getElem (by omega)]
      exact List.getElem_mem _)
    obtain ⟨k3, k31, k32⟩ := hg x3 hx3
    obtain ⟨kj, kj1, kj2⟩ := hg j (by omega)
    have e3 : od r m (O.getD x3 0) = k3 := by rw [← k32, od_at hj k31]
    have ej : od r m (O.getD j 0) = kj := by rw [← kj2, od_at hj kj1]
    rw [drop_s (by omega), cnt_s, e3, ej] at hb hE
    unfold wX12_moved_L14
    rw [bm_nat (n := m) (by omega), bm_nat (n := j) (by omega), rd_at (k := 125 + 16) (n := x3) rfl (by omega), show (125 : Nat) + 16 = 141 from rfl, h141 x3 hx3, ← k32]
    refine BR_f (by omega) ⟨inb_of rfl (by omega) (by decide), mf_placeOf hR hm12 hr (by have := hr k3 k31; omega) ⟨inb_of rfl (by omega) (by decide), ?_⟩⟩
    rw [rd_at (n := j) rfl (by omega), h141 j (by omega), ← kj2]
    refine mf_placeOf hR hm12 hr (by have := hr kj kj1; omega) ?_
    rw [plc_at hj k31, plc_at hj kj1, bm_nat (n := k3) (by omega), bm_nat (n := kj) (by omega)]
    unfold wX12_moved_J50
    refine BR_i (fun h => LET_i (LET_i (mv14_L hR hm12 hr hj hO hin h141 hx3 c (j + 1) a _ _ (by omega) (by omega) (by omega) ?_ ?_))) (fun h => LET_i (LET_i (mv14_L hR hm12 hr hj hO hin h141 hx3 c (j + 1) (a + 1) _ _ (by omega) (by omega) (by omega) ?_ ?_)))
    · rw [decide_eq_false (by omega : ¬ kj < k3), if_neg (by decide)] at hb
      rw [e3]
      exact hb
    · rw [decide_eq_false (by omega : ¬ kj < k3), if_neg (by decide)] at hE
      rw [e3]
      exact hE
    · rw [decide_eq_true (by omega : kj < k3), if_pos rfl] at hb
      rw [e3]
      omega
    · rw [decide_eq_true (by omega : kj < k3), if_pos rfl] at hE
      rw [e3, show a + 1 + cnt (fun y => decide (od r m y < k3)) (O.drop (j + 1)) = a + (cnt (fun y => decide (od r m y < k3)) (O.drop (j + 1)) + 1) by omega]
      exact hE
theorem mv4_L {m : Nat} {r : Nat → Nat} {O : List Nat} {v : Nat} {M : Mem} {Q : Int → Mem → Prop} (hR : RB v m r M) (hm12 : m ≤ 12) (hr : ∀ k, k < m → r k < 12) (hj : Inj r m) (hO : O.length = m) (hin : ∀ x ∈ O, ∃ k, k < m ∧ r k = x) (h141 : ∀ i, i < m → M 141 i = (O.getD i 0 : Nat)) : ∀ (c j a : Nat) (x2 x3 : Int), j + c = m → x3 = (j : Int) → x2 = (a : Int) → a + mvq (od r m) (O.drop j) < 1000 → Q ((a + mvq (od r m) (O.drop j) : Nat) : Int) M → wX12_moved_L4 Q 125 (m : Int) (c + 1) x2 x3 M
  | 0, j, a, x2, x3, hc, h3, h2, hb, hE => by
    subst h3 h2
    obtain rfl : j = m := by omega
    unfold wX12_moved_L4
    rw [← hO, List.drop_length] at hE
    exact BR_t (Int.le_refl _) hE
  | c + 1, j, a, x2, x3, hc, h3, h2, hb, hE => by
    subst h3 h2
    rw [drop_s (by omega), mvq_s] at hb hE
    unfold wX12_moved_L4
    rw [bm_nat (n := m) (by omega), bm_nat (n := j) (by omega)]
    refine BR_f (by omega) (LET_i ⟨m - (j + 1) + 1, mv14_L hR hm12 hr hj hO hin h141 (x3 := j) (by omega) (m - (j + 1)) (j + 1) a _ _ (by omega) (by omega) rfl (by omega) (LET_i (mv4_L hR hm12 hr hj hO hin h141 c (j + 1) _ _ _ (by omega) (by omega) rfl (by omega) ?_))⟩)
    rw [show a + cnt (fun y => decide (od r m y < od r m (O.getD j 0))) (O.drop (j + 1)) + mvq (od r m) (O.drop (j + 1)) = a + (mvq (od r m) (O.drop (j + 1)) + cnt (fun y => decide (od r m y < od r m (O.getD j 0))) (O.drop (j + 1))) by omega]
    exact hE
theorem mf_moved {m v : Nat} {r : Nat → Nat} {O : List Nat} {M : Mem} {Q : Int → Mem → Prop} (hR : RB v m r M) (hm12 : m ≤ 12) (hr : ∀ k, k < m → r k < 12) (hj : Inj r m) (hO : O.length = m) (hin : ∀ x ∈ O, ∃ k, k < m ∧ r k = x) (h141 : ∀ i, i < m → M 141 i = (O.getD i 0 : Nat)) (hQ : Q (mvq (od r m) O : Int) M) : wX12_moved 125 (m : Int) M Q := by
  have := mvq_le (new := od r m) (l := O) (by omega)
  unfold wX12_moved
  exact ⟨m + 1, mv4_L hR hm12 hr hj hO hin h141 m 0 0 _ _ (by omega) rfl rfl (by rw [List.drop_zero]; omega) (by rw [List.drop_zero, Nat.zero_add]; exact hQ)⟩
