/-! BARS: the class's breakings -/
theorem Inv.mkb {t : Int} {M : Mem} (hI : Inv t M) (h0 : M 103 13 = 0) : Inv t (up (al M (kA 2 1024)) 103 13 ((nx M : Nat) : Int)) ∧ 148 ≤ nx M := by
  have hnw := hI.2.2.2.1
  have h148 : 148 ≤ M 0 0 := hnw.1
  have hnx : (nx M : Int) = M 0 0 := by unfold nx; omega
  generalize hM1 : up (al M (kA 2 1024)) 103 13 ((nx M : Nat) : Int) = M1
  have E : ∀ a, a ≠ 0 → a ≠ nx M → a ≠ 103 → M1 a = M a := fun a q1 q2 q3 => by
    subst hM1
    rw [up_c q3]
    funext j
    unfold al
    rw [if_neg q1, if_neg q2]
  have E3 : ∀ j, j ≠ 13 → M1 103 j = M 103 j := fun j hj => by
    subst hM1
    rw [up_kn hj]
    unfold al
    rw [if_neg (by decide), if_neg (by omega)]
  have E13 : M1 103 13 = (nx M : Int) := by subst hM1; rw [up_s]
  have Z0 : M1 0 0 = M 0 0 + 1 := by
    subst hM1
    rw [up_c (by decide)]
    rfl
  have Zn : M1 0 (nx M) = kA 2 1024 := by
    subst hM1
    rw [up_c (by decide)]
    unfold al
    rw [if_pos rfl, if_neg (by omega), if_pos rfl]
  have Zj : ∀ j, j ≠ 0 → j ≠ nx M → M1 0 j = M 0 j := fun j q1 q2 => by
    subst hM1
    rw [up_c (by decide)]
    unfold al
    rw [if_pos rfl, if_neg q1, if_neg q2]
  clear hM1
  refine ⟨?_, by omega⟩
  obtain ⟨i1, i2, ⟨p1, p2, p3, p4⟩, ⟨w1, w2, w3, w4, w5, w6⟩, i5, i6, i7, i8, i9, i10⟩ := hI
  have e126 : M1 126 = M 126 := E 126 (by decide) (by omega) (by decide)
  refine ⟨by rw [e126]; exact i1, ?_, ⟨?_, ?_, ?_, ?_⟩, ⟨?_, ?_, ?_, ?_, ?_, ?_⟩, ?_, ?_, ?_, ?_, ?_, ?_⟩
  · rw [e126]
    exact i2.congr i1.1 (fun a q1 q2 => E a (by omega) (by omega) (by omega))
  · rw [E 1 (by decide) (by omega) (by decide), E 125 (by decide) (by omega) (by decide)]
    exact p1
  · rw [E 125 (by decide) (by omega) (by decide)]
    exact p2
  · rw [E 125 (by decide) (by omega) (by decide)]
    exact p3
  · rw [E 1 (by decide) (by omega) (by decide), E 125 (by decide) (by omega) (by decide), E 127 (by decide) (by omega) (by decide)]
    rcases p4 with p4 | ⟨a1, a2, a3, a4, a5, a6⟩
    · exact Or.inl p4
    · refine Or.inr ⟨a1, by omega, by rw [Zj _ (by omega) (by omega)]; exact a3, a4, a5, a6.congr a5.1 fun a r1 r2 => E a (by omega) (by omega) (by omega)⟩
  · omega
  · right
    rw [E13]
    exact ⟨by omega, by omega, by rw [Int.toNat_natCast]; exact Zn⟩
  · rw [E 108 (by decide) (by omega) (by decide)]
    rcases w3 with w3 | ⟨b1, b2, b3⟩
    · exact Or.inl w3
    · exact Or.inr ⟨b1, by omega, by rw [Zj _ (by omega) (by omega)]; exact b3⟩
  · rw [E13, E 1 (by decide) (by omega) (by decide)]
    rcases p4 with p4 | p4
    · exact Or.inl p4.1
    · right
      right
      have := p4.2.1
      omega
  · rw [E 108 (by decide) (by omega) (by decide), E 1 (by decide) (by omega) (by decide)]
    exact w5
  · right
    rw [E13, E 108 (by decide) (by omega) (by decide)]
    rcases w3 with w3 | w3
    · omega
    · have := w3.2.1
      omega
  · exact i5.congr (fun a q1 q2 => E a (by omega) (by omega) (by omega)) (E 144 (by decide) (by omega) (by decide)) (E 145 (by decide) (by omega) (by decide)) (E 146 (by decide) (by omega) (by decide))
  · exact i6.congr (by rw [E 114 (by decide) (by omega) (by decide)]) (by rw [E 125 (by decide) (by omega) (by decide)]) (E 115 (by decide) (by omega) (by decide)) (E 143 (by decide) (by omega) (by decide))
  · intro j
    rw [E 86 (by decide) (by omega) (by decide), E 128 (by decide) (by omega) (by decide)]
    exact i7 j
  · rw [e126]
    exact i8.congr E3 (E 104 (by decide) (by omega) (by decide)) (E 105 (by decide) (by omega) (by decide)) (E 106 (by decide) (by omega) (by decide))
  · rw [e126]
    exact i9.congr (fun j _ => by rw [E 108 (by decide) (by omega) (by decide)]) (E 109 (by decide) (by omega) (by decide))
  · exact i10.congr (fun a q1 q2 => E a (by omega) (by omega) (by omega))
/-- the walk and the breakings are scratch -/
theorem Inv.b2 {t : Int} {M M' : Mem} {B : Nat} (hI : Inv t M) (hB : M 103 13 = (B : Int)) (h148 : 148 ≤ B) (h : ∀ a, ¬ (87 ≤ a ∧ a ≤ 102) → a ≠ B → M' a = M a) (hw : WzOk M') : Inv t M' := by
  obtain ⟨i1, i2, i3, i4, i5, i6, i7, i8, i9, i10⟩ := hI
  have e126 : M' 126 = M 126 := h 126 (by omega) (by omega)
  have hd := i4.2.2.2.1
  refine ⟨by rw [e126]; exact i1, ?_, ?_, ?_, ?_, ?_, ?_, ?_, ?_, hw⟩
  · rw [e126]
    exact i2.congr i1.1 (fun a q1 q2 => h a (by omega) (by omega))
  · obtain ⟨p1, p2, p3, p4⟩ := i3
    refine ⟨by rw [h 1 (by omega) (by omega), h 125 (by omega) (by omega)]; exact p1, by rw [h 125 (by omega) (by omega)]; exact p2, by rw [h 125 (by omega) (by omega)]; exact p3, ?_⟩
    rw [h 1 (by omega) (by omega), h 125 (by omega) (by omega), h 127 (by omega) (by omega), h 0 (by omega) (by omega)]
    rcases p4 with p4 | ⟨a1, a2, a3, a4, a5, a6⟩
    · exact Or.inl p4
    · refine Or.inr ⟨a1, a2, a3, a4, a5, a6.congr a5.1 fun a r1 r2 => h a (by omega) (by omega)⟩
  · exact i4.congr (by rw [h 1 (by omega) (by omega)]) (h 0 (by omega) (by omega)) (by rw [h 103 (by omega) (by omega)]) (by rw [h 108 (by omega) (by omega)])
  · exact i5.congr (fun a q1 q2 => h a (by omega) (by omega)) (h 144 (by omega) (by omega)) (h 145 (by omega) (by omega)) (h 146 (by omega) (by omega))
  · exact i6.congr (by rw [h 114 (by omega) (by omega)]) (by rw [h 125 (by omega) (by omega)]) (h 115 (by omega) (by omega)) (h 143 (by omega) (by omega))
  · intro j
    rw [h 86 (by omega) (by omega), h 128 (by omega) (by omega)]
    exact i7 j
  · rw [e126]
    exact i8.congr (fun j _ => by rw [h 103 (by omega) (by omega)]) (h 104 (by omega) (by omega)) (h 105 (by omega) (by omega)) (h 106 (by omega) (by omega))
  · rw [e126]
    exact i9.congr (fun j _ => by rw [h 108 (by omega) (by omega)]) (h 109 (by omega) (by omega))
theorem bb_L {M0 : Mem} {B : Nat} {Q : Nat → Mem → Prop} (hB : M0 103 13 = (B : Int)) (h148 : 148 ≤ B) (hk : M0 0 B = kA 2 1024) (hQ : ∀ M' : Mem, (∀ a, a ≠ B → M' a = M0 a) → (∀ j, j < 1024 → M' B j = 0) → Q B M') : ∀ (m j : Nat) (M : Mem) (x1 : Int), j + m = 1024 → x1 = (j : Int) → (∀ a, a ≠ B → M a = M0 a) → (∀ i, i < j → M B i = 0) → wX6_breakingsBegun_L18 Q 103 (m + 1) x1 M
  | 0, j, M, x1, hj, h1, f1, f2 => by
    subst h1
    obtain rfl : j = 1024 := by omega
    have e13 : (M 103 13).toNat = B := by rw [f1 103 (by omega), hB]; rfl
    unfold wX6_breakingsBegun_L18
    rw [e13, f1 0 (by omega)]
    exact ⟨⟨by omega, hk⟩, BR_t (by decide +kernel) ⟨⟨by omega, hk⟩, hQ M f1 f2⟩⟩
  | m + 1, j, M, x1, hj, h1, f1, f2 => by
    subst h1
    have e13 : (M 103 13).toNat = B := by rw [f1 103 (by omega), hB]; rfl
    unfold wX6_breakingsBegun_L18
    rw [e13, f1 0 (by omega), bm_nat (n := j) (by omega), wr_up (n := j) rfl (by omega)]
    refine ⟨⟨by omega, hk⟩, BR_f (by omega) ⟨⟨by omega, hk⟩, inb_of rfl (by omega) (by decide), LET_i (LET_i (bb_L hB h148 hk hQ m (j + 1) _ _ (by omega) (by omega) (fun a ha => by rw [up_c ha]; exact f1 a ha) fun i hi => ?_))⟩⟩
    by_cases hij : i = j
    · subst hij
      rw [up_s]
    · rw [up_kn hij]
      exact f2 i (by omega)
theorem lf_brk {t : Int} {M : Mem} {Q : Nat → Mem → Prop} (hI : Inv t M) (hQ : ∀ (M' : Mem) (B : Nat), Inv t M' → M' 103 13 = (B : Int) → 148 ≤ B → M' 0 B = kA 2 1024 → (∀ j, j < 1024 → M' B j = 0) → (∀ a, a ≠ 0 → a < 148 → a ≠ 103 → M' a = M a) → (∀ j, j ≠ 13 → M' 103 j = M 103 j) → Q B M') : wX6_breakingsBegun 103 M Q := by
  have hnw := hI.2.2.2.1
  unfold wX6_breakingsBegun wX6_breakingsBegun_J16
  refine BR_i (fun h => ?_) (fun h => ?_)
  · obtain ⟨hI1, h148⟩ := hI.mkb h
    refine LET_i ⟨⟨by omega, ?_⟩, LET_i ⟨1024 + 1, bb_L (B := nx M) (up_s _ _ _ _) h148 ?_ (fun M' f1 f2 => hQ M' (nx M) (hI1.b2 (up_s _ _ _ _) h148 (fun a _ q => f1 a q) (hI1.wz.congr fun a q1 q2 => f1 a (by omega))) (by rw [f1 103 (by omega), up_s]) h148 ?_ f2 (fun a q1 q2 q3 => ?_) (fun j hj => ?_)) 1024 0 _ _ rfl rfl (fun _ _ => rfl) (fun i hi => by omega)⟩⟩
    · unfold al
      rw [if_pos rfl, if_neg (by omega), if_pos rfl]
    · rw [up_c (by decide)]
      unfold al
      rw [if_pos rfl, if_neg (by omega), if_pos rfl]
    · rw [f1 0 (by omega), up_c (by decide)]
      unfold al
      rw [if_pos rfl, if_neg (by omega), if_pos rfl]
    · rw [f1 a (by omega), up_c q3]
      funext j
      unfold al
      rw [if_neg q1, if_neg (by omega)]
    · rw [f1 103 (by omega), up_kn hj]
      unfold al
      rw [if_neg (by decide), if_neg (by omega)]
  · rcases hnw.2.1 with h' | ⟨b1, b2, b3⟩
    · exact absurd h' h
    · obtain ⟨B, hB⟩ : ∃ B : Nat, M 103 13 = (B : Int) := ⟨(M 103 13).toNat, by omega⟩
      rw [hB] at b1 b3
      rw [Int.toNat_natCast] at b3
      exact ⟨1024 + 1, bb_L (B := B) hB (by omega) b3 (fun M' f1 f2 => hQ M' B (hI.b2 hB (by omega) (fun a _ q => f1 a q) (hI.wz.congr fun a q1 q2 => f1 a (by omega))) (by rw [f1 103 (by omega), hB]) (by omega) (by rw [f1 0 (by omega)]; exact b3) f2 (fun a q1 q2 q3 => f1 a (by omega)) (fun j hj => by rw [f1 103 (by omega)])) 1024 0 M _ rfl rfl (fun _ _ => rfl) (fun i hi => by omega)⟩
/-- going through all rows in which nobody is too tired -/
def ntb (z : Fl) (v : Nat) (l : List Nat) : Bool := decide (mt z v l ≤ z 9)
theorem ntb_mono {z : Fl} {v q : Nat} {l : List Nat} (h : ntb z v (q :: l) = true) : ntb z v l = true := by
  unfold ntb at h ⊢
  rw [decide_eq_true_eq] at h ⊢
  rw [mt_cons] at h
  have h3 : ∀ (f : Nat → Int) (a : Int) (k : Nat), a ≤ mxn f a k := by
    intro f a k
    induction k with
    | zero => exact Int.le_refl _
    | succ k ih =>
      have := mx_ge (mxn f a k) (f k)
      show a ≤ mx (mxn f a k) (f k)
      omega
  exact Int.le_trans (h3 _ _ _) h
def GA (z : Fl) (n v B : Nat) (L : List Nat) (Ls : List Cand) (M : Mem) : Prop := CB z M ∧ M 91 1 = (n : Int) ∧ M 91 2 = (v : Int) ∧ M 103 5 = (n : Int) ∧ (∀ i, i < n → M 104 i = (L.getD i 0 : Nat)) ∧ ∀ j, j < 1024 → M B j = if Ls.any (brc z n j) = true then 1 else 0
def FrB (B : Nat) (M M' : Mem) : Prop := ∀ a, ¬ (92 ≤ a ∧ a ≤ 102) → a ≠ B → M' a = M a
theorem FrB.rf {B : Nat} {M : Mem} : FrB B M M := fun _ _ _ => rfl
theorem FrB.tr {B : Nat} {M M' M'' : Mem} (h : FrB B M M') (h' : FrB B M' M'') : FrB B M M'' := fun a q1 q2 => by rw [h' a q1 q2, h a q1 q2]
theorem GA.fr {z : Fl} {n v B : Nat} {L : List Nat} {Ls : List Cand} {M M' : Mem} (hz : ZOk z) (hB : 148 ≤ B) (h : GA z n v B L Ls M) (f : ∀ a, ¬ (92 ≤ a ∧ a ≤ 102) → M' a = M a) : GA z n v B L Ls M' := by
  obtain ⟨h1, h2, h3, h5, h7, h8⟩ := h
  unfold GA
  rw [f 91 (by omega), f 103 (by omega), f 104 (by omega), f B (by omega)]
  exact ⟨h1.congr hz fun a ha => f a (by omega), h2, h3, h5, h7, h8⟩
def GAs (z : Fl) (n v B : Nat) (L : List Nat) (G : Nat → List Int → Mem → (Int → Mem → Prop) → Prop) (m i : Nat) : Prop := ∀ (r : Nat → Nat) (M : Mem) (Ls : List Cand) (Qx : Int → Mem → Prop), RowPs z r i → RowAt z v n r i M → (i = 0 ∨ ntb z v (rl r i) = true) → GA z n v B L Ls M → (∀ M', FrJ i M M' → FrB B M M' → GA z n v B L ((dl (ntb z v) v L m (rl r i)).reverse ++ Ls) M' → Qx 0 M') → G 0 [(i : Int)] M Qx
theorem ga2_L {z : Fl} {n v B m i : Nat} {L : List Nat} {r : Nat → Nat} {M0 : Mem} {Ls : List Cand} {G : Nat → List Int → Mem → (Int → Mem → Prop) → Prop} {Q : Mem → Prop} (hz : ZOk z) (hB : 148 ≤ B) (hn12 : n ≤ 12) (hv12 : v ≤ 12) (hL : L.length = n) (hLz : ∀ x ∈ L, (x : Int) < z 0) (hi : i < n) (hr : RowPs z r i) (hR : RowAt z v n r i M0)
    (hG : GAs z n v B L G m (i + 1)) (hQ : ∀ M', FrJ i M0 M' → FrB B M0 M' → GA z n v B L ((dl (ntb z v) v L (m + 1) (rl r i)).reverse ++ Ls) M' → Q M') : ∀ (c j : Nat) (M : Mem) (x3 : Int), j + c = n → x3 = (j : Int) → FrJ i M0 M → FrB B M0 M → GA z n v B L (((L.take j).flatMap (dlx (ntb z v) v L m (rl r i))).reverse ++ Ls) M → wX6_goOnAny_L40 G Q 103 (i : Int) B (c + 1) x3 M
  | 0, j, M, x3, hj, h3, fj, ff, hg => by
    subst h3
    obtain rfl : j = n := by omega
    unfold wX6_goOnAny_L40
    rw [hg.2.2.2.1]
    rw [← hL, List.take_length] at hg
    exact BR_t (Int.le_refl _) (hQ M fj ff (by rw [dl_x, ← hL]; exact hg))
  | c + 1, j, M, x3, hj, h3, fj, ff, hg => by
    subst h3
    have hz0 := hz.1
    obtain ⟨x, hx⟩ : ∃ x, L.getD j 0 = x := ⟨_, rfl⟩
    have hsp := split_at (L := L) (j := j) (by omega)
    have hts := take_s (L := L) (j := j) (by omega)
    rw [hx] at hsp hts
    have hxL : x ∈ L := by
      rw [hsp]
      exact List.mem_append_right _ List.mem_cons_self
    have hxz := hLz x hxL
    have hR' := hR.frj fj
    have hst : stb (rl r i) < 2 ^ 12 := stb_lt _ (hr.pcs.lt hz)
    have e104 : rd M (103 + 1) (j : Int) = (x : Int) := by rw [rd_at (n := j) rfl (by omega), show (103 : Nat) + 1 = 104 from rfl, hg.2.2.2.2.1 j (by omega), hx]
    have e96 : rd M (103 - 12 + 5) (i : Int) = (stb (rl r i) : Int) := by rw [rd_at (n := i) rfl (by omega)]; exact (hR'.2 i (Nat.le_refl i)).2.2.1
    have hfm : (L.take (j + 1)).flatMap (dlx (ntb z v) v L m (rl r i)) = (L.take j).flatMap (dlx (ntb z v) v L m (rl r i)) ++ dlx (ntb z v) v L m (rl r i) x := by
      rw [hts, List.flatMap_append]
      simp
    have nxt0 : ∀ M', FrJ i M0 M' → FrB B M0 M' → GA z n v B L (((L.take j).flatMap (dlx (ntb z v) v L m (rl r i))).reverse ++ Ls) M' → dlx (ntb z v) v L m (rl r i) x = [] → LET ((j : Int) + 1) (fun x3 => wX6_goOnAny_L40 G Q 103 (i : Int) B (c + 1) x3 M') := by
      intro M' fj' ff' hg' h0
      refine LET_i (ga2_L hz hB hn12 hv12 hL hLz hi hr hR hG hQ c (j + 1) M' _ (by omega) (by omega) fj' ff' ?_)
      rw [hfm, h0, List.append_nil]
      exact hg'
    unfold wX6_goOnAny_L40
    rw [hg.2.2.2.1, bm_nat (n := n) (by omega), bm_nat (n := j) (by omega), e104]
    refine BR_f (by omega) ⟨inb_of rfl (by omega) (by decide), LET_i ⟨inb_of rfl (by omega) (by decide), ?_⟩⟩
    rw [e96, lf_isIn rfl rfl hst (by omega)]
    by_cases hxl : x ∈ rl r i
    · rw [if_pos (stb_mem.mpr hxl)]
      exact BR_f q1 (nxt0 M fj ff hg (by unfold dlx; rw [if_pos hxl]))
    · rw [if_neg (fun h => hxl (stb_mem.mp h))]
      have er : ∀ q, q < i → (fun q => if q = i then x else r q) q = r q := fun q hq => if_neg (by omega)
      have erl : rl (fun q => if q = i then x else r q) i = rl r i := rl_congr er
      have eri : (fun q => if q = i then x else r q) i = x := if_pos rfl
      have erl1 : rl (fun q => if q = i then x else r q) (i + 1) = x :: rl r i := by
        show (fun q => if q = i then x else r q) i :: rl (fun q => if q = i then x else r q) i = _
        rw [erl, eri]
      have hr1 : RowPs z (fun q => if q = i then x else r q) (i + 1) := fun q hq => by
        by_cases hqi : q = i
        · subst hqi
          rw [eri]
          exact hxz
        · rw [er q (by omega)]
          exact hr q (by omega)
      obtain ⟨g1, g2, g3, g5, g7, g8⟩ := id hg
      refine BR_t q0 (lf_step hz g1 g2 g3 hn12 hv12 hi hxz (hr1.le (Nat.le_succ i)) (hR'.cg er) eri fun M1 hR1 hf1 => ?_)
      have hg1 := hg.fr hz hB (fun a ha => hf1.1 a ha)
      rw [show (i : Int) + 1 = ((i + 1 : Nat) : Int) by omega]
      refine lf_notTired hz hg1.1 hg1.2.1 hn12 (by omega) hr1 hR1 ?_
      have fj1 : FrJ i M0 M1 := fj.tr hf1.j (Nat.le_refl i) (Nat.le_refl i)
      have ff1 : FrB B M0 M1 := ff.tr fun a q _ => hf1.1 a q
      rw [erl1]
      by_cases hgd : mt z v (x :: rl r i) ≤ z 9
      · rw [if_pos hgd]
        have hnt : ntb z v (x :: rl r i) = true := decide_eq_true hgd
        have hdx : dlx (ntb z v) v L m (rl r i) x = dl (ntb z v) v L m (x :: rl r i) := by
          unfold dlx
          rw [if_neg hxl, if_pos hnt]
        refine BR_f q1 (hG (fun q => if q = i then x else r q) M1 _ _ hr1 hR1 (Or.inr (by rw [erl1]; exact hnt)) hg1 (fun M3 fj3 ff3 hg3 => ?_))
        rw [erl1, ← hdx] at hg3
        refine LET_i (ga2_L hz hB hn12 hv12 hL hLz hi hr hR hG hQ c (j + 1) M3 _ (by omega) (by omega) (fj1.tr fj3 (Nat.le_refl i) (Nat.le_succ i)) (ff1.tr ff3) ?_)
        rw [hfm, List.reverse_append, List.append_assoc]
        exact hg3
      · rw [if_neg hgd]
        exact BR_t q0 (nxt0 M1 fj1 ff1 hg1 (by unfold dlx ntb; rw [if_neg hxl, if_neg (by rw [decide_eq_true_eq]; exact hgd)]))
theorem ga_all {z : Fl} {n v B : Nat} {L : List Nat} (hz : ZOk z) (hB : 148 ≤ B) (h1 : 1 ≤ n) (hn12 : n ≤ 12) (hv12 : v ≤ 12) (hL : L.length = n) (hLz : ∀ x ∈ L, (x : Int) < z 0) : ∀ (m i d : Nat), i + m = n → m < d → GAs z n v B L (wGX6_goOnAny 103 B d) m i
  | 0, i, d, hi, hd => by
    obtain ⟨d', rfl⟩ : ∃ d', d = d' + 1 := ⟨d - 1, by omega⟩
    obtain rfl : i = n := by omega
    intro r M Ls Qx hr hR hnt hg hQ
    obtain ⟨g1, g2, g3, g5, g7, g8⟩ := id hg
    have hbk := bk_lt hz v i (rl r i)
    have hmt : mt z v (rl r i) ≤ z 9 := by
      rcases hnt with h | h
      · omega
      · exact of_decide_eq_true h
    show wbX6_goOnAny (wGX6_goOnAny 103 B d') 103 (i : Int) B M (Qx 0)
    unfold wbX6_goOnAny
    rw [hg.2.2.2.1, rd_at (n := i) rfl (by omega), show (103 : Nat) - 12 + 6 = 97 from rfl, (hR.2 i (Nat.le_refl i)).2.2.2.1]
    refine BR_f (by omega) ⟨inb_of rfl (by omega) (by decide), LET_i (wi_t ?_ (BR_f q1 ⟨inb_of rfl (by omega) (by decide), LET_i ?_⟩))⟩
    · rw [bm0, bm_nat (n := bk z v i (rl r i)) (by omega), bm_id (z := (1024 : Int) - 1) (by decide) (by decide)]
      omega
    · rw [wr_up (n := bk z v i (rl r i)) rfl (by omega)]
      refine hQ _ (FrJ.of fun a q1 q2 => up_c (by omega)) (fun a _ q => up_c q) ⟨g1.congr hz fun a ha => up_c (by omega), by rw [up_c (by omega)]; exact g2, by rw [up_c (by omega)]; exact g3, by rw [up_c (by omega)]; exact g5, fun q hq => by rw [up_c (by omega)]; exact g7 q hq, fun j hj => ?_⟩
      have hbc : brc z i j ((rl r i).reverse, v) = decide (bk z v i (rl r i) = j) := by
        unfold brc
        rw [List.reverse_reverse, decide_eq_true hmt, Bool.true_and]
      show _ = if (((rl r i).reverse, v) :: Ls).any (brc z i j) = true then 1 else 0
      rw [List.any_cons, hbc, up_k, g8 j hj]
      by_cases hjb : j = bk z v i (rl r i)
      · rw [if_pos hjb, decide_eq_true hjb.symm, Bool.true_or, if_pos rfl]
      · rw [if_neg hjb, decide_eq_false (fun e => hjb e.symm), Bool.false_or]
  | m + 1, i, d, hi, hd => by
    obtain ⟨d', rfl⟩ : ∃ d', d = d' + 1 := ⟨d - 1, by omega⟩
    intro r M Ls Qx hr hR hnt hg hQ
    show wbX6_goOnAny (wGX6_goOnAny 103 B d') 103 (i : Int) B M (Qx 0)
    unfold wbX6_goOnAny
    rw [hg.2.2.2.1, bm_nat (n := n) (by omega), bm_nat (n := i) (by omega)]
    refine BR_t (by omega) ⟨n + 1, ga2_L hz hB hn12 hv12 hL hLz (by omega) hr hR (ga_all hz hB h1 hn12 hv12 hL hLz m (i + 1) d' (by omega) (by omega)) hQ n 0 M _ (by omega) rfl FrJ.rf FrB.rf ?_⟩
    simpa using hg
/-- the sets of musts that are broken just so -/
def bs (z : Fl) (k j : Nat) : Bool := (allk k).any (brc z (pop k) j)
theorem bs_dl {z : Fl} {k j : Nat} (h1 : 1 ≤ pop k) : (((List.range (pop k)).flatMap fun v => dl (ntb z v) v (mems k 12) (pop k) []).reverse).any (brc z (pop k) j) = bs z k j := by
  unfold bs
  rw [Bool.eq_iff_iff, List.any_eq_true, List.any_eq_true]
  have er : rmn (mems k 12) [] = mems k 12 := by
    unfold rmn
    rw [List.filter_eq_self]
    intro x _
    rfl
  have hdl : ∀ v, dl (ntb z v) v (mems k 12) (pop k) [] = ((ords (pop k) (mems k 12)).map fun s => (s, v)).filter fun c => ntb z v c.1.reverse := fun v => by
    rw [dl_eq (p := ntb z v) (fun x l h => ntb_mono h) (mems_nd k 12) (pop k) [] (fun h => by omega), er]
    rfl
  constructor
  · rintro ⟨c, hc, hb⟩
    rw [List.mem_reverse, List.mem_flatMap] at hc
    obtain ⟨v, hv, hc⟩ := hc
    rw [hdl, List.mem_filter, List.mem_map] at hc
    obtain ⟨⟨s, hs, rfl⟩, _⟩ := hc
    exact ⟨(s, v), List.mem_flatMap.mpr ⟨s, hs, List.mem_map.mpr ⟨v, hv, rfl⟩⟩, hb⟩
  · rintro ⟨c, hc, hb⟩
    unfold allk at hc
    rw [List.mem_flatMap] at hc
    obtain ⟨s, hs, hc⟩ := hc
    rw [List.mem_map] at hc
    obtain ⟨v, hv, rfl⟩ := hc
    refine ⟨(s, v), ?_, hb⟩
    rw [List.mem_reverse, List.mem_flatMap]
    refine ⟨v, hv, ?_⟩
    rw [hdl, List.mem_filter, List.mem_map]
    refine ⟨⟨s, hs, rfl⟩, ?_⟩
    unfold brc at hb
    rw [Bool.and_eq_true] at hb
    exact hb.1
theorem ba_L {z : Fl} {k B : Nat} {M0 : Mem} {Q : Int → Mem → Prop} {E : Mem → Prop} (hz : ZOk z) (hB : 148 ≤ B) (h1 : 1 ≤ pop k) (h6 : pop k ≤ 6) (hkz : ∀ x ∈ mems k 12, (x : Int) < z 0) (hQ : ∀ M' : Mem, (∀ a, ¬ (91 ≤ a ∧ a ≤ 102) → a ≠ B → M' a = M0 a) → WzOk M' → (∀ j, j < 1024 → M' B j = if bs z k j = true then 1 else 0) → E M') : ∀ (m v : Nat) (M : Mem) (x2 : Int), v + m = pop k → x2 = (v : Int) → CB z M → WzOk M → (∀ a, ¬ (91 ≤ a ∧ a ≤ 102) → a ≠ B → M a = M0 a) → M 103 5 = (pop k : Int) → (∀ i, i < pop k → M 104 i = ((mems k 12).getD i 0 : Nat)) → (∀ j, j < 1024 → M B j = if (((List.range v).flatMap fun v => dl (ntb z v) v (mems k 12) (pop k) []).reverse).any (brc z (pop k) j) = true then 1 else 0) → wX6_barring_L7 Q E 103 B (m + 1) x2 M
  | 0, v, M, x2, hv, h2, hc, hw, f1, f3, f5, f6 => by
    subst h2
    obtain rfl : v = pop k := by omega
    unfold wX6_barring_L7
    rw [f3]
    refine BR_t (Int.le_refl _) (hQ M f1 hw fun j hj => ?_)
    rw [f6 j hj, bs_dl h1]
  | m + 1, v, M, x2, hv, h2, hc, hw, f1, f3, f5, f6 => by
    subst h2
    unfold wX6_barring_L7
    rw [f3, bm_nat (n := pop k) (by omega), bm_nat (n := v) (by omega)]
    refine BR_f (by omega) (lf_start (by omega) fun M1 s1 s2 s3 s4 => ?_)
    have hc1 : CB z M1 := hc.congr hz fun a ha => s4 a (by omega)
    have hw1 : WzOk M1 := hw.congr fun a q1 q2 => s4 a (by omega)
    have hg1 : GA z (pop k) v B (mems k 12) (((List.range v).flatMap fun v => dl (ntb z v) v (mems k 12) (pop k) []).reverse) M1 := ⟨hc1, s1, s2, by rw [s4 103 (by decide)]; exact f3, fun i hi => by rw [s4 104 (by decide)]; exact f5 i hi, fun j hj => by rw [s4 B (by omega)]; exact f6 j hj⟩
    unfold wX6_goOnAny
    refine ga_all hz hB h1 (by omega) (by omega) (by rw [mems_len]; rfl) hkz (pop k) 0 8 (by omega) (by omega) (fun _ => 0) M1 _ _ (fun q hq => by omega) (RowAt.zero hw1) (Or.inl rfl) hg1 (fun M2 fj ff hg2 => LET_i ?_)
    obtain ⟨g1, g2, g3, g5, g7, g8⟩ := hg2
    refine ba_L hz hB h1 h6 hkz hQ m (v + 1) M2 _ (by omega) (by omega) g1 (hw1.frj fj) (fun a q1 q2 => by rw [ff a (by omega) q2, s4 a (by omega), f1 a q1 q2]) g5 g7 fun j hj => ?_
    rw [g8 j hj, List.range_succ, List.flatMap_append, List.reverse_append]
    rw [List.flatMap_cons, List.flatMap_nil, List.append_nil]
    rfl
