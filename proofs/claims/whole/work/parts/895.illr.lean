/-! ILL: the reference's search from its start -/
theorem ol_L {n o v : Nat} {r : Nat → Nat} {M0 : Mem} {d : Int} {Q : Int → Mem → Prop} {E : Int → Int → Mem → Prop} (hR : RB v n r M0) (hn12 : n ≤ 12) (hr : ∀ i, i < n → r i < 12) (ho : o < n) (hQ : ∀ M' : Mem, (∀ a, a ≠ 141 → M' a = M0 a) → (∀ i, i < (rlo r o n).length → M' 141 i = (((rlo r o n).reverse.getD i 0 : Nat) : Int)) → E ((rlo r o n).length : Int) (stb (rlo r o n) : Int) M') : ∀ (m j : Nat) (M : Mem) (x6 x7 x8 : Int), j + m = n → x8 = (j : Int) → x6 = ((rlo r o j).length : Int) → x7 = (stb (rlo r o j) : Int) → (∀ a, a ≠ 141 → M a = M0 a) → (∀ i, i < (rlo r o j).length → M 141 i = ((rlo r o j).reverse.getD i 0 : Nat)) → wX12_ill_L88 Q E 125 (v : Int) (o : Int) d (m + 1) x6 x7 x8 M
  | 0, j, M, x6, x7, x8, hm, h8, h6, h7, f1, f2 => by
    subst h8 h6 h7
    obtain rfl : j = n := by omega
    unfold wX12_ill_L88
    rw [f1 125 (by decide), hR.1]
    exact BR_t (Int.le_refl _) (hQ M f1 f2)
  | m + 1, j, M, x6, x7, x8, hm, h8, h6, h7, f1, f2 => by
    subst h8 h6 h7
    have hrj := hr j (by omega)
    have hst : stb (rlo r o j) < 2 ^ 12 := stb_lt _ fun q hq => by
      obtain ⟨k, k1, _, k3⟩ := rlo_mem.mp hq
      rw [← k3]
      exact hr k (by omega)
    have hlen : (rlo r o j).length ≤ j := by
      rw [rlo_len]
      split <;> omega
    unfold wX12_ill_L88
    rw [f1 125 (by decide), hR.1, bm_nat (n := n) (by omega), bm_nat (n := j) (by omega), bm_nat (n := o) (by omega), rd_at (k := 125 + 7) (n := j) rfl (by omega), show (125 : Nat) + 7 = 132 from rfl, f1 132 (by decide), hR.2.2 j (by omega)]
    refine BR_f (by omega) (BR_i (fun h => LET_i (ol_L hR hn12 hr ho hQ m (j + 1) M _ _ _ (by omega) (by omega) ?_ ?_ f1 ?_)) (fun h => ⟨inb_of rfl (by omega) (by decide), inb_of rfl (by omega) (by decide), ?_⟩))
    · rw [rlo_s, if_pos (by omega)]
    · rw [rlo_s, if_pos (by omega)]
    · rw [rlo_s, if_pos (by omega)]
      exact f2
    · rw [wr_up (k := 125 + 16) (n := (rlo r o j).length) rfl (by omega), show (125 : Nat) + 16 = 141 from rfl]
      refine LET_i ⟨inb_of rfl (by omega) (by decide), ?_⟩
      rw [rd_at (n := j) rfl (by omega), up_c (a := 132) (by decide), f1 132 (by decide), hR.2.2 j (by omega), shl_one _ hrj]
      have es : rlo r o (j + 1) = r j :: rlo r o j := by rw [rlo_s, if_neg (by omega)]
      refine LET_i (LET_i (LET_i (ol_L hR hn12 hr ho hQ m (j + 1) _ _ _ _ (by omega) (by omega) ?_ ?_ (fun a ha => by rw [up_c ha]; exact f1 a ha) fun i hi => ?_)))
      · rw [es, List.length_cons]
        omega
      · rw [es, stb_cons]
        exact iOr_n (by omega) (Nat.lt_of_lt_of_le (Nat.pow_lt_pow_right (by decide) hrj) (by decide))
      · rw [es] at hi ⊢
        rw [List.length_cons] at hi
        rw [List.reverse_cons, List.getD_eq_getElem?_getD, up_k]
        by_cases hip : i = (rlo r o j).length
        · subst hip
          rw [if_pos rfl, List.getElem?_append_right (by rw [List.length_reverse]; omega), List.length_reverse, Nat.sub_self]
          rfl
        · rw [if_neg hip, List.getElem?_append_left (by rw [List.length_reverse]; omega), ← List.getD_eq_getElem?_getD]
          exact f2 i (by omega)
theorem il_151 {v o n : Nat} {d x7 : Int} {M : Mem} {Q : Int → Mem → Prop} (hv : v < n) (ho : o < n) (hn : n ≤ 12) (hQ : wX12_ill_J176 Q 125 d ((n - 1 : Nat) : Int) x7 (ivl v o n : Int) M) : BR (bm (v : Int) ≤ bm (o : Int)) (wX12_ill_J151 Q 125 (v : Int) d ((n - 1 : Nat) : Int) x7 0 (v : Int) M) (wX12_ill_J151 Q 125 (v : Int) d ((n - 1 : Nat) : Int) x7 1 (v : Int) M) := by
  have z0 : ∀ y : Int, y = (ivl v o n : Int) → wX12_ill_J176 Q 125 d ((n - 1 : Nat) : Int) x7 y M := fun y hy => by rw [hy]; exact hQ
  have key : ∀ y : Int, (v ≤ o → y = (v : Int)) → (¬ v ≤ o → y = (v : Int) - 1) → BR (bm (v : Int) ≤ 0) (wX12_ill_J175 Q 125 d ((n - 1 : Nat) : Int) x7 M) (BR (bm y ≤ 0) (wX12_ill_J175 Q 125 d ((n - 1 : Nat) : Int) x7 M) (BR (bm ((n - 1 : Nat) : Int) ≤ bm y) (wX12_ill_J175 Q 125 d ((n - 1 : Nat) : Int) x7 M) (wX12_ill_J176 Q 125 d ((n - 1 : Nat) : Int) x7 y M))) := by
    intro y h1 h2
    have hy : -1 ≤ y ∧ y ≤ 12 := by
      by_cases h : v ≤ o
      · have := h1 h
        omega
      · have := h2 h
        omega
    have hI : (ivl v o n : Int) = if 0 < y ∧ y < ((n - 1 : Nat) : Int) then y else 0 := by
      unfold ivl
      by_cases h : v ≤ o
      · have := h1 h
        rw [if_pos h]
        split <;> split <;> omega
      · have := h2 h
        rw [if_neg h]
        split <;> split <;> omega
    have hvy : (v : Int) ≤ 0 → y ≤ 0 := fun h => by
      by_cases h' : v ≤ o
      · have := h1 h'
        omega
      · have := h2 h'
        omega
    unfold wX12_ill_J175
    rw [bm_nat (n := v) (by omega), bm_nat (n := n - 1) (by omega), bm_id (z := y) (by omega) (by omega)]
    refine BR_i (fun h => z0 _ ?_) (fun h => BR_i (fun h' => z0 _ ?_) (fun h' => BR_i (fun h'' => z0 _ ?_) (fun h'' => z0 _ ?_)))
    · rw [hI, if_neg (by have := hvy h; omega)]
    · rw [hI, if_neg (by omega)]
    · rw [hI, if_neg (by omega)]
    · rw [hI, if_pos (by omega)]
  rw [bm_nat (n := v) (by omega), bm_nat (n := o) (by omega)]
  unfold wX12_ill_J151
  have hbv : bm (v : Int) = (v : Int) := bm_nat (by omega)
  refine BR_i (fun h => LET_i (key _ (fun _ => by omega) (fun h' => by omega))) (fun h => LET_i (key _ (fun h' => by omega) (fun _ => rfl)))
theorem ilS_eq {z : Fl} {r : Nat → Nat} {n v o : Nat} {T : List (List Nat)} (hn2 : 2 ≤ n) (hp : pop (ilK r n o) = n - 1) (hT : ords (n - 1) (List.range (n - 1)) = T) : (T.map fun b => (ordE (ilK r n o) b, ivl v o n)).foldl (ist' z (n - 1) (od r n)) none = ilS z r n v o := by
  unfold ilS
  rw [dl_eq (p := goodb z (ivl v o n) (n - 1)) (fun x l h => goodb_mono h) (mems_nd _ 12) (n - 1) [] (fun h => by omega)]
  have er : rmn (mems (ilK r n o) 12) [] = mems (ilK r n o) 12 := by
    unfold rmn
    rw [List.filter_eq_self]
    intro x _
    rfl
  have eo : ords (n - 1) (mems (ilK r n o) 12) = T.map (ordE (ilK r n o)) := by
    rw [← hp, ords_mems, hp, hT]
    rfl
  rw [er, eo, List.foldl_filter, List.map_map]
  have e : ∀ (l : List (List Nat)) (st : Option (Nat × Cand)), (l.map fun b => (ordE (ilK r n o) b, ivl v o n)).foldl (ist' z (n - 1) (od r n)) st = (l.map ((fun s => ([].reverse ++ s, ivl v o n)) ∘ ordE (ilK r n o))).foldl (fun x y => if goodb z (ivl v o n) (n - 1) y.1.reverse = true then ist z (n - 1) (od r n) x y else x) st := by
    intro l
    induction l with
    | nil => intro st; rfl
    | cons b l ih =>
      intro st
      exact ih _
  exact e T none
theorem mf_illTail {z : Fl} {v n o : Nat} {r : Nat → Nat} {M3 : Mem} {d : Int} {Q : Int → Mem → Prop} (hz : ZOk z) (hmb : MB z M3) (hR : RB v n r M3) (hn2 : 2 ≤ n) (hn7 : n ≤ 7) (hv : v < n) (ho : o < n) (hr : RowPs z r n) (hj : Inj r n)
    (hQ : ∀ M' x10, Scr M3 M' → (∀ a, 94 ≤ a → a ≤ 100 → M' a = M3 a) → RIl z (n - 1) M' x10 (ilS z r n v o) → BR (bm x10 < 0) (wX12_ill_J286 Q 125 M') (BR (bm d < bm ((n - 1 : Nat) : Int)) (BR (bm d = (-1)) (Q x10 M') (BR (bm d = (-2)) (Q (ivl v o n : Int) M') (inb d 12 ∧ Q (rd M' (125 + 11) d) M'))) (wX12_ill_J286 Q 125 M'))) : ∃ N_49, wX12_ill_L88 Q (fun x6_25 x7_26 M_27 => BR (bm (v : Int) ≤ bm (o : Int)) (wX12_ill_J151 Q 125 (v : Int) d x6_25 x7_26 0 (v : Int) M_27) (wX12_ill_J151 Q 125 (v : Int) d x6_25 x7_26 1 (v : Int) M_27)) 125 (v : Int) (o : Int) d N_49 0 0 0 M3 := by
  have hz0 := hz.1
  have hr12 : ∀ i, i < n → r i < 12 := fun i hi => by have := hr i hi; omega
  have hm12 : ∀ x ∈ rlo r o n, x < 12 := fun x hx => by
    obtain ⟨k, k1, _, k3⟩ := rlo_mem.mp hx
    rw [← k3]
    exact hr12 k k1
  have hnd := rlo_nd (o := o) hj
  have hlen : (rlo r o n).length = n - 1 := by rw [rlo_len, if_pos ho]
  have hpop : pop (ilK r n o) = n - 1 := by
    unfold ilK
    rw [pop_stb hnd hm12, hlen]
  have hk12 : ilK r n o < 2 ^ 12 := stb_lt _ hm12
  have hkz : ∀ x ∈ mems (ilK r n o) 12, (x : Int) < z 0 := fun x hx => by
    obtain ⟨k, k1, _, k3⟩ := rlo_mem.mp (stb_mem.mp (mem_mems.mp hx).2)
    rw [← k3]
    exact hr k k1
  have hvn : ivl v o n < n - 1 := by
    unfold ivl
    by_cases h : (if v ≤ o then v else v - 1) < n - 1
    · rw [if_pos h]
      exact h
    · rw [if_neg h]
      omega
  refine ⟨n + 1, ol_L hR (by omega) hr12 ho (fun M4 f1 f2 => ?_) n 0 M3 _ _ _ (by omega) rfl rfl rfl (fun _ _ => rfl) (fun i hi => by cases hi)⟩
  rw [hlen] at f2 ⊢
  refine il_151 hv ho (by omega) ?_
  unfold wX12_ill_J176
  refine LET_i (mf_firstOrder hk12 fun M5 g1 g2 g3 g4 => LET_i ?_)
  replace g3 : M5 125 13 = ((n - 1 : Nat) : Int) := by rw [← hpop]; exact g3
  replace g4 : ∀ i, i < n - 1 → M5 132 i = (((mems (ilK r n o) 12).getD i 0 : Nat) : Int) := fun i hi => g4 i (show i < pop (ilK r n o) by rw [hpop]; exact hi)
  obtain ⟨a, T, hT⟩ : ∃ a T, ords (n - 1) (List.range (n - 1)) = [] ++ a :: T := by
    cases h : ords (n - 1) (List.range (n - 1)) with
    | nil =>
      have hl : ∀ n, n ≤ 6 → ords n (List.range n) ≠ [] := by decide +kernel
      exact absurd h (hl (n - 1) (by omega))
    | cons a T => exact ⟨a, T, rfl⟩
  have ha : ∀ i, i < n - 1 → a.getD i 0 = i := by
    have hall : ∀ n, n ≤ 6 → ((ords n (List.range n)).headD []) = List.range n := by decide +kernel
    have h := hall (n - 1) (by omega)
    rw [hT] at h
    have h' : a = List.range (n - 1) := h
    intro i hi
    rw [h', List.getD_eq_getElem?_getD, List.getElem?_eq_getElem (by rw [List.length_range]; exact hi), List.getElem_range]
    rfl
  have o6 : ∀ a, a ≠ 125 → a ≠ 132 → a ≠ 141 → up M5 125 14 (ivl v o n : Int) a = M3 a := fun a q1 q2 q3 => by rw [up_c q1, g1 a q1 q2, f1 a q3]
  have o7 : ∀ j, j ≠ 13 → j ≠ 14 → up M5 125 14 (ivl v o n : Int) 125 j = M3 125 j := fun j q1 q2 => by rw [up_kn q2, g2 j q1, f1 125 (by decide)]
  have hcore := il_O (z := z) (k := ilK r n o) (v := ivl v o n) (old := od r n) (O := (rlo r o n).reverse) (M0 := up M5 125 14 (ivl v o n : Int)) (fin := ilS z r n v o) (y4 := d) (y9 := (ivl v o n : Int)) (Q := Q) (E := fun x10_42 M_43 => BR (bm x10_42 < 0) (wX12_ill_J286 Q 125 M_43) (BR (bm d < bm ((n - 1 : Nat) : Int)) (BR (bm d = (-1)) (Q x10_42 M_43) (BR (bm d = (-2)) (Q (ivl v o n : Int) M_43) (inb d 12 ∧ Q (rd M_43 (125 + 11) d) M_43))) (wX12_ill_J286 Q 125 M_43))) hz hk12 hkz (by omega) (by omega) (by omega) ((mems_perm hnd hm12).trans (List.reverse_perm _).symm) (List.pairwise_reverse.mpr (rlo_pw hj (Nat.le_refl n))) (fun i hi => by rw [up_c (by decide), g1 141 (by decide) (by decide), f2 i (by omega)]) (fun M' x10 fq hS => hQ M' x10 (Scr.tr (M' := up M5 125 14 (ivl v o n : Int)) ⟨fun a _ _ _ _ q5 q6 _ => o6 a q5 (by omega) (by omega), o7 2 (by decide) (by decide), o7 33 (by decide) (by decide)⟩ fq.scr) (fun a q1 q2 => by rw [fq.1 a (by omega) (by omega), o6 a (by omega) (by omega) (by omega)]) (by rw [hpop] at hS; exact hS)) T [] a (up M5 125 14 (ivl v o n : Int)) (-1) 1 none (by rw [hpop]; exact hT) rfl (hmb.congr (o6 126 (by decide) (by decide) (by decide))) (by rw [up_kn (by decide), g3, hpop]) (up_s _ _ _ _) (fun i hi => ?_) FrQ.rf rfl (by rw [hpop]; exact ilS_eq hn2 hpop hT)
  · rw [hpop] at hcore
    exact ⟨T.length + 2, hcore⟩
  · rw [up_c (by decide), g4 i (by omega)]
    show _ = (((mems (ilK r n o) 12).getD (a.getD i 0) 0 : Nat) : Int)
    rw [ha i (by omega)]
