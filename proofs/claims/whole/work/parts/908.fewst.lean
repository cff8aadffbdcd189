/-! FEWEST: both sides -/
theorem ford_len {z : Fl} {L : List Nat} (hL : L.length ≤ 10) : ∀ {m s : Nat} {last : Option Nat}, m ≤ pop s → s < 2 ^ L.length → (ford z L m s last).length = m
  | 0, _, _, _, _ => rfl
  | m + 1, s, last, hp, hs => by
    have hfb := fun j => ff_b (z := z) (last := last) (st := s) (j := j) hL hs
    obtain ⟨am1, am2⟩ := amn_mnl (f := ff z L last s) (p := fun j => s.testBit j) (n := L.length) (fun j _ _ => by have := hfb j; omega)
    have hfo := ford_s z L m s last
    cases ha : amn (ff z L last s) (fun j => s.testBit j) L.length with
    | none =>
      exfalso
      have h0 : s = 0 := Nat.eq_of_testBit_eq fun k => by
        rw [Nat.zero_testBit]
        rcases Nat.lt_or_ge k L.length with q | q
        · exact (am1 ha).2 k q
        · exact tb_big hs q
      rw [h0, show pop 0 = 0 by decide +kernel] at hp
      omega
    | some b =>
      obtain ⟨a1, a2, a3, a4, a5⟩ := am2 b ha
      have hfo' : ford z L (m + 1) s last = b :: ford z L m (rmb s b) (some b) := by
        rw [hfo]
        show (match amn (ff z L last s) (fun j => s.testBit j) L.length with
          | none => []
          | some j => j :: ford z L m (rmb s j) (some j)) = _
        rw [ha]
      have hpr := pop_rmb a3 (by omega)
      rw [hfo', List.length_cons, ford_len hL (by omega) (Nat.lt_of_le_of_lt rmb_le hs)]
theorem map_getD {l L : List Nat} {i : Nat} (h : i < l.length) : (l.map fun j => L.getD j 0).getD i 0 = L.getD (l.getD i 0) 0 := by
  rw [List.getD_eq_getElem?_getD, List.getElem?_map, List.getElem?_eq_getElem h, List.getD_eq_getElem?_getD (l := l), List.getElem?_eq_getElem h]
  rfl
theorem mf_few {z : Fl} {k : Nat} {b : Int} {M : Mem} {Q : Int → Mem → Prop} (hz : ZOk z) (hmb : MB z M) (hk : setIn z k 10) (eb : bm b = b) (hb1 : -1 ≤ b) (hb : b < (pop k : Int)) (hQ : ∀ M' : Mem, (∀ a, a ≠ 139 → a ≠ 140 → M' a = M a) → (0 ≤ b → Q (((fewOrd z k).getD b.toNat 0 : Nat) : Int) M') ∧ (¬ 0 ≤ b → Q (fewCost z k) M')) : ∃ N_50, wX12_fewest_L56 Q (fun M_18 => wX12_findLeast 125 (pop k : Int) M_18 (fun M_19 => LET ((iShl 1 (pop k : Int)) - 1) (fun x5_20 => ∃ N_49, wX12_fewest_L111 Q (fun x6_26 M_27 => BR (0 ≤ bm b) (LET ((-1)) (fun x7_28 => ∃ N_48, wX12_fewest_L178 Q 125 b N_48 x5_20 x7_28 x6_26 0 M_27)) (Q x6_26 M_27)) 125 b (pop k : Int) x5_20 N_49 1000000 0 M_19))) 125 (k : Int) b (pop k : Int) N_50 0 0 M := by
  have hz0 := hz.1
  obtain ⟨np, hnp⟩ : ∃ np : Nat, z 0 = (np : Int) := ⟨(z 0).toNat, by omega⟩
  obtain ⟨k1, k2, k3⟩ := id hk
  rw [hnp, Int.toNat_natCast] at k1
  have hk12 : k < 2 ^ 12 := Nat.lt_of_lt_of_le k1 (p2le (by omega))
  have hml : (mems k 12).length = pop k := mems_len k 12
  have hLz : ∀ i, i < (mems k 12).length → (((mems k 12).getD i 0 : Nat) : Int) < z 0 := fun i hi => by
    obtain ⟨h1, h2⟩ := mems_lt hi
    rw [hnp]
    rcases Nat.lt_or_ge ((mems k 12).getD i 0) np with h | h
    · omega
    · rw [tb_big k1 h] at h2
      cases h2
  have hcost : fewCost z k = mnl (fz z (mems k 12)) (fun _ => true) (mems k 12).length := by
    unfold fewCost
    rw [hml]
    refine mnl_cg (fun _ _ => rfl) fun j _ _ => ?_
    unfold fz
    rw [hml]
  have hord : ∀ i, i < pop k → (fewOrd z k).getD i 0 = (mems k 12).getD ((ford z (mems k 12) (mems k 12).length (2 ^ (mems k 12).length - 1) none).getD i 0) 0 := fun i hi => by
    have hp0 : 0 < 2 ^ (mems k 12).length := Nat.two_pow_pos _
    unfold fewOrd
    rw [← hml]
    exact map_getD (by rw [ford_len (by omega) (by rw [full_pop (by omega)]; omega) (by omega)]; omega)
  refine ⟨12 + 1, wh_L hk12 k3 rfl (fun M1 f1 f2 => ?_) 12 0 M _ _ rfl rfl rfl (fun _ _ => rfl) (fun i hi => by simp [popn] at hi)⟩
  rw [← hml] at f2 ⊢
  generalize hLL : mems k 12 = L at *
  have hp : 2 ^ L.length ≤ 1024 := Nat.le_trans (p2le (m := 10) (by omega)) (by decide)
  have hp0 : 0 < 2 ^ L.length := Nat.two_pow_pos _
  have hg : FwR z L M1 := ⟨hmb.congr (f1 126 (by decide)), f2, hLz⟩
  refine mf_findLeast hz hg (by omega) fun M2 g1 g2 => ?_
  have hg2 : FwR z L M2 := hg.congr (g1 126 (by decide)) (g1 140 (by decide))
  have hx2 : iShl 1 (L.length : Int) - 1 = ((2 ^ L.length - 1 : Nat) : Int) := by
    rw [shl_13 _ (by omega)]
    omega
  rw [hx2]
  obtain ⟨q1', q2'⟩ := hQ M2 fun a h1 h2 => by rw [g1 a h1, f1 a h2]
  refine LET_i ⟨L.length + 1, r111_L (by omega) g2 ?_ L.length 0 _ _ (by omega) rfl rfl⟩
  rw [eb]
  refine BR_i (fun h => LET_i ?_) (fun h => ?_)
  · obtain ⟨w, rfl⟩ : ∃ w : Nat, b = (w : Int) := ⟨b.toNat, by omega⟩
    refine ⟨w + 2, r178_L hz hg2 (by omega) (by omega) g2 w L.length 0 (2 ^ L.length - 1) none _ _ _ _ (by omega) (by omega) (by rw [full_pop (by omega)]; omega) (by omega) (fun i hi => by cases hi) rfl rfl rfl ?_ ?_⟩
    · refine mnl_cg (fun j hj => ?_) fun j _ _ => ?_
      · rw [Nat.testBit_two_pow_sub_one]
        exact (decide_eq_true hj).symm
      · unfold fz ff
        have e : stepc z L none j = 0 := rfl
        rw [e, Int.zero_add]
    · have := q1' h
      rw [Int.toNat_natCast, hord w (by omega)] at this
      exact this
  · rw [← hcost]
    exact q2' h
theorem st_fewest {t : Int} {M : Mem} (hI : Inv t M) {a b : Int} (ea : bm a = a) (eb : bm b = b) : Step t M (fun M Q => wX11_fewest 1 a b M Q) (fun M Q => wX12_fewest 125 a b M Q) := by
  intro Q1 hQ1
  have hz := hI.zok
  have n1 : bm (-1) = -1 := li_n1
  have e0 : M 126 0 = vw (M 126) 0 := e0_of rfl
  -- an error on both sides
  have errc : ∀ (k : Nat) (i : Int), i = (k : Int) → 1 ≤ k → k ≤ 6 → (∀ M1 Q2, M1 126 = M 126 → wX12_error 125 i M1 (fun r M => Q2 r M) → wX12_fewest 125 a b M1 Q2) → wX11_fewest_J31 Q1 1 a b i M := by
    intro k i hi h1 h6 hB
    have hbi : ¬ bm i = 0 := by
      rw [hi, bm_nat (n := k) (by omega)]
      omega
    unfold wX11_fewest_J31
    exact BR_f hbi (lf_error11 hi h1 h6 (hQ1 _ _ fun Q2 hQ2 => hB _ Q2 (up_c (by decide)) (st_err hI hi h6 hQ2)))
  have e16 : ∀ (k : Nat) (i : Int), i = (k : Int) → 1 ≤ k → k ≤ 6 → (∀ M1 Q2, M1 126 = M 126 → wX12_error 125 i M1 (fun r M => Q2 r M) → wX12_fewest 125 a b M1 Q2) → wX11_fewest_J16 Q1 1 a b i M := by
    intro k i hi h1 h6 hB
    unfold wX11_fewest_J16
    exact BR_f (by rw [hi, bm_nat (n := k) (by omega)]; omega) (errc k i hi h1 h6 hB)
  unfold wX11_fewest
  rw [eb]
  refine BR_i (fun hb1 => ?_) (fun hb1 => e16 1 1 rfl (by decide) (by decide) fun M1 Q2 h126 he => ?_)
  · refine lf_setFault hz hI.cb ea (most := 10) rfl (by decide) (fun hn => e16 1 1 rfl (by decide) (by decide) fun M1 Q2 h126 he => ?_) (fun k hk hi hs => e16 5 5 rfl (by decide) (by decide) fun M1 Q2 h126 he => ?_) (fun k hk hs => ?_)
    · unfold wX12_fewest wX12_fewest_J13
      exact mf_isSet hz (e0_of h126) ea (fun h => absurd h hn) (fun _ => BR_t q0 he)
    · subst hk
      unfold wX12_fewest
      refine mf_isSet hz (e0_of h126) ea (fun _ => BR_f q1 ?_) (fun h => absurd hi h)
      rw [eb]
      exact BR_t hb1 (mf_isSmall (hi.lt hz).1 (most := 10) rfl (by decide) (fun h => absurd h hs) (fun _ => BR_t q0 he))
    · subst hk
      have hin : inS (vw (M 126)) (k : Int) := ⟨by omega, by have := hs.1; omega⟩
      have hk12 := (hin.lt hz).1
      have hpk := pop_le k
      -- the reference's way in
      have ref : ∀ (M1 : Mem) (Q2 : Int → Mem → Prop), M1 126 = M 126 → (BR (b < (pop k : Int)) (∃ N_50, wX12_fewest_L56 Q2 (fun M_18 => wX12_findLeast 125 (pop k : Int) M_18 (fun M_19 => LET ((iShl 1 (pop k : Int)) - 1) (fun x5_20 => ∃ N_49, wX12_fewest_L111 Q2 (fun x6_26 M_27 => BR (0 ≤ bm b) (LET ((-1)) (fun x7_28 => ∃ N_48, wX12_fewest_L178 Q2 125 b N_48 x5_20 x7_28 x6_26 0 M_27)) (Q2 x6_26 M_27)) 125 b (pop k : Int) x5_20 N_49 1000000 0 M_19))) 125 (k : Int) b (pop k : Int) N_50 0 0 M1) (wX12_error 125 2 M1 (fun r_52 M_51 => Q2 r_52 M_51))) → wX12_fewest 125 (k : Int) b M1 Q2 := by
        intro M1 Q2 h126 hx
        unfold wX12_fewest
        refine mf_isSet hz (e0_of h126) ea (fun _ => BR_f q1 ?_) (fun h => absurd hin h)
        rw [eb]
        refine BR_t hb1 (mf_isSmall hk12 (most := 10) rfl (by decide) (fun _ => BR_f q1 (lf_ones rfl hk12 ?_)) (fun h => absurd hs.2 h))
        rw [bm_nat (n := pop k) (by omega)]
        rw [eb] at hx
        exact hx
      unfold wX11_fewest_J16
      refine BR_t bm0 ?_
      rw [lf_bitCount rfl hk12, eb, bm_nat (n := pop k) (by omega)]
      refine BR_i (fun hlt => ?_) (fun hlt => errc 2 2 rfl (by decide) (by decide) fun M1 Q2 h126 he => ref M1 Q2 h126 (BR_f hlt he))
      unfold wX11_fewest_J31
      refine BR_t bm0 (lf_orderFewest hI hs fun M' hI' h126 hss => ?_)
      have fin : ∀ y : Int, (∀ (M2 : Mem) (Q2 : Int → Mem → Prop), Q2 y M2 → (0 ≤ b → Q2 (((fewOrd (vw (M 126)) k).getD b.toNat 0 : Nat) : Int) M2) ∧ (¬ 0 ≤ b → Q2 (fewCost (vw (M 126)) k) M2)) → Q1 y M' := by
        intro y hy
        refine hQ1 _ _ fun Q2 hQ2 => ref M' Q2 h126 (BR_t hlt (mf_few hz (mb_of h126) hs eb hb1 hlt fun M2 f => hy M2 Q2 (hQ2 _ _ rfl (Inv.mono (hI'.scr ⟨fun a _ _ _ _ _ q6 _ => f a (by omega) (by omega), by rw [f 125 (by decide) (by decide)], by rw [f 125 (by decide) (by decide)]⟩ (hI'.wz.congr fun a q1 q2 => f a (by omega) (by omega))) (by omega)))))
      rw [eb]
      refine BR_i (fun h => ?_) (fun h => ?_)
      · obtain ⟨w, rfl⟩ : ∃ w : Nat, b = (w : Int) := ⟨b.toNat, by omega⟩
        refine ⟨inb_of rfl (by omega) (by decide), ?_⟩
        rw [rd_at (n := w) rfl (by omega), show (1 : Nat) + 108 = 109 from rfl, hss.2 w (by omega)]
        exact fin _ fun M2 Q2 hq => ⟨fun _ => hq, fun hn => absurd h hn⟩
      · rw [show (1 : Nat) + 107 = 108 from rfl, hss.1]
        exact fin _ fun M2 Q2 hq => ⟨fun hp => absurd hp h, fun _ => hq⟩
  · unfold wX12_fewest wX12_fewest_J13
    refine mf_isSet hz (e0_of h126) ea (fun _ => BR_f q1 ?_) (fun _ => BR_t q0 he)
    rw [eb]
    exact BR_f hb1 he
