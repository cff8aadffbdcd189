/-! FEWEST: the class's call -/
theorem lf_101 {t : Int} {z : Fl} {k B : Nat} {M3 N3 : Mem} {Q : Mem → Prop} (hI : Inv t N3) (hzz : z = vw (N3 126)) (hk : setIn z k 10) (hLz : ∀ x ∈ mems k 12, (x : Int) < z 0) (h7 : N3 108 7 = (B : Int)) (h148 : 148 ≤ B) (hkd : M3 0 B = kA 1 10240) (hs : ∀ a, a ≠ 108 → a ≠ 110 → M3 a = N3 a) (h7' : M3 108 7 = (B : Int)) (h2 : M3 108 2 = (k : Int)) (hg : FwG z (mems k 12) M3) (hQ : ∀ M', Inv t M' → M' 126 = N3 126 → SsHas z k M' → Q M') : wX7_orderFewest_J101 Q 108 M3 := by
  have hz : ZOk z := by rw [hzz]; exact hI.zok
  obtain ⟨k1, k2, k3⟩ := id hk
  have hml : (mems k 12).length = pop k := mems_len k 12
  have hLz' : ∀ i, i < (mems k 12).length → (((mems k 12).getD i 0 : Nat) : Int) < z 0 := fun i hi => hLz _ (by
    rw [List.getD_eq_getElem?_getD, List.getElem?_eq_getElem hi]
    exact List.getElem_mem _)
  have e7 : (M3 108 7).toNat = B := by rw [h7']; rfl
  unfold wX7_orderFewest_J101
  rw [e7]
  refine ⟨⟨by omega, hkd⟩, lf_fillLeast hz h148 hg (by omega) hLz' fun M4 f1 f2 => ?_⟩
  have e74 : (M4 108 7).toNat = B := by rw [f1 108 (by omega)]; exact e7
  rw [e74]
  refine ⟨⟨by omega, by rw [f1 0 (by omega)]; exact hkd⟩, lf_readOrder hz h148 k2 k3 hLz (hg.congr hz (fun a ha => f1 a (by omega)) (by rw [f1 108 (by omega)]) (f1 110 (by omega))) f2 fun M5 g1 g2 g3 => LET_i (hQ _ (hI.s2 (fun a q1 q2 q3 q4 => ?_) ?_ ⟨?_, fun _ => ⟨k, ?_, by rw [← hzz]; exact hk, by rw [← hzz]; exact g3.congr (by rw [up_kn (by decide)]) (up_c (by decide))⟩⟩) ?_ (g3.congr (by rw [up_kn (by decide)]) (up_c (by decide))))⟩
  · rw [up_c q1, g1 a q1 q2, f1 a (by rw [h7] at q4; omega), hs a q1 q3]
  · rw [up_kn (by decide), g2 7 (by decide), f1 108 (by omega), h7', h7]
  · rw [up_s]
    exact isB1
  · rw [up_kn (by decide), g2 2 (by decide), f1 108 (by omega), h2]
  · rw [up_c (by decide), g1 126 (by decide) (by decide), f1 126 (by omega), hs 126 (by decide) (by decide)]
theorem lf_orderFewest {t : Int} {M : Mem} {k : Nat} {Q : Mem → Prop} (hI : Inv t M) (hk : setIn (vw (M 126)) k 10) (hQ : ∀ M', Inv t M' → M' 126 = M 126 → SsHas (vw (M 126)) k M' → Q M') : wX7_orderFewest 108 (k : Int) M Q := by
  have hz := hI.zok
  have hz0 := hz.1
  have hcb := hI.cb
  obtain ⟨np, hnp⟩ : ∃ np : Nat, vw (M 126) 0 = (np : Int) := ⟨(vw (M 126) 0).toNat, by omega⟩
  obtain ⟨k1, k2, k3⟩ := id hk
  rw [hnp, Int.toNat_natCast] at k1
  have hk12 : k < 2 ^ 12 := Nat.lt_of_lt_of_le k1 (p2le (by omega))
  have hml : (mems k 12).length = pop k := mems_len k 12
  have hLz : ∀ x ∈ mems k 12, (x : Int) < vw (M 126) 0 := fun x hx => by
    have hb := (mem_mems.mp hx).2
    rw [hnp]
    rcases Nat.lt_or_ge x np with h | h
    · omega
    · rw [tb_big k1 h] at hb
      cases hb
  have j16 : wX7_orderFewest_J16 Q 108 (k : Int) M := by
    unfold wX7_orderFewest_J16
    refine LET_i (LET_i ⟨np + 1, gb_L (M0 := up (up M 108 2 (k : Int)) 108 3 0) (np := np) (by rw [up_c (by decide), up_c (by decide), hcb.1]; exact hnp) (by omega) k1 k3 (by rw [up_kn (by decide), up_s]) (fun M2 f1 f2 f3 f4 => ?_) np 0 _ _ (by omega) rfl (fun _ _ _ => rfl) (fun _ _ => rfl) (up_s _ _ _ _) (fun i hi => by simp [popn] at hi)⟩)
    have c1 : ∀ a, a ≠ 108 → a ≠ 110 → M2 a = M a := fun a q1 q2 => by rw [f1 a q1 q2, up_c q1, up_c q1]
    have c2 : ∀ j, j ≠ 2 → j ≠ 3 → M2 108 j = M 108 j := fun j q1 q2 => by rw [f2 j q2, up_kn q2, up_kn q1]
    have c22 : M2 108 2 = (k : Int) := by rw [f2 2 (by decide), up_kn (by decide), up_s]
    have hg : FwG (vw (M 126)) (mems k 12) M2 := ⟨hcb.congr hz fun a ha => c1 a (by omega) (by omega), by rw [f3, hml], fun i hi => f4 i (by omega)⟩
    have hIN : Inv t (up M2 108 1 0) := hI.s2 (fun a q1 q2 q3 _ => by rw [up_c q1]; exact c1 a q1 q3) (by rw [up_kn (by decide)]; exact c2 7 (by decide) (by decide)) (SsOk.off (up_s _ _ _ _))
    have eN : ∀ a, a ≠ 108 → up M2 108 1 0 a = M2 a := fun a h => up_c h
    have e126 : up M2 108 1 0 126 = M 126 := by rw [up_c (by decide)]; exact c1 126 (by decide) (by decide)
    unfold wX7_orderFewest_J85
    refine BR_i (fun h0 => ?_) (fun h0 => ?_)
    · obtain ⟨hI3, hB⟩ := hIN.mks (by rw [up_kn (by decide)]; exact h0)
      have enx : nx (up M2 108 1 0) = nx M2 := by unfold nx; rw [up_c (by decide)]
      rw [enx] at hI3 hB
      have ea : ∀ a, a ≠ 108 → al (up M2 108 1 0) (kA 1 10240) a = al M2 (kA 1 10240) a := fun a h => by
        funext j
        unfold al
        rw [enx, up_c (a := 0) (by decide), up_c h]
      have hkn : al M2 (kA 1 10240) 0 (nx M2) = kA 1 10240 := by
        unfold al
        rw [if_pos rfl, if_neg (by omega), if_pos rfl]
      have em : ∀ a, a ≠ 0 → a ≠ nx M2 → al M2 (kA 1 10240) a = M2 a := fun a q1 q2 => by
        funext j
        unfold al
        rw [if_neg q1, if_neg q2]
      refine LET_i ⟨⟨by omega, hkn⟩, LET_i ?_⟩
      refine lf_101 (B := nx M2) hI3 ?_ hk hLz (up_s _ _ _ _) hB (by rw [up_c (by decide)]; exact hkn) (fun a q1 q2 => by rw [up_c q1, up_c q1, ea a q1]) (up_s _ _ _ _) (by rw [up_kn (by decide), em 108 (by decide) (by omega)]; exact c22) ⟨hg.1.congr hz fun a ha => by rw [up_c (by omega), em a (by omega) (by omega)], by rw [up_kn (by decide), em 108 (by decide) (by omega)]; exact hg.2.1, fun i hi => by rw [up_c (by decide), em 110 (by decide) (by omega)]; exact hg.2.2 i hi⟩ fun M' i1 i2 i3 => hQ M' i1 ?_ i3
      · rw [up_c (by decide), ea 126 (by decide), em 126 (by decide) (by omega), c1 126 (by decide) (by decide)]
      · rw [i2, up_c (by decide), ea 126 (by decide), em 126 (by decide) (by omega), c1 126 (by decide) (by decide)]
    · have hw3 := hIN.2.2.2.1.2.2.1
      rw [show up M2 108 1 0 108 7 = M2 108 7 from up_kn (by decide), show up M2 108 1 0 0 = M2 0 from up_c (by decide)] at hw3
      obtain ⟨b1, b2, b3⟩ := hw3.resolve_left h0
      obtain ⟨B, hB⟩ : ∃ B : Nat, M2 108 7 = (B : Int) := ⟨(M2 108 7).toNat, by omega⟩
      rw [hB] at b1 b3
      exact lf_101 (B := B) hIN (by rw [e126]) hk hLz (by rw [up_kn (by decide)]; exact hB) (by omega) b3 (fun a q1 _ => (eN a q1).symm) hB c22 hg fun M' i1 i2 i3 => hQ M' i1 (by rw [i2, e126]) i3
  unfold wX7_orderFewest
  obtain ⟨se1, se2⟩ := hI.2.2.2.2.2.2.2.2.1
  rcases se1 with h0 | h0
  · rw [h0]
    exact BR_t bm0 j16
  · obtain ⟨k', e1, e2, e3⟩ := se2 (by rw [h0]; decide)
    have hk'12 : k' < 2 ^ 12 := Nat.lt_of_lt_of_le e2.1 (p2le (by rw [hnp, Int.toNat_natCast]; omega))
    rw [h0, e1, bm_nat (n := k) (by omega), bm_nat (n := k') (by omega)]
    refine BR_f q1 (BR_i (fun h => ?_) (fun _ => j16))
    obtain rfl : k' = k := by omega
    exact hQ M hI rfl e3
