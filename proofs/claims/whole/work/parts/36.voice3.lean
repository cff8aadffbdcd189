/-! VOICES: the reference's -/
section RefVoice
variable {k l : Nat} {u d : Int} {M : Mem} {T : List Int} {Q : Int → Mem → Prop}
def VM (k l : Nat) (u d : Int) (M : Mem) (T : List Int) : Prop := M 125 33 = (T.length : Int) ∧ (∀ i, i < T.length → M 143 i = T.getD i 0) ∧ M 125 34 = (l : Int) ∧ M 126 (100 + 4 * l) = (k : Int) ∧ M 126 (101 + 4 * l) = u ∧ M 126 (102 + 4 * l) = d
def FrV (M M' : Mem) : Prop := (∀ a, a ≠ 125 → a ≠ 143 → M' a = M a) ∧ ∀ j, j ≠ 33 → j ≠ 35 → M' 125 j = M 125 j
theorem FrV.rf : FrV M M := ⟨fun _ _ _ => rfl, fun _ _ _ => rfl⟩
theorem FrV.tr {M M' M'' : Mem} (h : FrV M M') (h' : FrV M' M'') : FrV M M'' := ⟨fun a q1 q2 => by rw [h'.1 a q1 q2, h.1 a q1 q2], fun j q1 q2 => by rw [h'.2 j q1 q2, h.2 j q1 q2]⟩
theorem vm_body {b : Int} {Q : Mem → Prop} (h : VM k l u d M T) (hl : T.length < 30) (kk : ∀ M', FrV M M' → M' 125 35 = M 125 35 → VM k l u d M' (T ++ [b]) → Q M') : wX12_body 125 b M Q := by
  obtain ⟨h1, h2, h3, h4, h5, h6⟩ := h
  simp only [wX12_body, Nat.reduceAdd]
  rw [h1]
  refine BR_f (by rw [bm_nat (by omega)]; omega) ⟨inb_of rfl (by omega) (by decide), LET_i ?_⟩
  rw [wr_up (n := T.length) rfl (by omega), up_c (a := 125) (k := 143) (by decide), h1]
  refine LET_i (kk _ ⟨fun a q1 q2 => by rw [up_c q1, up_c q2], fun j q1 q2 => by rw [up_kn q1, up_c (by decide)]⟩ (by rw [up_kn (by decide), up_c (by decide)]) ⟨?_, ?_, ?_, ?_, ?_, ?_⟩)
  · rw [up_s]
    simp
  · intro i hi
    rw [up_c (by decide)]
    simp only [List.length_append, List.length_cons, List.length_nil] at hi
    by_cases hi2 : i = T.length
    · subst hi2
      rw [up_s]
      simp
    · rw [up_kn hi2, h2 i (by omega)]
      simp [List.getD, List.getElem?_append_left (show i < T.length by omega)]
  · rw [up_kn (by decide), up_c (by decide)]
    exact h3
  · rw [up_c (by decide), up_c (by decide)]
    exact h4
  · rw [up_c (by decide), up_c (by decide)]
    exact h5
  · rw [up_c (by decide), up_c (by decide)]
    exact h6
theorem vm_is {w : Nat} {ww : Int} (hw : ww = (w : Int)) (hw3 : w < 4) (hl : l < 10) (h : VM k l u d M T) (hQ : Q (M 126 (100 + 4 * l + w)) M) : wX12_likingIs 125 (M 125 34) ww M Q := by
  subst hw
  simp only [wX12_likingIs, Nat.reduceAdd]
  rw [h.2.2.1]
  refine ⟨inb_of (n := 100 + 4 * l + w) (by omega) (by omega) (by decide), ?_⟩
  rw [rd_at (n := 100 + 4 * l + w) (by omega) (by omega)]
  exact hQ
theorem vm_k (hl : l < 10) (h : VM k l u d M T) (hQ : Q (k : Int) M) : wX12_kindNow 125 M Q := by
  unfold wX12_kindNow
  refine vm_is (w := 0) rfl (by decide) hl h ?_
  rw [show 100 + 4 * l + 0 = 100 + 4 * l from rfl, h.2.2.2.1]
  exact hQ
theorem vm_up {f : Nat} (hf : f ≤ 6) (hQ : Q ((if f = 5 then 1 else 0 : Nat) : Int) M) : wX12_above (f : Int) M Q := by
  unfold wX12_above
  rw [bm_nat (by omega)]
  refine BR_i (fun h => ?_) (fun h => ?_)
  · rw [if_pos (by omega)] at hQ
    exact hQ
  · rw [if_neg (by omega)] at hQ
    exact hQ
theorem mv_s0 {D : Nat} {x : Int} (hl : l < 10) (h : VM k l u d M T) (hTl : T.length + 1 ≤ 30) (kk : ∀ M', FrV M M' → M' 125 35 = M 125 35 → VM k l u d M' (T ++ [10]) → Q (x + u) M') : wGX12_says 125 (D + 1) 0 [((0 : Nat) : Int), x] M Q := by
  show wbX12_says (wGX12_says 125 D) 125 ((0 : Nat) : Int) x M Q
  unfold wbX12_says
  refine BR_t q0 (vm_body h (by omega) (fun M1 hF1 hp hV1 => vm_is (w := 1) rfl (by decide) hl hV1 ?_))
  rw [show 100 + 4 * l + 1 = 101 + 4 * l by omega, hV1.2.2.2.2.1]
  exact kk M1 hF1 hp hV1
theorem mv_s1 {D f : Nat} {x : Int} (hl : l < 10) (hf : f = 0 ∨ f = 1 ∨ f = 3 ∨ f = 6) (h : VM k l u d M T) (hTl : T.length + 1 ≤ 30) (kk : ∀ M', FrV M M' → M' 125 35 = M 125 35 → VM k l u d M' (T ++ [10]) → Q (x + u) M') : wGX12_says 125 (D + 2) 0 [(f : Int), x] M Q := by
  rcases hf with rfl | rfl | rfl | rfl
  · exact mv_s0 hl h hTl kk
  · show wbX12_says (wGX12_says 125 (D + 1)) 125 ((1 : Nat) : Int) x M Q
    simp only [wbX12_says, wX12_says_J112]
    exact BR_f (by decide +kernel) (BR_t (by decide +kernel) (vm_up (by decide) (mv_s0 hl h hTl kk)))
  · show wbX12_says (wGX12_says 125 (D + 1)) 125 ((3 : Nat) : Int) x M Q
    simp only [wbX12_says, wX12_says_J112]
    exact BR_f (by decide +kernel) (BR_f (by decide +kernel) (BR_f (by decide +kernel) (BR_t (by decide +kernel) (vm_up (by decide) (mv_s0 hl h hTl kk)))))
  · show wbX12_says (wGX12_says 125 (D + 1)) 125 ((6 : Nat) : Int) x M Q
    simp only [wbX12_says, wX12_says_J112]
    exact BR_f (by decide +kernel) (BR_f (by decide +kernel) (BR_f (by decide +kernel) (BR_f (by decide +kernel) (BR_f (by decide +kernel) (BR_f (by decide +kernel) (vm_up (by decide) (mv_s0 hl h hTl kk)))))))
theorem mv_s {D f : Nat} {x : Int} (hl : l < 10) (hf : f ≤ 6) (h : VM k l u d M T) (hTl : T.length + 2 ≤ 30) (kk : ∀ M', FrV M M' → M' 125 35 = M 125 35 → VM k l u d M' (T ++ sT f) → Q (sV u f x) M') : wGX12_says 125 (D + 3) 0 [(f : Int), x] M Q := by
  rcases (show f = 2 ∨ f = 4 ∨ f = 5 ∨ (f = 0 ∨ f = 1 ∨ f = 3 ∨ f = 6) by omega) with rfl | rfl | rfl | hf'
  · show wbX12_says (wGX12_says 125 (D + 2)) 125 ((2 : Nat) : Int) x M Q
    simp only [wbX12_says]
    refine BR_f (by decide +kernel) (BR_f (by decide +kernel) (BR_t (by decide +kernel) (vm_body h (by omega) (fun M1 hF1 hp1 hV1 => vm_up (f := 2) (by decide) (mv_s1 (f := 0) hl (Or.inl rfl) hV1 (by simp; omega) (fun M2 hF2 hp2 hV2 => ?_))))))
    have := kk M2 (hF1.tr hF2) (by rw [hp2, hp1]) (by simpa [sT] using hV2)
    simpa [sV] using this
  · show wbX12_says (wGX12_says 125 (D + 2)) 125 ((4 : Nat) : Int) x M Q
    simp only [wbX12_says]
    refine BR_f (by decide +kernel) (BR_f (by decide +kernel) (BR_f (by decide +kernel) (BR_f (by decide +kernel) (BR_t (by decide +kernel) (vm_body h (by omega) (fun M1 hF1 hp1 hV1 => vm_up (f := 4) (by decide) (mv_s1 (f := 0) hl (Or.inl rfl) hV1 (by simp; omega) (fun M2 hF2 hp2 hV2 => ?_))))))))
    have := kk M2 (hF1.tr hF2) (by rw [hp2, hp1]) (by simpa [sT] using hV2)
    simpa [sV] using this
  · show wbX12_says (wGX12_says 125 (D + 2)) 125 ((5 : Nat) : Int) x M Q
    simp only [wbX12_says]
    refine BR_f (by decide +kernel) (BR_f (by decide +kernel) (BR_f (by decide +kernel) (BR_f (by decide +kernel) (BR_f (by decide +kernel) (BR_t (by decide +kernel) (vm_body h (by omega) (fun M1 hF1 hp1 hV1 => vm_up (f := 5) (by decide) (mv_s1 (f := 1) hl (Or.inr (Or.inl rfl)) hV1 (by simp; omega) (fun M2 hF2 hp2 hV2 => ?_)))))))))
    have := kk M2 (hF1.tr hF2) (by rw [hp2, hp1]) (by simpa [sT] using hV2)
    simpa [sV] using this
  · refine mv_s1 (D := D + 1) hl hf' h (by omega) (fun M2 hF2 hp2 hV2 => ?_)
    have e1 : sT f = [10] := by unfold sT; rw [if_neg (by omega), if_neg (by omega), if_neg (by omega)]
    have e2 : sV u f x = x + u := by unfold sV; rw [if_neg (by omega), if_neg (by omega), if_neg (by omega)]
    have := kk M2 hF2 hp2 (by rw [e1]; exact hV2)
    rwa [e2] at this
theorem mv_h0 {D : Nat} {x : Int} (hl : l < 10) (hk : k ≤ 6) (h : VM k l u d M T) (hTl : T.length + 3 ≤ 30) (kk : ∀ M', FrV M M' → M' 125 35 = M 125 35 → VM k l u d M' (T ++ 11 :: sT k) → Q (sV u k x * 2) M') : wGX12_hears 125 (D + 1) 0 [((0 : Nat) : Int), x] M Q := by
  show wbX12_hears (wGX12_hears 125 D) 125 ((0 : Nat) : Int) x M Q
  unfold wbX12_hears wX12_says
  exact BR_t q0 (vm_body h (by omega) (fun M1 hF1 hp1 hV1 => vm_k hl hV1 (mv_s (D := 5) hl hk hV1 (by simp; omega) (fun M2 hF2 hp2 hV2 => kk M2 (hF1.tr hF2) (by rw [hp2, hp1]) (by simpa using hV2)))))
theorem mv_h1 {D : Nat} {x : Int} (hl : l < 10) (hk : k ≤ 6) (h : VM k l u d M T) (hTl : T.length + 4 ≤ 30) (kk : ∀ M', FrV M M' → M' 125 35 = M 125 35 → VM k l u d M' (T ++ 20 :: 11 :: sT k) → Q (sV u k x * 2 + d) M') : wGX12_hears 125 (D + 2) 0 [((1 : Nat) : Int), x] M Q := by
  show wbX12_hears (wGX12_hears 125 (D + 1)) 125 ((1 : Nat) : Int) x M Q
  unfold wbX12_hears
  refine BR_f (by decide +kernel) (BR_t (by decide +kernel) (vm_body h (by omega) (fun M1 hF1 hp1 hV1 => vm_up (f := 1) (by decide) (mv_h0 hl hk hV1 (by simp; omega) (fun M2 hF2 hp2 hV2 => vm_is (w := 2) rfl (by decide) hl hV2 ?_)))))
  rw [show 100 + 4 * l + 2 = 102 + 4 * l by omega, hV2.2.2.2.2.2]
  exact kk M2 (hF1.tr hF2) (by rw [hp2, hp1]) (by simpa using hV2)
theorem mv_h {D f : Nat} {x : Int} (hl : l < 10) (hk : k ≤ 6) (hf : f ≤ 6) (h : VM k l u d M T) (hTl : T.length + 4 ≤ 30) (kk : ∀ M', FrV M M' → M' 125 35 = M 125 35 → VM k l u d M' (T ++ hT k f) → Q (hV k u d f x) M') : wGX12_hears 125 (D + 3) 0 [(f : Int), x] M Q := by
  rcases (show f = 0 ∨ f = 1 ∨ f = 5 ∨ f = 6 ∨ (f = 2 ∨ f = 3 ∨ f = 4) by omega) with rfl | rfl | rfl | rfl | hf'
  · refine mv_h0 (D := D + 2) hl hk h (by omega) (fun M2 hF2 hp2 hV2 => ?_)
    have := kk M2 hF2 hp2 (by simpa [hT] using hV2)
    simpa [hV] using this
  · refine mv_h1 (D := D + 1) hl hk h (by omega) (fun M2 hF2 hp2 hV2 => ?_)
    have := kk M2 hF2 hp2 (by simpa [hT] using hV2)
    simpa [hV] using this
  · show wbX12_hears (wGX12_hears 125 (D + 2)) 125 ((5 : Nat) : Int) x M Q
    unfold wbX12_hears
    refine BR_f (by decide +kernel) (BR_f (by decide +kernel) (BR_f (by decide +kernel) (vm_up (f := 5) (by decide) (mv_h1 hl hk h (by omega) (fun M2 hF2 hp2 hV2 => ?_)))))
    have := kk M2 hF2 hp2 (by simpa [hT] using hV2)
    simpa [hV] using this
  · show wbX12_hears (wGX12_hears 125 (D + 2)) 125 ((6 : Nat) : Int) x M Q
    unfold wbX12_hears
    refine BR_f (by decide +kernel) (BR_f (by decide +kernel) (BR_t (by decide +kernel) (vm_body h (by omega) (fun M1 hF1 hp1 hV1 => vm_up (f := 6) (by decide) (mv_h0 hl hk hV1 (by simp; omega) (fun M2 hF2 hp2 hV2 => ?_))))))
    have := kk M2 (hF1.tr hF2) (by rw [hp2, hp1]) (by simpa [hT] using hV2)
    simpa [hV] using this
  · show wbX12_hears (wGX12_hears 125 (D + 2)) 125 (f : Int) x M Q
    unfold wbX12_hears
    rw [bm_nat (n := f) (by omega)]
    refine BR_f (by omega) (BR_f (by omega) (BR_f (by omega) (vm_up (f := f) (by omega) ?_)))
    rw [if_neg (by omega)]
    refine mv_h0 (D := D + 1) hl hk h (by omega) (fun M2 hF2 hp2 hV2 => ?_)
    have e1 : hT k f = 11 :: sT k := by unfold hT; rw [if_neg (by omega), if_neg (by omega)]
    have e2 : hV k u d f x = sV u k x * 2 := by unfold hV; rw [if_neg (by omega), if_neg (by omega)]
    have := kk M2 hF2 hp2 (by rw [e1]; exact hV2)
    rwa [e2] at this
theorem mv_a0 {D : Nat} {x : Int} (hl : l < 10) (hk : k ≤ 6) (h : VM k l u d M T) (hTl : T.length + 5 ≤ 30) (kk : ∀ M', FrV M M' → M' 125 35 = M 125 35 → VM k l u d M' (T ++ 12 :: hT k k) → Q (hV k u d k x - (l : Int)) M') : wGX12_asks 125 (D + 1) 0 [((0 : Nat) : Int), x] M Q := by
  show wbX12_asks (wGX12_asks 125 D) 125 ((0 : Nat) : Int) x M Q
  unfold wbX12_asks wX12_hears
  refine BR_t q0 (vm_body h (by omega) (fun M1 hF1 hp1 hV1 => vm_k hl hV1 (mv_h (D := 5) hl hk hk hV1 (by simp; omega) (fun M2 hF2 hp2 hV2 => ?_))))
  rw [hV2.2.2.1]
  exact kk M2 (hF1.tr hF2) (by rw [hp2, hp1]) (by simpa using hV2)
theorem mv_a1 {D f : Nat} {x : Int} (hl : l < 10) (hk : k ≤ 6) (hf : f = 0 ∨ f = 1 ∨ f = 2 ∨ f = 6) (h : VM k l u d M T) (hTl : T.length + 5 ≤ 30) (kk : ∀ M', FrV M M' → M' 125 35 = M 125 35 → VM k l u d M' (T ++ 12 :: hT k k) → Q (hV k u d k x - (l : Int)) M') : wGX12_asks 125 (D + 2) 0 [(f : Int), x] M Q := by
  rcases hf with rfl | rfl | rfl | rfl
  · exact mv_a0 hl hk h hTl kk
  · show wbX12_asks (wGX12_asks 125 (D + 1)) 125 ((1 : Nat) : Int) x M Q
    simp only [wbX12_asks, wX12_asks_J128]
    exact BR_f (by decide +kernel) (BR_t (by decide +kernel) (vm_up (by decide) (mv_a0 hl hk h hTl kk)))
  · show wbX12_asks (wGX12_asks 125 (D + 1)) 125 ((2 : Nat) : Int) x M Q
    simp only [wbX12_asks, wX12_asks_J128]
    exact BR_f (by decide +kernel) (BR_f (by decide +kernel) (BR_t (by decide +kernel) (vm_up (by decide) (mv_a0 hl hk h hTl kk))))
  · show wbX12_asks (wGX12_asks 125 (D + 1)) 125 ((6 : Nat) : Int) x M Q
    simp only [wbX12_asks, wX12_asks_J128]
    exact BR_f (by decide +kernel) (BR_f (by decide +kernel) (BR_f (by decide +kernel) (BR_f (by decide +kernel) (BR_f (by decide +kernel) (BR_f (by decide +kernel) (vm_up (by decide) (mv_a0 hl hk h hTl kk)))))))
theorem mv_a {D f : Nat} {x : Int} (hl : l < 10) (hk : k ≤ 6) (hf : f ≤ 6) (h : VM k l u d M T) (hTl : T.length + 8 ≤ 30) (kk : ∀ M', FrV M M' → M' 125 35 = M 125 35 → VM k l u d M' (T ++ aT k f) → Q (aV k u d (l : Int) f x) M') : wGX12_asks 125 (D + 3) 0 [(f : Int), x] M Q := by
  rcases (show f = 3 ∨ f = 4 ∨ f = 5 ∨ (f = 0 ∨ f = 1 ∨ f = 2 ∨ f = 6) by omega) with rfl | rfl | rfl | hf'
  · show wbX12_asks (wGX12_asks 125 (D + 2)) 125 ((3 : Nat) : Int) x M Q
    simp only [wbX12_asks]
    refine BR_f (by decide +kernel) (BR_f (by decide +kernel) (BR_f (by decide +kernel) (BR_t (by decide +kernel) (vm_body h (by omega) (fun M1 hF1 hp1 hV1 => vm_up (f := 3) (by decide) (mv_a1 (f := 0) hl hk (Or.inl rfl) hV1 (by simp; omega) (fun M2 hF2 hp2 hV2 => ?_)))))))
    have := kk M2 (hF1.tr hF2) (by rw [hp2, hp1]) (by simpa [aT] using hV2)
    simpa [aV] using this
  · show wbX12_asks (wGX12_asks 125 (D + 2)) 125 ((4 : Nat) : Int) x M Q
    simp only [wbX12_asks]
    refine BR_f (by decide +kernel) (BR_f (by decide +kernel) (BR_f (by decide +kernel) (BR_f (by decide +kernel) (BR_t (by decide +kernel) (vm_body h (by omega) (fun M1 hF1 hp1 hV1 => vm_up (f := 4) (by decide) (mv_a1 (f := 0) hl hk (Or.inl rfl) hV1 (by simp; omega) (fun M2 hF2 hp2 hV2 => ?_))))))))
    rw [hV2.2.2.1]
    have := kk M2 (hF1.tr hF2) (by rw [hp2, hp1]) (by simpa [aT] using hV2)
    simpa [aV] using this
  · show wbX12_asks (wGX12_asks 125 (D + 2)) 125 ((5 : Nat) : Int) x M Q
    simp only [wbX12_asks, wX12_says]
    have hh := hT_le k k
    refine BR_f (by decide +kernel) (BR_f (by decide +kernel) (BR_f (by decide +kernel) (BR_f (by decide +kernel) (BR_f (by decide +kernel) (BR_t (by decide +kernel) (vm_body h (by omega) (fun M1 hF1 hp1 hV1 => vm_up (f := 5) (by decide) (mv_a1 (f := 1) hl hk (Or.inr (Or.inl rfl)) hV1 (by simp; omega) (fun M2 hF2 hp2 hV2 => vm_k hl hV2 (mv_s (D := 5) hl hk hV2 (by simp; omega) (fun M3 hF3 hp3 hV3 => ?_)))))))))))
    have := kk M3 ((hF1.tr hF2).tr hF3) (by rw [hp3, hp2, hp1]) (by simpa [aT] using hV3)
    simpa [aV] using this
  · refine mv_a1 (D := D + 1) hl hk hf' h (by omega) (fun M2 hF2 hp2 hV2 => ?_)
    have e1 : aT k f = 12 :: hT k k := by unfold aT; rw [if_neg (by omega), if_neg (by omega), if_neg (by omega)]
    have e2 : aV k u d (l : Int) f x = hV k u d k x - (l : Int) := by unfold aV; rw [if_neg (by omega), if_neg (by omega), if_neg (by omega)]
    have := kk M2 hF2 hp2 (by rw [e1]; exact hV2)
    rwa [e2] at this
theorem iDiv_m1 {a b : Int} (h : bm b = -1) : bm (-a) = bm (iDiv a b) := by
  have hb : Int32.ofInt b = -1 := by
    rw [show (-1 : Int32) = Int32.ofInt (-1) from rfl, eq_bm, h]
    decide +kernel
  rw [bm_iDiv]
  unfold iDiv bm
  rw [hb, Int32.ofInt_neg, Int32.toInt_div, Int32.toInt_neg, show (-1 : Int32).toInt = -1 from rfl, Int.tdiv_neg, Int.tdiv_one]
theorem mv_p0 {D : Nat} {x : Int} (hl : l < 10) (h : VM k l u d M T) (hTl : T.length + 1 ≤ 30) (k0 : bm (d - (l : Int)) = 0 → ∀ M', FrV M M' → M' 125 35 = 1 → VM k l u d M' (T ++ [13]) → Q 0 M') (kk : bm (d - (l : Int)) ≠ 0 → ∀ r M', bm r = bm (iDiv x (d - (l : Int))) → FrV M M' → M' 125 35 = 0 → VM k l u d M' (T ++ [13]) → Q r M') : wGX12_parts 125 (D + 1) 0 [((0 : Nat) : Int), x] M Q := by
  show wbX12_parts (wGX12_parts 125 D) 125 ((0 : Nat) : Int) x M Q
  simp only [wbX12_parts, wX12_parts_J69]
  refine BR_t q0 (vm_body h (by omega) (fun M1 hF1 hp1 hV1 => vm_is (w := 2) rfl (by decide) hl hV1 ?_))
  rw [show 100 + 4 * l + 2 = 102 + 4 * l by omega, hV1.2.2.2.2.2, hV1.2.2.1]
  have hu : ∀ v : Int, FrV M1 (up M1 125 35 v) ∧ VM k l u d (up M1 125 35 v) (T ++ [13]) := by
    intro v
    refine ⟨⟨fun a q1 _ => up_c q1, fun j _ q2 => up_kn q2⟩, ?_⟩
    obtain ⟨v1, v2, v3, v4, v5, v6⟩ := hV1
    exact ⟨by rw [up_kn (by decide)]; exact v1, fun i hi => by rw [up_c (by decide)]; exact v2 i hi, by rw [up_kn (by decide)]; exact v3, by rw [up_c (by decide)]; exact v4, by rw [up_c (by decide)]; exact v5, by rw [up_c (by decide)]; exact v6⟩
  refine LET_i (BR_i (fun hz => ⟨isB1, LET_i (BR_t hz (k0 hz _ (hF1.tr (hu 1).1) (up_s ..) (hu 1).2))⟩) (fun hz => ⟨isB0, LET_i (BR_f hz (BR_i (fun h1 => kk hz _ _ (iDiv_m1 h1) (hF1.tr (hu 0).1) (up_s ..) (hu 0).2) (fun _ => ⟨hz, kk hz _ _ rfl (hF1.tr (hu 0).1) (up_s ..) (hu 0).2⟩)))⟩))
end RefVoice
