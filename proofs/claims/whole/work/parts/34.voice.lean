/-! VOICES: what is said, which bodies begin -/
def sT (f : Nat) : List Int := if f = 2 then [30, 10] else if f = 4 then [50, 10] else if f = 5 then [60, 10] else [10]
def sV (u : Int) (f : Nat) (x : Int) : Int := if f = 2 then iDiv (x + u) 2 else if f = 4 then 0 - (x + u) else if f = 5 then (x + u) * 3 else x + u
def hT (k f : Nat) : List Int := if f = 1 ∨ f = 5 then 20 :: 11 :: sT k else if f = 6 then 70 :: 11 :: sT k else 11 :: sT k
def hV (k : Nat) (u d : Int) (f : Nat) (x : Int) : Int := if f = 1 ∨ f = 5 then sV u k x * 2 + d else if f = 6 then sV u k (x - 1) * 2 else sV u k x * 2
def aT (k f : Nat) : List Int := if f = 3 then 40 :: 12 :: hT k k else if f = 4 then 51 :: 12 :: hT k k else if f = 5 then 61 :: 12 :: (hT k k ++ sT k) else 12 :: hT k k
def aV (k : Nat) (u d n : Int) (f : Nat) (x : Int) : Int := if f = 3 then hV k u d k (x + 1) - n else if f = 4 then iXor (hV k u d k x - n) n else if f = 5 then (hV k u d k x - n) - sV u k 2 else hV k u d k x - n
def pT (k : Nat) (z : Prop) [Decidable z] (f : Nat) : List Int := if f = 1 then 21 :: 13 :: (if z then [] else aT k k) else if f = 5 then 62 :: (hT k k ++ 21 :: 13 :: (if z then [] else aT k k)) else [13]
theorem sT_le (f : Nat) : (sT f).length ≤ 2 := by unfold sT; repeat' split
                                                  all_goals decide
theorem hT_le (k f : Nat) : (hT k f).length ≤ 4 := by
  have := sT_le k
  unfold hT
  repeat' split
  all_goals simp only [List.length_cons]; omega
theorem aT_le (k f : Nat) : (aT k f).length ≤ 8 := by
  have := sT_le k
  have := hT_le k k
  unfold aT
  repeat' split
  all_goals simp only [List.length_cons, List.length_append]; omega
theorem hT1 {k f : Nat} (h : f = 1 ∨ f = 5) : hT k f = 20 :: 11 :: sT k := by unfold hT; rw [if_pos h]
section ClassVoice
variable {k : Nat} {u d n : Int} {M : Mem} {T : List Int} {Q : Int → Mem → Prop}
def VC (k : Nat) (u d n : Int) (M : Mem) (T : List Int) : Prop := M 114 1 = (T.length : Int) ∧ (∀ i, i < T.length → M 115 i = T.getD i 0) ∧ M 114 2 = 0 ∧ M 114 3 = (k : Int) ∧ M 114 4 = u ∧ M 114 5 = d ∧ M 114 6 = n
def vx (a : Nat) : Prop := a = 114 ∨ a = 115
theorem vc_push {b : Int} (h : VC k u d n M T) (hl : T.length < 30) : VC k u d n (up (wr M 115 (M 114 1) b) 114 1 (wr M 115 (M 114 1) b 114 1 + 1)) (T ++ [b]) ∧ Fr vx M (up (wr M 115 (M 114 1) b) 114 1 (wr M 115 (M 114 1) b 114 1 + 1)) := by
  obtain ⟨h1, h2, h3, h4, h5, h6, h7⟩ := h
  rw [h1, wr_up (n := T.length) rfl (by omega), up_c (a := 114) (k := 115) (by decide), h1]
  refine ⟨⟨?_, ?_, ?_, ?_, ?_, ?_, ?_⟩, fun a ha => ?_⟩
  · rw [up_s]
    simp
  · intro i hi
    rw [up_c (by decide)]
    simp only [List.length_append, List.length_cons, List.length_nil] at hi
    by_cases hi2 : i = T.length
    · subst hi2
      rw [up_s]
      simp
    · rw [up_kn hi2, h2 i (by omega)]
      simp [List.getD, List.getElem?_append_left (show i < T.length by omega)]
  · rw [up_kn (by decide), up_c (by decide)]
    exact h3
  · rw [up_kn (by decide), up_c (by decide)]
    exact h4
  · rw [up_kn (by decide), up_c (by decide)]
    exact h5
  · rw [up_kn (by decide), up_c (by decide)]
    exact h6
  · rw [up_kn (by decide), up_c (by decide)]
    exact h7
  · rw [up_c (fun e => ha (Or.inl e)), up_c (fun e => ha (Or.inr e))]
def pa (f : Nat) : Nat := if f = 5 then 1 else 0
def tb (f a : Nat) : Int := tabV 2 ((f : Int) * 4 + (a : Int))
theorem pa_ok : ∀ f : Nat, f ≤ 6 → f ≠ 0 → tabV 1 (f : Int) = (pa f : Int) := by decide +kernel
theorem tb_0 : ∀ a : Nat, a < 4 → tb 0 a ≠ 0 := by decide +kernel
theorem tb_bm : ∀ f : Nat, f ≤ 6 → ∀ a : Nat, a < 4 → bm (tb f a) = tb f a := by decide +kernel
theorem tb_1 : ∀ a : Nat, a < 4 → ∀ f : Nat, f ≤ 6 → tb f a = 0 → f ≠ 0 := by decide +kernel
def bdy (f a : Nat) : Int := if tb f a ≠ 0 then tb f a else if tb (pa f) a ≠ 0 then tb (pa f) a else tb 0 a
theorem bd_s (f : Nat) (h : f ≤ 6) : bdy f 0 = if f = 2 then 30 else if f = 4 then 50 else if f = 5 then 60 else 10 := by revert f; decide +kernel
theorem bd_h (f : Nat) (h : f ≤ 6) : bdy f 1 = if f = 1 ∨ f = 5 then 20 else if f = 6 then 70 else 11 := by revert f; decide +kernel
theorem bd_a (f : Nat) (h : f ≤ 6) : bdy f 2 = if f = 3 then 40 else if f = 4 then 51 else if f = 5 then 61 else 12 := by revert f; decide +kernel
theorem bd_p (f : Nat) (h : f ≤ 6) : bdy f 3 = if f = 1 then 21 else if f = 5 then 62 else 13 := by revert f; decide +kernel
theorem voL {G : Nat → List Int → Mem → (Int → Mem → Prop) → Prop} {E : Int → Mem → Prop} {f a i N : Nat} {x dep x7 : Int} (hf : f ≤ 6) (ha : a < 4) (hi : x7 = (i : Int)) (h7 : i < 7) (h : wX9_spoken_L34 G Q E 114 (a : Int) x dep N (tb f a) (tabV 1 (f : Int)) (x7 + 1) M) : wX9_spoken_L34 G Q E 114 (a : Int) x dep (N + 1) 0 (f : Int) x7 M := by
  subst hi
  unfold wX9_spoken_L34
  refine BR_f (by rw [bm_nat (by omega)]; omega) (BR_t q0 (wi_t ?_ (BR_f q1 ⟨inb_of (n := f * 4 + a) (by omega) (by omega) (by decide), LET_i ⟨inb_of rfl (by omega) (by decide), LET_i (LET_i h)⟩⟩)))
  rw [bm0, li_6, bm_nat (by omega)]
  omega
theorem voE {G : Nat → List Int → Mem → (Int → Mem → Prop) → Prop} {E : Int → Mem → Prop} {i N : Nat} {aa x dep x5 x6 x7 : Int} (hi : x7 = (i : Int)) (h7 : i < 7) (h5 : bm x5 ≠ 0) (h : E x5 M) : wX9_spoken_L34 G Q E 114 aa x dep (N + 1) x5 x6 x7 M := by
  subst hi
  unfold wX9_spoken_L34
  exact BR_f (by rw [bm_nat (by omega)]; omega) (BR_f h5 h)
theorem vc_sp {D f a dep : Nat} {x dp : Int} (hf : f ≤ 6) (ha : a < 4) (hd : dp = (dep : Int)) (hdep : dep ≤ 40) (h : VC k u d n M T) (hl : T.length < 30) (kk : ∀ M', Fr vx M M' → VC k u d n M' (T ++ [bdy f a]) → wGX9_spoken 114 D 1 [bdy f a, x, dp + 1] M' Q) : wGX9_spoken 114 (D + 1) 0 [(f : Int), (a : Int), x, dp] M Q := by
  subst hd
  show wbX9_spoken (wGX9_spoken 114 D) 114 (f : Int) (a : Int) x (dep : Int) M Q
  unfold wbX9_spoken
  have hE : ∀ b : Int, b = bdy f a → wX9_spoken_J85 (wGX9_spoken 114 D) Q 114 x (dep : Int) b M := by
    intro b hb
    subst hb
    simp only [wX9_spoken_J85, wX9_spoken_J115, Nat.reduceAdd]
    obtain ⟨p1, p2⟩ := vc_push (b := bdy f a) h hl
    rw [h.1] at *
    refine BR_f (by rw [bm_nat (by omega)]; omega) ⟨inb_of rfl (by omega) (by decide), LET_i (LET_i (kk _ ?_ ?_))⟩
    · exact p2
    · exact p1
  refine BR_t (by rw [h.2.2.1]; exact bm0) (BR_f (by rw [bm_nat (by omega)]; omega) (wi_t ?_ (BR_f q1 ⟨4, ?_⟩)))
  · rw [bm0, li_3, bm_nat (by omega)]
    omega
  · refine voL (i := 0) hf ha rfl (by decide) ?_
    by_cases h0 : tb f a = 0
    · have hf0 := tb_1 a ha f hf h0
      have hp6 : pa f ≤ 6 := by unfold pa; split <;> omega
      rw [h0, pa_ok f hf hf0]
      refine voL (i := 1) hp6 ha rfl (by decide) ?_
      by_cases h1 : tb (pa f) a = 0
      · have hf1 := tb_1 a ha _ hp6 h1
        rw [h1, pa_ok _ hp6 hf1]
        have hpp : pa (pa f) = 0 := by unfold pa; split <;> simp
        rw [hpp]
        refine voL (i := 2) (by omega) ha rfl (by decide) (voE (i := 3) rfl (by decide) (by rw [tb_bm 0 (by omega) a ha]; exact tb_0 a ha) (hE _ ?_))
        unfold bdy
        rw [if_neg (by simp [h0]), if_neg (by simp [h1])]
      · refine voE (i := 2) rfl (by decide) (by rw [tb_bm _ hp6 a ha]; exact h1) (hE _ ?_)
        unfold bdy
        rw [if_neg (by simp [h0]), if_pos h1]
    · refine voE (i := 1) rfl (by decide) (by rw [tb_bm f hf a ha]; exact h0) (hE _ ?_)
      unfold bdy
      rw [if_pos h0]
theorem frv {M M' M'' : Mem} (h : Fr vx M M') (h' : Fr vx M' M'') : Fr vx M M'' := h.tr h' (fun _ q => q) (fun _ q => q)
theorem vc_s {D f dep : Nat} {x dp : Int} (hk : k ≤ 6) (hf : f ≤ 6) (hd : dp = (dep : Int)) (hdep : dep ≤ 38) (h : VC k u d n M T) (hl : T.length + 2 ≤ 30) (kk : ∀ M', Fr vx M M' → VC k u d n M' (T ++ sT f) → Q (sV u f x) M') : wGX9_spoken 114 (D + 4) 0 [(f : Int), 0, x, dp] M Q := by
  have base : ∀ (D' f' dep' : Nat) (x' dp' : Int) (M' : Mem) (T' : List Int) (Q' : Int → Mem → Prop), (f' = 0 ∨ f' = 1 ∨ f' = 3 ∨ f' = 6) → dp' = (dep' : Int) → dep' ≤ 40 → VC k u d n M' T' → T'.length < 30 → (∀ M'', Fr vx M' M'' → VC k u d n M'' (T' ++ [10]) → Q' (x' + u) M'') → wGX9_spoken 114 (D' + 2) 0 [(f' : Int), ((0 : Nat) : Int), x', dp'] M' Q' := by
    intro D' f' dep' x' dp' M' T' Q' hf' hd' hdep' hV hl' kk'
    refine vc_sp (D := D' + 1) (by omega) (by decide) hd' hdep' hV hl' (fun M1 hF1 hV1 => ?_)
    have hb : bdy f' 0 = 10 := by rw [bd_s f' (by omega), if_neg (by omega), if_neg (by omega), if_neg (by omega)]
    rw [hb] at hV1 ⊢
    show wbX9_bodyOf (wGX9_spoken 114 D') 114 10 x' (dp' + 1) M1 Q'
    unfold wbX9_bodyOf
    refine BR_t (by decide +kernel) ?_
    rw [hV1.2.2.2.2.1]
    exact kk' M1 hF1 hV1
  rcases (show f = 2 ∨ f = 4 ∨ f = 5 ∨ (f = 0 ∨ f = 1 ∨ f = 3 ∨ f = 6) by omega) with rfl | rfl | rfl | hf'
  · refine vc_sp (a := 0) (D := D + 3) (by omega) (by decide) hd (by omega) h (by omega) (fun M1 hF1 hV1 => ?_)
    rw [show bdy 2 0 = 30 from by decide +kernel] at hV1 ⊢
    show wbX9_bodyOf (wGX9_spoken 114 (D + 2)) 114 30 x (dp + 1) M1 Q
    unfold wbX9_bodyOf
    refine BR_f (by decide +kernel) (BR_f (by decide +kernel) (BR_f (by decide +kernel) (BR_f (by decide +kernel) (BR_f (by decide +kernel) (BR_f (by decide +kernel) (BR_t (by decide +kernel) ?_))))))
    refine base D 0 (dep + 1) x (dp + 1) M1 _ _ (Or.inl rfl) (by omega) (by omega) hV1 (by simp; omega) (fun M2 hF2 hV2 => ?_)
    have := kk M2 (frv hF1 hF2) (by simpa [sT] using hV2)
    simpa [sV] using this
  · refine vc_sp (a := 0) (D := D + 3) (by omega) (by decide) hd (by omega) h (by omega) (fun M1 hF1 hV1 => ?_)
    rw [show bdy 4 0 = 50 from by decide +kernel] at hV1 ⊢
    show wbX9_bodyOf (wGX9_spoken 114 (D + 2)) 114 50 x (dp + 1) M1 Q
    unfold wbX9_bodyOf
    refine BR_f (by decide +kernel) (BR_f (by decide +kernel) (BR_f (by decide +kernel) (BR_f (by decide +kernel) (BR_f (by decide +kernel) (BR_f (by decide +kernel) (BR_f (by decide +kernel) (BR_f (by decide +kernel) (BR_t (by decide +kernel) ?_))))))))
    refine base D 0 (dep + 1) x (dp + 1) M1 _ _ (Or.inl rfl) (by omega) (by omega) hV1 (by simp; omega) (fun M2 hF2 hV2 => ?_)
    have := kk M2 (frv hF1 hF2) (by simpa [sT] using hV2)
    simpa [sV] using this
  · refine vc_sp (a := 0) (D := D + 3) (by omega) (by decide) hd (by omega) h (by omega) (fun M1 hF1 hV1 => ?_)
    rw [show bdy 5 0 = 60 from by decide +kernel] at hV1 ⊢
    show wbX9_bodyOf (wGX9_spoken 114 (D + 2)) 114 60 x (dp + 1) M1 Q
    unfold wbX9_bodyOf
    refine BR_f (by decide +kernel) (BR_f (by decide +kernel) (BR_f (by decide +kernel) (BR_f (by decide +kernel) (BR_f (by decide +kernel) (BR_f (by decide +kernel) (BR_f (by decide +kernel) (BR_f (by decide +kernel) (BR_f (by decide +kernel) (BR_f (by decide +kernel) (BR_t (by decide +kernel) ?_))))))))))
    refine base D 1 (dep + 1) x (dp + 1) M1 _ _ (Or.inr (Or.inl rfl)) (by omega) (by omega) hV1 (by simp; omega) (fun M2 hF2 hV2 => ?_)
    have := kk M2 (frv hF1 hF2) (by simpa [sT] using hV2)
    simpa [sV] using this
  · refine base (D + 2) f dep x dp M T Q hf' hd (by omega) h (by omega) (fun M2 hF2 hV2 => ?_)
    have e1 : sT f = [10] := by unfold sT; rw [if_neg (by omega), if_neg (by omega), if_neg (by omega)]
    have e2 : sV u f x = x + u := by unfold sV; rw [if_neg (by omega), if_neg (by omega), if_neg (by omega)]
    have := kk M2 hF2 (by rw [e1]; exact hV2)
    rwa [e2] at this
end ClassVoice
