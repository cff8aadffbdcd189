/-! VOICES: the class's hears, asks, parts -/
section ClassVoice2
variable {k : Nat} {u d n : Int} {M : Mem} {T : List Int} {Q : Int → Mem → Prop}
theorem vc_h0 {D f dep : Nat} {x dp : Int} (hk : k ≤ 6) (hf : f = 0 ∨ f = 2 ∨ f = 3 ∨ f = 4) (hd : dp = (dep : Int)) (hdep : dep ≤ 36) (h : VC k u d n M T) (hl : T.length + 3 ≤ 30) (kk : ∀ M', Fr vx M M' → VC k u d n M' (T ++ 11 :: sT k) → Q (sV u k x * 2) M') : wGX9_spoken 114 (D + 6) 0 [(f : Int), 1, x, dp] M Q := by
  refine vc_sp (a := 1) (D := D + 5) (by omega) (by decide) hd (by omega) h (by omega) (fun M1 hF1 hV1 => ?_)
  rw [show bdy f 1 = 11 from by rw [bd_h f (by omega), if_neg (by omega), if_neg (by omega)]] at hV1 ⊢
  show wbX9_bodyOf (wGX9_spoken 114 (D + 4)) 114 11 x (dp + 1) M1 Q
  unfold wbX9_bodyOf
  refine BR_f (by decide +kernel) (BR_t (by decide +kernel) ?_)
  rw [hV1.2.2.2.1]
  refine vc_s (dep := dep + 1) hk hk (by omega) (by omega) hV1 (by simp; omega) (fun M2 hF2 hV2 => kk M2 (frv hF1 hF2) (by simpa using hV2))
theorem vc_h {D f dep : Nat} {x dp : Int} (hk : k ≤ 6) (hf : f ≤ 6) (hd : dp = (dep : Int)) (hdep : dep ≤ 34) (h : VC k u d n M T) (hl : T.length + 4 ≤ 30) (kk : ∀ M', Fr vx M M' → VC k u d n M' (T ++ hT k f) → Q (hV k u d f x) M') : wGX9_spoken 114 (D + 8) 0 [(f : Int), 1, x, dp] M Q := by
  rcases (show (f = 1 ∨ f = 5) ∨ f = 6 ∨ (f = 0 ∨ f = 2 ∨ f = 3 ∨ f = 4) by omega) with hf' | rfl | hf'
  · refine vc_sp (a := 1) (D := D + 7) (by omega) (by decide) hd (by omega) h (by omega) (fun M1 hF1 hV1 => ?_)
    rw [show bdy f 1 = 20 from by rw [bd_h f (by omega), if_pos hf']] at hV1 ⊢
    show wbX9_bodyOf (wGX9_spoken 114 (D + 6)) 114 20 x (dp + 1) M1 Q
    unfold wbX9_bodyOf
    refine BR_f (by decide +kernel) (BR_f (by decide +kernel) (BR_f (by decide +kernel) (BR_f (by decide +kernel) (BR_t (by decide +kernel) ?_))))
    refine vc_h0 (f := 0) (dep := dep + 1) hk (Or.inl rfl) (by omega) (by omega) hV1 (by simp; omega) (fun M2 hF2 hV2 => ?_)
    rw [hV2.2.2.2.2.2.1]
    have := kk M2 (frv hF1 hF2) (by simpa [hT, hf'] using hV2)
    simpa [hV, hf'] using this
  · refine vc_sp (a := 1) (D := D + 7) (by omega) (by decide) hd (by omega) h (by omega) (fun M1 hF1 hV1 => ?_)
    rw [show bdy 6 1 = 70 from by decide +kernel] at hV1 ⊢
    show wbX9_bodyOf (wGX9_spoken 114 (D + 6)) 114 70 x (dp + 1) M1 Q
    unfold wbX9_bodyOf
    refine BR_f (by decide +kernel) (BR_f (by decide +kernel) (BR_f (by decide +kernel) (BR_f (by decide +kernel) (BR_f (by decide +kernel) (BR_f (by decide +kernel) (BR_f (by decide +kernel) (BR_f (by decide +kernel) (BR_f (by decide +kernel) (BR_f (by decide +kernel) (BR_f (by decide +kernel) (BR_f (by decide +kernel) (BR_f (by decide +kernel) (BR_t (by decide +kernel) ?_)))))))))))))
    refine vc_h0 (f := 0) (dep := dep + 1) hk (Or.inl rfl) (by omega) (by omega) hV1 (by simp; omega) (fun M2 hF2 hV2 => ?_)
    have := kk M2 (frv hF1 hF2) (by simpa [hT] using hV2)
    simpa [hV] using this
  · refine vc_h0 (D := D + 2) hk hf' hd (by omega) h (by omega) (fun M2 hF2 hV2 => ?_)
    have e1 : hT k f = 11 :: sT k := by unfold hT; rw [if_neg (by omega), if_neg (by omega)]
    have e2 : hV k u d f x = sV u k x * 2 := by unfold hV; rw [if_neg (by omega), if_neg (by omega)]
    have := kk M2 hF2 (by rw [e1]; exact hV2)
    rwa [e2] at this
theorem vc_a0 {D f dep : Nat} {x dp : Int} (hk : k ≤ 6) (hf : f = 0 ∨ f = 1 ∨ f = 2 ∨ f = 6) (hd : dp = (dep : Int)) (hdep : dep ≤ 32) (h : VC k u d n M T) (hl : T.length + 5 ≤ 30) (kk : ∀ M', Fr vx M M' → VC k u d n M' (T ++ 12 :: hT k k) → Q (hV k u d k x - n) M') : wGX9_spoken 114 (D + 10) 0 [(f : Int), 2, x, dp] M Q := by
  refine vc_sp (a := 2) (D := D + 9) (by omega) (by decide) hd (by omega) h (by omega) (fun M1 hF1 hV1 => ?_)
  rw [show bdy f 2 = 12 from by rw [bd_a f (by omega), if_neg (by omega), if_neg (by omega), if_neg (by omega)]] at hV1 ⊢
  show wbX9_bodyOf (wGX9_spoken 114 (D + 8)) 114 12 x (dp + 1) M1 Q
  unfold wbX9_bodyOf
  refine BR_f (by decide +kernel) (BR_f (by decide +kernel) (BR_t (by decide +kernel) ?_))
  rw [hV1.2.2.2.1]
  refine vc_h (dep := dep + 1) hk hk (by omega) (by omega) hV1 (by simp; omega) (fun M2 hF2 hV2 => ?_)
  rw [hV2.2.2.2.2.2.2]
  exact kk M2 (frv hF1 hF2) (by simpa using hV2)
theorem vc_a {D f dep : Nat} {x dp : Int} (hk : k ≤ 6) (hf : f ≤ 6) (hd : dp = (dep : Int)) (hdep : dep ≤ 30) (h : VC k u d n M T) (hl : T.length + 8 ≤ 30) (kk : ∀ M', Fr vx M M' → VC k u d n M' (T ++ aT k f) → Q (aV k u d n f x) M') : wGX9_spoken 114 (D + 12) 0 [(f : Int), 2, x, dp] M Q := by
  rcases (show f = 3 ∨ f = 4 ∨ f = 5 ∨ (f = 0 ∨ f = 1 ∨ f = 2 ∨ f = 6) by omega) with rfl | rfl | rfl | hf'
  · refine vc_sp (a := 2) (D := D + 11) (by omega) (by decide) hd (by omega) h (by omega) (fun M1 hF1 hV1 => ?_)
    rw [show bdy 3 2 = 40 from by decide +kernel] at hV1 ⊢
    show wbX9_bodyOf (wGX9_spoken 114 (D + 10)) 114 40 x (dp + 1) M1 Q
    unfold wbX9_bodyOf
    refine BR_f (by decide +kernel) (BR_f (by decide +kernel) (BR_f (by decide +kernel) (BR_f (by decide +kernel) (BR_f (by decide +kernel) (BR_f (by decide +kernel) (BR_f (by decide +kernel) (BR_t (by decide +kernel) ?_)))))))
    refine vc_a0 (f := 0) (dep := dep + 1) hk (Or.inl rfl) (by omega) (by omega) hV1 (by simp; omega) (fun M2 hF2 hV2 => ?_)
    have := kk M2 (frv hF1 hF2) (by simpa [aT] using hV2)
    simpa [aV] using this
  · refine vc_sp (a := 2) (D := D + 11) (by omega) (by decide) hd (by omega) h (by omega) (fun M1 hF1 hV1 => ?_)
    rw [show bdy 4 2 = 51 from by decide +kernel] at hV1 ⊢
    show wbX9_bodyOf (wGX9_spoken 114 (D + 10)) 114 51 x (dp + 1) M1 Q
    unfold wbX9_bodyOf
    refine BR_f (by decide +kernel) (BR_f (by decide +kernel) (BR_f (by decide +kernel) (BR_f (by decide +kernel) (BR_f (by decide +kernel) (BR_f (by decide +kernel) (BR_f (by decide +kernel) (BR_f (by decide +kernel) (BR_f (by decide +kernel) (BR_t (by decide +kernel) ?_)))))))))
    refine vc_a0 (f := 0) (dep := dep + 1) hk (Or.inl rfl) (by omega) (by omega) hV1 (by simp; omega) (fun M2 hF2 hV2 => ?_)
    rw [hV2.2.2.2.2.2.2]
    have := kk M2 (frv hF1 hF2) (by simpa [aT] using hV2)
    simpa [aV] using this
  · refine vc_sp (a := 2) (D := D + 11) (by omega) (by decide) hd (by omega) h (by omega) (fun M1 hF1 hV1 => ?_)
    rw [show bdy 5 2 = 61 from by decide +kernel] at hV1 ⊢
    show wbX9_bodyOf (wGX9_spoken 114 (D + 10)) 114 61 x (dp + 1) M1 Q
    unfold wbX9_bodyOf
    refine BR_f (by decide +kernel) (BR_f (by decide +kernel) (BR_f (by decide +kernel) (BR_f (by decide +kernel) (BR_f (by decide +kernel) (BR_f (by decide +kernel) (BR_f (by decide +kernel) (BR_f (by decide +kernel) (BR_f (by decide +kernel) (BR_f (by decide +kernel) (BR_f (by decide +kernel) (BR_t (by decide +kernel) ?_)))))))))))
    have hh := hT_le k k
    refine vc_a0 (f := 1) (dep := dep + 1) hk (Or.inr (Or.inl rfl)) (by omega) (by omega) hV1 (by simp; omega) (fun M2 hF2 hV2 => ?_)
    rw [hV2.2.2.2.1]
    refine vc_s (D := D + 6) (dep := dep + 1) hk hk (by omega) (by omega) hV2 (by simp; omega) (fun M3 hF3 hV3 => ?_)
    have := kk M3 (frv (frv hF1 hF2) hF3) (by simpa [aT] using hV3)
    simpa [aV] using this
  · refine vc_a0 (D := D + 2) hk hf' hd (by omega) h (by omega) (fun M2 hF2 hV2 => ?_)
    have e1 : aT k f = 12 :: hT k k := by unfold aT; rw [if_neg (by omega), if_neg (by omega), if_neg (by omega)]
    have e2 : aV k u d n f x = hV k u d k x - n := by unfold aV; rw [if_neg (by omega), if_neg (by omega), if_neg (by omega)]
    have := kk M2 hF2 (by rw [e1]; exact hV2)
    rwa [e2] at this
/-- behind a PARTED: the bodies that had begun -/
def VT (M : Mem) (T : List Int) : Prop := M 114 1 = (T.length : Int) ∧ (∀ i, i < T.length → M 115 i = T.getD i 0) ∧ M 114 2 = 1
theorem vc_sk {D : Nat} {f a x dp : Int} (h : M 114 2 = 1) (kk : Q 0 M) : wGX9_spoken 114 (D + 1) 0 [f, a, x, dp] M Q := by
  show wbX9_spoken (wGX9_spoken 114 D) 114 f a x dp M Q
  unfold wbX9_spoken
  exact BR_f (by rw [h]; exact q1) kk
def pV (k : Nat) (u d n : Int) (f : Nat) (x : Int) : Int := if f = 1 then iDiv x (d - n) + aV k u d n k 1 else if f = 5 then hV k u d k x - (iDiv x (d - n) + aV k u d n k 1) else iDiv x (d - n)
theorem vc_p0 {D f dep : Nat} {x dp : Int} (hf : f = 0 ∨ f = 2 ∨ f = 3 ∨ f = 4 ∨ f = 6) (hd : dp = (dep : Int)) (hdep : dep ≤ 38) (h : VC k u d n M T) (hl : T.length + 1 ≤ 30) (k0 : bm (d - n) = 0 → ∀ M', Fr vx M M' → VT M' (T ++ [13]) → M' 114 3 = (k : Int) → Q 0 M') (kk : bm (d - n) ≠ 0 → ∀ M', Fr vx M M' → VC k u d n M' (T ++ [13]) → Q (iDiv x (d - n)) M') : wGX9_spoken 114 (D + 2) 0 [(f : Int), 3, x, dp] M Q := by
  refine vc_sp (a := 3) (D := D + 1) (by omega) (by decide) hd (by omega) h (by omega) (fun M1 hF1 hV1 => ?_)
  rw [show bdy f 3 = 13 from by rw [bd_p f (by omega), if_neg (by omega), if_neg (by omega)]] at hV1 ⊢
  show wbX9_bodyOf (wGX9_spoken 114 D) 114 13 x (dp + 1) M1 Q
  unfold wbX9_bodyOf wX9_partedBy
  refine BR_f (by decide +kernel) (BR_f (by decide +kernel) (BR_f (by decide +kernel) (BR_t (by decide +kernel) ?_)))
  obtain ⟨v1, v2, v3, v4, v5, v6, v7⟩ := id hV1
  rw [v6, v7]
  refine BR_i (fun hz => LET_i (k0 hz _ (fun a ha => by rw [up_c (fun e => ha (Or.inl e))]; exact hF1 a ha) ⟨?_, ?_, up_s ..⟩ ?_)) (fun hz => ⟨hz, kk hz M1 hF1 hV1⟩)
  · rw [up_kn (by decide)]
    exact v1
  · intro i hi
    rw [up_c (by decide)]
    exact v2 i hi
  · rw [up_kn (by decide)]
    exact v4
theorem vc_p1 {D dep : Nat} {x dp : Int} (hk : k ≤ 6) (hd : dp = (dep : Int)) (hdep : dep ≤ 28) (h : VC k u d n M T) (hl : T.length + 10 ≤ 30) (k0 : bm (d - n) = 0 → ∀ r M', Fr vx M M' → VT M' (T ++ [21, 13]) → Q r M') (kk : bm (d - n) ≠ 0 → ∀ M', Fr vx M M' → VC k u d n M' (T ++ 21 :: 13 :: aT k k) → Q (iDiv x (d - n) + aV k u d n k 1) M') : wGX9_spoken 114 (D + 14) 0 [1, 3, x, dp] M Q := by
  refine vc_sp (f := 1) (a := 3) (D := D + 13) (by omega) (by decide) hd (by omega) h (by omega) (fun M1 hF1 hV1 => ?_)
  rw [show bdy 1 3 = 21 from by decide +kernel] at hV1 ⊢
  show wbX9_bodyOf (wGX9_spoken 114 (D + 12)) 114 21 x (dp + 1) M1 Q
  unfold wbX9_bodyOf
  refine BR_f (by decide +kernel) (BR_f (by decide +kernel) (BR_f (by decide +kernel) (BR_f (by decide +kernel) (BR_f (by decide +kernel) (BR_t (by decide +kernel) ?_)))))
  refine vc_p0 (D := D + 10) (f := 0) (dep := dep + 1) (Or.inl rfl) (by omega) (by omega) hV1 (by simp; omega) (fun hz M2 hF2 hV2 h3 => ?_) (fun hz M2 hF2 hV2 => ?_)
  · exact vc_sk hV2.2.2 (k0 hz _ M2 (frv hF1 hF2) (by simpa using hV2))
  · rw [hV2.2.2.2.1]
    exact vc_a (dep := dep + 1) hk hk (by omega) (by omega) hV2 (by simp; omega) (fun M3 hF3 hV3 => kk hz M3 (frv (frv hF1 hF2) hF3) (by simpa using hV3))
theorem vc_p {D f dep : Nat} {x dp : Int} (hk : k ≤ 6) (hf : f ≤ 6) (hd : dp = (dep : Int)) (hdep : dep ≤ 26) (h : VC k u d n M T) (hl : T.length + 15 ≤ 30) (k0 : bm (d - n) = 0 → ∀ r M', Fr vx M M' → VT M' (T ++ pT k (bm (d - n) = 0) f) → Q r M') (kk : bm (d - n) ≠ 0 → ∀ M', Fr vx M M' → VC k u d n M' (T ++ pT k (bm (d - n) = 0) f) → Q (pV k u d n f x) M') : wGX9_spoken 114 (D + 16) 0 [(f : Int), 3, x, dp] M Q := by
  rcases (show f = 1 ∨ f = 5 ∨ (f = 0 ∨ f = 2 ∨ f = 3 ∨ f = 4 ∨ f = 6) by omega) with rfl | rfl | hf'
  · refine vc_p1 (D := D + 2) hk hd (by omega) h (by omega) (fun hz r M' hF hV => k0 hz r M' hF (by simpa [pT, hz] using hV)) (fun hz M' hF hV => ?_)
    have := kk hz M' hF (by simpa [pT, hz] using hV)
    simpa [pV] using this
  · refine vc_sp (a := 3) (D := D + 15) (by omega) (by decide) hd (by omega) h (by omega) (fun M1 hF1 hV1 => ?_)
    rw [show bdy 5 3 = 62 from by decide +kernel] at hV1 ⊢
    show wbX9_bodyOf (wGX9_spoken 114 (D + 14)) 114 62 x (dp + 1) M1 Q
    unfold wbX9_bodyOf
    refine BR_f (by decide +kernel) (BR_f (by decide +kernel) (BR_f (by decide +kernel) (BR_f (by decide +kernel) (BR_f (by decide +kernel) (BR_f (by decide +kernel) (BR_f (by decide +kernel) (BR_f (by decide +kernel) (BR_f (by decide +kernel) (BR_f (by decide +kernel) (BR_f (by decide +kernel) (BR_f (by decide +kernel) (BR_t (by decide +kernel) ?_))))))))))))
    have hh := hT_le k k
    rw [hV1.2.2.2.1]
    refine vc_h (D := D + 6) (dep := dep + 1) hk hk (by omega) (by omega) hV1 (by simp; omega) (fun M2 hF2 hV2 => ?_)
    refine vc_p1 (dep := dep + 1) hk (by omega) (by omega) hV2 (by simp; omega) (fun hz r M' hF hV => k0 hz _ M' (frv (frv hF1 hF2) hF) (by simpa [pT, hz] using hV)) (fun hz M' hF hV => ?_)
    have := kk hz M' (frv (frv hF1 hF2) hF) (by simpa [pT, hz] using hV)
    simpa [pV] using this
  · have e1 : pT k (bm (d - n) = 0) f = [13] := by unfold pT; rw [if_neg (by omega), if_neg (by omega)]
    have e2 : pV k u d n f x = iDiv x (d - n) := by unfold pV; rw [if_neg (by omega), if_neg (by omega)]
    rw [e1] at k0 kk
    rw [e2] at kk
    exact vc_p0 (D := D + 14) hf' hd (by omega) h (by omega) (fun hz M' hF hV _ => k0 hz 0 M' hF hV) kk
end ClassVoice2
