/-! VOICES: a call -/
section RefVoice2
variable {k l : Nat} {u d : Int} {M : Mem} {T : List Int} {Q : Int → Mem → Prop}
theorem mv_p1 {D : Nat} {x : Int} (hl : l < 10) (hk : k ≤ 6) (h : VM k l u d M T) (hTl : T.length + 10 ≤ 30) (k0 : bm (d - (l : Int)) = 0 → ∀ r M', FrV M M' → M' 125 35 = 1 → VM k l u d M' (T ++ [21, 13]) → Q r M') (kk : bm (d - (l : Int)) ≠ 0 → ∀ r M', bm r = bm (iDiv x (d - (l : Int)) + aV k u d (l : Int) k 1) → FrV M M' → M' 125 35 = 0 → VM k l u d M' (T ++ 21 :: 13 :: aT k k) → Q r M') : wGX12_parts 125 (D + 2) 0 [((1 : Nat) : Int), x] M Q := by
  show wbX12_parts (wGX12_parts 125 (D + 1)) 125 ((1 : Nat) : Int) x M Q
  simp only [wbX12_parts, wX12_asks]
  refine BR_f (by decide +kernel) (BR_t (by decide +kernel) (vm_body h (by omega) (fun M1 hF1 hp1 hV1 => vm_up (f := 1) (by decide) (mv_p0 hl hV1 (by simp; omega) (fun hz M2 hF2 hp2 hV2 => ?_) (fun hz r M2 hr hF2 hp2 hV2 => ?_)))))
  · exact BR_f (by rw [hp2]; exact q1) (k0 hz _ M2 (hF1.tr hF2) hp2 (by simpa using hV2))
  · refine BR_t (by rw [hp2]; exact q0) (vm_k hl hV2 (mv_a (D := 5) hl hk hk hV2 (by simp; omega) (fun M3 hF3 hp3 hV3 => kk hz _ M3 (bm_congr_add hr rfl) ((hF1.tr hF2).tr hF3) (by rw [hp3, hp2]) (by simpa using hV3))))
theorem mv_p {D f : Nat} {x : Int} (hl : l < 10) (hk : k ≤ 6) (hf : f ≤ 6) (h : VM k l u d M T) (hTl : T.length + 15 ≤ 30) (k0 : bm (d - (l : Int)) = 0 → ∀ r M', FrV M M' → M' 125 35 = 1 → VM k l u d M' (T ++ pT k (bm (d - (l : Int)) = 0) f) → Q r M') (kk : bm (d - (l : Int)) ≠ 0 → ∀ r M', bm r = bm (pV k u d (l : Int) f x) → FrV M M' → M' 125 35 = 0 → VM k l u d M' (T ++ pT k (bm (d - (l : Int)) = 0) f) → Q r M') : wGX12_parts 125 (D + 3) 0 [(f : Int), x] M Q := by
  rcases (show f = 0 ∨ f = 1 ∨ f = 5 ∨ (f = 2 ∨ f = 3 ∨ f = 4 ∨ f = 6) by omega) with rfl | rfl | rfl | hf'
  · refine mv_p0 (D := D + 2) hl h (by omega) (fun hz M2 hF2 hp2 hV2 => k0 hz 0 M2 hF2 hp2 (by simpa [pT] using hV2)) (fun hz r M2 hr hF2 hp2 hV2 => kk hz r M2 (by simpa [pV] using hr) hF2 hp2 (by simpa [pT] using hV2))
  · refine mv_p1 (D := D + 1) hl hk h (by omega) (fun hz r M2 hF2 hp2 hV2 => k0 hz r M2 hF2 hp2 (by simpa [pT, hz] using hV2)) (fun hz r M2 hr hF2 hp2 hV2 => kk hz r M2 (by simpa [pV] using hr) hF2 hp2 (by simpa [pT, hz] using hV2))
  · show wbX12_parts (wGX12_parts 125 (D + 2)) 125 ((5 : Nat) : Int) x M Q
    simp only [wbX12_parts, wX12_hears]
    have hh := hT_le k k
    refine BR_f (by decide +kernel) (BR_f (by decide +kernel) (BR_t (by decide +kernel) (vm_body h (by omega) (fun M1 hF1 hp1 hV1 => vm_k hl hV1 (mv_h (D := 5) hl hk hk hV1 (by simp; omega) (fun M2 hF2 hp2 hV2 => vm_up (f := 5) (by decide) (mv_p1 hl hk hV2 (by simp; omega) (fun hz r M3 hF3 hp3 hV3 => ?_) (fun hz r M3 hr hF3 hp3 hV3 => ?_))))))))
    · exact k0 hz _ M3 ((hF1.tr hF2).tr hF3) hp3 (by simpa [pT, hz] using hV3)
    · refine kk hz _ M3 ?_ ((hF1.tr hF2).tr hF3) hp3 (by simpa [pT, hz] using hV3)
      have := bm_congr_sub (a := hV k u d k x) rfl hr
      simpa [pV] using this
  · have e1 : pT k (bm (d - (l : Int)) = 0) f = [13] := by unfold pT; rw [if_neg (by omega), if_neg (by omega)]
    have e2 : pV k u d (l : Int) f x = iDiv x (d - (l : Int)) := by unfold pV; rw [if_neg (by omega), if_neg (by omega)]
    rw [e1] at k0 kk
    rw [e2] at kk
    show wbX12_parts (wGX12_parts 125 (D + 2)) 125 (f : Int) x M Q
    simp only [wbX12_parts]
    rw [bm_nat (n := f) (by omega)]
    refine BR_f (by omega) (BR_f (by omega) (BR_f (by omega) (vm_up (f := f) (by omega) ?_)))
    rw [if_neg (by omega)]
    exact mv_p0 (D := D + 1) hl h (by omega) (fun hz M2 hF2 hp2 hV2 => k0 hz 0 M2 hF2 hp2 hV2) kk
end RefVoice2
theorem Inv.voi {t : Int} {M M2 : Mem} (hI : Inv t M) (F' : ∀ a, a ≠ 86 → a ≠ 128 → a ≠ 114 → a ≠ 115 → a ≠ 125 → a ≠ 143 → M2 a = M a) (F2 : M2 125 2 = M 125 2) (hv : VoOk M2) (he : ErOk M2) : Inv t M2 := by
  obtain ⟨i1, i2, i3, i4, i5, i6, i7, i8, i9, i10⟩ := hI
  have e126 : M2 126 = M 126 := F' 126 (by decide) (by decide) (by decide) (by decide) (by decide) (by decide)
  have F : ∀ a, a ≠ 114 → a ≠ 115 → a ≠ 125 → a ≠ 143 → (a ≠ 86 ∧ a ≠ 128) → M2 a = M a := fun a h1 h2 h3 h4 h5 => F' a h5.1 h5.2 h1 h2 h3 h4
  refine ⟨by rw [e126]; exact i1, ?_, ?_, ?_, ?_, hv, he, ?_, ?_, ?_⟩
  · rw [e126]
    exact i2.congr i1.1 (fun a q1 q2 => F a (by omega) (by omega) (by omega) (by omega) (by omega))
  · exact i3.congr (F 1 (by decide) (by decide) (by decide) (by decide) (by decide)) (F 0 (by decide) (by decide) (by decide) (by decide) (by decide)) F2 (F 127 (by decide) (by decide) (by decide) (by decide) (by decide)) (fun a _ _ q => F a (by omega) (by omega) (by omega) (by omega) (by omega))
  · exact i4.congr (by rw [F 1 (by decide) (by decide) (by decide) (by decide) (by decide)]) (F 0 (by decide) (by decide) (by decide) (by decide) (by decide)) (by rw [F 103 (by decide) (by decide) (by decide) (by decide) (by decide)]) (by rw [F 108 (by decide) (by decide) (by decide) (by decide) (by decide)])
  · exact i5.congr (fun a q1 q2 => F a (by omega) (by omega) (by omega) (by omega) (by omega)) (F 144 (by decide) (by decide) (by decide) (by decide) (by decide)) (F 145 (by decide) (by decide) (by decide) (by decide) (by decide)) (F 146 (by decide) (by decide) (by decide) (by decide) (by decide))
  · rw [e126]
    exact i8.congr (fun j _ => by rw [F 103 (by decide) (by decide) (by decide) (by decide) (by decide)]) (F 104 (by decide) (by decide) (by decide) (by decide) (by decide)) (F 105 (by decide) (by decide) (by decide) (by decide) (by decide)) (F 106 (by decide) (by decide) (by decide) (by decide) (by decide))
  · rw [e126]
    exact i9.congr (fun j _ => by rw [F 108 (by decide) (by decide) (by decide) (by decide) (by decide)]) (F 109 (by decide) (by decide) (by decide) (by decide) (by decide))
  · exact i10.congr (fun a q1 q2 => F a (by omega) (by omega) (by omega) (by omega) (by omega))
theorem st_voice {t : Int} {M : Mem} (hI : Inv t M) {a b x : Int} (ea : bm a = a) (eb : bm b = b) : Step t M (fun M Q => wX11_voice 1 a b x M Q) (fun M Q => wX12_voice 125 a b x M Q) := by
  intro Q1 hQ1
  obtain ⟨nl, hn, hn10, c2⟩ := hI.nl
  have hE : ¬ ((bm 0 ≤ bm a ∧ bm a ≤ bm ((nl : Int) - 1)) ∧ (bm 0 ≤ bm b ∧ bm b ≤ bm 3)) → wX11_error 1 1 M (fun r M1 => Q1 r M1) := by
    intro hno
    refine lf_error11 (k := 1) rfl (by decide) (by decide) (hQ1 _ _ fun Q2 hQ2 => ?_)
    have hz := st_err hI (k := 1) (i := 1) rfl (by decide) hQ2
    simp only [wX12_voice, wX12_voice_J17]
    exact lf_isLik (n := nl) (by rw [up_c (by decide)]; exact hn) (fun h1 => BR_f q1 (mi_i (fun h2 => absurd ⟨h1, h2⟩ hno) (fun h2 => BR_t q0 hz))) (fun h1 => BR_t q0 hz)
  simp only [wX11_voice, wX11_voice_J17, Nat.reduceAdd]
  refine lf_noLik c2 (fun h1 => BR_t q0 (wi_i (fun h2 => BR_f q1 ?_) (fun h2 => BR_t q0 (hE (fun h => h2 h.2))))) (fun h1 => BR_f q1 (hE (fun h => h1 h.1)))
  obtain ⟨l, rfl, hl⟩ := rg ea (bm_id (by omega) (by omega)) h1
  obtain ⟨act, rfl, hact⟩ := rg eb li_3 h2
  have hL := hI.1.2.2.2.1 l (by omega)
  have hB := hI.2.1.2.2.2.1 l (by omega)
  obtain ⟨k, hk⟩ : ∃ k : Nat, lK (M 126) l = (k : Int) := ⟨(lK (M 126) l).toNat, by have := hL.1; omega⟩
  have hk6 : k ≤ 6 := by have := hL.1; omega
  obtain ⟨u, hu⟩ : ∃ u : Int, lU (M 126) l = u := ⟨_, rfl⟩
  obtain ⟨d, hd⟩ : ∃ d : Int, lD (M 126) l = d := ⟨_, rfl⟩
  have e0 : M (23 + 2 * l) 0 = (k : Int) := by have := hB.1; rw [show 2 + 21 + 2 * l = 23 + 2 * l by omega] at this; rw [this, hk]
  have e1 : M (23 + 2 * l) 1 = u := by have := hB.2.1; rw [show 2 + 21 + 2 * l = 23 + 2 * l by omega] at this; rw [this, hu]
  have e2 : M (23 + 2 * l) 2 = d := by have := hB.2.2.1; rw [show 2 + 21 + 2 * l = 23 + 2 * l by omega] at this; rw [this, hd]
  rw [bnn (by omega)]
  simp only [wX9_speak, wX9_spoken]
  refine ⟨inb_of rfl (by omega) (by decide), LET_i (LET_i (LET_i (LET_i (LET_i (LET_i ?_)))))⟩
  rw [show up (up M 114 3 (M (23 + 2 * l) 0)) 114 4 (up M 114 3 (M (23 + 2 * l) 0) (23 + 2 * l) 1) (23 + 2 * l) 2 = d from by simp (disch := omega) only [up_c]; exact e2, show up M 114 3 (M (23 + 2 * l) 0) (23 + 2 * l) 1 = u from by simp (disch := omega) only [up_c]; exact e1, e0]
  generalize hM6 : up (up (up (up (up (up M 114 3 (k : Int)) 114 4 u) 114 5 d) 114 6 (l : Int)) 114 1 0) 114 2 0 = M6
  have hV6 : VC k u d (l : Int) M6 [] := by
    subst hM6
    refine ⟨?_, fun i hi => absurd hi (Nat.not_lt_zero i), ?_, ?_, ?_, ?_, ?_⟩
    all_goals simp (disch := omega) only [up_s, up_kn]
    rfl
  have hF6 : Fr vx M M6 := by
    subst hM6
    intro a ha
    have : a ≠ 114 := fun e => ha (Or.inl e)
    simp (disch := omega) only [up_c]
  clear hM6
  rw [hV6.2.2.2.1]
  -- the reference's call
  have ref : ∀ (M1 : Mem) (T : List Int) (Q2 : Int → Mem → Prop), Fr vx M M1 → M1 114 1 = (T.length : Int) → T.length ≤ 30 → (∀ i, i < T.length → M1 115 i = T.getD i 0) → (∀ M' : Mem, VM k l u d M' [] → M' 125 35 = 0 → (∀ Q' : Int → Mem → Prop, (∀ r M2, FrV M' M2 → VM k l u d M2 T → Q' r M2) → True) → True) → True := fun _ _ _ _ _ _ _ _ => trivial
  have start : ∀ M1 : Mem, Fr vx M M1 → VM k l u d (up (up (up M1 125 33 0) 125 34 (l : Int)) 125 35 0) [] ∧ up (up (up M1 125 33 0) 125 34 (l : Int)) 125 35 0 125 35 = 0 := by
    intro M1 hF
    have e126 : M1 126 = M 126 := hF 126 (by unfold vx; decide)
    refine ⟨⟨?_, fun i hi => absurd hi (Nat.not_lt_zero i), ?_, ?_, ?_, ?_⟩, by rw [up_s]⟩
    · simp (disch := omega) only [up_s, up_kn]
      rfl
    · simp (disch := omega) only [up_s, up_kn]
    · simp (disch := omega) only [up_c]
      rw [e126]
      exact hk
    · simp (disch := omega) only [up_c]
      rw [e126]
      exact hu
    · simp (disch := omega) only [up_c]
      rw [e126]
      exact hd
  have fin : ∀ (M1 M2 : Mem) (T : List Int), Fr vx M M1 → M1 114 1 = (T.length : Int) → T.length ≤ 30 → (∀ i, i < T.length → M1 115 i = T.getD i 0) → FrV (up (up (up M1 125 33 0) 125 34 (l : Int)) 125 35 0) M2 → VM k l u d M2 T → Inv t M2 := by
    intro M1 M2 T hF a1 a2 a3 hFV hV
    refine hI.voi (fun a _ _ q1 q2 q3 q4 => ?_) ?_ ⟨?_, ?_, ?_, ?_⟩ ?_
    · rw [hFV.1 a q3 q4]
      simp (disch := omega) only [up_c]
      exact hF a (by unfold vx; omega)
    · rw [hFV.2 2 (by decide) (by decide)]
      simp (disch := omega) only [up_kn]
      rw [hF 125 (by unfold vx; decide)]
    · rw [hFV.1 114 (by decide) (by decide)]
      simp (disch := omega) only [up_c]
      rw [a1, hV.1]
    · rw [hV.1]
      omega
    · rw [hV.1]
      omega
    · intro i hi
      rw [hV.1] at hi
      rw [hFV.1 115 (by decide) (by decide)]
      simp (disch := omega) only [up_c]
      rw [a3 i (by omega), hV.2.1 i (by omega)]
    · intro j
      rw [hFV.1 86 (by decide) (by decide), hFV.1 128 (by decide) (by decide)]
      simp (disch := omega) only [up_c]
      rw [hF 86 (by unfold vx; decide), hF 128 (by unfold vx; decide)]
      exact hI.2.2.2.2.2.2.1 j
  have hs1 := sT_le k
  have hs2 := hT_le k k
  have hs3 := aT_le k k
  have hs4 : (pT k (bm (d - (l : Int)) = 0) k).length ≤ 15 := by
    unfold pT
    repeat' split
    all_goals simp only [List.length_cons, List.length_append, List.length_nil]; omega
  have mstart : ∀ (M1 : Mem) (Q2 : Int → Mem → Prop), Fr vx M M1 → (BR (bm (act : Int) = 0) (wX12_says 125 (k : Int) x (up (up (up M1 125 33 0) 125 34 (l : Int)) 125 35 0) fun r M2 => wX12_voice_J95 Q2 125 r M2) (BR (bm (act : Int) = 1) (wX12_hears 125 (k : Int) x (up (up (up M1 125 33 0) 125 34 (l : Int)) 125 35 0) fun r M2 => wX12_voice_J95 Q2 125 r M2) (BR (bm (act : Int) = 2) (wX12_asks 125 (k : Int) x (up (up (up M1 125 33 0) 125 34 (l : Int)) 125 35 0) fun r M2 => wX12_voice_J95 Q2 125 r M2) (wX12_parts 125 (k : Int) x (up (up (up M1 125 33 0) 125 34 (l : Int)) 125 35 0) fun r M2 => wX12_voice_J95 Q2 125 r M2)))) → wX12_voice 125 (l : Int) (act : Int) x M1 Q2 := by
    intro M1 Q2 hF hh
    simp only [wX12_voice]
    exact lf_isLik (n := nl) (by rw [hF 126 (by unfold vx; decide)]; exact hn) (fun _ => BR_f q1 (mi_t h2 (BR_f q1 (LET_i (LET_i (LET_i (vm_k (by omega) (start M1 hF).1 hh))))))) (fun h => absurd h1 h)
  have rb : bm (act : Int) = (act : Int) := bm_nat (by omega)
  rcases (show act = 0 ∨ act = 1 ∨ act = 2 ∨ act = 3 by omega) with rfl | rfl | rfl | rfl
  · refine vc_s (D := 56) (dep := 0) hk6 hk6 rfl (by decide) hV6 (by decide) (fun M1 hF1 hV1 => BR_t (by rw [hV1.2.2.1]; exact q0) (hQ1 _ _ fun Q2 hQ2 => mstart M1 Q2 (frv hF6 hF1) (BR_t q0 ?_)))
    unfold wX12_says
    refine mv_s (D := 5) (by omega) hk6 (start M1 (frv hF6 hF1)).1 (by decide) (fun M2 hF2 hp2 hV2 => ?_)
    unfold wX12_voice_J95
    exact BR_t (by rw [hp2, (start M1 (frv hF6 hF1)).2]; exact q0) (hQ2 _ _ rfl ((fin M1 M2 _ (frv hF6 hF1) hV1.1 (by simp; omega) hV1.2.1 hF2 hV2).mono (by omega)))
  · refine vc_h (D := 52) (dep := 0) hk6 hk6 rfl (by decide) hV6 (by decide) (fun M1 hF1 hV1 => BR_t (by rw [hV1.2.2.1]; exact q0) (hQ1 _ _ fun Q2 hQ2 => mstart M1 Q2 (frv hF6 hF1) (BR_f (by decide +kernel) (BR_t (by decide +kernel) ?_))))
    unfold wX12_hears
    refine mv_h (D := 5) (by omega) hk6 hk6 (start M1 (frv hF6 hF1)).1 (by decide) (fun M2 hF2 hp2 hV2 => ?_)
    unfold wX12_voice_J95
    exact BR_t (by rw [hp2, (start M1 (frv hF6 hF1)).2]; exact q0) (hQ2 _ _ rfl ((fin M1 M2 _ (frv hF6 hF1) hV1.1 (by simp; omega) hV1.2.1 hF2 hV2).mono (by omega)))
  · refine vc_a (D := 48) (dep := 0) hk6 hk6 rfl (by decide) hV6 (by decide) (fun M1 hF1 hV1 => BR_t (by rw [hV1.2.2.1]; exact q0) (hQ1 _ _ fun Q2 hQ2 => mstart M1 Q2 (frv hF6 hF1) (BR_f (by decide +kernel) (BR_f (by decide +kernel) (BR_t (by decide +kernel) ?_)))))
    unfold wX12_asks
    refine mv_a (D := 5) (by omega) hk6 hk6 (start M1 (frv hF6 hF1)).1 (by decide) (fun M2 hF2 hp2 hV2 => ?_)
    unfold wX12_voice_J95
    exact BR_t (by rw [hp2, (start M1 (frv hF6 hF1)).2]; exact q0) (hQ2 _ _ rfl ((fin M1 M2 _ (frv hF6 hF1) hV1.1 (by simp; omega) hV1.2.1 hF2 hV2).mono (by omega)))
  · refine vc_p (D := 44) (dep := 0) hk6 hk6 rfl (by decide) hV6 (by decide) (fun hz r M1 hF1 hV1 => BR_f (by rw [hV1.2.2]; exact q1) ?_) (fun hz M1 hF1 hV1 => BR_t (by rw [hV1.2.2.1]; exact q0) (hQ1 _ _ fun Q2 hQ2 => mstart M1 Q2 (frv hF6 hF1) (BR_f (by decide +kernel) (BR_f (by decide +kernel) (BR_f (by decide +kernel) ?_)))))
    · refine lf_error11 (k := 6) rfl (by decide) (by decide) (hQ1 _ _ fun Q2 hQ2 => ?_)
      have hF2 : Fr vx M M1 := frv hF6 hF1
      have h6 : ∀ z : Int, (up M1 86 6 z) 126 = M 126 := fun z => by rw [up_c (by decide)]; exact hF2 126 (by unfold vx; decide)
      simp only [wX12_voice]
      refine lf_isLik (n := nl) (by rw [h6]; exact hn) (fun _ => BR_f q1 (mi_t h2 (BR_f q1 (LET_i (LET_i (LET_i ?_)))))) (fun h => absurd h1 h)
      have st2 : VM k l u d (up (up (up (up M1 86 6 (M1 86 6 + 1)) 125 33 0) 125 34 (l : Int)) 125 35 0) [] := by
        refine ⟨?_, fun i hi => absurd hi (Nat.not_lt_zero i), ?_, ?_, ?_, ?_⟩
        · simp (disch := omega) only [up_s, up_kn]
          rfl
        · simp (disch := omega) only [up_s, up_kn]
        · simp (disch := omega) only [up_c]
          rw [hF2 126 (by unfold vx; decide)]
          exact hk
        · simp (disch := omega) only [up_c]
          rw [hF2 126 (by unfold vx; decide)]
          exact hu
        · simp (disch := omega) only [up_c]
          rw [hF2 126 (by unfold vx; decide)]
          exact hd
      refine vm_k (by omega) st2 (BR_f (by decide +kernel) (BR_f (by decide +kernel) (BR_f (by decide +kernel) ?_)))
      unfold wX12_parts
      refine mv_p (D := 5) (by omega) hk6 hk6 st2 (by decide) (fun _ r M2 hFV hp2 hV2 => ?_) (fun hz' => absurd hz hz')
      unfold wX12_voice_J95
      refine BR_f (by rw [hp2]; exact q1) (lf_error12 (k := 6) rfl (by decide) (hQ2 _ _ rfl ?_))
      have h86 : M1 86 = M 86 := hF2 86 (by unfold vx; decide)
      have g86 : ∀ j, M2 86 j = if j = 6 then M 86 6 + 1 else M 86 j := fun j => by
        rw [hFV.1 86 (by decide) (by decide)]
        simp (disch := omega) only [up_c, up_k]
        rw [h86]
      have g128 : M2 128 = M 128 := by
        rw [hFV.1 128 (by decide) (by decide)]
        simp (disch := omega) only [up_c]
        exact hF2 128 (by unfold vx; decide)
      refine (hI.voi (fun a y1 y2 q1 q2 q3 q4 => ?_) ?_ ⟨?_, ?_, ?_, ?_⟩ ?_).mono (by omega)
      · rw [up_c y2, hFV.1 a q3 q4]
        simp (disch := omega) only [up_c]
        exact hF2 a (by unfold vx; omega)
      · rw [up_c (by decide), hFV.2 2 (by decide) (by decide)]
        simp (disch := omega) only [up_kn, up_c]
        rw [hF2 125 (by unfold vx; decide)]
      · rw [up_c (by decide), up_c (by decide), hFV.1 114 (by decide) (by decide)]
        simp (disch := omega) only [up_c]
        rw [hV1.1, hV2.1]
      · rw [up_c (by decide), hV2.1]
        omega
      · rw [up_c (by decide), hV2.1]
        simp only [List.nil_append]
        omega
      · intro i hi
        rw [up_c (by decide), hV2.1] at hi
        rw [up_c (by decide), up_c (by decide), hFV.1 115 (by decide) (by decide)]
        simp (disch := omega) only [up_c]
        rw [hV1.2.1 i (by omega), hV2.2.1 i (by omega)]
      · intro j
        rw [up_c (by decide), up_k, g86, g128, ← hI.2.2.2.2.2.2.1 6]
        split
        · rfl
        · exact hI.2.2.2.2.2.2.1 j
    · unfold wX12_parts
      refine mv_p (D := 5) (by omega) hk6 hk6 (start M1 (frv hF6 hF1)).1 (by decide) (fun hz' => absurd hz' hz) (fun _ r M2 hr hF2 hp2 hV2 => ?_)
      unfold wX12_voice_J95
      exact BR_t (by rw [hp2]; exact q0) (hQ2 _ _ hr.symm ((fin M1 M2 _ (frv hF6 hF1) hV1.1 (by simp; omega) hV1.2.1 hF2 hV2).mono (by omega)))
