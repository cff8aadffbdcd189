/-! THE START: what the script makes first -/
def E0 : Mem := fun a j => if a = 0 ∧ j = 0 then 1 else 0
theorem e0_nx : nx E0 = 1 := rfl
theorem e0_z {k : Nat} (h : 0 < k) : E0 0 k = 0 := if_neg (by omega)
theorem e0_lay : Lay E0 := ⟨fun k ci j add sub kd hk hkk hm => by
    rw [e0_z hk] at hkk
    exact absurd hkk.symm (kO_pos ci), fun k t n i hk hn hkk ht hi => by
    rw [e0_z hk] at hkk
    exact absurd hkk.symm (kA_pos t n)⟩
theorem e0_fre : Fre E0 := ⟨by decide, fun k hk => e0_z (by rw [e0_nx] at hk; omega)⟩
theorem lay11 : layB 124 ini11Ks ini11Fs = true := by decide +kernel
theorem lay12 : layB 23 ini12Ks ini12Fs = true := by decide +kernel
theorem lkf_none {a j : Nat} : ∀ {fs : List (Nat × Nat × Bool × Int)}, fs.all (fun e => e.1 != a) = true → lkf fs a j = (false, 0)
  | [], _ => rfl
  | (b, i, v) :: r, h => by
    rw [List.all_cons, Bool.and_eq_true] at h
    have hb : b ≠ a := by simpa using h.1
    show (if a = b ∧ j = i then v else lkf r a j) = (false, 0)
    rw [if_neg (fun e => hb e.1.symm)]
    exact lkf_none h.2
theorem inv_0 {M : Mem} (h00 : M 0 0 = 148) (c : ∀ a j, a < 124 → M (1 + a) j = dv 1 (lkf ini11Fs a j)) (d : ∀ a j, a < 23 → M (125 + a) j = dv 125 (lkf ini12Fs a j)) : Inv 0 M := by
  have cz : ∀ a, a < 124 → ini11Fs.all (fun e => e.1 != a) = true → ∀ j, M (1 + a) j = 0 := fun a ha h j => by rw [c a j ha, lkf_none h]; rfl
  have dz : ∀ a, a < 23 → ini12Fs.all (fun e => e.1 != a) = true → ∀ j, M (125 + a) j = 0 := fun a ha h j => by rw [d a j ha, lkf_none h]; rfl
  have s0 : M 126 0 = 0 := (d 1 0 (by decide)).trans (by decide +kernel)
  have s1 : M 126 1 = 0 := (d 1 1 (by decide)).trans (by decide +kernel)
  have s2 : M 126 2 = 0 := (d 1 2 (by decide)).trans (by decide +kernel)
  have s3 : M 126 3 = 0 := (d 1 3 (by decide)).trans (by decide +kernel)
  have s4 : M 126 4 = 0 := (d 1 4 (by decide)).trans (by decide +kernel)
  have s5 : M 126 5 = 0 := (d 1 5 (by decide)).trans (by decide +kernel)
  have s6 : M 126 6 = 1 := (d 1 6 (by decide)).trans (by decide +kernel)
  have s7 : M 126 7 = 1 := (d 1 7 (by decide)).trans (by decide +kernel)
  have s8 : M 126 8 = 20 := (d 1 8 (by decide)).trans (by decide +kernel)
  have s9 : M 126 9 = 999 := (d 1 9 (by decide)).trans (by decide +kernel)
  have b0 : M 2 1 = 0 := (c 1 1 (by decide)).trans (by decide +kernel)
  have b1 : M 2 4 = 0 := (c 1 4 (by decide)).trans (by decide +kernel)
  have b2 : M 2 6 = 0 := (c 1 6 (by decide)).trans (by decide +kernel)
  have b3 : M 2 11 = 0 := (c 1 11 (by decide)).trans (by decide +kernel)
  have b4 : M 2 8 = 0 := (c 1 8 (by decide)).trans (by decide +kernel)
  have b5 : M 2 13 = 0 := (c 1 13 (by decide)).trans (by decide +kernel)
  have r0 : M 4 0 = 1 := (c 3 0 (by decide)).trans (by decide +kernel)
  have r1 : M 4 1 = 1 := (c 3 1 (by decide)).trans (by decide +kernel)
  have r2 : M 4 2 = 20 := (c 3 2 (by decide)).trans (by decide +kernel)
  have r3 : M 4 3 = 999 := (c 3 3 (by decide)).trans (by decide +kernel)
  have k1 : M 1 1 = 0 := (c 0 1 (by decide)).trans (by decide +kernel)
  have k2 : M 1 2 = 0 := (c 0 2 (by decide)).trans (by decide +kernel)
  have k3 : M 125 2 = 0 := (d 0 2 (by decide)).trans (by decide +kernel)
  have k4 : M 125 33 = 0 := (d 0 33 (by decide)).trans (by decide +kernel)
  have n1 : M 103 13 = 0 := (c 102 13 (by decide)).trans (by decide +kernel)
  have n2 : M 108 7 = 0 := (c 107 7 (by decide)).trans (by decide +kernel)
  have t7 : ∀ j, M 7 j = 0 := cz 6 (by decide) (by decide +kernel)
  refine ⟨⟨⟨by omega, by omega, by omega, by omega, by omega, by omega⟩, ⟨by omega, by omega, by omega, by omega⟩, fun p hp => by omega, fun p hp => by omega, fun p hp => by omega, fun p hp => by omega, fun i hi => by omega⟩, ⟨⟨by omega, by omega, by omega, by omega, by omega, by omega⟩, fun i hi => ?_, fun p hp => by omega, fun p hp => by omega, fun p hp => by omega, fun p hp => by omega, ⟨fun i hi => ?_, fun i hi => by omega⟩, fun i hi => by omega⟩, ⟨by omega, by omega, by omega, Or.inl ⟨k1, k3⟩⟩, ⟨by omega, Or.inl n1, Or.inl n2, Or.inl k1, Or.inl k1, Or.inl n1⟩, fun k hk => ?_, ⟨?_, by omega, by omega, fun i hi => by omega⟩, fun k => ?_, SeOk.off ?_, SsOk.off ?_, ⟨?_, ?_, ?_, ?_, ?_, ?_, ?_⟩⟩
  · rcases (show i = 0 ∨ i = 1 ∨ i = 2 ∨ i = 3 by omega) with rfl | rfl | rfl | rfl
    · exact r0.trans s6.symm
    · exact r1.trans s7.symm
    · exact r2.trans s8.symm
    · exact r3.trans s9.symm
  · have := t7 i
    show -128 ≤ M 7 i ∧ M 7 i < 128
    omega
  · have e1 : ∀ j, M 144 j = 0 := dz 19 (by decide) (by decide +kernel)
    have e2 : ∀ j, M 145 j = 0 := dz 20 (by decide) (by decide +kernel)
    have e3 : ∀ j, M 146 j = 0 := dz 21 (by decide) (by decide +kernel)
    unfold ShOk1
    rw [e1, e2]
    rcases (show k = 0 ∨ k = 1 ∨ k = 2 ∨ k = 3 by omega) with rfl | rfl | rfl | rfl
    · exact ⟨(c 116 1 (by decide)).trans (by decide +kernel), (c 116 2 (by decide)).trans (by decide +kernel), Or.inl rfl, by decide, by decide, fun i hi => ⟨by rw [e3]; exact cz 117 (by decide) (by decide +kernel) i, by rw [e3]; exact bm0⟩⟩
    · exact ⟨(c 118 1 (by decide)).trans (by decide +kernel), (c 118 2 (by decide)).trans (by decide +kernel), Or.inl rfl, by decide, by decide, fun i hi => ⟨by rw [e3]; exact cz 119 (by decide) (by decide +kernel) i, by rw [e3]; exact bm0⟩⟩
    · exact ⟨(c 120 1 (by decide)).trans (by decide +kernel), (c 120 2 (by decide)).trans (by decide +kernel), Or.inl rfl, by decide, by decide, fun i hi => ⟨by rw [e3]; exact cz 121 (by decide) (by decide +kernel) i, by rw [e3]; exact bm0⟩⟩
    · exact ⟨(c 122 1 (by decide)).trans (by decide +kernel), (c 122 2 (by decide)).trans (by decide +kernel), Or.inl rfl, by decide, by decide, fun i hi => ⟨by rw [e3]; exact cz 123 (by decide) (by decide +kernel) i, by rw [e3]; exact bm0⟩⟩
  · exact ((c 113 1 (by decide)).trans (by decide +kernel)).trans k4.symm
  · exact (cz 85 (by decide) (by decide +kernel) k).trans (dz 3 (by decide) (by decide +kernel) k).symm
  · exact (c 102 3 (by decide)).trans (by decide +kernel)
  · exact (c 107 1 (by decide)).trans (by decide +kernel)
  · exact cz 93 (by decide) (by decide +kernel) 0
  · exact cz 94 (by decide) (by decide +kernel) 0
  · exact cz 95 (by decide) (by decide +kernel) 0
  · exact cz 96 (by decide) (by decide +kernel) 0
  · exact cz 97 (by decide) (by decide +kernel) 0
  · exact fun p _ => cz 98 (by decide) (by decide +kernel) p
  · exact fun p _ => cz 99 (by decide) (by decide +kernel) p
theorem start_w {C : Nat → Nat → Mem → Prop} (hC : ∀ M, Inv 0 M → C 1 125 M) : wL_start C E0 := by
  unfold wL_start
  have hb : Has (nx E0) 0 E0 E0 [] [] := Has.base (kd := 0) (by decide)
  refine s_al (K := nx E0) (n := 0) (n' := 1) hb rfl fun M2 h2 => ini11_s (K := nx E0) h2 fun M3 h3 => ?_
  have l3 := lay_has h3 e0_lay e0_fre rfl lay11
  have hn3 : nx M3 = 125 := by rw [hasNx h3, e0_nx]
  refine ⟨l3.1, ?_⟩
  have hb3 : Has (nx M3) 0 M3 M3 [] [] := Has.base (kd := 0) (by omega)
  refine s_al (K := nx M3) (n := 0) (n' := 1) hb3 rfl fun M6 h6 => ini12_s (K := nx M3) h6 fun M7 h7 => ?_
  refine ⟨(lay_has h7 l3.1 l3.2 rfl lay12).1, ?_⟩
  rw [hn3] at h7 ⊢
  rw [e0_nx] at h3 ⊢
  refine hC M7 (inv_0 (by rw [h7.hn]; rfl) (fun a j ha => ?_) fun a j ha => h7.hf a j ha)
  rw [h7.of (1 + a) (by omega) (Or.inl (by omega))]
  exact h3.hf a j ha
