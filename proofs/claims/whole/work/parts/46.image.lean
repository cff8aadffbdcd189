/-! restore, image: calls -/
theorem st_restore {t : Int} {M : Mem} (hI : Inv t M) (ht : t < 2147483648) : Step t M (fun M Q => wX11_restore 1 M Q) (fun M Q => wX12_restore 125 M Q) := by
  intro Q1 hQ1
  obtain ⟨k1, k2, k3, k4⟩ := hI.2.2.1
  simp only [wX11_restore, wX11_forget, Nat.reduceAdd]
  rcases k4 with ⟨z1, z2⟩ | ⟨a1, a2, a3, a4, a5, a6⟩
  · refine BR_t z1 ?_
    refine lf_error11 (k := 2) rfl (by decide) (by decide) (hQ1 _ _ fun Q2 hQ2 => ?_)
    have hz := st_err hI (k := 2) (i := 2) rfl (by decide) hQ2
    simp only [wX12_restore]
    exact BR_t (by rw [up_c (by decide), z2]; exact q0) hz
  · obtain ⟨K, hK⟩ : ∃ K : Nat, M 1 1 = (K : Int) := ⟨(M 1 1).toNat, by omega⟩
    rw [hK] at a1 a2 a3 a6
    rw [Int.toNat_natCast] at a3 a6
    refine BR_f (by omega) ?_
    rw [hK, Int.toNat_natCast]
    refine ⟨⟨by omega, a3⟩, cf_all (s := M 127) (by omega) a5 a6 fun M' f1 f2 => LET_i (LET_i ?_)⟩
    refine hQ1 _ _ fun Q2 hQ2 => ?_
    unfold wX12_restore
    have e125 : up (up M' 103 3 0) 108 1 0 125 = M 125 := by rw [up_c (by decide), up_c (by decide), f1 125 (by decide)]
    refine BR_f ?_ ⟨1522 + 1, ?_⟩
    · rw [e125, bm_id (by omega) (by omega)]
      omega
    refine re_L (M0 := up (up M' 103 3 0) 108 1 0) (fun M2 g1 g2 => ?_) 1522 0 _ 0 rfl rfl (fun _ _ => rfl) (fun j => by rw [if_neg (by omega)])
    have G : ∀ a, (a < 2 ∨ 84 < a) → a ≠ 103 → a ≠ 108 → a ≠ 126 → M2 a = M a := fun a q1 q2 q3 q4 => by rw [g1 a q4, up_c q3, up_c q2, f1 a (by omega)]
    have E : ∀ i, i < 1522 → M2 126 i = M 127 i := fun i hi => by rw [g2, if_pos hi, up_c (by decide), up_c (by decide), f1 127 (by decide)]
    have C : ∀ a, 2 ≤ a → a ≤ 84 → M2 a = M' a := fun a q1 q2 => by rw [g1 a (by omega), up_c (by omega), up_c (by omega)]
    have hb : Bk 2 M2 (M 127) := f2.congr a5.1 fun a q1 q2 => C a q1 (by omega)
    refine hQ2 _ _ ?_ ((hI.flat G ?_ ?_ (a5.ext E) (hb.ext a5 E) (SeOk.off ?_) (SsOk.off ?_)).mono (by omega))
    · rw [E 0 (by decide), up_c (by decide), up_c (by decide), f2.1.1]
    · rw [g1 103 (by decide), up_c (by decide), up_kn (by decide), f1 103 (by decide)]
    · rw [g1 108 (by decide), up_kn (by decide), up_c (by decide), f1 108 (by decide)]
    · rw [g1 103 (by decide), up_c (by decide), up_s]
    · rw [g1 108 (by decide), up_s]
theorem im_J {t : Int} {Mo M : Mem} {K : Nat} (hI : Inv t Mo) (h1 : M 1 2 = Mo 1 2) (hK : M 1 1 = (K : Int)) (hK2 : 148 ≤ K) (hk : M 0 K = kO 0) (h83 : (K : Int) + 83 ≤ M 0 0) (hfr : ∀ a, 1 < a → a < 148 → M a = Mo a) (hnw : NwOk M) {Q1 : Int → Mem → Prop} (hQ1 : ∀ r M1, (∀ Q2 : Int → Mem → Prop, (∀ r2 M2, bm r = bm r2 → Inv (t + 1) M2 → Q2 r2 M2) → wX12_image 125 M1 Q2) → Q1 r M1) : wX11_image_J18 Q1 1 M := by
  obtain ⟨i1, i2, ⟨k1, k2, k3, k4⟩, i4, i5, i6, i7, i8, i9, i10⟩ := hI
  simp only [wX11_image_J18, Nat.reduceAdd]
  rw [hK, Int.toNat_natCast]
  refine ⟨⟨by omega, hk⟩, cf_all (s := Mo 126) (by omega) i1 (i2.congr i1.1 fun a q1 q2 => hfr a (by omega) (by omega)) fun M' f1 f2 => LET_i ?_⟩
  rw [up_s, f1 1 (by omega), h1]
  refine hQ1 _ _ fun Q2 hQ2 => ?_
  unfold wX12_image
  refine ⟨1522 + 1, ?_⟩
  refine im_L (M0 := up M' 1 2 (Mo 1 2 + 1)) (fun M2 g1 g2 => LET_i ?_) 1522 0 _ 0 rfl rfl (fun _ _ => rfl) (fun j => by rw [if_neg (by omega)])
  have e2 : M2 125 2 = Mo 125 2 := by rw [g1 125 (by decide), up_c (by decide), f1 125 (by omega), hfr 125 (by decide) (by decide)]
  rw [up_s, e2]
  have G : ∀ a, 1 < a → a < 148 → a ≠ 125 → a ≠ 127 → up M2 125 2 (Mo 125 2 + 1) a = Mo a := fun a q1 q2 q3 q4 => by rw [up_c q3, g1 a q4, up_c (by omega), f1 a (by omega), hfr a q1 q2]
  have G5 : ∀ j, up M2 125 2 (Mo 125 2 + 1) 125 j = if j = 2 then Mo 125 2 + 1 else Mo 125 j := fun j => by rw [up_k, g1 125 (by decide), up_c (by decide), f1 125 (by omega), hfr 125 (by decide) (by decide)]
  have G1 : ∀ j, up M2 125 2 (Mo 125 2 + 1) 1 j = if j = 2 then Mo 1 2 + 1 else M 1 j := fun j => by rw [up_c (by decide), g1 1 (by decide), up_k, f1 1 (by omega)]
  have G0 : up M2 125 2 (Mo 125 2 + 1) 0 = M 0 := by rw [up_c (by decide), g1 0 (by decide), up_c (by decide), f1 0 (by omega)]
  have GK : ∀ a, 148 ≤ a → up M2 125 2 (Mo 125 2 + 1) a = M' a := fun a q => by rw [up_c (by omega), g1 a (by omega), up_c (by omega)]
  have G7 : ∀ i, i < 1522 → up M2 125 2 (Mo 125 2 + 1) 127 i = Mo 126 i := fun i hi => by rw [up_c (by decide), g2, if_pos hi, up_c (by decide), f1 126 (by omega), hfr 126 (by decide) (by decide)]
  clear g1 g2
  generalize up M2 125 2 (Mo 125 2 + 1) = M3 at G G5 G1 G0 GK G7
  have e126 : M3 126 = Mo 126 := G 126 (by decide) (by decide) (by decide) (by decide)
  refine hQ2 _ _ (by rw [k1]) ⟨?_, ?_, ?_, ?_, ?_, ?_, ?_, ?_, ?_, ?_⟩
  · rw [e126]
    exact i1
  · rw [e126]
    exact i2.congr i1.1 fun a q1 q2 => G a (by omega) (by omega) (by omega) (by omega)
  · refine ⟨?_, ?_, ?_, Or.inr ⟨?_, ?_, ?_, ?_, ?_, ?_⟩⟩
    · rw [G1, G5, if_pos rfl, if_pos rfl, k1]
    · rw [G5, if_pos rfl]
      omega
    · rw [G5, if_pos rfl]
      omega
    · rw [G1, if_neg (by decide), hK]
      omega
    · rw [G1, if_neg (by decide), hK, G0]
      exact h83
    · rw [G1, if_neg (by decide), hK, Int.toNat_natCast, G0]
      exact hk
    · rw [G5, if_pos rfl]
      omega
    · exact i1.ext G7
    · rw [G1, if_neg (by decide), hK, Int.toNat_natCast]
      exact (f2.congr i1.1 fun a q1 q2 => GK a (by omega)).ext i1 G7
  · refine hnw.congr (by rw [G1, if_neg (by decide)]) G0 ?_ ?_
    · rw [G 103 (by decide) (by decide) (by decide) (by decide), hfr 103 (by decide) (by decide)]
    · rw [G 108 (by decide) (by decide) (by decide) (by decide), hfr 108 (by decide) (by decide)]
  · exact i5.congr (fun a q1 q2 => G a (by omega) (by omega) (by omega) (by omega)) (G 144 (by decide) (by decide) (by decide) (by decide)) (G 145 (by decide) (by decide) (by decide) (by decide)) (G 146 (by decide) (by decide) (by decide) (by decide))
  · exact i6.congr (by rw [G 114 (by decide) (by decide) (by decide) (by decide)]) (by rw [G5, if_neg (by decide)]) (G 115 (by decide) (by decide) (by decide) (by decide)) (G 143 (by decide) (by decide) (by decide) (by decide))
  · intro j
    rw [G 86 (by decide) (by decide) (by decide) (by decide), G 128 (by decide) (by decide) (by decide) (by decide)]
    exact i7 j
  · rw [e126]
    exact i8.congr (fun j _ => by rw [G 103 (by decide) (by decide) (by decide) (by decide)]) (G 104 (by decide) (by decide) (by decide) (by decide)) (G 105 (by decide) (by decide) (by decide) (by decide)) (G 106 (by decide) (by decide) (by decide) (by decide))
  · rw [e126]
    exact i9.congr (fun j _ => by rw [G 108 (by decide) (by decide) (by decide) (by decide)]) (G 109 (by decide) (by decide) (by decide) (by decide))
  · exact i10.congr fun a q1 q2 => G a (by omega) (by omega) (by omega) (by omega)
theorem st_image {t : Int} {M : Mem} (hI : Inv t M) (hL : Lay M) (hF : Fre M) : Step t M (fun M Q => wX11_image 1 M Q) (fun M Q => wX12_image 125 M Q) := by
  intro Q1 hQ1
  obtain ⟨k1, k2, k3, k4⟩ := hI.2.2.1
  simp only [wX11_image]
  rcases k4 with ⟨z1, z2⟩ | ⟨a1, a2, a3, a4, a5, a6⟩
  · refine BR_t z1 ?_
    obtain ⟨w1, w2, w3, -, -, w6⟩ := hI.2.2.2.1
    have hb : Has (nx M) 0 M M [] [] := Has.base (kd := 0) hF.1
    have hn : M 0 0 = (nx M : Int) := by unfold nx; omega
    refine s_al (K := nx M) (n := 0) (n' := 1) hb rfl fun M6 h6 => ini0_s (K := nx M) h6 fun M7 h7 => ⟨(lay_has h7 hL hF rfl lay0).1, LET_i ?_⟩
    have hlt : ∀ a, 0 < a → a < nx M → M7 a = M a := fun a q1 q2 => h7.of a q1 (Or.inl q2)
    have hlk : ∀ a, 0 < a → a < nx M → M7 0 a = M 0 a := fun a q1 q2 => h7.ok a q1 (Or.inl q2)
    have h00 : M7 0 0 = (nx M : Int) + 83 := by rw [h7.hn]; omega
    have c103 : up M7 1 1 ((nx M : Nat) : Int) 103 = M 103 := by rw [up_c (by decide), hlt 103 (by decide) (by omega)]
    have c108 : up M7 1 1 ((nx M : Nat) : Int) 108 = M 108 := by rw [up_c (by decide), hlt 108 (by decide) (by omega)]
    refine im_J (K := nx M) hI ?_ (up_s _ _ _ _) (by omega) ?_ ?_ (fun a q1 q2 => ?_) ?_ hQ1
    · rw [up_kn (by decide), hlt 1 (by decide) (by omega)]
    · rw [up_c (by decide)]
      have := (h7.knd (kd := kO 0) 0 (by decide) (by decide +kernel)).2
      exact this
    · rw [up_c (by decide), h00]
      omega
    · rw [up_c (by omega), hlt a (by omega) (by omega)]
    · refine ⟨?_, ?_, ?_, ?_, ?_, ?_⟩
      · rw [up_c (by decide), h00]
        omega
      · rw [c103, up_c (a := 0) (by decide), h00]
        rcases w2 with w2 | ⟨w2, w2', w2''⟩
        · exact Or.inl w2
        · exact Or.inr ⟨w2, by omega, by rw [hlk _ (by omega) (by omega)]; exact w2''⟩
      · rw [c108, up_c (a := 0) (by decide), h00]
        rcases w3 with w3 | ⟨w3, w3', w3''⟩
        · exact Or.inl w3
        · exact Or.inr ⟨w3, by omega, by rw [hlk _ (by omega) (by omega)]; exact w3''⟩
      · rw [c103, up_s]
        omega
      · rw [c108, up_s]
        omega
      · rw [c103, c108]
        exact w6
  · obtain ⟨K, hK⟩ : ∃ K : Nat, M 1 1 = (K : Int) := ⟨(M 1 1).toNat, by omega⟩
    refine BR_f (by omega) ?_
    rw [hK] at a1 a2 a3
    rw [Int.toNat_natCast] at a3
    exact im_J (K := K) hI rfl hK (by omega) a3 (by omega) (fun _ _ _ => rfl) hI.2.2.2.1 hQ1
