/-! FEWEST: what the class makes -/
theorem Inv.mks {t : Int} {M : Mem} (hI : Inv t M) (h0 : M 108 7 = 0) : Inv t (up (al M (kA 1 10240)) 108 7 ((nx M : Nat) : Int)) ∧ 148 ≤ nx M := by
  have hnw := hI.2.2.2.1
  have h148 : 148 ≤ M 0 0 := hnw.1
  have hnx : (nx M : Int) = M 0 0 := by unfold nx; omega
  generalize hM1 : up (al M (kA 1 10240)) 108 7 ((nx M : Nat) : Int) = M1
  have E : ∀ a, a ≠ 0 → a ≠ nx M → a ≠ 108 → M1 a = M a := fun a q1 q2 q3 => by
    subst hM1
    rw [up_c q3]
    funext j
    unfold al
    rw [if_neg q1, if_neg q2]
  have E3 : ∀ j, j ≠ 7 → M1 108 j = M 108 j := fun j hj => by
    subst hM1
    rw [up_kn hj]
    unfold al
    rw [if_neg (by decide), if_neg (by omega)]
  have E7 : M1 108 7 = (nx M : Int) := by subst hM1; rw [up_s]
  have Z0 : M1 0 0 = M 0 0 + 1 := by
    subst hM1
    rw [up_c (by decide)]
    rfl
  have Zn : M1 0 (nx M) = kA 1 10240 := by
    subst hM1
    rw [up_c (by decide)]
    unfold al
    rw [if_pos rfl, if_neg (by omega), if_pos rfl]
  have Zj : ∀ j, j ≠ 0 → j ≠ nx M → M1 0 j = M 0 j := fun j q1 q2 => by
    subst hM1
    rw [up_c (by decide)]
    unfold al
    rw [if_pos rfl, if_neg q1, if_neg q2]
  clear hM1
  refine ⟨?_, by omega⟩
  obtain ⟨i1, i2, ⟨p1, p2, p3, p4⟩, ⟨w1, w2, w3, w4, w5, w6⟩, i5, i6, i7, i8, i9, i10⟩ := hI
  have e126 : M1 126 = M 126 := E 126 (by decide) (by omega) (by decide)
  refine ⟨by rw [e126]; exact i1, ?_, ⟨?_, ?_, ?_, ?_⟩, ⟨?_, ?_, ?_, ?_, ?_, ?_⟩, ?_, ?_, ?_, ?_, ?_, ?_⟩
  · rw [e126]
    exact i2.congr i1.1 (fun a q1 q2 => E a (by omega) (by omega) (by omega))
  · rw [E 1 (by decide) (by omega) (by decide), E 125 (by decide) (by omega) (by decide)]
    exact p1
  · rw [E 125 (by decide) (by omega) (by decide)]
    exact p2
  · rw [E 125 (by decide) (by omega) (by decide)]
    exact p3
  · rw [E 1 (by decide) (by omega) (by decide), E 125 (by decide) (by omega) (by decide), E 127 (by decide) (by omega) (by decide)]
    rcases p4 with p4 | ⟨a1, a2, a3, a4, a5, a6⟩
    · exact Or.inl p4
    · refine Or.inr ⟨a1, by omega, by rw [Zj _ (by omega) (by omega)]; exact a3, a4, a5, a6.congr a5.1 fun a r1 r2 => E a (by omega) (by omega) (by omega)⟩
  · omega
  · rw [E 103 (by decide) (by omega) (by decide)]
    rcases w2 with w2 | ⟨b1, b2, b3⟩
    · exact Or.inl w2
    · exact Or.inr ⟨b1, by omega, by rw [Zj _ (by omega) (by omega)]; exact b3⟩
  · right
    rw [E7]
    exact ⟨by omega, by omega, by rw [Int.toNat_natCast]; exact Zn⟩
  · rw [E 103 (by decide) (by omega) (by decide), E 1 (by decide) (by omega) (by decide)]
    exact w4
  · rw [E7, E 1 (by decide) (by omega) (by decide)]
    rcases p4 with p4 | p4
    · exact Or.inl p4.1
    · right
      right
      have := p4.2.1
      omega
  · rw [E7, E 103 (by decide) (by omega) (by decide)]
    rcases w2 with w2 | w2
    · exact Or.inl w2
    · right
      have := w2.2.1
      omega
  · exact i5.congr (fun a q1 q2 => E a (by omega) (by omega) (by omega)) (E 144 (by decide) (by omega) (by decide)) (E 145 (by decide) (by omega) (by decide)) (E 146 (by decide) (by omega) (by decide))
  · exact i6.congr (by rw [E 114 (by decide) (by omega) (by decide)]) (by rw [E 125 (by decide) (by omega) (by decide)]) (E 115 (by decide) (by omega) (by decide)) (E 143 (by decide) (by omega) (by decide))
  · intro j
    rw [E 86 (by decide) (by omega) (by decide), E 128 (by decide) (by omega) (by decide)]
    exact i7 j
  · rw [e126]
    exact i8.congr (fun j _ => by rw [E 103 (by decide) (by omega) (by decide)]) (E 104 (by decide) (by omega) (by decide)) (E 105 (by decide) (by omega) (by decide)) (E 106 (by decide) (by omega) (by decide))
  · rw [e126]
    exact i9.congr E3 (E 109 (by decide) (by omega) (by decide))
  · exact i10.congr (fun a q1 q2 => E a (by omega) (by omega) (by omega))
/-- the class's order is kept -/
theorem Inv.s2 {t : Int} {M M' : Mem} (hI : Inv t M) (h' : ∀ a : Nat, a ≠ 108 → a ≠ 109 → a ≠ 110 → (a < 148 ∨ (a : Int) ≠ M 108 7) → M' a = M a) (h7 : M' 108 7 = M 108 7) (hss : SsOk (vw (M 126)) M') : Inv t M' := by
  obtain ⟨i1, i2, i3, i4, i5, i6, i7, i8, i9, i10⟩ := hI
  have h : ∀ a : Nat, a < 148 → a ≠ 108 → a ≠ 109 → a ≠ 110 → M' a = M a := fun a q1 q2 q3 q4 => h' a q2 q3 q4 (Or.inl q1)
  have e126 : M' 126 = M 126 := h 126 (by omega) (by omega) (by omega) (by omega)
  have hd := i4.2.2.2.2.1
  refine ⟨by rw [e126]; exact i1, ?_, ?_, ?_, ?_, ?_, ?_, ?_, by rw [e126]; exact hss, ?_⟩
  · rw [e126]
    exact i2.congr i1.1 (fun a q1 q2 => h a (by omega) (by omega) (by omega) (by omega))
  · obtain ⟨p1, p2, p3, p4⟩ := i3
    have e1 : M' 1 = M 1 := h 1 (by omega) (by omega) (by omega) (by omega)
    have e125 : M' 125 = M 125 := h 125 (by omega) (by omega) (by omega) (by omega)
    refine ⟨by rw [e1, e125]; exact p1, by rw [e125]; exact p2, by rw [e125]; exact p3, ?_⟩
    rw [e1, e125, h 127 (by omega) (by omega) (by omega) (by omega), h 0 (by omega) (by omega) (by omega) (by omega)]
    rcases p4 with p4 | ⟨a1, a2, a3, a4, a5, a6⟩
    · exact Or.inl p4
    · exact Or.inr ⟨a1, a2, a3, a4, a5, a6.congr a5.1 fun a r1 r2 => h' a (by omega) (by omega) (by omega) (Or.inr (by omega))⟩
  · exact i4.congr (by rw [h 1 (by omega) (by omega) (by omega) (by omega)]) (h 0 (by omega) (by omega) (by omega) (by omega)) (by rw [h 103 (by omega) (by omega) (by omega) (by omega)]) h7
  · exact i5.congr (fun a q1 q2 => h a (by omega) (by omega) (by omega) (by omega)) (h 144 (by omega) (by omega) (by omega) (by omega)) (h 145 (by omega) (by omega) (by omega) (by omega)) (h 146 (by omega) (by omega) (by omega) (by omega))
  · exact i6.congr (by rw [h 114 (by omega) (by omega) (by omega) (by omega)]) (by rw [h 125 (by omega) (by omega) (by omega) (by omega)]) (h 115 (by omega) (by omega) (by omega) (by omega)) (h 143 (by omega) (by omega) (by omega) (by omega))
  · intro j
    rw [h 86 (by omega) (by omega) (by omega) (by omega), h 128 (by omega) (by omega) (by omega) (by omega)]
    exact i7 j
  · rw [e126]
    exact i8.congr (fun j _ => by rw [h 103 (by omega) (by omega) (by omega) (by omega)]) (h 104 (by omega) (by omega) (by omega) (by omega)) (h 105 (by omega) (by omega) (by omega) (by omega)) (h 106 (by omega) (by omega) (by omega) (by omega))
  · exact i10.congr (fun a q1 q2 => h a (by omega) (by omega) (by omega) (by omega))
