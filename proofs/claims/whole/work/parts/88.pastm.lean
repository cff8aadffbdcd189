/-! PAST: a step -/
/-- what the class leaves -/
def PastC (M M1 : Mem) (na nb va nq : Nat) (ra rb : Nat → Nat) : Prop := (∀ x, x ≠ 2 → ¬ (87 ≤ x ∧ x ≤ 90) → ¬ (53 + 4 * nq ≤ x ∧ x ≤ 56 + 4 * nq) → M1 x = M x) ∧ (∀ j, j ≠ 11 → M1 2 j = M 2 j) ∧ (M1 2 11 = (nq : Int) + 1) ∧ (M1 (53 + 4 * nq) 1 = (na : Int)) ∧ (M1 (53 + 4 * nq) 2 = (va : Int)) ∧ (∀ i, i < na → M1 (54 + 4 * nq) i = (ra i : Int)) ∧ (M1 (55 + 4 * nq) 1 = (nb : Int)) ∧ (M1 (55 + 4 * nq) 2 = (va : Int)) ∧ (∀ i, i < nb → M1 (56 + 4 * nq) i = (rb i : Int))
theorem PastC.c {M M1 : Mem} {na nb va nq : Nat} {ra rb : Nat → Nat} (h : PastC M M1 na nb va nq ra rb) : ∀ x, x ≠ 2 → ¬ (87 ≤ x ∧ x ≤ 90) → ¬ (53 + 4 * nq ≤ x ∧ x ≤ 56 + 4 * nq) → M1 x = M x := h.1
theorem PastC.b {M M1 : Mem} {na nb va nq : Nat} {ra rb : Nat → Nat} (h : PastC M M1 na nb va nq ra rb) : ∀ j, j ≠ 11 → M1 2 j = M 2 j := h.2.1
theorem PastC.b11 {M M1 : Mem} {na nb va nq : Nat} {ra rb : Nat → Nat} (h : PastC M M1 na nb va nq ra rb) : M1 2 11 = (nq : Int) + 1 := h.2.2.1
theorem PastC.a1 {M M1 : Mem} {na nb va nq : Nat} {ra rb : Nat → Nat} (h : PastC M M1 na nb va nq ra rb) : M1 (53 + 4 * nq) 1 = (na : Int) := h.2.2.2.1
theorem PastC.a2 {M M1 : Mem} {na nb va nq : Nat} {ra rb : Nat → Nat} (h : PastC M M1 na nb va nq ra rb) : M1 (53 + 4 * nq) 2 = (va : Int) := h.2.2.2.2.1
theorem PastC.a3 {M M1 : Mem} {na nb va nq : Nat} {ra rb : Nat → Nat} (h : PastC M M1 na nb va nq ra rb) : ∀ i, i < na → M1 (54 + 4 * nq) i = (ra i : Int) := h.2.2.2.2.2.1
theorem PastC.d1 {M M1 : Mem} {na nb va nq : Nat} {ra rb : Nat → Nat} (h : PastC M M1 na nb va nq ra rb) : M1 (55 + 4 * nq) 1 = (nb : Int) := h.2.2.2.2.2.2.1
theorem PastC.d2 {M M1 : Mem} {na nb va nq : Nat} {ra rb : Nat → Nat} (h : PastC M M1 na nb va nq ra rb) : M1 (55 + 4 * nq) 2 = (va : Int) := h.2.2.2.2.2.2.2.1
theorem PastC.d3 {M M1 : Mem} {na nb va nq : Nat} {ra rb : Nat → Nat} (h : PastC M M1 na nb va nq ra rb) : ∀ i, i < nb → M1 (56 + 4 * nq) i = (rb i : Int) := h.2.2.2.2.2.2.2.2
/-- what the reference leaves -/
def PastR (M1 M2 : Mem) (na nb va nq : Nat) (ra rb : Nat → Nat) : Prop := (∀ x, x ≠ 126 → x ≠ 125 → ¬ (132 ≤ x ∧ x ≤ 135) → M2 x = M1 x) ∧ (∀ j, j ≠ 13 → j ≠ 14 → M2 125 j = M1 125 j) ∧ (∀ j, j ≠ 3 → ¬ (1240 + 27 * nq ≤ j ∧ j < 1267 + 27 * nq) → M2 126 j = M1 126 j) ∧ (M2 126 3 = (nq : Int) + 1) ∧ (M2 126 (1240 + 27 * nq) = (va : Int)) ∧ (M2 126 (1241 + 27 * nq) = (na : Int)) ∧ (∀ i, i < na → M2 126 (1242 + 27 * nq + i) = (ra i : Int)) ∧ (M2 126 (1254 + 27 * nq) = (nb : Int)) ∧ (∀ i, i < nb → M2 126 (1255 + 27 * nq + i) = (rb i : Int))
theorem PastR.c {M1 M2 : Mem} {na nb va nq : Nat} {ra rb : Nat → Nat} (h : PastR M1 M2 na nb va nq ra rb) : ∀ x, x ≠ 126 → x ≠ 125 → ¬ (132 ≤ x ∧ x ≤ 135) → M2 x = M1 x := h.1
theorem PastR.e {M1 M2 : Mem} {na nb va nq : Nat} {ra rb : Nat → Nat} (h : PastR M1 M2 na nb va nq ra rb) : ∀ j, j ≠ 13 → j ≠ 14 → M2 125 j = M1 125 j := h.2.1
theorem PastR.s {M1 M2 : Mem} {na nb va nq : Nat} {ra rb : Nat → Nat} (h : PastR M1 M2 na nb va nq ra rb) : ∀ j, j ≠ 3 → ¬ (1240 + 27 * nq ≤ j ∧ j < 1267 + 27 * nq) → M2 126 j = M1 126 j := h.2.2.1
theorem PastR.s3 {M1 M2 : Mem} {na nb va nq : Nat} {ra rb : Nat → Nat} (h : PastR M1 M2 na nb va nq ra rb) : M2 126 3 = (nq : Int) + 1 := h.2.2.2.1
theorem PastR.v {M1 M2 : Mem} {na nb va nq : Nat} {ra rb : Nat → Nat} (h : PastR M1 M2 na nb va nq ra rb) : M2 126 (1240 + 27 * nq) = (va : Int) := h.2.2.2.2.1
theorem PastR.a1 {M1 M2 : Mem} {na nb va nq : Nat} {ra rb : Nat → Nat} (h : PastR M1 M2 na nb va nq ra rb) : M2 126 (1241 + 27 * nq) = (na : Int) := h.2.2.2.2.2.1
theorem PastR.a2 {M1 M2 : Mem} {na nb va nq : Nat} {ra rb : Nat → Nat} (h : PastR M1 M2 na nb va nq ra rb) : ∀ i, i < na → M2 126 (1242 + 27 * nq + i) = (ra i : Int) := h.2.2.2.2.2.2.1
theorem PastR.b1 {M1 M2 : Mem} {na nb va nq : Nat} {ra rb : Nat → Nat} (h : PastR M1 M2 na nb va nq ra rb) : M2 126 (1254 + 27 * nq) = (nb : Int) := h.2.2.2.2.2.2.2.1
theorem PastR.b2 {M1 M2 : Mem} {na nb va nq : Nat} {ra rb : Nat → Nat} (h : PastR M1 M2 na nb va nq ra rb) : ∀ i, i < nb → M2 126 (1255 + 27 * nq + i) = (rb i : Int) := h.2.2.2.2.2.2.2.2
theorem past_inv {t : Int} {M M1 M2 : Mem} {na nb va nq ka kb : Nat} {ra rb : Nat → Nat} (hI : Inv t M) (hC : PastC M M1 na nb va nq ra rb) (hR : PastR M1 M2 na nb va nq ra rb) (hq : M 126 3 = (nq : Int)) (hq8 : nq < 8) (ha : ShRow M ka va na ra) (hb : ShRow M kb va nb rb) : Inv (t + 1) M2 := by
  have g : ∀ x, x ≠ 2 → ¬ (87 ≤ x ∧ x ≤ 90) → ¬ (53 + 4 * nq ≤ x ∧ x ≤ 56 + 4 * nq) → x ≠ 126 → x ≠ 125 → ¬ (132 ≤ x ∧ x ≤ 135) → M2 x = M x := fun x q1 q2 q3 q4 q5 q6 => by rw [hR.c x q4 q5 q6, hC.c x q1 q2 q3]
  have e126 : M1 126 = M 126 := hC.c 126 (by decide) (by omega) (by omega)
  have S : ∀ j, j ≠ 3 → ¬ (1240 + 27 * nq ≤ j ∧ j < 1267 + 27 * nq) → M2 126 j = M 126 j := fun j q1 q2 => by rw [hR.s j q1 q2, e126]
  have B : ∀ j, j ≠ 11 → M2 2 j = M 2 j := fun j q => by rw [hR.c 2 (by decide) (by decide) (by decide), hC.b j q]
  have cp : ∀ x, 53 ≤ x → x ≤ 84 → M2 x = M1 x := fun x q1 q2 => hR.c x (by omega) (by omega) (by omega)
  obtain ⟨c0, c1, c2, c3, c4, c5⟩ := hI.1.1
  obtain ⟨b0, b1, b2, b3, b4, b5⟩ := hI.2.1.1
  have D : ∀ j, j ≠ 13 → j ≠ 14 → M2 125 j = M 125 j := fun j q1 q2 => by rw [hR.e j q1 q2, hC.c 125 (by decide) (by omega) (by omega)]
  have z0 : vw (M 126) 0 = M 126 0 := vw_at (by omega)
  obtain ⟨_, na12, hva, _, hpa, hia⟩ := ha
  obtain ⟨_, nb12, hvb, _, hpb, hib⟩ := hb
  have k0 : M2 126 0 = M 126 0 := S 0 (by decide) (by omega)
  have k1 : M2 126 1 = M 126 1 := S 1 (by decide) (by omega)
  have k2 : M2 126 2 = M 126 2 := S 2 (by decide) (by omega)
  have k4 : M2 126 4 = M 126 4 := S 4 (by decide) (by omega)
  have k5 : M2 126 5 = M 126 5 := S 5 (by decide) (by omega)
  have hs3 := hR.s3
  refine Inv.mono (hI.book2 (fun x hx hs h3 h8 h126 => ?_) (D 2 (by decide) (by decide)) (D 33 (by decide) (by decide)) ?_ ?_ ⟨by omega, by omega, by omega, by omega, by omega, by omega⟩ ?_ (by omega) (fun i _ _ => S i (by omega) (by omega)) (g 4 (by decide) (by omega) (by omega) (by decide) (by decide) (by omega)) ?_ ?_ ?_ ?_ (hI.tap (g 7 (by decide) (by omega) (by omega) (by decide) (by decide) (by omega)) k4 (fun i _ _ => S i (by omega) (by omega))) (hI.wai (g 10 (by decide) (by omega) (by omega) (by decide) (by decide) (by omega)) k5 (fun i _ _ => S i (by omega) (by omega))) ?_ ?_) (by omega)
  · unfold sc at hs
    exact g x (by omega) (by omega) (by omega) h126 (by omega) (by omega)
  · rw [g 103 (by decide) (by omega) (by omega) (by decide) (by decide) (by omega)]
  · rw [g 108 (by decide) (by omega) (by omega) (by decide) (by decide) (by omega)]
  · unfold BkCnt
    rw [B 1 (by decide), B 4 (by decide), B 6 (by decide), B 8 (by decide), B 13 (by decide), k0, k1, k2, k4, k5, hs3, hR.c 2 (by decide) (by decide) (by decide)]
    exact ⟨b0, b1, b2, hC.b11, b4, b5⟩
  · exact fun p hp => Or.inl ⟨by omega, g _ (by omega) (by omega) (by omega) (by omega) (by omega) (by omega), fun i _ _ => S i (by omega) (by omega)⟩
  · exact fun p hp => Or.inl ⟨by omega, g _ (by omega) (by omega) (by omega) (by omega) (by omega) (by omega), g _ (by omega) (by omega) (by omega) (by omega) (by omega) (by omega), fun i _ _ => S i (by omega) (by omega), fun i _ _ => S i (by omega) (by omega)⟩
  · exact fun p hp => Or.inl ⟨by omega, g _ (by omega) (by omega) (by omega) (by omega) (by omega) (by omega), fun i _ _ => S i (by omega) (by omega)⟩
  · intro p hp
    by_cases hpq : p = nq
    · subst hpq
      refine Or.inr ⟨⟨?_, ?_, ?_, ⟨fun i hi => ?_, fun i j hij hj => ?_⟩, ⟨fun i hi => ?_, fun i j hij hj => ?_⟩⟩, ?_⟩
      · rw [hR.v]
        omega
      · rw [hR.v, hR.a1]
        omega
      · rw [hR.v, hR.b1]
        omega
      · rw [hR.a1, Int.toNat_natCast] at hi
        have := hpa i hi
        show 0 ≤ M2 126 (1242 + 27 * p + i) ∧ M2 126 (1242 + 27 * p + i) < M2 126 0
        rw [hR.a2 i hi, k0]
        omega
      · rw [hR.a1, Int.toNat_natCast] at hj
        show M2 126 (1242 + 27 * p + i) ≠ M2 126 (1242 + 27 * p + j)
        rw [hR.a2 i (by omega), hR.a2 j hj]
        intro h
        have := hia i j (by omega) hj (by omega)
        omega
      · rw [hR.b1, Int.toNat_natCast] at hi
        have := hpb i hi
        show 0 ≤ M2 126 (1255 + 27 * p + i) ∧ M2 126 (1255 + 27 * p + i) < M2 126 0
        rw [hR.b2 i hi, k0]
        omega
      · rw [hR.b1, Int.toNat_natCast] at hj
        show M2 126 (1255 + 27 * p + i) ≠ M2 126 (1255 + 27 * p + j)
        rw [hR.b2 i (by omega), hR.b2 j hj]
        intro h
        have := hib i j (by omega) hj (by omega)
        omega
      · unfold BkPast
        rw [show 2 + 51 + 4 * p = 53 + 4 * p by omega, show 2 + 52 + 4 * p = 54 + 4 * p by omega, show 2 + 53 + 4 * p = 55 + 4 * p by omega, show 2 + 54 + 4 * p = 56 + 4 * p by omega, cp (53 + 4 * p) (by omega) (by omega), cp (54 + 4 * p) (by omega) (by omega), cp (55 + 4 * p) (by omega) (by omega), cp (56 + 4 * p) (by omega) (by omega), hR.v, hR.a1, hR.b1, hC.a1, hC.a2, hC.d1, hC.d2]
        exact ⟨rfl, rfl, fun i hi => by rw [hC.a3 i (by omega), hR.a2 i (by omega)], rfl, rfl, fun i hi => by rw [hC.d3 i (by omega), hR.b2 i (by omega)]⟩
    · exact Or.inl ⟨by omega, fun x _ _ => g x (by omega) (by omega) (by omega) (by omega) (by omega) (by omega), fun i _ _ => S i (by omega) (by omega)⟩
  · exact hI.seC (fun i _ => S i (by omega) (by omega)) (g 103 (by decide) (by omega) (by omega) (by decide) (by decide) (by omega)) (g 104 (by decide) (by omega) (by omega) (by decide) (by decide) (by omega)) (g 105 (by decide) (by omega) (by omega) (by decide) (by decide) (by omega)) (g 106 (by decide) (by omega) (by omega) (by decide) (by decide) (by omega))
  · exact hI.ssC (fun i _ => S i (by omega) (by omega)) (g 108 (by decide) (by omega) (by omega) (by decide) (by decide) (by omega)) (g 109 (by decide) (by omega) (by omega) (by decide) (by decide) (by omega))
theorem mf_past {t : Int} {M M1 : Mem} {na nb va nq ka kb : Nat} {ra rb : Nat → Nat} {Q2 : Int → Mem → Prop} (hI : Inv t M) (hka : ka < 4) (hkb : kb < 4) (hta : M 144 ka ≠ 0) (htb : M 144 kb ≠ 0) (hC : PastC M M1 na nb va nq ra rb) (hq : M 126 3 = (nq : Int)) (hq8 : nq < 8) (ha : ShRow M ka va na ra) (hb : ShRow M kb va nb rb) (hQ : ∀ M2, PastR M1 M2 na nb va nq ra rb → Q2 ((nq : Int) + 1) M2) : wX12_past 125 (ka : Int) (kb : Int) (va : Int) M1 Q2 := by
  have e126 : M1 126 = M 126 := hC.c 126 (by decide) (by omega) (by omega)
  have e : ∀ x, 117 ≤ x → M1 x = M x := fun x h => hC.c x (by omega) (by omega) (by omega)
  have ev : bm (va : Int) = (va : Int) := bm_nat (by have := ha.2.1; have := ha.2.2.1; omega)
  have hS := hI.2.2.2.2.1
  have oka := ha.ok hI
  have okb := hb.ok hI
  refine pm_pre hka hkb (by rw [e 144 (by decide)]; exact (hS ka hka).2.2.1) (by rw [e 144 (by decide)]; exact (hS kb hkb).2.2.1) (fun h => absurd h (by rw [e 144 (by decide)]; exact fun h => h.elim hta htb)) fun _ _ => ?_
  refine mf_tk hI hka ev (by rw [e126]) (hI.mb.congr e126) (e 144 (by decide)) (e 145 (by decide)) (e 146 (by decide)) (fun a h _ => e a h) hta (fun h => absurd oka h) fun v n r hv hs M3 f3 _ _ => BR_f (by rw [bm0]; omega) ?_
  have e3 : ∀ x, 117 ≤ x → x ≠ 125 → ¬ (132 ≤ x ∧ x ≤ 135) → M3 x = M x := fun x h q1 q2 => by rw [f3.1 x q1 (by omega) (by omega) (by omega) (by omega), e x h]
  refine mf_tk hI hkb ev (by rw [e3 126 (by decide) (by decide) (by decide)]) (hI.mb.congr (e3 126 (by decide) (by decide) (by decide))) (e3 144 (by decide) (by decide) (by decide)) (e3 145 (by decide) (by decide) (by decide)) (e3 146 (by decide) (by decide) (by decide)) (fun a h _ => e3 a h (by omega) (by omega)) htb (fun h => absurd okb h) fun v' n' r' hv' hs' M4 f4 hr4 _ => ?_
  have e4 : ∀ x, 117 ≤ x → x ≠ 125 → ¬ (132 ≤ x ∧ x ≤ 135) → M4 x = M x := fun x h q1 q2 => by rw [f4.1 x q1 (by omega) (by omega) (by omega) (by omega), e3 x h q1 q2]
  have en : n' = nb := by
    have h1 := hs'.1
    rw [hb.1] at h1
    omega
  have er : ∀ i, i < nb → r' i = rb i := fun i hi => by
    have h1 := hs'.2.2.2.1 i (by omega)
    rw [hb.2.2.2.1 i hi] at h1
    omega
  have evv : v' = va := by omega
  subst en evv
  have nb12 := hb.2.1
  have na12 := ha.2.1
  unfold ptl2
  rw [rd_at (i := 3) (n := 3) rfl (by decide), show (125 : Nat) + 1 = 126 from rfl, e4 126 (by decide) (by decide) (by decide), hq, bm_nat (n := nq) (by omega)]
  refine BR_t (by rw [bm0]; omega) (BR_f (by omega) (LET_i ⟨inb_of (n := 1240 + 27 * nq) (by omega) (by omega) (by decide), ?_⟩))
  rw [wr_up (i := 1240 + 27 * (nq : Int)) (n := 1240 + 27 * nq) (by omega) (by omega)]
  refine LET_i (mf_keep (c := 1254 + 27 * nq) (n := n') (by omega) (by omega) nb12 (by rw [up_c (by decide)]; exact hr4.1) fun M5 g1 g2 g3 g4 => ?_)
  have S5 : ∀ j, ¬ (j = 1240 + 27 * nq) → ¬ (1254 + 27 * nq ≤ j ∧ j ≤ 1254 + 27 * nq + n') → M5 126 j = M 126 j := fun j q1 q2 => by rw [g2 j (by omega), up_kn q1, e4 126 (by decide) (by decide) (by decide)]
  have e5 : ∀ x, 117 ≤ x → x ≠ 125 → x ≠ 126 → ¬ (132 ≤ x ∧ x ≤ 135) → M5 x = M x := fun x h q1 q0 q2 => by rw [g1 x q0, up_c q0, e4 x h q1 q2]
  refine mf_tk hI hka ev (S5 0 (by omega) (by omega)) (fun j hj => by rw [S5 j (by omega) (by omega)]; exact hI.mb j hj) (e5 144 (by decide) (by decide) (by decide) (by decide)) (e5 145 (by decide) (by decide) (by decide) (by decide)) (e5 146 (by decide) (by decide) (by decide) (by decide)) (fun a h _ => e5 a h (by omega) (by omega) (by omega)) hta (fun h => absurd oka h) fun v6 n6 r6 hv6 hs6 M6 f6 hr6 _ => ?_
  have en6 : n6 = na := by
    have h1 := hs6.1
    rw [ha.1] at h1
    omega
  have er6 : ∀ i, i < na → r6 i = ra i := fun i hi => by
    have h1 := hs6.2.2.2.1 i (by omega)
    rw [ha.2.2.2.1 i hi] at h1
    omega
  subst en6
  have e6 : M6 126 = M5 126 := f6.1 126 (by decide) (by decide) (by decide) (by decide) (by decide)
  refine mf_keep (c := 1241 + 27 * nq) (n := n6) (by omega) (by omega) na12 hr6.1 fun M7 k1 k2 k3 k4 => ?_
  have h73 : M7 126 3 = (nq : Int) := by rw [k2 3 (by omega), e6, S5 3 (by omega) (by omega), hq]
  rw [rd_at (i := 3) (n := 3) rfl (by decide), h73, wr_up (i := 3) (n := 3) rfl (by decide)]
  refine LET_i ?_
  rw [rd_at (i := 3) (n := 3) rfl (by decide), up_s]
  have S7 : ∀ j, j ≠ 3 → ¬ (1241 + 27 * nq ≤ j ∧ j ≤ 1241 + 27 * nq + n6) → up M7 126 3 ((nq : Int) + 1) 126 j = M5 126 j := fun j q1 q2 => by rw [up_kn q1, k2 j (by omega), e6]
  refine hQ _ ⟨fun x q1 q2 q3 => ?_, fun j q1 q2 => ?_, fun j q1 q2 => ?_, (by rw [up_s]), ?_, ?_, fun i hi => ?_, ?_, fun i hi => ?_⟩
  · rw [up_c q1, k1 x q1, f6.1 x q2 (by omega) (by omega) (by omega) (by omega), g1 x q1, up_c q1, f4.1 x q2 (by omega) (by omega) (by omega) (by omega), f3.1 x q2 (by omega) (by omega) (by omega) (by omega)]
  · rw [up_c (by decide), k1 125 (by decide), f6.2 j q1 q2, g1 125 (by decide), up_c (by decide), f4.2 j q1 q2, f3.2 j q1 q2]
  · rw [S7 j q1 (by omega), S5 j (by omega) (by omega), e126]
  · rw [S7 _ (by omega) (by omega), g2 _ (by omega), up_s]
  · rw [up_kn (by omega), k3]
  · rw [up_kn (by omega), show 1242 + 27 * nq + i = 1241 + 27 * nq + 1 + i by omega, k4 i hi, hr6.2.2 i hi, er6 i hi]
  · rw [S7 _ (by omega) (by omega), g3]
  · rw [S7 _ (by omega) (by omega), show 1255 + 27 * nq + i = 1254 + 27 * nq + 1 + i by omega, g4 i hi, up_c (by decide), hr4.2.2 i hi, er i hi]
