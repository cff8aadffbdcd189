/-! SETS: faults on both sides; best, most, equals -/
def inS (z : Fl) (a : Int) : Prop := 0 ≤ a ∧ a < ((2 ^ (z 0).toNat : Nat) : Int)
theorem ush_amt : ∀ n : Nat, n < 13 → (Int32.ofInt (n : Int)).toUInt32 &&& Int32.toUInt32 31 = UInt32.ofNat n := by decide +kernel
theorem ush_0 {a : Int} {n : Nat} (ea : bm a = a) (hn : n < 13) : bm (iUshr a (n : Int)) = 0 ↔ 0 ≤ a ∧ a < ((2 ^ n : Nat) : Int) := by
  have hb := bmb a
  rw [ea] at hb
  have e1 : bm (iUshr a (n : Int)) = iUshr a (n : Int) := by
    unfold bm iUshr
    rw [Int32.ofInt_toInt]
  rw [e1]
  unfold iUshr
  rw [ush_amt n hn]
  generalize hu : (Int32.ofInt a).toUInt32 = u
  have hun : u.toNat = (a % 4294967296).toNat := by
    rw [← hu]
    show (BitVec.ofInt 32 a).toNat = _
    rw [BitVec.toNat_ofInt]
    rfl
  have hs : (u >>> UInt32.ofNat n).toNat = u.toNat / 2 ^ n := by
    rw [UInt32.toNat_shiftRight, Nat.shiftRight_eq_div_pow]
    have : (UInt32.ofNat n).toNat % 32 = n := by
      rw [UInt32.toNat_ofNat']
      omega
    rw [this]
  have hz : (u >>> UInt32.ofNat n).toInt32.toInt = 0 ↔ (u >>> UInt32.ofNat n).toNat = 0 := by
    generalize u >>> UInt32.ofNat n = w
    constructor
    · intro h
      have h2 : w.toInt32 = 0 := Int32.toInt_inj.mp h
      have h3 : w = 0 := by
        have h4 := congrArg Int32.toUInt32 h2
        have h5 : w = (0 : Int32).toUInt32 := by simpa using h4
        exact h5.trans (by decide)
      rw [h3]
      rfl
    · intro h
      have h3 : w = 0 := UInt32.toNat_inj.mp h
      rw [h3]
      rfl
  rw [hz, hs, hun]
  have hp : 0 < 2 ^ n := Nat.two_pow_pos n
  have hp2 : 2 ^ n ≤ 4096 := Nat.le_trans (p2le (m := 12) (by omega)) (by decide)
  rw [Nat.div_eq_zero_iff]
  omega
theorem lf_setFault {z : Fl} {M : Mem} {a : Int} {most : Nat} {x2 : Int} {Q : Int → Mem → Prop} (hz : ZOk z) (hcb : CB z M) (ea : bm a = a) (h2 : x2 = (most : Int)) (hm : most < 13) (h1 : ¬ inS z a → Q 1 M) (h5 : ∀ k : Nat, a = (k : Int) → inS z a → ¬ (1 ≤ pop k ∧ pop k ≤ most) → Q 5 M) (h0 : ∀ k : Nat, a = (k : Int) → setIn z k most → Q 0 M) : wX11_setFault 1 a x2 M Q := by
  subst h2
  have hz0 := hz.1
  obtain ⟨np, hnp⟩ : ∃ np : Nat, z 0 = (np : Int) := ⟨(z 0).toNat, by omega⟩
  unfold wX11_setFault
  rw [show M (1 + 1) 1 = (np : Int) by rw [← hnp]; exact hcb.1, ush_0 ea (by omega), bm_nat (n := most) (by omega)]
  unfold inS at h1 h5
  rw [hnp, Int.toNat_natCast] at h1 h5
  refine BR_i (fun h => ?_) (fun h => h1 h)
  obtain ⟨k, rfl⟩ : ∃ k : Nat, a = (k : Int) := ⟨a.toNat, by omega⟩
  have hk12 : k < 2 ^ 12 := Nat.lt_of_lt_of_le (by omega) (p2le (n := np) (by omega))
  have hpk := pop_le k
  rw [ea]
  refine BR_i (fun hk => h5 k rfl h fun q => ?_) (fun hk => ?_)
  · obtain rfl : k = 0 := by omega
    have : pop 0 = 0 := by decide +kernel
    omega
  · rw [lf_bitCount rfl hk12, bm_nat (n := pop k) (by omega)]
    have hp1 : 1 ≤ pop k := by
      rcases Nat.eq_zero_or_pos (pop k) with h0 | h0
      · have hl : (mems k 12).length = 0 := by rw [mems_len]; exact h0
        have hl' := List.length_eq_zero_iff.mp hl
        have : k = 0 := Nat.eq_of_testBit_eq fun i => by
          rw [Nat.zero_testBit]
          cases hb : k.testBit i
          · rfl
          · have hi : i < 12 := by
              rcases Nat.lt_or_ge i 12 with h1 | h1
              · exact h1
              · rw [tb_big hk12 h1] at hb
                cases hb
            have := mem_mems.mpr ⟨hi, hb⟩
            rw [hl'] at this
            cases this
        omega
      · exact h0
    refine BR_i (fun h' => h0 k rfl ⟨by rw [hnp, Int.toNat_natCast]; omega, hp1, by omega⟩) (fun h' => h5 k rfl h fun q => by omega)
theorem lf_searchFault {z : Fl} {M : Mem} {a o : Int} {Q : Int → Mem → Prop} (hz : ZOk z) (hcb : CB z M) (hw : WzOk M) (hse : SeOk z M) (ea : bm a = a) (h1 : (¬ inS z a ∨ bm o = 0) → Q 1 M) (h5 : ∀ k : Nat, a = (k : Int) → inS z a → bm o ≠ 0 → ¬ (1 ≤ pop k ∧ pop k ≤ 6) → Q 5 M)
    (h0 : ∀ k : Nat, a = (k : Int) → bm o ≠ 0 → setIn z k 6 → ∀ M', Fnd M M' → WzOk M' → M' 103 3 ≠ 0 → isB (M' 103 3) → M' 103 4 = (k : Int) → SrHas z k M' → Q 0 M') : wX11_searchFault 1 a o M Q := by
  unfold wX11_searchFault wX11_searchFault_J15
  refine BR_i (fun h => BR_f q1 (h1 (Or.inr h))) (fun h => lf_setFault hz hcb ea (most := 6) rfl (by decide) (fun hn => BR_f q1 (h1 (Or.inl hn))) (fun k hk hi hs => BR_f (by decide +kernel) (h5 k hk hi h hs)) (fun k hk hs => BR_t bm0 ?_))
  subst hk
  exact lf_find hz hcb hw hse hs (h0 k rfl h hs)
theorem shl_13 : ∀ n, n < 13 → iShl 1 (n : Nat) = ((2 ^ n : Nat) : Int) := by decide +kernel
theorem mf_isSet {z : Fl} {M : Mem} {a : Int} {Q : Int → Mem → Prop} (hz : ZOk z) (h0 : M 126 0 = z 0) (ea : bm a = a) (h1 : inS z a → Q 1 M) (hn : ¬ inS z a → Q 0 M) : wX12_isSet 125 a M Q := by
  have hz0 := hz.1
  obtain ⟨np, hnp⟩ : ∃ np : Nat, z 0 = (np : Int) := ⟨(z 0).toNat, by omega⟩
  have hp : 0 < 2 ^ np := Nat.two_pow_pos np
  have hp2 : 2 ^ np ≤ 4096 := Nat.le_trans (p2le (m := 12) (by omega)) (by decide)
  unfold inS at h1 hn
  rw [hnp, Int.toNat_natCast] at h1 hn
  unfold wX12_isSet
  rw [rd_at (i := 0) (n := 0) rfl (by decide), show (125 : Nat) + 1 = 126 from rfl, h0, hnp, shl_13 np (by omega)]
  refine mi_i (fun h => ⟨isB1, h1 ?_⟩) (fun h => ⟨isB0, hn fun h' => h ?_⟩)
  · rw [bm0, ea, bm_id (z := ((2 ^ np : Nat) : Int) - 1) (by omega) (by omega)] at h
    omega
  · rw [bm0, ea, bm_id (z := ((2 ^ np : Nat) : Int) - 1) (by omega) (by omega)]
    omega
theorem inS.lt {z : Fl} {k : Nat} (hz : ZOk z) (h : inS z (k : Int)) : k < 2 ^ 12 ∧ k < 2 ^ (z 0).toNat := by
  have hz0 := hz.1
  have h2 : k < 2 ^ (z 0).toNat := by
    have := h.2
    omega
  exact ⟨Nat.lt_of_lt_of_le h2 (p2le (by omega)), h2⟩
theorem mf_isSmall {M : Mem} {k most : Nat} {x2 : Int} {Q : Int → Mem → Prop} (hk : k < 2 ^ 12) (h2 : x2 = (most : Int)) (hm : most < 13) (h1 : 1 ≤ pop k ∧ pop k ≤ most → Q 1 M) (h0 : ¬ (1 ≤ pop k ∧ pop k ≤ most) → Q 0 M) : wX12_isSmall (k : Int) x2 M Q := by
  subst h2
  have hpk := pop_le k
  unfold wX12_isSmall
  refine lf_ones rfl hk (mi_i (fun h => ⟨isB1, h1 ?_⟩) (fun h => ⟨isB0, h0 fun h' => h ?_⟩))
  · rw [bm1, bm_nat (n := pop k) (by omega), bm_nat (n := most) (by omega)] at h
    omega
  · rw [bm1, bm_nat (n := pop k) (by omega), bm_nat (n := most) (by omega)]
    omega
theorem Fnd.inv {t : Int} {M M' : Mem} {k : Nat} (hI : Inv t M) (f : Fnd M M') (hw : WzOk M') (h3 : isB (M' 103 3)) (h4 : M' 103 4 = (k : Int)) (hk : setIn (vw (M 126)) k 6) (hs : SrHas (vw (M 126)) k M') : Inv t M' :=
  hI.se (fun a q1 q2 q3 q4 q5 q6 => f.1 a (by omega)) f.2 (by rw [f.1 125 (by omega)]) (by rw [f.1 125 (by omega)]) hw ⟨h3, fun _ => ⟨k, h4, hk, hs⟩⟩
/-- the errors of a call that searches a set -/
theorem set_both {Rl : Int → Int → Prop} {g : Int → Int} {t : Int} {M : Mem} {a o : Int} {Q1 QC : Int → Mem → Prop} {B : Mem → (Int → Mem → Prop) → Prop} (hI : Inv t M) (ea : bm a = a) (hRl : ∀ r r2, bm r = bm r2 → Rl (g r) (g r2))
    (hQ1 : ∀ r M1, (∀ Q2 : Int → Mem → Prop, (∀ r2 M2, Rl r r2 → Inv (t + 1) M2 → Q2 r2 M2) → B M1 Q2) → Q1 r M1)
    (hCe : ∀ r M', (r = 1 ∨ r = 5) → wX11_error 1 r M' (fun r M => Q1 (g r) M) → QC r M')
    (hB1 : (¬ inS (vw (M 126)) a ∨ bm o = 0) → ∀ M1 Q2, M1 126 = M 126 → wX12_error 125 1 M1 (fun r M => Q2 (g r) M) → B M1 Q2)
    (hB5 : ∀ k : Nat, a = (k : Int) → inS (vw (M 126)) a → bm o ≠ 0 → ¬ (1 ≤ pop k ∧ pop k ≤ 6) → ∀ M1 Q2, M1 126 = M 126 → wX12_error 125 5 M1 (fun r M => Q2 (g r) M) → B M1 Q2)
    (h0 : ∀ k : Nat, a = (k : Int) → bm o ≠ 0 → setIn (vw (M 126)) k 6 → ∀ M', M' 126 = M 126 → Inv t M' → SrHas (vw (M 126)) k M' → QC 0 M') : wX11_searchFault 1 a o M QC := by
  refine lf_searchFault hI.zok hI.cb hI.wz hI.2.2.2.2.2.2.2.1 ea (fun h => ?_) (fun k hk hi ho hs => ?_) (fun k hk ho hs M' f hw h3 h3b h4 hsr => h0 k hk ho hs M' (f.1 126 (by omega)) (f.inv hI hw h3b h4 hs hsr) hsr)
  · refine hCe 1 M (Or.inl rfl) (lf_error11 (k := 1) rfl (by decide) (by decide) (hQ1 _ _ fun Q2 hQ2 => hB1 h _ _ (up_c (by decide)) ?_))
    exact st_err hI (k := 1) rfl (by decide) fun r2 M2 hr hi => hQ2 _ _ (hRl _ _ hr) hi
  · refine hCe 5 M (Or.inr rfl) (lf_error11 (k := 5) rfl (by decide) (by decide) (hQ1 _ _ fun Q2 hQ2 => hB5 k hk hi ho hs _ _ (up_c (by decide)) ?_))
    exact st_err hI (k := 5) rfl (by decide) fun r2 M2 hr hi => hQ2 _ _ (hRl _ _ hr) hi
theorem inS_k {z : Fl} {k : Nat} (h : setIn z k 6) : inS z (k : Int) := ⟨by omega, by have := h.1; omega⟩
theorem mb_of {M M1 : Mem} (h : M1 126 = M 126) : MB (vw (M 126)) M1 := fun j hj => by rw [h, vw_at hj]
theorem e0_of {M M1 : Mem} (h : M1 126 = M 126) : M1 126 0 = vw (M 126) 0 := by rw [h, vw_at (by omega)]
/-- behind the reference's search -/
theorem q_inv {t : Int} {M M2 : Mem} (hI : Inv t M) (f : FrQ M M2) : Inv (t + 1) M2 := Inv.mono (hI.scr f.scr (hI.wz.congr fun a q1 q2 => f.1 a (by omega) (by omega))) (by omega)
theorem q_err {t : Int} {M M2 : Mem} {k : Nat} {i : Int} (hI : Inv t M) (hi : i = (k : Int)) (h6 : k ≤ 6) (f : FrQ (up M 86 k (M 86 k + 1)) M2) {Q2 : Int → Mem → Prop} (hQ : ∀ r2 M2, bm (-1000000 - (k : Int)) = bm r2 → Inv (t + 1) M2 → Q2 r2 M2) : wX12_error 125 i M2 Q2 :=
  er12 hI hi h6 f.scr (hI.wz.congr fun a q1 q2 => by rw [f.1 a (by omega) (by omega), up_c (by omega)]) hQ
theorem st_best {t : Int} {M : Mem} (hI : Inv t M) {a c : Int} (ea : bm a = a) (ec : bm c = c) : Step t M (fun M Q => wX11_best 1 a c M Q) (fun M Q => wX12_best 125 a c M Q) := by
  intro Q1 hQ1
  have hz := hI.zok
  have e0 : M 126 0 = vw (M 126) 0 := e0_of rfl
  have key : ∀ o : Int, (bm o = 0 → c < -1) → (bm o ≠ 0 → -1 ≤ c) → wX11_best_J12 Q1 1 c o a 1 M := by
    intro o ho0 ho1
    unfold wX11_best_J12
    refine set_both (Rl := RI) (g := fun x => x) (B := fun M Q => wX12_best 125 a c M Q) hI ea (fun r r2 h => h) hQ1 (fun r M' hr he => BR_f (by rcases hr with rfl | rfl <;> decide +kernel) ?_) (fun hb M1 Q2 h126 he => ?_) (fun k hk hi ho hs M1 Q2 h126 he => ?_) (fun k hk ho hs M' h126 hI' hsr => BR_t bm0 ?_)
    · unfold wX11_best_J43
      exact BR_f (by rcases hr with rfl | rfl <;> decide +kernel) he
    · unfold wX12_best wX12_best_J13
      refine mf_isSet hz (e0_of h126) ea (fun hs => BR_f q1 ?_) (fun hs => BR_t q0 he)
      rw [ec]
      refine BR_f ?_ he
      rcases hb with h | h
      · exact absurd hs h
      · have := ho0 h
        omega
    · subst hk
      unfold wX12_best
      refine mf_isSet hz (e0_of h126) ea (fun _ => BR_f q1 ?_) (fun h => absurd hi h)
      rw [ec]
      exact BR_t (ho1 ho) (mf_isSmall (hi.lt hz).1 (most := 6) rfl (by decide) (fun h => absurd h hs) (fun _ => BR_t q0 he))
    · subst hk
      have hin := inS_k hs
      have hk12 := (hin.lt hz).1
      have hlen := cands_len (z := vw (M 126)) hs.2.2
      have hpk := hs.2.2
      obtain ⟨h5, hm, g1, g2, g3⟩ := hsr
      have ref : ∀ (M1 : Mem) (Q2 : Int → Mem → Prop), M1 126 = M 126 → (∀ M2, FrQ M1 M2 → RH (vw (M 126)) k M2 → BR (bm (M2 125 22) = 0) (wX12_best_J54 Q2 125 M2) (BR (bm c < bm (M2 125 19)) (BR (0 ≤ bm c) (inb c 12 ∧ Q2 (rd M2 (125 + 11) c) M2) (Q2 (M2 125 20) M2)) (wX12_best_J54 Q2 125 M2))) → wX12_best 125 (k : Int) c M1 Q2 := by
        intro M1 Q2 h1 hr
        unfold wX12_best
        refine mf_isSet hz (e0_of h1) ea (fun _ => BR_f q1 ?_) (fun h => absurd hin h)
        refine BR_t (by rw [ec]; exact ho1 ho) (mf_isSmall hk12 (most := 6) rfl (by decide) (fun _ => BR_f q1 (mf_seesAll hz (mb_of h1) hs hr)) (fun h => absurd ⟨hs.2.1, hs.2.2⟩ h))
      have none : (∀ M2, RH (vw (M 126)) k M2 → ∀ Q2 : Int → Mem → Prop, wX12_best_J54 Q2 125 M2 → BR (bm (M2 125 22) = 0) (wX12_best_J54 Q2 125 M2) (BR (bm c < bm (M2 125 19)) (BR (0 ≤ bm c) (inb c 12 ∧ Q2 (rd M2 (125 + 11) c) M2) (Q2 (M2 125 20) M2)) (wX12_best_J54 Q2 125 M2))) → wX11_best_J41 Q1 1 c M' := by
        intro hn
        unfold wX11_best_J41 wX11_best_J43
        refine BR_f (by decide +kernel) (lf_error11 (k := 2) rfl (by decide) (by decide) (hQ1 _ _ fun Q2 hQ2 => ref _ Q2 (by rw [up_c (by decide), h126]) fun M2 f hr => hn M2 hr Q2 ?_))
        unfold wX12_best_J54
        exact q_err hI' (k := 2) rfl (by decide) f hQ2
      rw [show M' (1 + 102) 6 = _ from g1, show M' (1 + 102) 5 = _ from h5, bm_nat (n := (cands (vw (M 126)) k).length) (by omega), bm_nat (n := pop k) (by omega), ec]
      refine BR_i (fun hc0 => none fun M2 hr Q2 hj => ?_) (fun hc0 => ?_)
      · rw [hr.2.1, bm_nat (n := (cands (vw (M 126)) k).length) (by omega)]
        exact BR_t hc0 hj
      · have hne : cands (vw (M 126)) k ≠ [] := fun e => hc0 (by rw [e]; rfl)
        refine BR_i (fun hlt => ?_) (fun hlt => none fun M2 hr Q2 hj => ?_)
        · have rest : ∀ x : Int, (∀ M2 : Mem, RH (vw (M 126)) k M2 → ∀ Q2 : Int → Mem → Prop, Q2 x M2 → BR (0 ≤ bm c) (inb c 12 ∧ Q2 (rd M2 (125 + 11) c) M2) (Q2 (M2 125 20) M2)) → Q1 x M' := by
            intro x hx
            refine hQ1 _ _ fun Q2 hQ2 => ref _ Q2 h126 fun M2 f hr => ?_
            obtain ⟨b, b1, b2, b3, b4, b5, b6, b7⟩ := hr.2.2.2.1 hne
            rw [hr.2.1, bm_nat (n := (cands (vw (M 126)) k).length) (by omega)]
            refine BR_f hc0 (BR_t ?_ (hx M2 hr Q2 (hQ2 _ _ rfl (q_inv hI' f))))
            rw [b3, ec, bm_nat (n := pop k) (by omega)]
            exact hlt
          unfold wX11_best_J43
          refine BR_t bm0 ?_
          rw [ec]
          refine BR_i (fun h => ⟨?_, rest _ fun M2 hr Q2 hq => ?_⟩) (fun h => rest _ fun M2 hr Q2 hq => ?_)
          · exact inb_of (n := c.toNat) (by omega) (by omega) (by decide)
          · obtain ⟨b, b1, b2, b3, b4, b5, b6, b7⟩ := hr.2.2.2.1 hne
            obtain ⟨a1, a2, a3, a4, a5⟩ := g3 b b1
            refine BR_t (by rw [ec]; exact h) ⟨inb_of (n := c.toNat) (by omega) (by omega) (by decide), ?_⟩
            rw [rd_at (n := c.toNat) (by omega) (by omega), show (125 : Nat) + 11 = 136 from rfl, b2 c.toNat (by omega)]
            rw [rd_at (n := c.toNat) (by omega) (by omega), show (1 : Nat) + 105 = 106 from rfl, a4 c.toNat (by omega)] at hq
            exact hq
          · obtain ⟨b, b1, b2, b3, b4, b5, b6, b7⟩ := hr.2.2.2.1 hne
            obtain ⟨a1, a2, a3, a4, a5⟩ := g3 b b1
            refine BR_f (by rw [ec]; exact h) ?_
            rw [b4]
            rw [show M' (1 + 104) 2 = _ from a3] at hq
            exact hq
        · obtain ⟨b, b1, b2, b3, b4, b5, b6, b7⟩ := hr.2.2.2.1 hne
          rw [hr.2.1, bm_nat (n := (cands (vw (M 126)) k).length) (by omega), b3, ec, bm_nat (n := pop k) (by omega)]
          exact BR_f hc0 (BR_f hlt hj)
  unfold wX11_best
  rw [ec]
  exact BR_i (fun h => key 0 (fun _ => by have := li_n1; omega) (fun h0 => absurd q0 h0)) (fun h => key 1 (fun h0 => absurd h0 q1) (fun _ => by omega))
theorem st_most {t : Int} {M : Mem} (hI : Inv t M) {a c : Int} (ea : bm a = a) : StepL t M (fun M Q => wX11_most 1 a c M Q) (fun M Q => wX12_most 125 a c M Q) := by
  intro Q1 hQ1
  have hz := hI.zok
  have key : ∀ o : Int, (bm o = 0 → ¬ (bm 0 ≤ bm c ∧ bm c ≤ bm 1)) → (bm o ≠ 0 → (bm 0 ≤ bm c ∧ bm c ≤ bm 1)) → wX11_searchFault 1 a o M (fun r_4 M_3 => BR (bm r_4 = 0) (BR (bm (M_3 (1 + 102) 6) = 0) (wX11_most_J28 Q1 1 c 2 M_3) (wX11_most_J28 Q1 1 c r_4 M_3)) (wX11_most_J28 Q1 1 c r_4 M_3)) := by
    intro o ho0 ho1
    refine set_both (Rl := RL) (g := bm) (B := fun M Q => wX12_most 125 a c M Q) hI ea (fun r r2 h => by show bl (bm r) = bl (bm r2); rw [h]) hQ1 (fun r M' hr he => BR_f (by rcases hr with rfl | rfl <;> decide +kernel) ?_) (fun hb M1 Q2 h126 he => ?_) (fun k hk hi ho hs M1 Q2 h126 he => ?_) (fun k hk ho hs M' h126 hI' hsr => BR_t bm0 ?_)
    · unfold wX11_most_J28
      exact BR_f (by rcases hr with rfl | rfl <;> decide +kernel) he
    · unfold wX12_most wX12_most_J17
      exact mf_isSet hz (e0_of h126) ea (fun hs => BR_f q1 (mi_i (fun hc => absurd hc (by rcases hb with h | h; exact absurd hs h; exact ho0 h)) (fun hc => BR_t q0 he))) (fun hs => BR_t q0 he)
    · subst hk
      unfold wX12_most
      exact mf_isSet hz (e0_of h126) ea (fun _ => BR_f q1 (mi_t (ho1 ho) (BR_f q1 (mf_isSmall (hi.lt hz).1 (most := 6) rfl (by decide) (fun h => absurd h hs) (fun _ => BR_t q0 he))))) (fun h => absurd hi h)
    · subst hk
      have hin := inS_k hs
      have hk12 := (hin.lt hz).1
      have hlen := cands_len (z := vw (M 126)) hs.2.2
      obtain ⟨h5, hm, g1, g2, g3⟩ := hsr
      have ref : ∀ (M1 : Mem) (Q2 : Int → Mem → Prop), M1 126 = M 126 → (∀ M2, FrQ M1 M2 → RH (vw (M 126)) k M2 → BR (bm (M2 125 22) = 0) (wX12_error 125 2 M2 (fun r_13 M_12 => Q2 (bm r_13) M_12)) (wX12_partOf (M2 125 21) c M2 (fun r_11 M_10 => Q2 r_11 M_10))) → wX12_most 125 (k : Int) c M1 Q2 := by
        intro M1 Q2 h1 hr
        unfold wX12_most
        exact mf_isSet hz (e0_of h1) ea (fun _ => BR_f q1 (mi_t (ho1 ho) (BR_f q1 (mf_isSmall hk12 (most := 6) rfl (by decide) (fun _ => BR_f q1 (mf_seesAll hz (mb_of h1) hs hr)) (fun h => absurd ⟨hs.2.1, hs.2.2⟩ h))))) (fun h => absurd hin h)
      rw [show M' (1 + 102) 6 = _ from g1, bm_nat (n := (cands (vw (M 126)) k).length) (by omega)]
      unfold wX11_most_J28
      refine BR_i (fun hc0 => BR_f (by decide +kernel) (lf_error11 (k := 2) rfl (by decide) (by decide) (hQ1 _ _ fun Q2 hQ2 => ref _ Q2 (by rw [up_c (by decide), h126]) fun M2 f hr => ?_))) (fun hc0 => BR_t bm0 ?_)
      · rw [hr.2.1, bm_nat (n := (cands (vw (M 126)) k).length) (by omega)]
        exact BR_t hc0 (q_err hI' (k := 2) rfl (by decide) f fun r2 M2 hr hi => hQ2 _ _ (by show bl (bm _) = bl (bm _); rw [hr]) hi)
      · have hne : cands (vw (M 126)) k ≠ [] := fun e => hc0 (by rw [e]; rfl)
        obtain ⟨b, hb⟩ := isBest_e (z := vw (M 126)) (n := pop k) (fun d hd => (cands_ok hk12 hd).1.1) hne
        obtain ⟨a1, a2, a3, a4, a5⟩ := g3 b hb
        have hwb : -487049291366400 ≤ cwo (vw (M 126)) (pop k) b ∧ cwo (vw (M 126)) (pop k) b ≤ 487049291366400 := worth_b hz _ _ _
        rw [show M' (1 + 102) 9 = _ from a2]
        refine lf_partOf (by omega) (hQ1 _ _ fun Q2 hQ2 => ref _ Q2 h126 fun M2 f hr => ?_)
        obtain ⟨b', b1, b2, b3, b4, b5, b6, b7⟩ := hr.2.2.2.1 hne
        obtain rfl := isBest_u hb b1
        rw [hr.2.1, bm_nat (n := (cands (vw (M 126)) k).length) (by omega), b5]
        exact BR_f hc0 (mf_partOf (by omega) (hQ2 _ _ rfl (q_inv hI' f)))
  unfold wX11_most
  exact wi_i (fun h => key 1 (fun h0 => absurd h0 q1) (fun _ => h)) (fun h => key 0 (fun _ => h) (fun h0 => absurd q0 h0))
theorem eq_L {z : Fl} {n : Nat} {Ls : List Cand} {b : Cand} {M : Mem} {x2 : Int} {Q : Int → Mem → Prop} {E : Int → Mem → Prop} (hn : M 125 13 = (n : Int)) (hn12 : n ≤ 12) (h22 : 0 < bm (M 125 22)) (hb : ∀ i, i < n → M 136 i = (b.1.getD i 0 : Nat) ∧ b.1.getD i 0 < 12) (hx : ∀ i, i < n → M 137 i = if fixb z n Ls b i = true then 1 else 0) (hF : ∀ m, m ≤ n → fixs z n Ls b m < 2 ^ 12) (hQ : E (fixs z n Ls b n : Nat) M) : ∀ (m i : Nat) (x3 x4 : Int), i + m = n → x4 = (i : Int) → x3 = (fixs z n Ls b i : Nat) → wX12_equals_L48 Q E 125 x2 (m + 1) x3 x4 M
  | 0, i, x3, x4, hi, h4, h3 => by
    subst h4 h3
    obtain rfl : i = n := by omega
    unfold wX12_equals_L48
    rw [hn]
    exact BR_t (Int.le_refl _) hQ
  | m + 1, i, x3, x4, hi, h4, h3 => by
    subst h4 h3
    obtain ⟨b1, b2⟩ := hb i (by omega)
    have es : fixs z n Ls b (i + 1) = fixs z n Ls b i ||| (if fixb z n Ls b i = true then 2 ^ (b.1.getD i 0) else 0) := rfl
    have hFi := hF i (by omega)
    unfold wX12_equals_L48 wX12_equals_J88
    rw [hn, bm_nat (n := n) (by omega), bm_nat (n := i) (by omega), rd_at (n := i) rfl (by omega), rd_at (n := i) rfl (by omega), show (125 : Nat) + 12 = 137 from rfl, show (125 : Nat) + 11 = 136 from rfl, hx i (by omega), b1]
    refine BR_f (by omega) (BR_f (by omega) ⟨inb_of rfl (by omega) (by decide), ?_⟩)
    cases hf : fixb z n Ls b i
    · rw [if_neg (by decide)]
      refine BR_t q0 (LET_i (LET_i (eq_L hn hn12 h22 hb hx hF hQ m (i + 1) _ _ (by omega) (by omega) ?_)))
      rw [es, hf, if_neg (by decide), Nat.or_zero, show (0 : Int) = ((0 : Nat) : Int) from rfl, iOr_n (by omega) (by omega), Nat.or_zero]
    · rw [if_pos rfl]
      refine BR_f q1 ⟨inb_of rfl (by omega) (by decide), LET_i (LET_i (eq_L hn hn12 h22 hb hx hF hQ m (i + 1) _ _ (by omega) (by omega) ?_))⟩
      rw [es, hf, if_pos rfl, shl_one _ b2]
      exact iOr_n (by omega) (Nat.lt_of_le_of_lt (p2le (m := 12) (by omega)) (by decide))
theorem st_equals {t : Int} {M : Mem} (hI : Inv t M) {a c : Int} (ea : bm a = a) : Step t M (fun M Q => wX11_equals 1 a c M Q) (fun M Q => wX12_equals 125 a c M Q) := by
  intro Q1 hQ1
  have hz := hI.zok
  have key : ∀ o : Int, (bm o = 0 → ¬ (bm 0 ≤ bm c ∧ bm c ≤ bm 2)) → (bm o ≠ 0 → (bm 0 ≤ bm c ∧ bm c ≤ bm 2)) → wX11_searchFault 1 a o M (fun r_4 M_3 => BR (bm r_4 = 0) (BR (bm c = 0) (Q1 (M_3 (1 + 102) 6) M_3) (BR (bm c = 1) (Q1 (M_3 (1 + 102) 7) M_3) (Q1 (M_3 (1 + 102) 8) M_3))) (wX11_error 1 r_4 M_3 (fun r_9 M_8 => Q1 r_9 M_8))) := by
    intro o ho0 ho1
    refine set_both (Rl := RI) (g := fun x => x) (B := fun M Q => wX12_equals 125 a c M Q) hI ea (fun r r2 h => h) hQ1 (fun r M' hr he => BR_f (by rcases hr with rfl | rfl <;> decide +kernel) he) (fun hb M1 Q2 h126 he => ?_) (fun k hk hi ho hs M1 Q2 h126 he => ?_) (fun k hk ho hs M' h126 hI' hsr => BR_t bm0 ?_)
    · unfold wX12_equals wX12_equals_J17
      exact mf_isSet hz (e0_of h126) ea (fun hs => BR_f q1 (mi_i (fun hc => absurd hc (by rcases hb with h | h; exact absurd hs h; exact ho0 h)) (fun hc => BR_t q0 he))) (fun hs => BR_t q0 he)
    · subst hk
      unfold wX12_equals
      exact mf_isSet hz (e0_of h126) ea (fun _ => BR_f q1 (mi_t (ho1 ho) (BR_f q1 (mf_isSmall (hi.lt hz).1 (most := 6) rfl (by decide) (fun h => absurd h hs) (fun _ => BR_t q0 he))))) (fun h => absurd hi h)
    · subst hk
      have hin := inS_k hs
      have hk12 := (hin.lt hz).1
      have hpk := hs.2.2
      have hlen := cands_len (z := vw (M 126)) hs.2.2
      obtain ⟨h5, hm, g1, g2, g3⟩ := hsr
      -- what the reference answers
      have ref : ∀ (x : Int), (∀ (M2 : Mem) (x3 : Int), RH (vw (M 126)) k M2 → (cands (vw (M 126)) k = [] → x3 = 0) → (∀ b, IsBest (vw (M 126)) (pop k) (cands (vw (M 126)) k) b → x3 = (fixs (vw (M 126)) (pop k) (cands (vw (M 126)) k) b (pop k) : Nat)) → ∀ Q2 : Int → Mem → Prop, Q2 x M2 → wX12_equals_J96 Q2 125 c x3 M2) → Q1 x M' := by
        intro x hx
        refine hQ1 _ _ fun Q2 hQ2 => ?_
        unfold wX12_equals
        refine mf_isSet hz (e0_of h126) ea (fun _ => BR_f q1 (mi_t (ho1 ho) (BR_f q1 (mf_isSmall hk12 (most := 6) rfl (by decide) (fun _ => BR_f q1 (mf_seesAll hz (mb_of h126) hs fun M2 f hr => ?_)) (fun h => absurd ⟨hs.2.1, hs.2.2⟩ h))))) (fun h => absurd hin h)
        by_cases hne : cands (vw (M 126)) k = []
        · refine ⟨1, ?_⟩
          unfold wX12_equals_L48
          rw [hr.1, hr.2.1, hne, bm_nat (n := pop k) (by omega)]
          refine BR_f (by rw [bm0]; have := hs.2.1; omega) (BR_t (by decide +kernel) (hx M2 0 hr (fun _ => rfl) (fun b hb => ?_) Q2 (hQ2 _ _ rfl (q_inv hI' f))))
          rw [hne] at hb
          cases hb.1
        · obtain ⟨b, b1, b2, b3, b4, b5, b6, b7⟩ := hr.2.2.2.1 hne
          have hpb := (cands_ok hk12 b1.1).1
          refine ⟨pop k + 1, eq_L (z := vw (M 126)) (Ls := cands (vw (M 126)) k) (b := b) hr.1 (by omega) ?_ (fun i hi => ⟨b2 i hi, hpb.lt12 hk12 hi⟩) b7 (fun m hm => fixs_lt hk12 hpb m hm) (hx M2 _ hr (fun e => absurd e hne) (fun b' hb' => by rw [isBest_u hb' b1]) Q2 (hQ2 _ _ rfl (q_inv hI' f))) (pop k) 0 _ _ (by omega) rfl rfl⟩
          have : (cands (vw (M 126)) k).length ≠ 0 := fun e => hne (List.length_eq_zero_iff.mp e)
          rw [hr.2.1, bm_nat (n := (cands (vw (M 126)) k).length) (by omega)]
          omega
      refine BR_i (fun h => ref _ fun M2 x3 hr _ _ Q2 hq => ?_) (fun n0 => BR_i (fun h => ref _ fun M2 x3 hr _ _ Q2 hq => ?_) (fun n1 => ref _ fun M2 x3 hr he hb Q2 hq => ?_))
      · unfold wX12_equals_J96
        refine BR_t h ?_
        rw [show M' (1 + 102) 6 = _ from g1] at hq
        rw [hr.2.1]
        exact hq
      · unfold wX12_equals_J96
        refine BR_f n0 (BR_t h ?_)
        by_cases hne : cands (vw (M 126)) k = []
        · rw [hr.2.2.1 hne]
          rw [show M' (1 + 102) 7 = _ from (g2 hne).1] at hq
          exact hq
        · obtain ⟨b, b1, b2, b3, b4, b5, b6, b7⟩ := hr.2.2.2.1 hne
          rw [b6]
          rw [show M' (1 + 102) 7 = _ from (g3 b b1).1] at hq
          exact hq
      · unfold wX12_equals_J96
        refine BR_f n0 (BR_f n1 ?_)
        by_cases hne : cands (vw (M 126)) k = []
        · rw [he hne]
          rw [show M' (1 + 102) 8 = _ from (g2 hne).2] at hq
          exact hq
        · obtain ⟨b, b1, b2, b3, b4, b5, b6, b7⟩ := hr.2.2.2.1 hne
          rw [hb b b1]
          rw [show M' (1 + 102) 8 = _ from (g3 b b1).2.2.2.2] at hq
          exact hq
  unfold wX11_equals
  exact wi_i (fun h => key 1 (fun h0 => absurd h0 q1) (fun _ => h)) (fun h => key 0 (fun _ => h) (fun h0 => absurd q0 h0))
