/-! ILL: the reference goes through the orders -/
def RIl (z : Fl) (m : Nat) (M : Mem) (x10 : Int) : Option (Nat × Cand) → Prop
  | none => x10 = -1
  | some (a, c) => x10 = (a : Int) ∧ a < 1000 ∧ M 125 21 = cwo z m c ∧ ∀ i, i < m → M 136 i = (c.1.getD i 0 : Nat)
theorem RIl.congr {z : Fl} {m : Nat} {M M' : Mem} {x10 : Int} {st : Option (Nat × Cand)} (h : RIl z m M x10 st) (h1 : M' 125 21 = M 125 21) (h2 : M' 136 = M 136) : RIl z m M' x10 st := by
  cases st with
  | none => exact h
  | some p =>
    obtain ⟨a1, a2, a3, a4⟩ := h
    exact ⟨a1, a2, by rw [h1]; exact a3, fun i hi => by rw [h2]; exact a4 i hi⟩
def ist' (z : Fl) (m : Nat) (old : Nat → Nat) (st : Option (Nat × Cand)) (c : Cand) : Option (Nat × Cand) := if gdc z m c = true then ist z m old st c else st
theorem il_V {z : Fl} {v m : Nat} {r old : Nat → Nat} {O : List Nat} {st : Option (Nat × Cand)} {M : Mem} {x10 y4 y9 : Int} {Q : Int → Mem → Prop} {C : Int → Int → Mem → Prop} (hz : ZOk z) (hb : MB z M) (hR : RB v m r M) (hm12 : m ≤ 12) (hvm : v < m) (hr : RowPs z r m) (hj : Inj r m) (hO : O.length = m) (hp : (rl r m).Perm O) (hpw : O.Pairwise fun x y => old x < old y) (h141 : ∀ i, i < m → M 141 i = (O.getD i 0 : Nat)) (hS : RIl z m M x10 st)
    (hN : ∀ M1 x10', FrO M M1 → RIl z m M1 x10' (ist' z m old st ((rl r m).reverse, v)) → wX12_nextOrder 125 M1 (fun r M => C x10' r M)) : wX12_layRow 125 M (fun M_32 => wX12_isGood 125 M_32 (fun r_34 M_33 => BR (bm r_34 = 0) (wX12_ill_J265 Q C 125 y4 (m : Int) y9 x10 M_33) (wX12_moved 125 (m : Int) M_33 (fun r_38 M_37 => wX12_worthNow 125 M_37 (fun r_40 M_39 => BR (bm x10 < 0) (wX12_ill_J255 Q C 125 y4 (m : Int) y9 r_38 r_40 M_39) (BR (bm r_38 < bm x10) (wX12_ill_J255 Q C 125 y4 (m : Int) y9 r_38 r_40 M_39) (BR (bm r_38 = bm x10) (BR (bm (lCmp r_40 (M_39 125 21)) ≤ 0) (wX12_ill_J265 Q C 125 y4 (m : Int) y9 x10 M_39) (wX12_ill_J255 Q C 125 y4 (m : Int) y9 r_38 r_40 M_39)) (wX12_ill_J265 Q C 125 y4 (m : Int) y9 x10 M_39)))))))) := by
  have hz0 := hz.1
  have hr12 : ∀ k, k < m → r k < 12 := fun k hk => by have := hr k hk; omega
  have hin : ∀ x ∈ O, ∃ k, k < m ∧ r k = x := fun x hx => rl_mem.mp (hp.mem_iff.mpr hx)
  have hmv : mvq (od r m) O = mvr old (rl r m) := mv_eq (rl_pw hj (Nat.le_refl m)) hpw hp
  have hml := mvr_le (old := old) (l := rl r m) (by rw [rl_len]; exact hm12)
  rw [rl_len] at hml
  have hcw : cwo z m ((rl r m).reverse, v) = worth z v m (rl r m) := by
    unfold cwo
    rw [List.reverse_reverse]
  have hgd : gdc z m ((rl r m).reverse, v) = goodb z v m (rl r m) := by
    unfold gdc
    rw [List.reverse_reverse]
  have hwb := worth_b hz v m (rl r m)
  refine mf_layRow hz hb hR hm12 (by omega) hr fun M1 fl hL => ?_
  have hb1 : MB z M1 := hb.congr (fl 126 (by decide) (by decide) (by decide))
  have hR1 : RB v m r M1 := hR.congr (fl 125 (by decide) (by decide) (by decide)) (fl 132 (by decide) (by decide) (by decide))
  have hS1 : RIl z m M1 x10 st := hS.congr (by rw [fl 125 (by decide) (by decide) (by decide)]) (fl 136 (by decide) (by decide) (by decide))
  refine mf_isGood hz hb1 hR1 hm12 (by omega) hr hj hL ?_
  by_cases hg : goodb z v m (rl r m) = true
  · rw [if_pos hg]
    have hist : ist' z m old st ((rl r m).reverse, v) = ist z m old st ((rl r m).reverse, v) := if_pos (by rw [hgd]; exact hg)
    rw [hist] at hN
    refine BR_f q1 (mf_moved hR1 hm12 hr12 hj hO hin (fun i hi => by rw [fl 141 (by decide) (by decide) (by decide)]; exact h141 i hi) (mf_worthNow hz hb1 hR1 hm12 hvm hr hj hL fun M2 fp => ?_))
    rw [hmv]
    have hR2 : RB v m r M2 := hR1.congr (fp 125 (by decide) (by decide)) (fp 132 (by decide) (by decide))
    have hS2 : RIl z m M2 x10 st := hS1.congr (by rw [fp 125 (by decide) (by decide)]) (fp 136 (by decide) (by decide))
    have f2 : FrO M M2 := fl.o.tr fp.o
    have j255 : ist z m old st ((rl r m).reverse, v) = some (mvr old (rl r m), ((rl r m).reverse, v)) → wX12_ill_J255 Q C 125 y4 (m : Int) y9 (mvr old (rl r m) : Int) (worth z v m (rl r m)) M2 := by
      intro hi
      unfold wX12_ill_J255 wX12_ill_J265
      refine mf_isBest hR2 hm12 fun M3 b1 b2 b3 b4 b5 b6 b7 => hN M3 _ (f2.tr ⟨fun a q1 _ q3 => b1 a q1 (by omega) (by omega), fun j hj => b2 j (by omega) (by omega) (by omega) (by omega)⟩) ?_
      rw [hi]
      refine ⟨rfl, by omega, by rw [b5, hcw], fun i hi => ?_⟩
      rw [(b7 i hi).1]
      exact congrArg _ (rl_get hi).symm
    have stay : ist z m old st ((rl r m).reverse, v) = st → wX12_ill_J265 Q C 125 y4 (m : Int) y9 x10 M2 := by
      intro hi
      unfold wX12_ill_J265
      exact hN M2 x10 f2 (by rw [hi]; exact hS2)
    cases st with
    | none =>
      have h10 : x10 = -1 := hS
      subst h10
      refine BR_t (by decide +kernel) (j255 ?_)
      show some (mvr old (rl r m).reverse.reverse, ((rl r m).reverse, v)) = _
      rw [List.reverse_reverse]
    | some p =>
      obtain ⟨a, b⟩ := p
      obtain ⟨a1, a2, a3, a4⟩ := hS2
      subst a1
      have hwb2 : -487049291366400 ≤ cwo z m b ∧ cwo z m b ≤ 487049291366400 := worth_b hz _ _ _
      have hi : ist z m old (some (a, b)) ((rl r m).reverse, v) = if mvr old (rl r m) < a ∨ (mvr old (rl r m) = a ∧ cwo z m b < worth z v m (rl r m)) then some (mvr old (rl r m), ((rl r m).reverse, v)) else some (a, b) := by
        show (if mvr old (rl r m).reverse.reverse < a ∨ (mvr old (rl r m).reverse.reverse = a ∧ cwo z m b < cwo z m ((rl r m).reverse, v)) then some (mvr old (rl r m).reverse.reverse, ((rl r m).reverse, v)) else some (a, b)) = _
        rw [List.reverse_reverse, hcw]
      rw [a3, bm_nat (n := mvr old (rl r m)) (by omega), bm_nat (n := a) (by omega), lc_le, bl_id (z := worth z v m (rl r m)) (by omega) (by omega), bl_id (z := cwo z m b) (by omega) (by omega)]
      refine BR_f (by omega) (BR_i (fun h => j255 ?_) (fun h => BR_i (fun h1 => BR_i (fun h2 => stay ?_) (fun h2 => j255 ?_)) (fun h1 => stay ?_)))
      · rw [hi, if_pos (Or.inl (by omega))]
      · rw [hi, if_neg (by omega)]
      · rw [hi, if_pos (Or.inr ⟨by omega, by omega⟩)]
      · rw [hi, if_neg (by omega)]
  · rw [if_neg hg]
    have hist : ist' z m old st ((rl r m).reverse, v) = st := if_neg (by rw [hgd]; exact hg)
    rw [hist] at hN
    unfold wX12_ill_J265
    exact BR_t q0 (hN M1 x10 fl.o hS1)
theorem il_O {z : Fl} {k v : Nat} {old : Nat → Nat} {O : List Nat} {M0 : Mem} {fin : Option (Nat × Cand)} {y4 y9 : Int} {Q : Int → Mem → Prop} {E : Int → Mem → Prop} (hz : ZOk z) (hk : k < 2 ^ 12) (hkz : ∀ x ∈ mems k 12, (x : Int) < z 0) (h1 : 1 ≤ pop k) (h6 : pop k ≤ 6) (hv : v < pop k) (hO : (mems k 12).Perm O) (hpw : O.Pairwise fun x y => old x < old y) (h141 : ∀ i, i < pop k → M0 141 i = (O.getD i 0 : Nat)) (hQ : ∀ M' x10, FrQ M0 M' → RIl z (pop k) M' x10 fin → E x10 M') : ∀ (T T1 : List (List Nat)) (a : List Nat) (M : Mem) (x10 x11 : Int) (st : Option (Nat × Cand)), ords (pop k) (List.range (pop k)) = T1 ++ a :: T → x11 = 1 → MB z M → M 125 13 = (pop k : Int) → M 125 14 = (v : Int) → (∀ i, i < pop k → M 132 i = (rowE k a i : Int)) → FrQ M0 M → RIl z (pop k) M x10 st → ((a :: T).map fun b => (ordE k b, v)).foldl (ist' z (pop k) old) st = fin → wX12_ill_L196 Q E 125 y4 (pop k : Int) y9 (T.length + 2) x10 x11 M := by
  have hz0 := hz.1
  have hml : (mems k 12).length = pop k := mems_len k 12
  have hall : ∀ (T T1 : List (List Nat)) (a : List Nat) (M : Mem), ords (pop k) (List.range (pop k)) = T1 ++ a :: T → MB z M → M 125 13 = (pop k : Int) → M 125 14 = (v : Int) → (∀ i, i < pop k → M 132 i = (rowE k a i : Int)) → FrQ M0 M → RB v (pop k) (rowE k a) M ∧ RowPs z (rowE k a) (pop k) ∧ Inj (rowE k a) (pop k) ∧ (rl (rowE k a) (pop k)).Perm O ∧ (rl (rowE k a) (pop k)).reverse = ordE k a ∧ (∀ i, i < pop k → rowE k a i < 12) ∧ a.length = pop k ∧ (∀ i, i < pop k → a.getD i 0 < pop k) ∧ ∀ i, i < pop k → M 141 i = (O.getD i 0 : Nat) := by
    intro T T1 a M hT hb h13 h14 h132 fq
    have haA := ords_rng (n := pop k) (a := a) (by rw [hT]; exact List.mem_append_right _ List.mem_cons_self)
    have hoE : ordE k a ∈ ords (pop k) (mems k 12) := by
      rw [ords_mems k, hT]
      exact List.mem_map.mpr ⟨a, List.mem_append_right _ List.mem_cons_self, rfl⟩
    have hop := ords_perm hml hoE
    have hpa := POk.of hk hop
    have hre : ∀ i, i < pop k → (ordE k a).getD i 0 = rowE k a i := fun i hi => ordE_get (by rw [haA.1]; exact hi)
    have erl : (rl (rowE k a) (pop k)).reverse = ordE k a := rl_list hpa.1 hre
    refine ⟨⟨h13, h14, h132⟩, fun i hi => ?_, fun i j hi hj he => hpa.2.1 i j hi hj (by rw [hre i hi, hre j hj]; exact he), ?_, erl, fun i hi => ?_, haA.1, haA.2, fun i hi => by rw [fq.1 141 (by decide) (by decide)]; exact h141 i hi⟩
    · have hx := (hpa.2.2 ((ordE k a).getD i 0)).mpr ⟨i, hi, rfl⟩
      rw [← hre i hi]
      exact hkz _ (mem_mems.mpr ⟨hpa.lt12 hk hi, hx⟩)
    · refine ((List.reverse_perm _).symm.trans ?_).trans (hop.trans hO)
      rw [erl]
    · rw [← hre i hi]
      exact hpa.lt12 hk hi
  intro T
  induction T with
  | nil =>
    intro T1 a M x10 x11 st hT h2 hb h13 h14 h132 fq hS hfin
    subst h2
    obtain ⟨c1, c2, c3, c4, c5, c6, c7, c8, c9⟩ := hall [] T1 a M hT hb h13 h14 h132 fq
    have hck : ck (pop k) [a] = true := ck_app (l := T1) (by rw [← hT]; exact ck_n h6)
    unfold wX12_ill_L196
    refine BR_f q1 (il_V hz hb c1 (by omega) hv c2 c3 (by rw [← hO.length_eq]; exact hml) c4 hpw c9 hS fun M1 x10' fo hS1 => ?_)
    rw [c5] at hS1
    refine mf_next (by rw [fo.2 13 (by decide)]; exact h13) h1 (by omega) (fun i hi => ⟨by rw [fo.1 132 (by decide) (by decide) (by decide)]; exact h132 i hi, c6 i hi⟩) (fun _ => ?_) (fun g hg => ?_)
    · show wX12_ill_L196 Q E 125 y4 (pop k : Int) y9 1 x10' 0 M1
      unfold wX12_ill_L196
      refine BR_t bm0 (hQ M1 x10' (fq.tr fo.q) ?_)
      rw [← hfin]
      exact hS1
    · rw [sa_next rfl h1 c8, ck_one hck] at hg
      cases hg
  | cons b T ih =>
    intro T1 a M x10 x11 st hT h2 hb h13 h14 h132 fq hS hfin
    subst h2
    obtain ⟨c1, c2, c3, c4, c5, c6, c7, c8, c9⟩ := hall (b :: T) T1 a M hT hb h13 h14 h132 fq
    have hck : ck (pop k) (a :: b :: T) = true := ck_app (l := T1) (by rw [← hT]; exact ck_n h6)
    obtain ⟨g, hg, hgb⟩ := ck_two hck
    unfold wX12_ill_L196
    refine BR_f q1 (il_V hz hb c1 (by omega) hv c2 c3 (by rw [← hO.length_eq]; exact hml) c4 hpw c9 hS fun M1 x10' fo hS1 => ?_)
    rw [c5] at hS1
    refine mf_next (by rw [fo.2 13 (by decide)]; exact h13) h1 (by omega) (fun i hi => ⟨by rw [fo.1 132 (by decide) (by decide) (by decide)]; exact h132 i hi, c6 i hi⟩) (fun hn => ?_) (fun g' hg' M2 f1 f2 => ?_)
    · rw [sa_next rfl h1 c8, hg] at hn
      cases hn
    · rw [sa_next rfl h1 c8, hg] at hg'
      have hg'' : (fun i => (mems k 12).getD (g i) 0) = g' := Option.some.inj hg'
      have fq2 : FrQ M1 M2 := ⟨fun c _ q2 => f1 c (by omega), fun j _ => by rw [f1 125 (by decide)]⟩
      show wX12_ill_L196 Q E 125 y4 (pop k : Int) y9 (T.length + 2) x10' 1 M2
      refine ih (T1 ++ [a]) b M2 x10' 1 _ (by rw [hT]; simp) rfl ((hb.fro fo).congr (f1 126 (by decide))) (by rw [f1 125 (by decide), fo.2 13 (by decide)]; exact h13) (by rw [f1 125 (by decide), fo.2 14 (by decide)]; exact h14) (fun i hi => ?_) (fq.tr (fo.q.tr fq2)) (hS1.congr (by rw [f1 125 (by decide)]) (f1 136 (by decide))) hfin
      rw [f2 i hi, ← hg'']
      show (((mems k 12).getD (g i) 0 : Nat) : Int) = _
      rw [hgb i hi]
      rfl
