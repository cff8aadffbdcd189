/-! THE CLASS'S WALK: the step as a whole -/
theorem step_J {z : Fl} {v n i q : Nat} {c g : Int} {r : Nat → Nat} {M : Mem} {Q : Mem → Prop} (hz : ZOk z) (hc : CB z M) (hn : M 91 1 = (n : Int)) (hv : M 91 2 = (v : Int)) (hn12 : n ≤ 12) (hv12 : v ≤ 12) (hi : i < n) (hq : (q : Int) < z 0) (hr : RowPs z r i) (hR : RowAt z v n r i M) (hrq : r i = q)
    (hcr : cr z (q :: rl r i) = cr z (rl r i) + c) (hg : g = gp z v q (rl r i)) (hQ : ∀ M', RowAt z v n r (i + 1) M' → FrI i M M' → Q M') : wX10_step_J113 Q 91 (i : Int) (q : Int) (11 + q) c g M := by
  have hz0 := hz.1
  have hlen := rl_len r i
  obtain ⟨R1, R2⟩ := hR
  obtain ⟨a94, a95, a96, a97, a98, a99⟩ := R2 i (Nat.le_refl _)
  have hs : stb (rl r i) < 2 ^ 12 := stb_lt _ (hr.pcs.lt hz)
  have hrl : rl r (i + 1) = q :: rl r i := by rw [← hrq]; rfl
  simp only [wX10_step_J113, wX10_tire, Nat.reduceAdd, Nat.reduceSub]
  refine ⟨inb_of rfl (by omega) (by decide), LET_i ⟨inb_of rfl (by omega) (by decide), inb_of (n := i + 1) (by omega) (by omega) (by decide), LET_i ⟨inb_of rfl (by omega) (by decide), inb_of (n := i + 1) (by omega) (by omega) (by decide), LET_i ⟨inb_of rfl (by omega) (by decide), inb_of rfl (by omega) (by decide), LET_i ⟨inb_of rfl (by omega) (by decide), inb_of (n := i + 1) (by omega) (by omega) (by decide), LET_i (LET_i ⟨inb_of rfl (by omega) (by decide), LET_i ?_⟩)⟩⟩⟩⟩⟩
  rw [wr_up (k := 92) (n := i) rfl (by omega)]
  rw [rd_at (k := 96) (n := i) rfl (by omega), wr_up (k := 96) (i := (i : Int) + 1) (n := i + 1) (by omega) (by omega)]
  rw [rd_at (k := 95) (n := i) rfl (by omega), wr_up (k := 95) (i := (i : Int) + 1) (n := i + 1) (by omega) (by omega)]
  rw [rd_at (k := 94) (n := i) rfl (by omega), wr_up (k := 93) (n := i) rfl (by omega)]
  rw [rd_at (k := 93) (n := i) rfl (by omega), wr_up (k := 94) (i := (i : Int) + 1) (n := i + 1) (by omega) (by omega)]
  rw [rd_at (k := 98) (n := i) rfl (by omega)]
  simp (disch := omega) only [up_c, up_s, up_kn]
  rw [a94, a95, a96, a98]
  have eor : iOr (stb (rl r i) : Int) (iShl 1 (q : Int)) = (stb (q :: rl r i) : Int) := by
    rw [shl_one q (by omega), stb_cons]
    exact iOr_n (by omega) (Nat.lt_of_le_of_lt (p2le (m := 12) (by omega)) (by decide))
  have e0 : M (11 + q) 0 = pMin z q := hc.2.2.2.2.1 q hq 0 (by decide)
  rw [eor, e0, ← hcr, hg, show en z v (rl r i) + gp z v q (rl r i) + pMin z q = en z v (q :: rl r i) from rfl]
  generalize hM5 : up (up (up (up (up M 92 i (q : Int)) 96 (i + 1) (stb (q :: rl r i) : Int)) 95 (i + 1) (cr z (q :: rl r i))) 93 i (en z v (rl r i) + gp z v q (rl r i))) 94 (i + 1) (en z v (q :: rl r i)) = M5
  have G : ∀ a, a ≠ 92 → a ≠ 93 → a ≠ 94 → a ≠ 95 → a ≠ 96 → M5 a = M a := fun a _ _ _ _ _ => by subst hM5; simp (disch := omega) only [up_c]
  have G2 : ∀ j, M5 92 j = if j = i then (q : Int) else M 92 j := fun j => by subst hM5; simp (disch := omega) only [up_c, up_k]
  have G3 : ∀ j, M5 93 j = if j = i then en z v (rl r i) + gp z v q (rl r i) else M 93 j := fun j => by subst hM5; simp (disch := omega) only [up_c, up_k]
  have G4 : ∀ j, M5 94 j = if j = i + 1 then en z v (q :: rl r i) else M 94 j := fun j => by subst hM5; simp (disch := omega) only [up_c, up_k]
  have G5 : ∀ j, M5 95 j = if j = i + 1 then cr z (q :: rl r i) else M 95 j := fun j => by subst hM5; simp (disch := omega) only [up_c, up_k]
  have G6 : ∀ j, M5 96 j = if j = i + 1 then (stb (q :: rl r i) : Int) else M 96 j := fun j => by subst hM5; simp (disch := omega) only [up_c, up_k]
  clear hM5
  refine ⟨8 + 1, tire_L hz (hc.congr hz fun a ha => G a (by omega) (by omega) (by omega) (by omega) (by omega)) hq hr.pcs (by omega) hlen rfl (fun j hj => ?_) (fun M6 t1 t2 t3 => ?_) 8 0 M5 _ _ rfl rfl rfl (fun _ _ => rfl) (fun _ _ => rfl) (fun k hk => by omega)⟩
  · rw [G 99 (by decide) (by decide) (by decide) (by decide) (by decide)]
    exact a99 j hj
  obtain ⟨nm, hnm⟩ : ∃ nm : Nat, z 2 = (nm : Int) := ⟨(z 2).toNat, by have := hz.2.2.1; omega⟩
  refine ⟨inb_of (n := i + 1) (by omega) (by omega) (by decide), LET_i ⟨inb_of rfl (by omega) (by decide), LET_i ⟨nm + 1, ?_⟩⟩⟩
  rw [rd_at (k := 97) (n := i) rfl (by omega), wr_up (k := 98) (i := (i : Int) + 1) (n := i + 1) (by omega) (by omega), up_c (a := 97) (k := 98) (by decide), t1 97 (by decide), G 97 (by decide) (by decide) (by decide) (by decide) (by decide), a97]
  refine broken_L hz (n := n) (v := v) (r := r) (hc.congr hz fun a ha => ?_) ?_ ?_ hn12 hv12 hi hq hr (fun k hk => ?_) ?_ ?_ hnm ⟨inb_of (n := i + 1) (by omega) (by omega) (by decide), LET_i ?_⟩ nm 0 _ _ (by omega) rfl ?_
  · rw [up_c (by omega), t1 a (by omega), G a (by omega) (by omega) (by omega) (by omega) (by omega)]
  · rw [up_c (by decide), t1 91 (by decide), G 91 (by decide) (by decide) (by decide) (by decide) (by decide)]
    exact hn
  · rw [up_c (by decide), t1 91 (by decide), G 91 (by decide) (by decide) (by decide) (by decide) (by decide)]
    exact hv
  · rw [up_c (by decide), t1 92 (by decide), G2, if_neg (by omega)]
    exact (R1 k hk).1
  · rw [up_c (by decide), t1 96 (by decide), G6, if_neg (by omega)]
    exact a96
  · rw [up_c (by decide), t1 94 (by decide), G4, if_pos rfl]
  · rw [show bits (fun m => bkAt z v n m q (rl r i)) 0 = 0 from rfl, Nat.or_zero]
  · rw [wr_up (k := 97) (i := (i : Int) + 1) (n := i + 1) (by omega) (by omega)]
    have H : ∀ a, a ≠ 99 → a ≠ 98 → a ≠ 97 → up (up M6 98 (i + 1) (mt z v (q :: rl r i))) 97 (i + 1) (bk z v n (q :: rl r i) : Int) a = M5 a := fun a q1 q2 q3 => by rw [up_c q3, up_c q2, t1 a q1]
    have H7 : ∀ j, up (up M6 98 (i + 1) (mt z v (q :: rl r i))) 97 (i + 1) (bk z v n (q :: rl r i) : Int) 97 j = if j = i + 1 then (bk z v n (q :: rl r i) : Int) else M 97 j := fun j => by rw [up_k, up_c (by decide), t1 97 (by decide), G 97 (by decide) (by decide) (by decide) (by decide) (by decide)]
    have H8 : ∀ j, up (up M6 98 (i + 1) (mt z v (q :: rl r i))) 97 (i + 1) (bk z v n (q :: rl r i) : Int) 98 j = if j = i + 1 then mt z v (q :: rl r i) else M 98 j := fun j => by rw [up_c (by decide), up_k, t1 98 (by decide), G 98 (by decide) (by decide) (by decide) (by decide) (by decide)]
    have H9 : up (up M6 98 (i + 1) (mt z v (q :: rl r i))) 97 (i + 1) (bk z v n (q :: rl r i) : Int) 99 = M6 99 := by rw [up_c (by decide), up_c (by decide)]
    have t2' : ∀ k, k < 8 * (i + 1) → M6 99 k = M 99 k := fun k hk => by rw [t2 k hk, G 99 (by decide) (by decide) (by decide) (by decide) (by decide)]
    generalize up (up M6 98 (i + 1) (mt z v (q :: rl r i))) 97 (i + 1) (bk z v n (q :: rl r i) : Int) = M7 at H H7 H8 H9
    refine hQ M7 ⟨fun k hk => ?_, fun k hk => ?_⟩ ⟨fun a ha => ?_, fun k hk => ?_, fun k hk => ?_, fun k hk => ?_, fun k hk => ?_⟩
    · rw [H 92 (by decide) (by decide) (by decide), H 93 (by decide) (by decide) (by decide), G2, G3]
      by_cases hki : k = i
      · subst hki
        rw [if_pos rfl, if_pos rfl, hrq]
        exact ⟨rfl, rfl⟩
      · rw [if_neg hki, if_neg hki]
        exact R1 k (by omega)
    · rw [H 94 (by decide) (by decide) (by decide), H 95 (by decide) (by decide) (by decide), H 96 (by decide) (by decide) (by decide), G4, G5, G6, H7, H8]
      by_cases hki : k = i + 1
      · subst hki
        rw [if_pos rfl, if_pos rfl, if_pos rfl, if_pos rfl, if_pos rfl, hrl]
        refine ⟨rfl, rfl, rfl, rfl, rfl, fun j hj => ?_⟩
        rw [H9]
        exact t3 j hj
      · rw [if_neg hki, if_neg hki, if_neg hki, if_neg hki, if_neg hki]
        obtain ⟨c1, c2, c3, c4, c5, c6⟩ := R2 k (by omega)
        refine ⟨c1, c2, c3, c4, c5, fun j hj => ?_⟩
        rw [H9, t2' _ (by omega)]
        exact c6 j hj
    · rw [H a (by omega) (by omega) (by omega), G a (by omega) (by omega) (by omega) (by omega) (by omega)]
    · rw [H 92 (by decide) (by decide) (by decide), H 93 (by decide) (by decide) (by decide), G2, G3, if_neg (by omega), if_neg (by omega)]
      exact ⟨rfl, rfl⟩
    · rw [H 94 (by decide) (by decide) (by decide), H 95 (by decide) (by decide) (by decide), H 96 (by decide) (by decide) (by decide), G4, G5, G6, H7, H8, if_neg (by omega), if_neg (by omega), if_neg (by omega), if_neg (by omega), if_neg (by omega)]
      exact ⟨rfl, rfl, rfl, rfl, rfl⟩
    · rw [H9, t2' k hk]
    · rw [H 100 (by decide) (by decide) (by decide), G 100 (by decide) (by decide) (by decide) (by decide) (by decide)]
theorem lf_step {z : Fl} {v n i q : Nat} {r : Nat → Nat} {M : Mem} {Q : Mem → Prop} (hz : ZOk z) (hc : CB z M) (hn : M 91 1 = (n : Int)) (hv : M 91 2 = (v : Int)) (hn12 : n ≤ 12) (hv12 : v ≤ 12) (hi : i < n) (hq : (q : Int) < z 0) (hr : RowPs z r i) (hR : RowAt z v n r i M) (hrq : r i = q) (hQ : ∀ M', RowAt z v n r (i + 1) M' → FrI i M M' → Q M') : wX10_step 91 (i : Int) (q : Int) M Q := by
  have hz0 := hz.1
  have hlen := rl_len r i
  have e8 : rd M 4 2 = z 8 := by rw [rd_at (i := 2) (n := 2) rfl (by decide)]; exact hc.2.2.2.1 2 (by decide)
  have e6 : rd M 4 0 = z 6 := by rw [rd_at (i := 0) (n := 0) rfl (by decide)]; exact hc.2.2.2.1 0 (by decide)
  unfold wX10_step
  rw [hn]
  refine wi_t (by rw [bm0, bm_nat (n := i) (by omega), bm_id (z := (n : Int) - 1) (by omega) (by omega)]; omega) (BR_f q1 ?_)
  rw [show (91 : Nat) - 89 = 2 from rfl, hc.1]
  refine wi_t (by rw [bm0, bm_nat (n := q) (by omega), bm_id (z := z 0 - 1) (by omega) (by omega)]; omega) (BR_f q1 ⟨inb_of rfl (by omega) (by decide), ?_⟩)
  rw [bnn (n := q) (by omega), show 2 + 9 + q = 11 + q by omega, bm_nat (n := i) (by omega)]
  have key : ∀ c : Int, cr z (q :: rl r i) = cr z (rl r i) + c → gp z v q (rl r i) = (if i = 0 then 0 else if i = v then z 8 else c * z 6) → wX10_step_J70 Q 91 (i : Int) (q : Int) (11 + q) c M := by
    intro c h1 h2
    simp only [wX10_step_J70, wX10_step_J104, Nat.reduceAdd, Nat.reduceSub]
    rw [hv, bm_nat (n := i) (by omega), bm_nat (n := v) (by omega), e8, e6]
    refine BR_i (fun hh => BR_i (fun h0 => ?_) (fun h0 => ?_)) (fun hh => BR_i (fun h0 => ?_) (fun h0 => ?_))
    · exact step_J hz hc hn hv hn12 hv12 hi hq hr hR hrq h1 (by rw [h2, if_pos (by omega)]) hQ
    · exact step_J hz hc hn hv hn12 hv12 hi hq hr hR hrq h1 (by rw [h2, if_neg (by omega), if_pos (by omega)]) hQ
    · exact step_J hz hc hn hv hn12 hv12 hi hq hr hR hrq h1 (by rw [h2, if_pos (by omega)]) hQ
    · exact step_J hz hc hn hv hn12 hv12 hi hq hr hR hrq h1 (by rw [h2, if_neg (by omega), if_neg (by omega)]) hQ
  cases i with
  | zero => exact BR_t rfl (key 0 (by show cr z [q] = cr z [] + 0; rfl) rfl)
  | succ k =>
    have hrk := hr k (by omega)
    have er : rd M (91 + 1) (((k + 1 : Nat) : Int) - 1) = (r k : Int) := by
      rw [rd_at (n := k) (by omega) (by omega)]
      exact (hR.1 k (by omega)).1
    refine BR_f (by omega) ⟨inb_of (n := k) (by omega) (by omega) (by decide), ?_⟩
    rw [er, bnn (n := r k) (by omega), show 2 + 9 + r k = 11 + r k by omega]
    refine ⟨inb_of rfl (by omega) (by decide), lf_carr hz hc hrk hq (key _ ?_ ?_)⟩
    · show cr z (q :: r k :: rl r k) = cr z (r k :: rl r k) + _
      exact cr_cons _ _ _ _
    · show gp z v q (r k :: rl r k) = _
      rw [gp_cons, rl_len, if_neg (show ¬ k + 1 = 0 by omega)]
