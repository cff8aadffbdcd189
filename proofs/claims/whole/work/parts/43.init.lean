/-! WHAT THE MAKERS OF OBJECTS MAKE -/
def lkk : List (Nat × Int) → Nat → Int
  | [], _ => 0
  | (b, k) :: r, a => if a = b then k else lkk r a
def lkf : List (Nat × Nat × Bool × Int) → Nat → Nat → Bool × Int
  | [], _, _ => (false, 0)
  | (b, i, v) :: r, a, j => if a = b ∧ j = i then v else lkf r a j
def dv (K : Nat) (v : Bool × Int) : Int := if v.1 then (K : Int) + v.2 else v.2
/-- n cells from K on, made over M0 -/
def Has (K n : Nat) (M0 M : Mem) (ks : List (Nat × Int)) (fs : List (Nat × Nat × Bool × Int)) : Prop :=
  0 < K ∧ M 0 0 = ((K + n : Nat) : Int) ∧ (∀ a, a < n → M 0 (K + a) = lkk ks a) ∧ (∀ a j, a < n → M (K + a) j = dv K (lkf fs a j)) ∧ (∀ a, 0 < a → (a < K ∨ K + n ≤ a) → M 0 a = M0 0 a) ∧ (∀ a, 0 < a → (a < K ∨ K + n ≤ a) → M a = M0 a) ∧ ∀ a j, n ≤ a → lkf fs a j = (false, 0)
section HasP
variable {K n : Nat} {M0 M : Mem} {ks : List (Nat × Int)} {fs : List (Nat × Nat × Bool × Int)}
theorem Has.hK (h : Has K n M0 M ks fs) : 0 < K := h.1
theorem Has.hn (h : Has K n M0 M ks fs) : M 0 0 = ((K + n : Nat) : Int) := h.2.1
theorem Has.hk (h : Has K n M0 M ks fs) : ∀ a, a < n → M 0 (K + a) = lkk ks a := h.2.2.1
theorem Has.hf (h : Has K n M0 M ks fs) : ∀ a j, a < n → M (K + a) j = dv K (lkf fs a j) := h.2.2.2.1
theorem Has.ok (h : Has K n M0 M ks fs) : ∀ a, 0 < a → (a < K ∨ K + n ≤ a) → M 0 a = M0 0 a := h.2.2.2.2.1
theorem Has.of (h : Has K n M0 M ks fs) : ∀ a, 0 < a → (a < K ∨ K + n ≤ a) → M a = M0 a := h.2.2.2.2.2.1
theorem Has.hz (h : Has K n M0 M ks fs) : ∀ a j, n ≤ a → lkf fs a j = (false, 0) := h.2.2.2.2.2.2
end HasP
theorem hasNx {K n : Nat} {M0 M : Mem} {ks : List (Nat × Int)} {fs : List (Nat × Nat × Bool × Int)} (h : Has K n M0 M ks fs) : nx M = K + n := by
  have := h.hn
  unfold nx
  omega
section HasS
variable {K n n' : Nat} {M0 M : Mem} {ks : List (Nat × Int)} {fs : List (Nat × Nat × Bool × Int)} {R : Mem → Prop}
theorem s_al {kd : Int} (h : Has K n M0 M ks fs) (hn : n + 1 = n') (hr : ∀ M', Has K n' M0 M' ((n, kd) :: ks) fs → R M') : LET (al M kd) (fun M' => (0 < K + n ∧ M' 0 (K + n) = kd) ∧ R M') := by
  subst hn
  have hx := hasNx h
  have hK := h.hK
  have e0 : ∀ j, 0 < j → al M kd 0 j = if j = K + n then kd else M 0 j := fun j hj => by
    simp only [al, if_true, hx]
    rw [if_neg (by omega)]
  have ea : ∀ a j, 0 < a → al M kd a j = if a = K + n then 0 else M a j := fun a j ha => by
    simp only [al, hx]
    rw [if_neg (by omega)]
  refine ⟨⟨by omega, by rw [e0 _ (by omega), if_pos rfl]⟩, hr _ ⟨hK, ?_, ?_, ?_, ?_, ?_, ?_⟩⟩
  · simp only [al, if_true]
    rw [h.hn]
    omega
  · intro a ha
    rw [e0 _ (by omega)]
    unfold lkk
    by_cases hh : a = n
    · rw [if_pos (by omega), if_pos hh]
    · rw [if_neg (by omega), if_neg hh]
      exact h.hk a (by omega)
  · intro a j ha
    rw [ea _ _ (by omega)]
    by_cases hh : a = n
    · rw [if_pos (by omega), h.hz a j (by omega)]
      rfl
    · rw [if_neg (by omega)]
      exact h.hf a j (by omega)
  · intro a h1 h2
    rw [e0 _ h1, if_neg (by omega)]
    exact h.ok a h1 (by omega)
  · intro a h1 h2
    funext j
    rw [ea _ _ h1, if_neg (by omega)]
    exact congrFun (h.of a h1 (by omega)) j
  · exact fun a j ha => h.hz a j (by omega)
theorem s_up {a j : Nat} {v : Int} {w : Bool × Int} (h : Has K n M0 M ks fs) (ha : a < n) (hv : v = dv K w) (hr : ∀ M', Has K n M0 M' ks ((a, j, w) :: fs) → R M') : LET (up M (K + a) j v) R := by
  have hK := h.hK
  refine hr _ ⟨hK, ?_, ?_, ?_, ?_, ?_, ?_⟩
  · rw [up_0 M j v (by omega)]
    exact h.hn
  · intro b hb
    rw [up_0 M j v (by omega)]
    exact h.hk b hb
  · intro b i hb
    unfold lkf
    by_cases hh : b = a ∧ i = j
    · obtain ⟨rfl, rfl⟩ := hh
      rw [if_pos ⟨rfl, rfl⟩, up_s]
      exact hv
    · rw [if_neg hh, up_n M v (by omega)]
      exact h.hf b i hb
  · intro b h1 h2
    rw [up_0 M j v (by omega)]
    exact h.ok b h1 h2
  · intro b h1 h2
    rw [up_c (by omega)]
    exact h.of b h1 h2
  · intro b i hb
    unfold lkf
    rw [if_neg (by omega)]
    exact h.hz b i hb
theorem s_upA {a j b : Nat} (h : Has K n M0 M ks fs) (ha : a < n) (hr : ∀ M', Has K n M0 M' ks ((a, j, true, (b : Int)) :: fs) → R M') : LET (up M (K + a) j ((K + b : Nat) : Int)) R := s_up h ha (by unfold dv; rw [if_pos rfl]; omega) hr
theorem s_upV {a j : Nat} {v : Int} (h : Has K n M0 M ks fs) (ha : a < n) (hr : ∀ M', Has K n M0 M' ks ((a, j, false, v) :: fs) → R M') : LET (up M (K + a) j v) R := s_up h ha rfl hr
theorem s_wr {a n0 : Nat} {i v : Int} (h : Has K n M0 M ks fs) (ha : a < n) (hi : i = (n0 : Int)) (hi2 : n0 < 2147483648) (hr : ∀ M', Has K n M0 M' ks ((a, n0, false, v) :: fs) → R M') : LET (wr M (K + a) i v) R := by
  rw [wr_up hi hi2]
  exact s_upV h ha hr
theorem s_wrA {a n0 b : Nat} {i : Int} (h : Has K n M0 M ks fs) (ha : a < n) (hi : i = (n0 : Int)) (hi2 : n0 < 2147483648) (hr : ∀ M', Has K n M0 M' ks ((a, n0, true, (b : Int)) :: fs) → R M') : LET (wr M (K + a) i ((K + b : Nat) : Int)) R := by
  rw [wr_up hi hi2]
  exact s_upA h ha hr
theorem Has.adr (h : Has K n M0 M ks fs) (a j b : Nat) (ha : a < n) (e : lkf fs a j = (true, (b : Int))) : (M (K + a) j).toNat = K + b := by
  rw [h.hf a j ha, e]
  unfold dv
  rw [if_pos rfl]
  omega
theorem Has.knd {kd : Int} (h : Has K n M0 M ks fs) (a : Nat) (ha : a < n) (e : lkk ks a = kd) : 0 < K + a ∧ M 0 (K + a) = kd := ⟨by have := h.hK; omega, by rw [h.hk a ha]; exact e⟩
theorem Has.at (h : Has K n M0 M ks fs) (a j : Nat) {x : Int} (ha : a < n) (e : lkf fs a j = (false, x)) : M (K + a) j = x := by
  rw [h.hf a j ha, e]
  rfl
theorem Has.base {kd : Int} (hK : 0 < nx M) : Has (nx M) 0 M M [] [] := ⟨hK, by unfold nx; unfold nx at hK; omega, fun a h => by omega, fun a j h => by omega, fun _ _ _ => rfl, fun _ _ _ => rfl, fun _ _ _ => rfl⟩
end HasS
theorem L93_s {Q : Mem → Prop} {E118 : Nat → Mem → Prop} {a0 : Nat} {N c : Nat} {x1 : Int} {M : Mem} (h : BR (12 ≤ bm x1) (E118 c  M) ((0 < (M a0 0).toNat ∧ M 0 (M a0 0).toNat = kA 4 12) ∧ (c + 1) ≤ 82 ∧ LET (al M (kO 3)) (fun M_31 => (0 < nx M ∧ M_31 0 (nx M) = kO 3) ∧ (c + 1) ≤ 82 ∧ wX3_init ((nx M)) M_31 (fun M_34 => inb x1 12 ∧ LET (wr M_34 ((M a0 0).toNat) x1 (((nx M) : Nat) : Int)) (fun M_36 => LET (x1 + 1) (fun x1_37 => wX0_init_L93 Q E118 a0 N (c + 1) x1_37 M_36)))))) : wX0_init_L93 Q E118 a0 (N + 1) c x1 M := h
theorem L120_s {Q : Mem → Prop} {E145 : Nat → Mem → Prop} {a0 : Nat} {N c : Nat} {x1 : Int} {M : Mem} (h : BR (10 ≤ bm x1) (E145 c  M) ((0 < (M a0 3).toNat ∧ M 0 (M a0 3).toNat = kA 5 10) ∧ (c + 1) ≤ 82 ∧ LET (al M (kO 1)) (fun M_44 => (0 < nx M ∧ M_44 0 (nx M) = kO 1) ∧ (c + 2) ≤ 82 ∧ wX1_init ((nx M)) M_44 (fun M_47 => inb x1 10 ∧ LET (wr M_47 ((M a0 3).toNat) x1 (((nx M) : Nat) : Int)) (fun M_49 => LET (x1 + 1) (fun x1_50 => wX0_init_L120 Q E145 a0 N (c + 2) x1_50 M_49)))))) : wX0_init_L120 Q E145 a0 (N + 1) c x1 M := h
theorem L147_s {Q : Mem → Prop} {E172 : Nat → Mem → Prop} {a0 : Nat} {N c : Nat} {x1 : Int} {M : Mem} (h : BR (10 ≤ bm x1) (E172 c  M) ((0 < (M a0 5).toNat ∧ M 0 (M a0 5).toNat = kA 6 10) ∧ (c + 1) ≤ 82 ∧ LET (al M (kO 2)) (fun M_57 => (0 < nx M ∧ M_57 0 (nx M) = kO 2) ∧ (c + 1) ≤ 82 ∧ wX2_init ((nx M)) M_57 (fun M_60 => inb x1 10 ∧ LET (wr M_60 ((M a0 5).toNat) x1 (((nx M) : Nat) : Int)) (fun M_62 => LET (x1 + 1) (fun x1_63 => wX0_init_L147 Q E172 a0 N (c + 1) x1_63 M_62)))))) : wX0_init_L147 Q E172 a0 (N + 1) c x1 M := h
theorem L174_s {Q : Mem → Prop}  {a0 : Nat} {N c : Nat} {x1 : Int} {M : Mem} (h : BR (8 ≤ bm x1) ((c) ≤ 82 ∧ Q M) ((0 < (M a0 9).toNat ∧ M 0 (M a0 9).toNat = kA 7 8) ∧ (c + 1) ≤ 82 ∧ LET (al M (kO 5)) (fun M_71 => (0 < nx M ∧ M_71 0 (nx M) = kO 5) ∧ (c + 2) ≤ 82 ∧ wX5_init ((nx M)) M_71 (fun M_74 => inb x1 8 ∧ LET (wr M_74 ((M a0 9).toNat) x1 (((nx M) : Nat) : Int)) (fun M_76 => (0 < (M_76 a0 10).toNat ∧ M_76 0 (M_76 a0 10).toNat = kA 8 8) ∧ (c + 3) ≤ 82 ∧ LET (al M_76 (kO 5)) (fun M_79 => (0 < nx M_76 ∧ M_79 0 (nx M_76) = kO 5) ∧ (c + 4) ≤ 82 ∧ wX5_init ((nx M_76)) M_79 (fun M_82 => inb x1 8 ∧ LET (wr M_82 ((M_76 a0 10).toNat) x1 (((nx M_76) : Nat) : Int)) (fun M_84 => LET (x1 + 1) (fun x1_85 => wX0_init_L174 Q  a0 N (c + 4) x1_85 M_84))))))))) : wX0_init_L174 Q a0 (N + 1) c x1 M := h
theorem L144_s {Q : Mem → Prop}  {a0 : Nat} {N c : Nat} {x1 : Int} {M : Mem} (h : BR (4 ≤ bm x1) ((c) ≤ 123 ∧ Q M) ((0 < (M a0 3).toNat ∧ M 0 (M a0 3).toNat = kA 9 4) ∧ (c + 1) ≤ 123 ∧ LET (al M (kO 8)) (fun M_51 => (0 < nx M ∧ M_51 0 (nx M) = kO 8) ∧ (c + 2) ≤ 123 ∧ wX8_init ((nx M)) M_51 (fun M_54 => inb x1 4 ∧ LET (wr M_54 ((M a0 3).toNat) x1 (((nx M) : Nat) : Int)) (fun M_56 => LET (x1 + 1) (fun x1_57 => wX11_init_L144 Q  a0 N (c + 2) x1_57 M_56)))))) : wX11_init_L144 Q a0 (N + 1) c x1 M := h
def ini0Ks : List (Nat × Int) := [(82, kA 0 12), (81, kO 5), (80, kA 0 12), (79, kO 5), (78, kA 0 12), (77, kO 5), (76, kA 0 12), (75, kO 5), (74, kA 0 12), (73, kO 5), (72, kA 0 12), (71, kO 5), (70, kA 0 12), (69, kO 5), (68, kA 0 12), (67, kO 5), (66, kA 0 12), (65, kO 5), (64, kA 0 12), (63, kO 5), (62, kA 0 12), (61, kO 5), (60, kA 0 12), (59, kO 5), (58, kA 0 12), (57, kO 5), (56, kA 0 12), (55, kO 5), (54, kA 0 12), (53, kO 5), (52, kA 0 12), (51, kO 5), (50, kO 2), (49, kO 2), (48, kO 2), (47, kO 2), (46, kO 2), (45, kO 2), (44, kO 2), (43, kO 2), (42, kO 2), (41, kO 2), (40, kA 0 50), (39, kO 1), (38, kA 0 50), (37, kO 1), (36, kA 0 50), (35, kO 1), (34, kA 0 50), (33, kO 1), (32, kA 0 50), (31, kO 1), (30, kA 0 50), (29, kO 1), (28, kA 0 50), (27, kO 1), (26, kA 0 50), (25, kO 1), (24, kA 0 50), (23, kO 1), (22, kA 0 50), (21, kO 1), (20, kO 3), (19, kO 3), (18, kO 3), (17, kO 3), (16, kO 3), (15, kO 3), (14, kO 3), (13, kO 3), (12, kO 3), (11, kO 3), (10, kO 3), (9, kO 3), (8, kA 0 12), (7, kA 8 8), (6, kA 7 8), (5, kA 1 50), (4, kA 6 10), (3, kA 5 10), (2, kA 0 4), (1, kA 4 12), (0, kO 0)]
def ini0Fs : List (Nat × Nat × Bool × Int) := [(7, 7, true, 81), (81, 0, true, 82), (6, 7, true, 79), (79, 0, true, 80), (7, 6, true, 77), (77, 0, true, 78), (6, 6, true, 75), (75, 0, true, 76), (7, 5, true, 73), (73, 0, true, 74), (6, 5, true, 71), (71, 0, true, 72), (7, 4, true, 69), (69, 0, true, 70), (6, 4, true, 67), (67, 0, true, 68), (7, 3, true, 65), (65, 0, true, 66), (6, 3, true, 63), (63, 0, true, 64), (7, 2, true, 61), (61, 0, true, 62), (6, 2, true, 59), (59, 0, true, 60), (7, 1, true, 57), (57, 0, true, 58), (6, 1, true, 55), (55, 0, true, 56), (7, 0, true, 53), (53, 0, true, 54), (6, 0, true, 51), (51, 0, true, 52), (4, 9, true, 50), (4, 8, true, 49), (4, 7, true, 48), (4, 6, true, 47), (4, 5, true, 46), (4, 4, true, 45), (4, 3, true, 44), (4, 2, true, 43), (4, 1, true, 42), (4, 0, true, 41), (3, 9, true, 39), (39, 6, true, 40), (39, 2, false, 1), (3, 8, true, 37), (37, 6, true, 38), (37, 2, false, 1), (3, 7, true, 35), (35, 6, true, 36), (35, 2, false, 1), (3, 6, true, 33), (33, 6, true, 34), (33, 2, false, 1), (3, 5, true, 31), (31, 6, true, 32), (31, 2, false, 1), (3, 4, true, 29), (29, 6, true, 30), (29, 2, false, 1), (3, 3, true, 27), (27, 6, true, 28), (27, 2, false, 1), (3, 2, true, 25), (25, 6, true, 26), (25, 2, false, 1), (3, 1, true, 23), (23, 6, true, 24), (23, 2, false, 1), (3, 0, true, 21), (21, 6, true, 22), (21, 2, false, 1), (1, 11, true, 20), (1, 10, true, 19), (1, 9, true, 18), (1, 8, true, 17), (1, 7, true, 16), (1, 6, true, 15), (1, 5, true, 14), (1, 4, true, 13), (1, 3, true, 12), (1, 2, true, 11), (1, 1, true, 10), (1, 0, true, 9), (0, 12, true, 8), (0, 10, true, 7), (0, 9, true, 6), (0, 7, true, 5), (0, 5, true, 4), (0, 3, true, 3), (0, 2, true, 2), (2, 3, false, 999), (2, 2, false, 20), (2, 1, false, 1), (2, 0, false, 1), (0, 0, true, 1)]
theorem ini0_s {K : Nat} {M0 M : Mem} {Q : Mem → Prop} (h : Has K 1 M0 M [(0, kO 0)] []) (hQ : ∀ M', Has K 83 M0 M' ini0Ks ini0Fs → Q M') : wX0_init (K + 0) M Q := by
  unfold wX0_init
  rw [hasNx h]
  refine s_al h (n' := 2) rfl fun M h => ?_
  refine s_upA (a := 0) (j := 0) (b := 1) h (by decide) fun M h => ?_
  rw [hasNx h]
  refine s_al h (n' := 3) rfl fun M h => ?_
  refine s_wr (a := 2) (i := 0) (n0 := 0) h (by decide) rfl (by decide) fun M h => ?_
  refine s_wr (a := 2) (i := 1) (n0 := 1) h (by decide) rfl (by decide) fun M h => ?_
  refine s_wr (a := 2) (i := 2) (n0 := 2) h (by decide) rfl (by decide) fun M h => ?_
  refine s_wr (a := 2) (i := 3) (n0 := 3) h (by decide) rfl (by decide) fun M h => ?_
  refine s_upA (a := 0) (j := 2) (b := 2) h (by decide) fun M h => ?_
  rw [hasNx h]
  refine s_al h (n' := 4) rfl fun M h => ?_
  refine s_upA (a := 0) (j := 3) (b := 3) h (by decide) fun M h => ?_
  rw [hasNx h]
  refine s_al h (n' := 5) rfl fun M h => ?_
  refine s_upA (a := 0) (j := 5) (b := 4) h (by decide) fun M h => ?_
  rw [hasNx h]
  refine s_al h (n' := 6) rfl fun M h => ?_
  refine s_upA (a := 0) (j := 7) (b := 5) h (by decide) fun M h => ?_
  rw [hasNx h]
  refine s_al h (n' := 7) rfl fun M h => ?_
  refine s_upA (a := 0) (j := 9) (b := 6) h (by decide) fun M h => ?_
  rw [hasNx h]
  refine s_al h (n' := 8) rfl fun M h => ?_
  refine s_upA (a := 0) (j := 10) (b := 7) h (by decide) fun M h => ?_
  rw [hasNx h]
  refine s_al h (n' := 9) rfl fun M h => ?_
  refine s_upA (a := 0) (j := 12) (b := 8) h (by decide) fun M h => ?_
  refine ⟨((((((((((((0 + 1 + 1) + 1) + 1) + 1) + 1) + 1) + 1) + 1) + 1) + 1) + 1) + 1), ?_⟩
  refine L93_s ?_
  refine BR_f (by decide +kernel) ?_
  rw [h.adr 0 0 1 (by decide) (by decide +kernel)]
  refine ⟨h.knd 1 (by decide) (by decide +kernel), ?_⟩
  refine ⟨by decide, ?_⟩
  rw [hasNx h]
  refine s_al h (n' := 10) rfl fun M h => ?_
  refine ⟨by decide, ?_⟩
  unfold wX3_init
  refine ⟨by unfold inb; decide +kernel, ?_⟩
  refine s_wrA (a := 1) (n0 := 0) (b := 9) h (by decide) (by decide) (by decide) fun M h => ?_
  refine LET_i ?_
  refine L93_s ?_
  refine BR_f (by decide +kernel) ?_
  rw [h.adr 0 0 1 (by decide) (by decide +kernel)]
  refine ⟨h.knd 1 (by decide) (by decide +kernel), ?_⟩
  refine ⟨by decide, ?_⟩
  rw [hasNx h]
  refine s_al h (n' := 11) rfl fun M h => ?_
  refine ⟨by decide, ?_⟩
  unfold wX3_init
  refine ⟨by unfold inb; decide +kernel, ?_⟩
  refine s_wrA (a := 1) (n0 := 1) (b := 10) h (by decide) (by decide) (by decide) fun M h => ?_
  refine LET_i ?_
  refine L93_s ?_
  refine BR_f (by decide +kernel) ?_
  rw [h.adr 0 0 1 (by decide) (by decide +kernel)]
  refine ⟨h.knd 1 (by decide) (by decide +kernel), ?_⟩
  refine ⟨by decide, ?_⟩
  rw [hasNx h]
  refine s_al h (n' := 12) rfl fun M h => ?_
  refine ⟨by decide, ?_⟩
  unfold wX3_init
  refine ⟨by unfold inb; decide +kernel, ?_⟩
  refine s_wrA (a := 1) (n0 := 2) (b := 11) h (by decide) (by decide) (by decide) fun M h => ?_
  refine LET_i ?_
  refine L93_s ?_
  refine BR_f (by decide +kernel) ?_
  rw [h.adr 0 0 1 (by decide) (by decide +kernel)]
  refine ⟨h.knd 1 (by decide) (by decide +kernel), ?_⟩
  refine ⟨by decide, ?_⟩
  rw [hasNx h]
  refine s_al h (n' := 13) rfl fun M h => ?_
  refine ⟨by decide, ?_⟩
  unfold wX3_init
  refine ⟨by unfold inb; decide +kernel, ?_⟩
  refine s_wrA (a := 1) (n0 := 3) (b := 12) h (by decide) (by decide) (by decide) fun M h => ?_
  refine LET_i ?_
  refine L93_s ?_
  refine BR_f (by decide +kernel) ?_
  rw [h.adr 0 0 1 (by decide) (by decide +kernel)]
  refine ⟨h.knd 1 (by decide) (by decide +kernel), ?_⟩
  refine ⟨by decide, ?_⟩
  rw [hasNx h]
  refine s_al h (n' := 14) rfl fun M h => ?_
  refine ⟨by decide, ?_⟩
  unfold wX3_init
  refine ⟨by unfold inb; decide +kernel, ?_⟩
  refine s_wrA (a := 1) (n0 := 4) (b := 13) h (by decide) (by decide) (by decide) fun M h => ?_
  refine LET_i ?_
  refine L93_s ?_
  refine BR_f (by decide +kernel) ?_
  rw [h.adr 0 0 1 (by decide) (by decide +kernel)]
  refine ⟨h.knd 1 (by decide) (by decide +kernel), ?_⟩
  refine ⟨by decide, ?_⟩
  rw [hasNx h]
  refine s_al h (n' := 15) rfl fun M h => ?_
  refine ⟨by decide, ?_⟩
  unfold wX3_init
  refine ⟨by unfold inb; decide +kernel, ?_⟩
  refine s_wrA (a := 1) (n0 := 5) (b := 14) h (by decide) (by decide) (by decide) fun M h => ?_
  refine LET_i ?_
  refine L93_s ?_
  refine BR_f (by decide +kernel) ?_
  rw [h.adr 0 0 1 (by decide) (by decide +kernel)]
  refine ⟨h.knd 1 (by decide) (by decide +kernel), ?_⟩
  refine ⟨by decide, ?_⟩
  rw [hasNx h]
  refine s_al h (n' := 16) rfl fun M h => ?_
  refine ⟨by decide, ?_⟩
  unfold wX3_init
  refine ⟨by unfold inb; decide +kernel, ?_⟩
  refine s_wrA (a := 1) (n0 := 6) (b := 15) h (by decide) (by decide) (by decide) fun M h => ?_
  refine LET_i ?_
  refine L93_s ?_
  refine BR_f (by decide +kernel) ?_
  rw [h.adr 0 0 1 (by decide) (by decide +kernel)]
  refine ⟨h.knd 1 (by decide) (by decide +kernel), ?_⟩
  refine ⟨by decide, ?_⟩
  rw [hasNx h]
  refine s_al h (n' := 17) rfl fun M h => ?_
  refine ⟨by decide, ?_⟩
  unfold wX3_init
  refine ⟨by unfold inb; decide +kernel, ?_⟩
  refine s_wrA (a := 1) (n0 := 7) (b := 16) h (by decide) (by decide) (by decide) fun M h => ?_
  refine LET_i ?_
  refine L93_s ?_
  refine BR_f (by decide +kernel) ?_
  rw [h.adr 0 0 1 (by decide) (by decide +kernel)]
  refine ⟨h.knd 1 (by decide) (by decide +kernel), ?_⟩
  refine ⟨by decide, ?_⟩
  rw [hasNx h]
  refine s_al h (n' := 18) rfl fun M h => ?_
  refine ⟨by decide, ?_⟩
  unfold wX3_init
  refine ⟨by unfold inb; decide +kernel, ?_⟩
  refine s_wrA (a := 1) (n0 := 8) (b := 17) h (by decide) (by decide) (by decide) fun M h => ?_
  refine LET_i ?_
  refine L93_s ?_
  refine BR_f (by decide +kernel) ?_
  rw [h.adr 0 0 1 (by decide) (by decide +kernel)]
  refine ⟨h.knd 1 (by decide) (by decide +kernel), ?_⟩
  refine ⟨by decide, ?_⟩
  rw [hasNx h]
  refine s_al h (n' := 19) rfl fun M h => ?_
  refine ⟨by decide, ?_⟩
  unfold wX3_init
  refine ⟨by unfold inb; decide +kernel, ?_⟩
  refine s_wrA (a := 1) (n0 := 9) (b := 18) h (by decide) (by decide) (by decide) fun M h => ?_
  refine LET_i ?_
  refine L93_s ?_
  refine BR_f (by decide +kernel) ?_
  rw [h.adr 0 0 1 (by decide) (by decide +kernel)]
  refine ⟨h.knd 1 (by decide) (by decide +kernel), ?_⟩
  refine ⟨by decide, ?_⟩
  rw [hasNx h]
  refine s_al h (n' := 20) rfl fun M h => ?_
  refine ⟨by decide, ?_⟩
  unfold wX3_init
  refine ⟨by unfold inb; decide +kernel, ?_⟩
  refine s_wrA (a := 1) (n0 := 10) (b := 19) h (by decide) (by decide) (by decide) fun M h => ?_
  refine LET_i ?_
  refine L93_s ?_
  refine BR_f (by decide +kernel) ?_
  rw [h.adr 0 0 1 (by decide) (by decide +kernel)]
  refine ⟨h.knd 1 (by decide) (by decide +kernel), ?_⟩
  refine ⟨by decide, ?_⟩
  rw [hasNx h]
  refine s_al h (n' := 21) rfl fun M h => ?_
  refine ⟨by decide, ?_⟩
  unfold wX3_init
  refine ⟨by unfold inb; decide +kernel, ?_⟩
  refine s_wrA (a := 1) (n0 := 11) (b := 20) h (by decide) (by decide) (by decide) fun M h => ?_
  refine LET_i ?_
  refine L93_s ?_
  refine BR_t (by decide +kernel) ?_
  refine ⟨((((((((((0 + 1 + 1) + 1) + 1) + 1) + 1) + 1) + 1) + 1) + 1) + 1), ?_⟩
  refine L120_s ?_
  refine BR_f (by decide +kernel) ?_
  rw [h.adr 0 3 3 (by decide) (by decide +kernel)]
  refine ⟨h.knd 3 (by decide) (by decide +kernel), ?_⟩
  refine ⟨by decide, ?_⟩
  rw [hasNx h]
  refine s_al h (n' := 22) rfl fun M h => ?_
  refine ⟨by decide, ?_⟩
  unfold wX1_init
  refine s_upV (a := 21) (j := 2) h (by decide) fun M h => ?_
  rw [hasNx h]
  refine s_al h (n' := 23) rfl fun M h => ?_
  refine s_upA (a := 21) (j := 6) (b := 22) h (by decide) fun M h => ?_
  refine ⟨by unfold inb; decide +kernel, ?_⟩
  refine s_wrA (a := 3) (n0 := 0) (b := 21) h (by decide) (by decide) (by decide) fun M h => ?_
  refine LET_i ?_
  refine L120_s ?_
  refine BR_f (by decide +kernel) ?_
  rw [h.adr 0 3 3 (by decide) (by decide +kernel)]
  refine ⟨h.knd 3 (by decide) (by decide +kernel), ?_⟩
  refine ⟨by decide, ?_⟩
  rw [hasNx h]
  refine s_al h (n' := 24) rfl fun M h => ?_
  refine ⟨by decide, ?_⟩
  unfold wX1_init
  refine s_upV (a := 23) (j := 2) h (by decide) fun M h => ?_
  rw [hasNx h]
  refine s_al h (n' := 25) rfl fun M h => ?_
  refine s_upA (a := 23) (j := 6) (b := 24) h (by decide) fun M h => ?_
  refine ⟨by unfold inb; decide +kernel, ?_⟩
  refine s_wrA (a := 3) (n0 := 1) (b := 23) h (by decide) (by decide) (by decide) fun M h => ?_
  refine LET_i ?_
  refine L120_s ?_
  refine BR_f (by decide +kernel) ?_
  rw [h.adr 0 3 3 (by decide) (by decide +kernel)]
  refine ⟨h.knd 3 (by decide) (by decide +kernel), ?_⟩
  refine ⟨by decide, ?_⟩
  rw [hasNx h]
  refine s_al h (n' := 26) rfl fun M h => ?_
  refine ⟨by decide, ?_⟩
  unfold wX1_init
  refine s_upV (a := 25) (j := 2) h (by decide) fun M h => ?_
  rw [hasNx h]
  refine s_al h (n' := 27) rfl fun M h => ?_
  refine s_upA (a := 25) (j := 6) (b := 26) h (by decide) fun M h => ?_
  refine ⟨by unfold inb; decide +kernel, ?_⟩
  refine s_wrA (a := 3) (n0 := 2) (b := 25) h (by decide) (by decide) (by decide) fun M h => ?_
  refine LET_i ?_
  refine L120_s ?_
  refine BR_f (by decide +kernel) ?_
  rw [h.adr 0 3 3 (by decide) (by decide +kernel)]
  refine ⟨h.knd 3 (by decide) (by decide +kernel), ?_⟩
  refine ⟨by decide, ?_⟩
  rw [hasNx h]
  refine s_al h (n' := 28) rfl fun M h => ?_
  refine ⟨by decide, ?_⟩
  unfold wX1_init
  refine s_upV (a := 27) (j := 2) h (by decide) fun M h => ?_
  rw [hasNx h]
  refine s_al h (n' := 29) rfl fun M h => ?_
  refine s_upA (a := 27) (j := 6) (b := 28) h (by decide) fun M h => ?_
  refine ⟨by unfold inb; decide +kernel, ?_⟩
  refine s_wrA (a := 3) (n0 := 3) (b := 27) h (by decide) (by decide) (by decide) fun M h => ?_
  refine LET_i ?_
  refine L120_s ?_
  refine BR_f (by decide +kernel) ?_
  rw [h.adr 0 3 3 (by decide) (by decide +kernel)]
  refine ⟨h.knd 3 (by decide) (by decide +kernel), ?_⟩
  refine ⟨by decide, ?_⟩
  rw [hasNx h]
  refine s_al h (n' := 30) rfl fun M h => ?_
  refine ⟨by decide, ?_⟩
  unfold wX1_init
  refine s_upV (a := 29) (j := 2) h (by decide) fun M h => ?_
  rw [hasNx h]
  refine s_al h (n' := 31) rfl fun M h => ?_
  refine s_upA (a := 29) (j := 6) (b := 30) h (by decide) fun M h => ?_
  refine ⟨by unfold inb; decide +kernel, ?_⟩
  refine s_wrA (a := 3) (n0 := 4) (b := 29) h (by decide) (by decide) (by decide) fun M h => ?_
  refine LET_i ?_
  refine L120_s ?_
  refine BR_f (by decide +kernel) ?_
  rw [h.adr 0 3 3 (by decide) (by decide +kernel)]
  refine ⟨h.knd 3 (by decide) (by decide +kernel), ?_⟩
  refine ⟨by decide, ?_⟩
  rw [hasNx h]
  refine s_al h (n' := 32) rfl fun M h => ?_
  refine ⟨by decide, ?_⟩
  unfold wX1_init
  refine s_upV (a := 31) (j := 2) h (by decide) fun M h => ?_
  rw [hasNx h]
  refine s_al h (n' := 33) rfl fun M h => ?_
  refine s_upA (a := 31) (j := 6) (b := 32) h (by decide) fun M h => ?_
  refine ⟨by unfold inb; decide +kernel, ?_⟩
  refine s_wrA (a := 3) (n0 := 5) (b := 31) h (by decide) (by decide) (by decide) fun M h => ?_
  refine LET_i ?_
  refine L120_s ?_
  refine BR_f (by decide +kernel) ?_
  rw [h.adr 0 3 3 (by decide) (by decide +kernel)]
  refine ⟨h.knd 3 (by decide) (by decide +kernel), ?_⟩
  refine ⟨by decide, ?_⟩
  rw [hasNx h]
  refine s_al h (n' := 34) rfl fun M h => ?_
  refine ⟨by decide, ?_⟩
  unfold wX1_init
  refine s_upV (a := 33) (j := 2) h (by decide) fun M h => ?_
  rw [hasNx h]
  refine s_al h (n' := 35) rfl fun M h => ?_
  refine s_upA (a := 33) (j := 6) (b := 34) h (by decide) fun M h => ?_
  refine ⟨by unfold inb; decide +kernel, ?_⟩
  refine s_wrA (a := 3) (n0 := 6) (b := 33) h (by decide) (by decide) (by decide) fun M h => ?_
  refine LET_i ?_
  refine L120_s ?_
  refine BR_f (by decide +kernel) ?_
  rw [h.adr 0 3 3 (by decide) (by decide +kernel)]
  refine ⟨h.knd 3 (by decide) (by decide +kernel), ?_⟩
  refine ⟨by decide, ?_⟩
  rw [hasNx h]
  refine s_al h (n' := 36) rfl fun M h => ?_
  refine ⟨by decide, ?_⟩
  unfold wX1_init
  refine s_upV (a := 35) (j := 2) h (by decide) fun M h => ?_
  rw [hasNx h]
  refine s_al h (n' := 37) rfl fun M h => ?_
  refine s_upA (a := 35) (j := 6) (b := 36) h (by decide) fun M h => ?_
  refine ⟨by unfold inb; decide +kernel, ?_⟩
  refine s_wrA (a := 3) (n0 := 7) (b := 35) h (by decide) (by decide) (by decide) fun M h => ?_
  refine LET_i ?_
  refine L120_s ?_
  refine BR_f (by decide +kernel) ?_
  rw [h.adr 0 3 3 (by decide) (by decide +kernel)]
  refine ⟨h.knd 3 (by decide) (by decide +kernel), ?_⟩
  refine ⟨by decide, ?_⟩
  rw [hasNx h]
  refine s_al h (n' := 38) rfl fun M h => ?_
  refine ⟨by decide, ?_⟩
  unfold wX1_init
  refine s_upV (a := 37) (j := 2) h (by decide) fun M h => ?_
  rw [hasNx h]
  refine s_al h (n' := 39) rfl fun M h => ?_
  refine s_upA (a := 37) (j := 6) (b := 38) h (by decide) fun M h => ?_
  refine ⟨by unfold inb; decide +kernel, ?_⟩
  refine s_wrA (a := 3) (n0 := 8) (b := 37) h (by decide) (by decide) (by decide) fun M h => ?_
  refine LET_i ?_
  refine L120_s ?_
  refine BR_f (by decide +kernel) ?_
  rw [h.adr 0 3 3 (by decide) (by decide +kernel)]
  refine ⟨h.knd 3 (by decide) (by decide +kernel), ?_⟩
  refine ⟨by decide, ?_⟩
  rw [hasNx h]
  refine s_al h (n' := 40) rfl fun M h => ?_
  refine ⟨by decide, ?_⟩
  unfold wX1_init
  refine s_upV (a := 39) (j := 2) h (by decide) fun M h => ?_
  rw [hasNx h]
  refine s_al h (n' := 41) rfl fun M h => ?_
  refine s_upA (a := 39) (j := 6) (b := 40) h (by decide) fun M h => ?_
  refine ⟨by unfold inb; decide +kernel, ?_⟩
  refine s_wrA (a := 3) (n0 := 9) (b := 39) h (by decide) (by decide) (by decide) fun M h => ?_
  refine LET_i ?_
  refine L120_s ?_
  refine BR_t (by decide +kernel) ?_
  refine ⟨((((((((((0 + 1 + 1) + 1) + 1) + 1) + 1) + 1) + 1) + 1) + 1) + 1), ?_⟩
  refine L147_s ?_
  refine BR_f (by decide +kernel) ?_
  rw [h.adr 0 5 4 (by decide) (by decide +kernel)]
  refine ⟨h.knd 4 (by decide) (by decide +kernel), ?_⟩
  refine ⟨by decide, ?_⟩
  rw [hasNx h]
  refine s_al h (n' := 42) rfl fun M h => ?_
  refine ⟨by decide, ?_⟩
  unfold wX2_init
  refine ⟨by unfold inb; decide +kernel, ?_⟩
  refine s_wrA (a := 4) (n0 := 0) (b := 41) h (by decide) (by decide) (by decide) fun M h => ?_
  refine LET_i ?_
  refine L147_s ?_
  refine BR_f (by decide +kernel) ?_
  rw [h.adr 0 5 4 (by decide) (by decide +kernel)]
  refine ⟨h.knd 4 (by decide) (by decide +kernel), ?_⟩
  refine ⟨by decide, ?_⟩
  rw [hasNx h]
  refine s_al h (n' := 43) rfl fun M h => ?_
  refine ⟨by decide, ?_⟩
  unfold wX2_init
  refine ⟨by unfold inb; decide +kernel, ?_⟩
  refine s_wrA (a := 4) (n0 := 1) (b := 42) h (by decide) (by decide) (by decide) fun M h => ?_
  refine LET_i ?_
  refine L147_s ?_
  refine BR_f (by decide +kernel) ?_
  rw [h.adr 0 5 4 (by decide) (by decide +kernel)]
  refine ⟨h.knd 4 (by decide) (by decide +kernel), ?_⟩
  refine ⟨by decide, ?_⟩
  rw [hasNx h]
  refine s_al h (n' := 44) rfl fun M h => ?_
  refine ⟨by decide, ?_⟩
  unfold wX2_init
  refine ⟨by unfold inb; decide +kernel, ?_⟩
  refine s_wrA (a := 4) (n0 := 2) (b := 43) h (by decide) (by decide) (by decide) fun M h => ?_
  refine LET_i ?_
  refine L147_s ?_
  refine BR_f (by decide +kernel) ?_
  rw [h.adr 0 5 4 (by decide) (by decide +kernel)]
  refine ⟨h.knd 4 (by decide) (by decide +kernel), ?_⟩
  refine ⟨by decide, ?_⟩
  rw [hasNx h]
  refine s_al h (n' := 45) rfl fun M h => ?_
  refine ⟨by decide, ?_⟩
  unfold wX2_init
  refine ⟨by unfold inb; decide +kernel, ?_⟩
  refine s_wrA (a := 4) (n0 := 3) (b := 44) h (by decide) (by decide) (by decide) fun M h => ?_
  refine LET_i ?_
  refine L147_s ?_
  refine BR_f (by decide +kernel) ?_
  rw [h.adr 0 5 4 (by decide) (by decide +kernel)]
  refine ⟨h.knd 4 (by decide) (by decide +kernel), ?_⟩
  refine ⟨by decide, ?_⟩
  rw [hasNx h]
  refine s_al h (n' := 46) rfl fun M h => ?_
  refine ⟨by decide, ?_⟩
  unfold wX2_init
  refine ⟨by unfold inb; decide +kernel, ?_⟩
  refine s_wrA (a := 4) (n0 := 4) (b := 45) h (by decide) (by decide) (by decide) fun M h => ?_
  refine LET_i ?_
  refine L147_s ?_
  refine BR_f (by decide +kernel) ?_
  rw [h.adr 0 5 4 (by decide) (by decide +kernel)]
  refine ⟨h.knd 4 (by decide) (by decide +kernel), ?_⟩
  refine ⟨by decide, ?_⟩
  rw [hasNx h]
  refine s_al h (n' := 47) rfl fun M h => ?_
  refine ⟨by decide, ?_⟩
  unfold wX2_init
  refine ⟨by unfold inb; decide +kernel, ?_⟩
  refine s_wrA (a := 4) (n0 := 5) (b := 46) h (by decide) (by decide) (by decide) fun M h => ?_
  refine LET_i ?_
  refine L147_s ?_
  refine BR_f (by decide +kernel) ?_
  rw [h.adr 0 5 4 (by decide) (by decide +kernel)]
  refine ⟨h.knd 4 (by decide) (by decide +kernel), ?_⟩
  refine ⟨by decide, ?_⟩
  rw [hasNx h]
  refine s_al h (n' := 48) rfl fun M h => ?_
  refine ⟨by decide, ?_⟩
  unfold wX2_init
  refine ⟨by unfold inb; decide +kernel, ?_⟩
  refine s_wrA (a := 4) (n0 := 6) (b := 47) h (by decide) (by decide) (by decide) fun M h => ?_
  refine LET_i ?_
  refine L147_s ?_
  refine BR_f (by decide +kernel) ?_
  rw [h.adr 0 5 4 (by decide) (by decide +kernel)]
  refine ⟨h.knd 4 (by decide) (by decide +kernel), ?_⟩
  refine ⟨by decide, ?_⟩
  rw [hasNx h]
  refine s_al h (n' := 49) rfl fun M h => ?_
  refine ⟨by decide, ?_⟩
  unfold wX2_init
  refine ⟨by unfold inb; decide +kernel, ?_⟩
  refine s_wrA (a := 4) (n0 := 7) (b := 48) h (by decide) (by decide) (by decide) fun M h => ?_
  refine LET_i ?_
  refine L147_s ?_
  refine BR_f (by decide +kernel) ?_
  rw [h.adr 0 5 4 (by decide) (by decide +kernel)]
  refine ⟨h.knd 4 (by decide) (by decide +kernel), ?_⟩
  refine ⟨by decide, ?_⟩
  rw [hasNx h]
  refine s_al h (n' := 50) rfl fun M h => ?_
  refine ⟨by decide, ?_⟩
  unfold wX2_init
  refine ⟨by unfold inb; decide +kernel, ?_⟩
  refine s_wrA (a := 4) (n0 := 8) (b := 49) h (by decide) (by decide) (by decide) fun M h => ?_
  refine LET_i ?_
  refine L147_s ?_
  refine BR_f (by decide +kernel) ?_
  rw [h.adr 0 5 4 (by decide) (by decide +kernel)]
  refine ⟨h.knd 4 (by decide) (by decide +kernel), ?_⟩
  refine ⟨by decide, ?_⟩
  rw [hasNx h]
  refine s_al h (n' := 51) rfl fun M h => ?_
  refine ⟨by decide, ?_⟩
  unfold wX2_init
  refine ⟨by unfold inb; decide +kernel, ?_⟩
  refine s_wrA (a := 4) (n0 := 9) (b := 50) h (by decide) (by decide) (by decide) fun M h => ?_
  refine LET_i ?_
  refine L147_s ?_
  refine BR_t (by decide +kernel) ?_
  refine ⟨((((((((0 + 1 + 1) + 1) + 1) + 1) + 1) + 1) + 1) + 1), ?_⟩
  refine L174_s ?_
  refine BR_f (by decide +kernel) ?_
  rw [h.adr 0 9 6 (by decide) (by decide +kernel)]
  refine ⟨h.knd 6 (by decide) (by decide +kernel), ?_⟩
  refine ⟨by decide, ?_⟩
  rw [hasNx h]
  refine s_al h (n' := 52) rfl fun M h => ?_
  refine ⟨by decide, ?_⟩
  try unfold wX5_init
  rw [hasNx h]
  refine s_al h (n' := 53) rfl fun M h => ?_
  refine s_upA (a := 51) (j := 0) (b := 52) h (by decide) fun M h => ?_
  refine ⟨by unfold inb; decide +kernel, ?_⟩
  refine s_wrA (a := 6) (n0 := 0) (b := 51) h (by decide) (by decide) (by decide) fun M h => ?_
  rw [h.adr 0 10 7 (by decide) (by decide +kernel)]
  refine ⟨h.knd 7 (by decide) (by decide +kernel), ?_⟩
  refine ⟨by decide, ?_⟩
  rw [hasNx h]
  refine s_al h (n' := 54) rfl fun M h => ?_
  refine ⟨by decide, ?_⟩
  try unfold wX5_init
  rw [hasNx h]
  refine s_al h (n' := 55) rfl fun M h => ?_
  refine s_upA (a := 53) (j := 0) (b := 54) h (by decide) fun M h => ?_
  refine ⟨by unfold inb; decide +kernel, ?_⟩
  refine s_wrA (a := 7) (n0 := 0) (b := 53) h (by decide) (by decide) (by decide) fun M h => ?_
  refine LET_i ?_
  refine L174_s ?_
  refine BR_f (by decide +kernel) ?_
  rw [h.adr 0 9 6 (by decide) (by decide +kernel)]
  refine ⟨h.knd 6 (by decide) (by decide +kernel), ?_⟩
  refine ⟨by decide, ?_⟩
  rw [hasNx h]
  refine s_al h (n' := 56) rfl fun M h => ?_
  refine ⟨by decide, ?_⟩
  try unfold wX5_init
  rw [hasNx h]
  refine s_al h (n' := 57) rfl fun M h => ?_
  refine s_upA (a := 55) (j := 0) (b := 56) h (by decide) fun M h => ?_
  refine ⟨by unfold inb; decide +kernel, ?_⟩
  refine s_wrA (a := 6) (n0 := 1) (b := 55) h (by decide) (by decide) (by decide) fun M h => ?_
  rw [h.adr 0 10 7 (by decide) (by decide +kernel)]
  refine ⟨h.knd 7 (by decide) (by decide +kernel), ?_⟩
  refine ⟨by decide, ?_⟩
  rw [hasNx h]
  refine s_al h (n' := 58) rfl fun M h => ?_
  refine ⟨by decide, ?_⟩
  try unfold wX5_init
  rw [hasNx h]
  refine s_al h (n' := 59) rfl fun M h => ?_
  refine s_upA (a := 57) (j := 0) (b := 58) h (by decide) fun M h => ?_
  refine ⟨by unfold inb; decide +kernel, ?_⟩
  refine s_wrA (a := 7) (n0 := 1) (b := 57) h (by decide) (by decide) (by decide) fun M h => ?_
  refine LET_i ?_
  refine L174_s ?_
  refine BR_f (by decide +kernel) ?_
  rw [h.adr 0 9 6 (by decide) (by decide +kernel)]
  refine ⟨h.knd 6 (by decide) (by decide +kernel), ?_⟩
  refine ⟨by decide, ?_⟩
  rw [hasNx h]
  refine s_al h (n' := 60) rfl fun M h => ?_
  refine ⟨by decide, ?_⟩
  try unfold wX5_init
  rw [hasNx h]
  refine s_al h (n' := 61) rfl fun M h => ?_
  refine s_upA (a := 59) (j := 0) (b := 60) h (by decide) fun M h => ?_
  refine ⟨by unfold inb; decide +kernel, ?_⟩
  refine s_wrA (a := 6) (n0 := 2) (b := 59) h (by decide) (by decide) (by decide) fun M h => ?_
  rw [h.adr 0 10 7 (by decide) (by decide +kernel)]
  refine ⟨h.knd 7 (by decide) (by decide +kernel), ?_⟩
  refine ⟨by decide, ?_⟩
  rw [hasNx h]
  refine s_al h (n' := 62) rfl fun M h => ?_
  refine ⟨by decide, ?_⟩
  try unfold wX5_init
  rw [hasNx h]
  refine s_al h (n' := 63) rfl fun M h => ?_
  refine s_upA (a := 61) (j := 0) (b := 62) h (by decide) fun M h => ?_
  refine ⟨by unfold inb; decide +kernel, ?_⟩
  refine s_wrA (a := 7) (n0 := 2) (b := 61) h (by decide) (by decide) (by decide) fun M h => ?_
  refine LET_i ?_
  refine L174_s ?_
  refine BR_f (by decide +kernel) ?_
  rw [h.adr 0 9 6 (by decide) (by decide +kernel)]
  refine ⟨h.knd 6 (by decide) (by decide +kernel), ?_⟩
  refine ⟨by decide, ?_⟩
  rw [hasNx h]
  refine s_al h (n' := 64) rfl fun M h => ?_
  refine ⟨by decide, ?_⟩
  try unfold wX5_init
  rw [hasNx h]
  refine s_al h (n' := 65) rfl fun M h => ?_
  refine s_upA (a := 63) (j := 0) (b := 64) h (by decide) fun M h => ?_
  refine ⟨by unfold inb; decide +kernel, ?_⟩
  refine s_wrA (a := 6) (n0 := 3) (b := 63) h (by decide) (by decide) (by decide) fun M h => ?_
  rw [h.adr 0 10 7 (by decide) (by decide +kernel)]
  refine ⟨h.knd 7 (by decide) (by decide +kernel), ?_⟩
  refine ⟨by decide, ?_⟩
  rw [hasNx h]
  refine s_al h (n' := 66) rfl fun M h => ?_
  refine ⟨by decide, ?_⟩
  try unfold wX5_init
  rw [hasNx h]
  refine s_al h (n' := 67) rfl fun M h => ?_
  refine s_upA (a := 65) (j := 0) (b := 66) h (by decide) fun M h => ?_
  refine ⟨by unfold inb; decide +kernel, ?_⟩
  refine s_wrA (a := 7) (n0 := 3) (b := 65) h (by decide) (by decide) (by decide) fun M h => ?_
  refine LET_i ?_
  refine L174_s ?_
  refine BR_f (by decide +kernel) ?_
  rw [h.adr 0 9 6 (by decide) (by decide +kernel)]
  refine ⟨h.knd 6 (by decide) (by decide +kernel), ?_⟩
  refine ⟨by decide, ?_⟩
  rw [hasNx h]
  refine s_al h (n' := 68) rfl fun M h => ?_
  refine ⟨by decide, ?_⟩
  try unfold wX5_init
  rw [hasNx h]
  refine s_al h (n' := 69) rfl fun M h => ?_
  refine s_upA (a := 67) (j := 0) (b := 68) h (by decide) fun M h => ?_
  refine ⟨by unfold inb; decide +kernel, ?_⟩
  refine s_wrA (a := 6) (n0 := 4) (b := 67) h (by decide) (by decide) (by decide) fun M h => ?_
  rw [h.adr 0 10 7 (by decide) (by decide +kernel)]
  refine ⟨h.knd 7 (by decide) (by decide +kernel), ?_⟩
  refine ⟨by decide, ?_⟩
  rw [hasNx h]
  refine s_al h (n' := 70) rfl fun M h => ?_
  refine ⟨by decide, ?_⟩
  try unfold wX5_init
  rw [hasNx h]
  refine s_al h (n' := 71) rfl fun M h => ?_
  refine s_upA (a := 69) (j := 0) (b := 70) h (by decide) fun M h => ?_
  refine ⟨by unfold inb; decide +kernel, ?_⟩
  refine s_wrA (a := 7) (n0 := 4) (b := 69) h (by decide) (by decide) (by decide) fun M h => ?_
  refine LET_i ?_
  refine L174_s ?_
  refine BR_f (by decide +kernel) ?_
  rw [h.adr 0 9 6 (by decide) (by decide +kernel)]
  refine ⟨h.knd 6 (by decide) (by decide +kernel), ?_⟩
  refine ⟨by decide, ?_⟩
  rw [hasNx h]
  refine s_al h (n' := 72) rfl fun M h => ?_
  refine ⟨by decide, ?_⟩
  try unfold wX5_init
  rw [hasNx h]
  refine s_al h (n' := 73) rfl fun M h => ?_
  refine s_upA (a := 71) (j := 0) (b := 72) h (by decide) fun M h => ?_
  refine ⟨by unfold inb; decide +kernel, ?_⟩
  refine s_wrA (a := 6) (n0 := 5) (b := 71) h (by decide) (by decide) (by decide) fun M h => ?_
  rw [h.adr 0 10 7 (by decide) (by decide +kernel)]
  refine ⟨h.knd 7 (by decide) (by decide +kernel), ?_⟩
  refine ⟨by decide, ?_⟩
  rw [hasNx h]
  refine s_al h (n' := 74) rfl fun M h => ?_
  refine ⟨by decide, ?_⟩
  try unfold wX5_init
  rw [hasNx h]
  refine s_al h (n' := 75) rfl fun M h => ?_
  refine s_upA (a := 73) (j := 0) (b := 74) h (by decide) fun M h => ?_
  refine ⟨by unfold inb; decide +kernel, ?_⟩
  refine s_wrA (a := 7) (n0 := 5) (b := 73) h (by decide) (by decide) (by decide) fun M h => ?_
  refine LET_i ?_
  refine L174_s ?_
  refine BR_f (by decide +kernel) ?_
  rw [h.adr 0 9 6 (by decide) (by decide +kernel)]
  refine ⟨h.knd 6 (by decide) (by decide +kernel), ?_⟩
  refine ⟨by decide, ?_⟩
  rw [hasNx h]
  refine s_al h (n' := 76) rfl fun M h => ?_
  refine ⟨by decide, ?_⟩
  try unfold wX5_init
  rw [hasNx h]
  refine s_al h (n' := 77) rfl fun M h => ?_
  refine s_upA (a := 75) (j := 0) (b := 76) h (by decide) fun M h => ?_
  refine ⟨by unfold inb; decide +kernel, ?_⟩
  refine s_wrA (a := 6) (n0 := 6) (b := 75) h (by decide) (by decide) (by decide) fun M h => ?_
  rw [h.adr 0 10 7 (by decide) (by decide +kernel)]
  refine ⟨h.knd 7 (by decide) (by decide +kernel), ?_⟩
  refine ⟨by decide, ?_⟩
  rw [hasNx h]
  refine s_al h (n' := 78) rfl fun M h => ?_
  refine ⟨by decide, ?_⟩
  try unfold wX5_init
  rw [hasNx h]
  refine s_al h (n' := 79) rfl fun M h => ?_
  refine s_upA (a := 77) (j := 0) (b := 78) h (by decide) fun M h => ?_
  refine ⟨by unfold inb; decide +kernel, ?_⟩
  refine s_wrA (a := 7) (n0 := 6) (b := 77) h (by decide) (by decide) (by decide) fun M h => ?_
  refine LET_i ?_
  refine L174_s ?_
  refine BR_f (by decide +kernel) ?_
  rw [h.adr 0 9 6 (by decide) (by decide +kernel)]
  refine ⟨h.knd 6 (by decide) (by decide +kernel), ?_⟩
  refine ⟨by decide, ?_⟩
  rw [hasNx h]
  refine s_al h (n' := 80) rfl fun M h => ?_
  refine ⟨by decide, ?_⟩
  try unfold wX5_init
  rw [hasNx h]
  refine s_al h (n' := 81) rfl fun M h => ?_
  refine s_upA (a := 79) (j := 0) (b := 80) h (by decide) fun M h => ?_
  refine ⟨by unfold inb; decide +kernel, ?_⟩
  refine s_wrA (a := 6) (n0 := 7) (b := 79) h (by decide) (by decide) (by decide) fun M h => ?_
  rw [h.adr 0 10 7 (by decide) (by decide +kernel)]
  refine ⟨h.knd 7 (by decide) (by decide +kernel), ?_⟩
  refine ⟨by decide, ?_⟩
  rw [hasNx h]
  refine s_al h (n' := 82) rfl fun M h => ?_
  refine ⟨by decide, ?_⟩
  try unfold wX5_init
  rw [hasNx h]
  refine s_al h (n' := 83) rfl fun M h => ?_
  refine s_upA (a := 81) (j := 0) (b := 82) h (by decide) fun M h => ?_
  refine ⟨by unfold inb; decide +kernel, ?_⟩
  refine s_wrA (a := 7) (n0 := 7) (b := 81) h (by decide) (by decide) (by decide) fun M h => ?_
  refine LET_i ?_
  refine L174_s ?_
  refine BR_t (by decide +kernel) ?_
  refine ⟨by decide, ?_⟩
  exact hQ _ h
def ini11Ks : List (Nat × Int) := [(123, kA 0 24), (122, kO 8), (121, kA 0 24), (120, kO 8), (119, kA 0 24), (118, kO 8), (117, kA 0 24), (116, kO 8), (115, kA 3 80), (114, kA 0 30), (113, kO 9), (112, kA 1 50), (111, kA 0 50), (110, kO 4), (109, kA 0 12), (108, kA 0 12), (107, kO 7), (106, kA 0 12), (105, kA 0 12), (104, kO 5), (103, kA 0 12), (102, kO 6), (101, kA 0 50), (100, kA 0 5), (99, kA 0 130), (98, kA 0 104), (97, kA 0 13), (96, kA 0 13), (95, kA 0 13), (94, kA 0 13), (93, kA 0 13), (92, kA 0 12), (91, kA 0 12), (90, kO 10), (89, kA 0 12), (88, kO 5), (87, kA 0 12), (86, kO 5), (85, kA 0 7), (84, kA 9 4), (83, kA 0 12), (82, kO 5), (81, kA 0 12), (80, kO 5), (79, kA 0 12), (78, kO 5), (77, kA 0 12), (76, kO 5), (75, kA 0 12), (74, kO 5), (73, kA 0 12), (72, kO 5), (71, kA 0 12), (70, kO 5), (69, kA 0 12), (68, kO 5), (67, kA 0 12), (66, kO 5), (65, kA 0 12), (64, kO 5), (63, kA 0 12), (62, kO 5), (61, kA 0 12), (60, kO 5), (59, kA 0 12), (58, kO 5), (57, kA 0 12), (56, kO 5), (55, kA 0 12), (54, kO 5), (53, kA 0 12), (52, kO 5), (51, kO 2), (50, kO 2), (49, kO 2), (48, kO 2), (47, kO 2), (46, kO 2), (45, kO 2), (44, kO 2), (43, kO 2), (42, kO 2), (41, kA 0 50), (40, kO 1), (39, kA 0 50), (38, kO 1), (37, kA 0 50), (36, kO 1), (35, kA 0 50), (34, kO 1), (33, kA 0 50), (32, kO 1), (31, kA 0 50), (30, kO 1), (29, kA 0 50), (28, kO 1), (27, kA 0 50), (26, kO 1), (25, kA 0 50), (24, kO 1), (23, kA 0 50), (22, kO 1), (21, kO 3), (20, kO 3), (19, kO 3), (18, kO 3), (17, kO 3), (16, kO 3), (15, kO 3), (14, kO 3), (13, kO 3), (12, kO 3), (11, kO 3), (10, kO 3), (9, kA 0 12), (8, kA 8 8), (7, kA 7 8), (6, kA 1 50), (5, kA 6 10), (4, kA 5 10), (3, kA 0 4), (2, kA 4 12), (1, kO 0), (0, kO 11)]
def ini11Fs : List (Nat × Nat × Bool × Int) := [(84, 3, true, 122), (122, 0, true, 123), (84, 2, true, 120), (120, 0, true, 121), (84, 1, true, 118), (118, 0, true, 119), (84, 0, true, 116), (116, 0, true, 117), (0, 12, true, 115), (0, 11, true, 113), (113, 0, true, 114), (0, 10, true, 110), (110, 4, false, 5), (110, 2, true, 112), (110, 0, true, 111), (0, 9, true, 107), (107, 0, true, 1), (107, 7, false, 0), (107, 6, true, 109), (107, 5, true, 108), (0, 8, true, 102), (102, 1, true, 90), (102, 0, true, 1), (102, 13, false, 0), (102, 12, true, 106), (102, 11, true, 104), (104, 0, true, 105), (102, 2, true, 103), (0, 7, true, 90), (90, 0, true, 1), (90, 14, true, 101), (90, 13, true, 100), (90, 12, true, 99), (90, 11, true, 98), (90, 10, true, 97), (90, 9, true, 96), (90, 8, true, 95), (90, 7, true, 94), (90, 6, true, 93), (90, 5, true, 92), (90, 4, true, 91), (0, 6, true, 88), (88, 0, true, 89), (0, 5, true, 86), (86, 0, true, 87), (0, 4, true, 85), (0, 3, true, 84), (0, 2, false, 0), (0, 1, false, 0), (0, 0, true, 1), (8, 7, true, 82), (82, 0, true, 83), (7, 7, true, 80), (80, 0, true, 81), (8, 6, true, 78), (78, 0, true, 79), (7, 6, true, 76), (76, 0, true, 77), (8, 5, true, 74), (74, 0, true, 75), (7, 5, true, 72), (72, 0, true, 73), (8, 4, true, 70), (70, 0, true, 71), (7, 4, true, 68), (68, 0, true, 69), (8, 3, true, 66), (66, 0, true, 67), (7, 3, true, 64), (64, 0, true, 65), (8, 2, true, 62), (62, 0, true, 63), (7, 2, true, 60), (60, 0, true, 61), (8, 1, true, 58), (58, 0, true, 59), (7, 1, true, 56), (56, 0, true, 57), (8, 0, true, 54), (54, 0, true, 55), (7, 0, true, 52), (52, 0, true, 53), (5, 9, true, 51), (5, 8, true, 50), (5, 7, true, 49), (5, 6, true, 48), (5, 5, true, 47), (5, 4, true, 46), (5, 3, true, 45), (5, 2, true, 44), (5, 1, true, 43), (5, 0, true, 42), (4, 9, true, 40), (40, 6, true, 41), (40, 2, false, 1), (4, 8, true, 38), (38, 6, true, 39), (38, 2, false, 1), (4, 7, true, 36), (36, 6, true, 37), (36, 2, false, 1), (4, 6, true, 34), (34, 6, true, 35), (34, 2, false, 1), (4, 5, true, 32), (32, 6, true, 33), (32, 2, false, 1), (4, 4, true, 30), (30, 6, true, 31), (30, 2, false, 1), (4, 3, true, 28), (28, 6, true, 29), (28, 2, false, 1), (4, 2, true, 26), (26, 6, true, 27), (26, 2, false, 1), (4, 1, true, 24), (24, 6, true, 25), (24, 2, false, 1), (4, 0, true, 22), (22, 6, true, 23), (22, 2, false, 1), (2, 11, true, 21), (2, 10, true, 20), (2, 9, true, 19), (2, 8, true, 18), (2, 7, true, 17), (2, 6, true, 16), (2, 5, true, 15), (2, 4, true, 14), (2, 3, true, 13), (2, 2, true, 12), (2, 1, true, 11), (2, 0, true, 10), (1, 12, true, 9), (1, 10, true, 8), (1, 9, true, 7), (1, 7, true, 6), (1, 5, true, 5), (1, 3, true, 4), (1, 2, true, 3), (3, 3, false, 999), (3, 2, false, 20), (3, 1, false, 1), (3, 0, false, 1), (1, 0, true, 2)]
theorem ini11_s {K : Nat} {M0 M : Mem} {Q : Mem → Prop} (h : Has K 1 M0 M [(0, kO 11)] []) (hQ : ∀ M', Has K 124 M0 M' ini11Ks ini11Fs → Q M') : wX11_init (K + 0) M Q := by
  unfold wX11_init
  rw [hasNx h]
  refine s_al h (n' := 2) rfl fun M h => ?_
  unfold wX0_init
  rw [hasNx h]
  refine s_al h (n' := 3) rfl fun M h => ?_
  refine s_upA (a := 1) (j := 0) (b := 2) h (by decide) fun M h => ?_
  rw [hasNx h]
  refine s_al h (n' := 4) rfl fun M h => ?_
  refine s_wr (a := 3) (i := 0) (n0 := 0) h (by decide) rfl (by decide) fun M h => ?_
  refine s_wr (a := 3) (i := 1) (n0 := 1) h (by decide) rfl (by decide) fun M h => ?_
  refine s_wr (a := 3) (i := 2) (n0 := 2) h (by decide) rfl (by decide) fun M h => ?_
  refine s_wr (a := 3) (i := 3) (n0 := 3) h (by decide) rfl (by decide) fun M h => ?_
  refine s_upA (a := 1) (j := 2) (b := 3) h (by decide) fun M h => ?_
  rw [hasNx h]
  refine s_al h (n' := 5) rfl fun M h => ?_
  refine s_upA (a := 1) (j := 3) (b := 4) h (by decide) fun M h => ?_
  rw [hasNx h]
  refine s_al h (n' := 6) rfl fun M h => ?_
  refine s_upA (a := 1) (j := 5) (b := 5) h (by decide) fun M h => ?_
  rw [hasNx h]
  refine s_al h (n' := 7) rfl fun M h => ?_
  refine s_upA (a := 1) (j := 7) (b := 6) h (by decide) fun M h => ?_
  rw [hasNx h]
  refine s_al h (n' := 8) rfl fun M h => ?_
  refine s_upA (a := 1) (j := 9) (b := 7) h (by decide) fun M h => ?_
  rw [hasNx h]
  refine s_al h (n' := 9) rfl fun M h => ?_
  refine s_upA (a := 1) (j := 10) (b := 8) h (by decide) fun M h => ?_
  rw [hasNx h]
  refine s_al h (n' := 10) rfl fun M h => ?_
  refine s_upA (a := 1) (j := 12) (b := 9) h (by decide) fun M h => ?_
  refine ⟨((((((((((((0 + 1 + 1) + 1) + 1) + 1) + 1) + 1) + 1) + 1) + 1) + 1) + 1) + 1), ?_⟩
  refine L93_s ?_
  refine BR_f (by decide +kernel) ?_
  rw [h.adr 1 0 2 (by decide) (by decide +kernel)]
  refine ⟨h.knd 2 (by decide) (by decide +kernel), ?_⟩
  refine ⟨by decide, ?_⟩
  rw [hasNx h]
  refine s_al h (n' := 11) rfl fun M h => ?_
  refine ⟨by decide, ?_⟩
  unfold wX3_init
  refine ⟨by unfold inb; decide +kernel, ?_⟩
  refine s_wrA (a := 2) (n0 := 0) (b := 10) h (by decide) (by decide) (by decide) fun M h => ?_
  refine LET_i ?_
  refine L93_s ?_
  refine BR_f (by decide +kernel) ?_
  rw [h.adr 1 0 2 (by decide) (by decide +kernel)]
  refine ⟨h.knd 2 (by decide) (by decide +kernel), ?_⟩
  refine ⟨by decide, ?_⟩
  rw [hasNx h]
  refine s_al h (n' := 12) rfl fun M h => ?_
  refine ⟨by decide, ?_⟩
  unfold wX3_init
  refine ⟨by unfold inb; decide +kernel, ?_⟩
  refine s_wrA (a := 2) (n0 := 1) (b := 11) h (by decide) (by decide) (by decide) fun M h => ?_
  refine LET_i ?_
  refine L93_s ?_
  refine BR_f (by decide +kernel) ?_
  rw [h.adr 1 0 2 (by decide) (by decide +kernel)]
  refine ⟨h.knd 2 (by decide) (by decide +kernel), ?_⟩
  refine ⟨by decide, ?_⟩
  rw [hasNx h]
  refine s_al h (n' := 13) rfl fun M h => ?_
  refine ⟨by decide, ?_⟩
  unfold wX3_init
  refine ⟨by unfold inb; decide +kernel, ?_⟩
  refine s_wrA (a := 2) (n0 := 2) (b := 12) h (by decide) (by decide) (by decide) fun M h => ?_
  refine LET_i ?_
  refine L93_s ?_
  refine BR_f (by decide +kernel) ?_
  rw [h.adr 1 0 2 (by decide) (by decide +kernel)]
  refine ⟨h.knd 2 (by decide) (by decide +kernel), ?_⟩
  refine ⟨by decide, ?_⟩
  rw [hasNx h]
  refine s_al h (n' := 14) rfl fun M h => ?_
  refine ⟨by decide, ?_⟩
  unfold wX3_init
  refine ⟨by unfold inb; decide +kernel, ?_⟩
  refine s_wrA (a := 2) (n0 := 3) (b := 13) h (by decide) (by decide) (by decide) fun M h => ?_
  refine LET_i ?_
  refine L93_s ?_
  refine BR_f (by decide +kernel) ?_
  rw [h.adr 1 0 2 (by decide) (by decide +kernel)]
  refine ⟨h.knd 2 (by decide) (by decide +kernel), ?_⟩
  refine ⟨by decide, ?_⟩
  rw [hasNx h]
  refine s_al h (n' := 15) rfl fun M h => ?_
  refine ⟨by decide, ?_⟩
  unfold wX3_init
  refine ⟨by unfold inb; decide +kernel, ?_⟩
  refine s_wrA (a := 2) (n0 := 4) (b := 14) h (by decide) (by decide) (by decide) fun M h => ?_
  refine LET_i ?_
  refine L93_s ?_
  refine BR_f (by decide +kernel) ?_
  rw [h.adr 1 0 2 (by decide) (by decide +kernel)]
  refine ⟨h.knd 2 (by decide) (by decide +kernel), ?_⟩
  refine ⟨by decide, ?_⟩
  rw [hasNx h]
  refine s_al h (n' := 16) rfl fun M h => ?_
  refine ⟨by decide, ?_⟩
  unfold wX3_init
  refine ⟨by unfold inb; decide +kernel, ?_⟩
  refine s_wrA (a := 2) (n0 := 5) (b := 15) h (by decide) (by decide) (by decide) fun M h => ?_
  refine LET_i ?_
  refine L93_s ?_
  refine BR_f (by decide +kernel) ?_
  rw [h.adr 1 0 2 (by decide) (by decide +kernel)]
  refine ⟨h.knd 2 (by decide) (by decide +kernel), ?_⟩
  refine ⟨by decide, ?_⟩
  rw [hasNx h]
  refine s_al h (n' := 17) rfl fun M h => ?_
  refine ⟨by decide, ?_⟩
  unfold wX3_init
  refine ⟨by unfold inb; decide +kernel, ?_⟩
  refine s_wrA (a := 2) (n0 := 6) (b := 16) h (by decide) (by decide) (by decide) fun M h => ?_
  refine LET_i ?_
  refine L93_s ?_
  refine BR_f (by decide +kernel) ?_
  rw [h.adr 1 0 2 (by decide) (by decide +kernel)]
  refine ⟨h.knd 2 (by decide) (by decide +kernel), ?_⟩
  refine ⟨by decide, ?_⟩
  rw [hasNx h]
  refine s_al h (n' := 18) rfl fun M h => ?_
  refine ⟨by decide, ?_⟩
  unfold wX3_init
  refine ⟨by unfold inb; decide +kernel, ?_⟩
  refine s_wrA (a := 2) (n0 := 7) (b := 17) h (by decide) (by decide) (by decide) fun M h => ?_
  refine LET_i ?_
  refine L93_s ?_
  refine BR_f (by decide +kernel) ?_
  rw [h.adr 1 0 2 (by decide) (by decide +kernel)]
  refine ⟨h.knd 2 (by decide) (by decide +kernel), ?_⟩
  refine ⟨by decide, ?_⟩
  rw [hasNx h]
  refine s_al h (n' := 19) rfl fun M h => ?_
  refine ⟨by decide, ?_⟩
  unfold wX3_init
  refine ⟨by unfold inb; decide +kernel, ?_⟩
  refine s_wrA (a := 2) (n0 := 8) (b := 18) h (by decide) (by decide) (by decide) fun M h => ?_
  refine LET_i ?_
  refine L93_s ?_
  refine BR_f (by decide +kernel) ?_
  rw [h.adr 1 0 2 (by decide) (by decide +kernel)]
  refine ⟨h.knd 2 (by decide) (by decide +kernel), ?_⟩
  refine ⟨by decide, ?_⟩
  rw [hasNx h]
  refine s_al h (n' := 20) rfl fun M h => ?_
  refine ⟨by decide, ?_⟩
  unfold wX3_init
  refine ⟨by unfold inb; decide +kernel, ?_⟩
  refine s_wrA (a := 2) (n0 := 9) (b := 19) h (by decide) (by decide) (by decide) fun M h => ?_
  refine LET_i ?_
  refine L93_s ?_
  refine BR_f (by decide +kernel) ?_
  rw [h.adr 1 0 2 (by decide) (by decide +kernel)]
  refine ⟨h.knd 2 (by decide) (by decide +kernel), ?_⟩
  refine ⟨by decide, ?_⟩
  rw [hasNx h]
  refine s_al h (n' := 21) rfl fun M h => ?_
  refine ⟨by decide, ?_⟩
  unfold wX3_init
  refine ⟨by unfold inb; decide +kernel, ?_⟩
  refine s_wrA (a := 2) (n0 := 10) (b := 20) h (by decide) (by decide) (by decide) fun M h => ?_
  refine LET_i ?_
  refine L93_s ?_
  refine BR_f (by decide +kernel) ?_
  rw [h.adr 1 0 2 (by decide) (by decide +kernel)]
  refine ⟨h.knd 2 (by decide) (by decide +kernel), ?_⟩
  refine ⟨by decide, ?_⟩
  rw [hasNx h]
  refine s_al h (n' := 22) rfl fun M h => ?_
  refine ⟨by decide, ?_⟩
  unfold wX3_init
  refine ⟨by unfold inb; decide +kernel, ?_⟩
  refine s_wrA (a := 2) (n0 := 11) (b := 21) h (by decide) (by decide) (by decide) fun M h => ?_
  refine LET_i ?_
  refine L93_s ?_
  refine BR_t (by decide +kernel) ?_
  refine ⟨((((((((((0 + 1 + 1) + 1) + 1) + 1) + 1) + 1) + 1) + 1) + 1) + 1), ?_⟩
  refine L120_s ?_
  refine BR_f (by decide +kernel) ?_
  rw [h.adr 1 3 4 (by decide) (by decide +kernel)]
  refine ⟨h.knd 4 (by decide) (by decide +kernel), ?_⟩
  refine ⟨by decide, ?_⟩
  rw [hasNx h]
  refine s_al h (n' := 23) rfl fun M h => ?_
  refine ⟨by decide, ?_⟩
  unfold wX1_init
  refine s_upV (a := 22) (j := 2) h (by decide) fun M h => ?_
  rw [hasNx h]
  refine s_al h (n' := 24) rfl fun M h => ?_
  refine s_upA (a := 22) (j := 6) (b := 23) h (by decide) fun M h => ?_
  refine ⟨by unfold inb; decide +kernel, ?_⟩
  refine s_wrA (a := 4) (n0 := 0) (b := 22) h (by decide) (by decide) (by decide) fun M h => ?_
  refine LET_i ?_
  refine L120_s ?_
  refine BR_f (by decide +kernel) ?_
  rw [h.adr 1 3 4 (by decide) (by decide +kernel)]
  refine ⟨h.knd 4 (by decide) (by decide +kernel), ?_⟩
  refine ⟨by decide, ?_⟩
  rw [hasNx h]
  refine s_al h (n' := 25) rfl fun M h => ?_
  refine ⟨by decide, ?_⟩
  unfold wX1_init
  refine s_upV (a := 24) (j := 2) h (by decide) fun M h => ?_
  rw [hasNx h]
  refine s_al h (n' := 26) rfl fun M h => ?_
  refine s_upA (a := 24) (j := 6) (b := 25) h (by decide) fun M h => ?_
  refine ⟨by unfold inb; decide +kernel, ?_⟩
  refine s_wrA (a := 4) (n0 := 1) (b := 24) h (by decide) (by decide) (by decide) fun M h => ?_
  refine LET_i ?_
  refine L120_s ?_
  refine BR_f (by decide +kernel) ?_
  rw [h.adr 1 3 4 (by decide) (by decide +kernel)]
  refine ⟨h.knd 4 (by decide) (by decide +kernel), ?_⟩
  refine ⟨by decide, ?_⟩
  rw [hasNx h]
  refine s_al h (n' := 27) rfl fun M h => ?_
  refine ⟨by decide, ?_⟩
  unfold wX1_init
  refine s_upV (a := 26) (j := 2) h (by decide) fun M h => ?_
  rw [hasNx h]
  refine s_al h (n' := 28) rfl fun M h => ?_
  refine s_upA (a := 26) (j := 6) (b := 27) h (by decide) fun M h => ?_
  refine ⟨by unfold inb; decide +kernel, ?_⟩
  refine s_wrA (a := 4) (n0 := 2) (b := 26) h (by decide) (by decide) (by decide) fun M h => ?_
  refine LET_i ?_
  refine L120_s ?_
  refine BR_f (by decide +kernel) ?_
  rw [h.adr 1 3 4 (by decide) (by decide +kernel)]
  refine ⟨h.knd 4 (by decide) (by decide +kernel), ?_⟩
  refine ⟨by decide, ?_⟩
  rw [hasNx h]
  refine s_al h (n' := 29) rfl fun M h => ?_
  refine ⟨by decide, ?_⟩
  unfold wX1_init
  refine s_upV (a := 28) (j := 2) h (by decide) fun M h => ?_
  rw [hasNx h]
  refine s_al h (n' := 30) rfl fun M h => ?_
  refine s_upA (a := 28) (j := 6) (b := 29) h (by decide) fun M h => ?_
  refine ⟨by unfold inb; decide +kernel, ?_⟩
  refine s_wrA (a := 4) (n0 := 3) (b := 28) h (by decide) (by decide) (by decide) fun M h => ?_
  refine LET_i ?_
  refine L120_s ?_
  refine BR_f (by decide +kernel) ?_
  rw [h.adr 1 3 4 (by decide) (by decide +kernel)]
  refine ⟨h.knd 4 (by decide) (by decide +kernel), ?_⟩
  refine ⟨by decide, ?_⟩
  rw [hasNx h]
  refine s_al h (n' := 31) rfl fun M h => ?_
  refine ⟨by decide, ?_⟩
  unfold wX1_init
  refine s_upV (a := 30) (j := 2) h (by decide) fun M h => ?_
  rw [hasNx h]
  refine s_al h (n' := 32) rfl fun M h => ?_
  refine s_upA (a := 30) (j := 6) (b := 31) h (by decide) fun M h => ?_
  refine ⟨by unfold inb; decide +kernel, ?_⟩
  refine s_wrA (a := 4) (n0 := 4) (b := 30) h (by decide) (by decide) (by decide) fun M h => ?_
  refine LET_i ?_
  refine L120_s ?_
  refine BR_f (by decide +kernel) ?_
  rw [h.adr 1 3 4 (by decide) (by decide +kernel)]
  refine ⟨h.knd 4 (by decide) (by decide +kernel), ?_⟩
  refine ⟨by decide, ?_⟩
  rw [hasNx h]
  refine s_al h (n' := 33) rfl fun M h => ?_
  refine ⟨by decide, ?_⟩
  unfold wX1_init
  refine s_upV (a := 32) (j := 2) h (by decide) fun M h => ?_
  rw [hasNx h]
  refine s_al h (n' := 34) rfl fun M h => ?_
  refine s_upA (a := 32) (j := 6) (b := 33) h (by decide) fun M h => ?_
  refine ⟨by unfold inb; decide +kernel, ?_⟩
  refine s_wrA (a := 4) (n0 := 5) (b := 32) h (by decide) (by decide) (by decide) fun M h => ?_
  refine LET_i ?_
  refine L120_s ?_
  refine BR_f (by decide +kernel) ?_
  rw [h.adr 1 3 4 (by decide) (by decide +kernel)]
  refine ⟨h.knd 4 (by decide) (by decide +kernel), ?_⟩
  refine ⟨by decide, ?_⟩
  rw [hasNx h]
  refine s_al h (n' := 35) rfl fun M h => ?_
  refine ⟨by decide, ?_⟩
  unfold wX1_init
  refine s_upV (a := 34) (j := 2) h (by decide) fun M h => ?_
  rw [hasNx h]
  refine s_al h (n' := 36) rfl fun M h => ?_
  refine s_upA (a := 34) (j := 6) (b := 35) h (by decide) fun M h => ?_
  refine ⟨by unfold inb; decide +kernel, ?_⟩
  refine s_wrA (a := 4) (n0 := 6) (b := 34) h (by decide) (by decide) (by decide) fun M h => ?_
  refine LET_i ?_
  refine L120_s ?_
  refine BR_f (by decide +kernel) ?_
  rw [h.adr 1 3 4 (by decide) (by decide +kernel)]
  refine ⟨h.knd 4 (by decide) (by decide +kernel), ?_⟩
  refine ⟨by decide, ?_⟩
  rw [hasNx h]
  refine s_al h (n' := 37) rfl fun M h => ?_
  refine ⟨by decide, ?_⟩
  unfold wX1_init
  refine s_upV (a := 36) (j := 2) h (by decide) fun M h => ?_
  rw [hasNx h]
  refine s_al h (n' := 38) rfl fun M h => ?_
  refine s_upA (a := 36) (j := 6) (b := 37) h (by decide) fun M h => ?_
  refine ⟨by unfold inb; decide +kernel, ?_⟩
  refine s_wrA (a := 4) (n0 := 7) (b := 36) h (by decide) (by decide) (by decide) fun M h => ?_
  refine LET_i ?_
  refine L120_s ?_
  refine BR_f (by decide +kernel) ?_
  rw [h.adr 1 3 4 (by decide) (by decide +kernel)]
  refine ⟨h.knd 4 (by decide) (by decide +kernel), ?_⟩
  refine ⟨by decide, ?_⟩
  rw [hasNx h]
  refine s_al h (n' := 39) rfl fun M h => ?_
  refine ⟨by decide, ?_⟩
  unfold wX1_init
  refine s_upV (a := 38) (j := 2) h (by decide) fun M h => ?_
  rw [hasNx h]
  refine s_al h (n' := 40) rfl fun M h => ?_
  refine s_upA (a := 38) (j := 6) (b := 39) h (by decide) fun M h => ?_
  refine ⟨by unfold inb; decide +kernel, ?_⟩
  refine s_wrA (a := 4) (n0 := 8) (b := 38) h (by decide) (by decide) (by decide) fun M h => ?_
  refine LET_i ?_
  refine L120_s ?_
  refine BR_f (by decide +kernel) ?_
  rw [h.adr 1 3 4 (by decide) (by decide +kernel)]
  refine ⟨h.knd 4 (by decide) (by decide +kernel), ?_⟩
  refine ⟨by decide, ?_⟩
  rw [hasNx h]
  refine s_al h (n' := 41) rfl fun M h => ?_
  refine ⟨by decide, ?_⟩
  unfold wX1_init
  refine s_upV (a := 40) (j := 2) h (by decide) fun M h => ?_
  rw [hasNx h]
  refine s_al h (n' := 42) rfl fun M h => ?_
  refine s_upA (a := 40) (j := 6) (b := 41) h (by decide) fun M h => ?_
  refine ⟨by unfold inb; decide +kernel, ?_⟩
  refine s_wrA (a := 4) (n0 := 9) (b := 40) h (by decide) (by decide) (by decide) fun M h => ?_
  refine LET_i ?_
  refine L120_s ?_
  refine BR_t (by decide +kernel) ?_
  refine ⟨((((((((((0 + 1 + 1) + 1) + 1) + 1) + 1) + 1) + 1) + 1) + 1) + 1), ?_⟩
  refine L147_s ?_
  refine BR_f (by decide +kernel) ?_
  rw [h.adr 1 5 5 (by decide) (by decide +kernel)]
  refine ⟨h.knd 5 (by decide) (by decide +kernel), ?_⟩
  refine ⟨by decide, ?_⟩
  rw [hasNx h]
  refine s_al h (n' := 43) rfl fun M h => ?_
  refine ⟨by decide, ?_⟩
  unfold wX2_init
  refine ⟨by unfold inb; decide +kernel, ?_⟩
  refine s_wrA (a := 5) (n0 := 0) (b := 42) h (by decide) (by decide) (by decide) fun M h => ?_
  refine LET_i ?_
  refine L147_s ?_
  refine BR_f (by decide +kernel) ?_
  rw [h.adr 1 5 5 (by decide) (by decide +kernel)]
  refine ⟨h.knd 5 (by decide) (by decide +kernel), ?_⟩
  refine ⟨by decide, ?_⟩
  rw [hasNx h]
  refine s_al h (n' := 44) rfl fun M h => ?_
  refine ⟨by decide, ?_⟩
  unfold wX2_init
  refine ⟨by unfold inb; decide +kernel, ?_⟩
  refine s_wrA (a := 5) (n0 := 1) (b := 43) h (by decide) (by decide) (by decide) fun M h => ?_
  refine LET_i ?_
  refine L147_s ?_
  refine BR_f (by decide +kernel) ?_
  rw [h.adr 1 5 5 (by decide) (by decide +kernel)]
  refine ⟨h.knd 5 (by decide) (by decide +kernel), ?_⟩
  refine ⟨by decide, ?_⟩
  rw [hasNx h]
  refine s_al h (n' := 45) rfl fun M h => ?_
  refine ⟨by decide, ?_⟩
  unfold wX2_init
  refine ⟨by unfold inb; decide +kernel, ?_⟩
  refine s_wrA (a := 5) (n0 := 2) (b := 44) h (by decide) (by decide) (by decide) fun M h => ?_
  refine LET_i ?_
  refine L147_s ?_
  refine BR_f (by decide +kernel) ?_
  rw [h.adr 1 5 5 (by decide) (by decide +kernel)]
  refine ⟨h.knd 5 (by decide) (by decide +kernel), ?_⟩
  refine ⟨by decide, ?_⟩
  rw [hasNx h]
  refine s_al h (n' := 46) rfl fun M h => ?_
  refine ⟨by decide, ?_⟩
  unfold wX2_init
  refine ⟨by unfold inb; decide +kernel, ?_⟩
  refine s_wrA (a := 5) (n0 := 3) (b := 45) h (by decide) (by decide) (by decide) fun M h => ?_
  refine LET_i ?_
  refine L147_s ?_
  refine BR_f (by decide +kernel) ?_
  rw [h.adr 1 5 5 (by decide) (by decide +kernel)]
  refine ⟨h.knd 5 (by decide) (by decide +kernel), ?_⟩
  refine ⟨by decide, ?_⟩
  rw [hasNx h]
  refine s_al h (n' := 47) rfl fun M h => ?_
  refine ⟨by decide, ?_⟩
  unfold wX2_init
  refine ⟨by unfold inb; decide +kernel, ?_⟩
  refine s_wrA (a := 5) (n0 := 4) (b := 46) h (by decide) (by decide) (by decide) fun M h => ?_
  refine LET_i ?_
  refine L147_s ?_
  refine BR_f (by decide +kernel) ?_
  rw [h.adr 1 5 5 (by decide) (by decide +kernel)]
  refine ⟨h.knd 5 (by decide) (by decide +kernel), ?_⟩
  refine ⟨by decide, ?_⟩
  rw [hasNx h]
  refine s_al h (n' := 48) rfl fun M h => ?_
  refine ⟨by decide, ?_⟩
  unfold wX2_init
  refine ⟨by unfold inb; decide +kernel, ?_⟩
  refine s_wrA (a := 5) (n0 := 5) (b := 47) h (by decide) (by decide) (by decide) fun M h => ?_
  refine LET_i ?_
  refine L147_s ?_
  refine BR_f (by decide +kernel) ?_
  rw [h.adr 1 5 5 (by decide) (by decide +kernel)]
  refine ⟨h.knd 5 (by decide) (by decide +kernel), ?_⟩
  refine ⟨by decide, ?_⟩
  rw [hasNx h]
  refine s_al h (n' := 49) rfl fun M h => ?_
  refine ⟨by decide, ?_⟩
  unfold wX2_init
  refine ⟨by unfold inb; decide +kernel, ?_⟩
  refine s_wrA (a := 5) (n0 := 6) (b := 48) h (by decide) (by decide) (by decide) fun M h => ?_
  refine LET_i ?_
  refine L147_s ?_
  refine BR_f (by decide +kernel) ?_
  rw [h.adr 1 5 5 (by decide) (by decide +kernel)]
  refine ⟨h.knd 5 (by decide) (by decide +kernel), ?_⟩
  refine ⟨by decide, ?_⟩
  rw [hasNx h]
  refine s_al h (n' := 50) rfl fun M h => ?_
  refine ⟨by decide, ?_⟩
  unfold wX2_init
  refine ⟨by unfold inb; decide +kernel, ?_⟩
  refine s_wrA (a := 5) (n0 := 7) (b := 49) h (by decide) (by decide) (by decide) fun M h => ?_
  refine LET_i ?_
  refine L147_s ?_
  refine BR_f (by decide +kernel) ?_
  rw [h.adr 1 5 5 (by decide) (by decide +kernel)]
  refine ⟨h.knd 5 (by decide) (by decide +kernel), ?_⟩
  refine ⟨by decide, ?_⟩
  rw [hasNx h]
  refine s_al h (n' := 51) rfl fun M h => ?_
  refine ⟨by decide, ?_⟩
  unfold wX2_init
  refine ⟨by unfold inb; decide +kernel, ?_⟩
  refine s_wrA (a := 5) (n0 := 8) (b := 50) h (by decide) (by decide) (by decide) fun M h => ?_
  refine LET_i ?_
  refine L147_s ?_
  refine BR_f (by decide +kernel) ?_
  rw [h.adr 1 5 5 (by decide) (by decide +kernel)]
  refine ⟨h.knd 5 (by decide) (by decide +kernel), ?_⟩
  refine ⟨by decide, ?_⟩
  rw [hasNx h]
  refine s_al h (n' := 52) rfl fun M h => ?_
  refine ⟨by decide, ?_⟩
  unfold wX2_init
  refine ⟨by unfold inb; decide +kernel, ?_⟩
  refine s_wrA (a := 5) (n0 := 9) (b := 51) h (by decide) (by decide) (by decide) fun M h => ?_
  refine LET_i ?_
  refine L147_s ?_
  refine BR_t (by decide +kernel) ?_
  refine ⟨((((((((0 + 1 + 1) + 1) + 1) + 1) + 1) + 1) + 1) + 1), ?_⟩
  refine L174_s ?_
  refine BR_f (by decide +kernel) ?_
  rw [h.adr 1 9 7 (by decide) (by decide +kernel)]
  refine ⟨h.knd 7 (by decide) (by decide +kernel), ?_⟩
  refine ⟨by decide, ?_⟩
  rw [hasNx h]
  refine s_al h (n' := 53) rfl fun M h => ?_
  refine ⟨by decide, ?_⟩
  try unfold wX5_init
  rw [hasNx h]
  refine s_al h (n' := 54) rfl fun M h => ?_
  refine s_upA (a := 52) (j := 0) (b := 53) h (by decide) fun M h => ?_
  refine ⟨by unfold inb; decide +kernel, ?_⟩
  refine s_wrA (a := 7) (n0 := 0) (b := 52) h (by decide) (by decide) (by decide) fun M h => ?_
  rw [h.adr 1 10 8 (by decide) (by decide +kernel)]
  refine ⟨h.knd 8 (by decide) (by decide +kernel), ?_⟩
  refine ⟨by decide, ?_⟩
  rw [hasNx h]
  refine s_al h (n' := 55) rfl fun M h => ?_
  refine ⟨by decide, ?_⟩
  try unfold wX5_init
  rw [hasNx h]
  refine s_al h (n' := 56) rfl fun M h => ?_
  refine s_upA (a := 54) (j := 0) (b := 55) h (by decide) fun M h => ?_
  refine ⟨by unfold inb; decide +kernel, ?_⟩
  refine s_wrA (a := 8) (n0 := 0) (b := 54) h (by decide) (by decide) (by decide) fun M h => ?_
  refine LET_i ?_
  refine L174_s ?_
  refine BR_f (by decide +kernel) ?_
  rw [h.adr 1 9 7 (by decide) (by decide +kernel)]
  refine ⟨h.knd 7 (by decide) (by decide +kernel), ?_⟩
  refine ⟨by decide, ?_⟩
  rw [hasNx h]
  refine s_al h (n' := 57) rfl fun M h => ?_
  refine ⟨by decide, ?_⟩
  try unfold wX5_init
  rw [hasNx h]
  refine s_al h (n' := 58) rfl fun M h => ?_
  refine s_upA (a := 56) (j := 0) (b := 57) h (by decide) fun M h => ?_
  refine ⟨by unfold inb; decide +kernel, ?_⟩
  refine s_wrA (a := 7) (n0 := 1) (b := 56) h (by decide) (by decide) (by decide) fun M h => ?_
  rw [h.adr 1 10 8 (by decide) (by decide +kernel)]
  refine ⟨h.knd 8 (by decide) (by decide +kernel), ?_⟩
  refine ⟨by decide, ?_⟩
  rw [hasNx h]
  refine s_al h (n' := 59) rfl fun M h => ?_
  refine ⟨by decide, ?_⟩
  try unfold wX5_init
  rw [hasNx h]
  refine s_al h (n' := 60) rfl fun M h => ?_
  refine s_upA (a := 58) (j := 0) (b := 59) h (by decide) fun M h => ?_
  refine ⟨by unfold inb; decide +kernel, ?_⟩
  refine s_wrA (a := 8) (n0 := 1) (b := 58) h (by decide) (by decide) (by decide) fun M h => ?_
  refine LET_i ?_
  refine L174_s ?_
  refine BR_f (by decide +kernel) ?_
  rw [h.adr 1 9 7 (by decide) (by decide +kernel)]
  refine ⟨h.knd 7 (by decide) (by decide +kernel), ?_⟩
  refine ⟨by decide, ?_⟩
  rw [hasNx h]
  refine s_al h (n' := 61) rfl fun M h => ?_
  refine ⟨by decide, ?_⟩
  try unfold wX5_init
  rw [hasNx h]
  refine s_al h (n' := 62) rfl fun M h => ?_
  refine s_upA (a := 60) (j := 0) (b := 61) h (by decide) fun M h => ?_
  refine ⟨by unfold inb; decide +kernel, ?_⟩
  refine s_wrA (a := 7) (n0 := 2) (b := 60) h (by decide) (by decide) (by decide) fun M h => ?_
  rw [h.adr 1 10 8 (by decide) (by decide +kernel)]
  refine ⟨h.knd 8 (by decide) (by decide +kernel), ?_⟩
  refine ⟨by decide, ?_⟩
  rw [hasNx h]
  refine s_al h (n' := 63) rfl fun M h => ?_
  refine ⟨by decide, ?_⟩
  try unfold wX5_init
  rw [hasNx h]
  refine s_al h (n' := 64) rfl fun M h => ?_
  refine s_upA (a := 62) (j := 0) (b := 63) h (by decide) fun M h => ?_
  refine ⟨by unfold inb; decide +kernel, ?_⟩
  refine s_wrA (a := 8) (n0 := 2) (b := 62) h (by decide) (by decide) (by decide) fun M h => ?_
  refine LET_i ?_
  refine L174_s ?_
  refine BR_f (by decide +kernel) ?_
  rw [h.adr 1 9 7 (by decide) (by decide +kernel)]
  refine ⟨h.knd 7 (by decide) (by decide +kernel), ?_⟩
  refine ⟨by decide, ?_⟩
  rw [hasNx h]
  refine s_al h (n' := 65) rfl fun M h => ?_
  refine ⟨by decide, ?_⟩
  try unfold wX5_init
  rw [hasNx h]
  refine s_al h (n' := 66) rfl fun M h => ?_
  refine s_upA (a := 64) (j := 0) (b := 65) h (by decide) fun M h => ?_
  refine ⟨by unfold inb; decide +kernel, ?_⟩
  refine s_wrA (a := 7) (n0 := 3) (b := 64) h (by decide) (by decide) (by decide) fun M h => ?_
  rw [h.adr 1 10 8 (by decide) (by decide +kernel)]
  refine ⟨h.knd 8 (by decide) (by decide +kernel), ?_⟩
  refine ⟨by decide, ?_⟩
  rw [hasNx h]
  refine s_al h (n' := 67) rfl fun M h => ?_
  refine ⟨by decide, ?_⟩
  try unfold wX5_init
  rw [hasNx h]
  refine s_al h (n' := 68) rfl fun M h => ?_
  refine s_upA (a := 66) (j := 0) (b := 67) h (by decide) fun M h => ?_
  refine ⟨by unfold inb; decide +kernel, ?_⟩
  refine s_wrA (a := 8) (n0 := 3) (b := 66) h (by decide) (by decide) (by decide) fun M h => ?_
  refine LET_i ?_
  refine L174_s ?_
  refine BR_f (by decide +kernel) ?_
  rw [h.adr 1 9 7 (by decide) (by decide +kernel)]
  refine ⟨h.knd 7 (by decide) (by decide +kernel), ?_⟩
  refine ⟨by decide, ?_⟩
  rw [hasNx h]
  refine s_al h (n' := 69) rfl fun M h => ?_
  refine ⟨by decide, ?_⟩
  try unfold wX5_init
  rw [hasNx h]
  refine s_al h (n' := 70) rfl fun M h => ?_
  refine s_upA (a := 68) (j := 0) (b := 69) h (by decide) fun M h => ?_
  refine ⟨by unfold inb; decide +kernel, ?_⟩
  refine s_wrA (a := 7) (n0 := 4) (b := 68) h (by decide) (by decide) (by decide) fun M h => ?_
  rw [h.adr 1 10 8 (by decide) (by decide +kernel)]
  refine ⟨h.knd 8 (by decide) (by decide +kernel), ?_⟩
  refine ⟨by decide, ?_⟩
  rw [hasNx h]
  refine s_al h (n' := 71) rfl fun M h => ?_
  refine ⟨by decide, ?_⟩
  try unfold wX5_init
  rw [hasNx h]
  refine s_al h (n' := 72) rfl fun M h => ?_
  refine s_upA (a := 70) (j := 0) (b := 71) h (by decide) fun M h => ?_
  refine ⟨by unfold inb; decide +kernel, ?_⟩
  refine s_wrA (a := 8) (n0 := 4) (b := 70) h (by decide) (by decide) (by decide) fun M h => ?_
  refine LET_i ?_
  refine L174_s ?_
  refine BR_f (by decide +kernel) ?_
  rw [h.adr 1 9 7 (by decide) (by decide +kernel)]
  refine ⟨h.knd 7 (by decide) (by decide +kernel), ?_⟩
  refine ⟨by decide, ?_⟩
  rw [hasNx h]
  refine s_al h (n' := 73) rfl fun M h => ?_
  refine ⟨by decide, ?_⟩
  try unfold wX5_init
  rw [hasNx h]
  refine s_al h (n' := 74) rfl fun M h => ?_
  refine s_upA (a := 72) (j := 0) (b := 73) h (by decide) fun M h => ?_
  refine ⟨by unfold inb; decide +kernel, ?_⟩
  refine s_wrA (a := 7) (n0 := 5) (b := 72) h (by decide) (by decide) (by decide) fun M h => ?_
  rw [h.adr 1 10 8 (by decide) (by decide +kernel)]
  refine ⟨h.knd 8 (by decide) (by decide +kernel), ?_⟩
  refine ⟨by decide, ?_⟩
  rw [hasNx h]
  refine s_al h (n' := 75) rfl fun M h => ?_
  refine ⟨by decide, ?_⟩
  try unfold wX5_init
  rw [hasNx h]
  refine s_al h (n' := 76) rfl fun M h => ?_
  refine s_upA (a := 74) (j := 0) (b := 75) h (by decide) fun M h => ?_
  refine ⟨by unfold inb; decide +kernel, ?_⟩
  refine s_wrA (a := 8) (n0 := 5) (b := 74) h (by decide) (by decide) (by decide) fun M h => ?_
  refine LET_i ?_
  refine L174_s ?_
  refine BR_f (by decide +kernel) ?_
  rw [h.adr 1 9 7 (by decide) (by decide +kernel)]
  refine ⟨h.knd 7 (by decide) (by decide +kernel), ?_⟩
  refine ⟨by decide, ?_⟩
  rw [hasNx h]
  refine s_al h (n' := 77) rfl fun M h => ?_
  refine ⟨by decide, ?_⟩
  try unfold wX5_init
  rw [hasNx h]
  refine s_al h (n' := 78) rfl fun M h => ?_
  refine s_upA (a := 76) (j := 0) (b := 77) h (by decide) fun M h => ?_
  refine ⟨by unfold inb; decide +kernel, ?_⟩
  refine s_wrA (a := 7) (n0 := 6) (b := 76) h (by decide) (by decide) (by decide) fun M h => ?_
  rw [h.adr 1 10 8 (by decide) (by decide +kernel)]
  refine ⟨h.knd 8 (by decide) (by decide +kernel), ?_⟩
  refine ⟨by decide, ?_⟩
  rw [hasNx h]
  refine s_al h (n' := 79) rfl fun M h => ?_
  refine ⟨by decide, ?_⟩
  try unfold wX5_init
  rw [hasNx h]
  refine s_al h (n' := 80) rfl fun M h => ?_
  refine s_upA (a := 78) (j := 0) (b := 79) h (by decide) fun M h => ?_
  refine ⟨by unfold inb; decide +kernel, ?_⟩
  refine s_wrA (a := 8) (n0 := 6) (b := 78) h (by decide) (by decide) (by decide) fun M h => ?_
  refine LET_i ?_
  refine L174_s ?_
  refine BR_f (by decide +kernel) ?_
  rw [h.adr 1 9 7 (by decide) (by decide +kernel)]
  refine ⟨h.knd 7 (by decide) (by decide +kernel), ?_⟩
  refine ⟨by decide, ?_⟩
  rw [hasNx h]
  refine s_al h (n' := 81) rfl fun M h => ?_
  refine ⟨by decide, ?_⟩
  try unfold wX5_init
  rw [hasNx h]
  refine s_al h (n' := 82) rfl fun M h => ?_
  refine s_upA (a := 80) (j := 0) (b := 81) h (by decide) fun M h => ?_
  refine ⟨by unfold inb; decide +kernel, ?_⟩
  refine s_wrA (a := 7) (n0 := 7) (b := 80) h (by decide) (by decide) (by decide) fun M h => ?_
  rw [h.adr 1 10 8 (by decide) (by decide +kernel)]
  refine ⟨h.knd 8 (by decide) (by decide +kernel), ?_⟩
  refine ⟨by decide, ?_⟩
  rw [hasNx h]
  refine s_al h (n' := 83) rfl fun M h => ?_
  refine ⟨by decide, ?_⟩
  try unfold wX5_init
  rw [hasNx h]
  refine s_al h (n' := 84) rfl fun M h => ?_
  refine s_upA (a := 82) (j := 0) (b := 83) h (by decide) fun M h => ?_
  refine ⟨by unfold inb; decide +kernel, ?_⟩
  refine s_wrA (a := 8) (n0 := 7) (b := 82) h (by decide) (by decide) (by decide) fun M h => ?_
  refine LET_i ?_
  refine L174_s ?_
  refine BR_t (by decide +kernel) ?_
  refine ⟨by decide, ?_⟩
  refine s_upA (a := 0) (j := 0) (b := 1) h (by decide) fun M h => ?_
  refine s_upV (a := 0) (j := 1) h (by decide) fun M h => ?_
  refine s_upV (a := 0) (j := 2) h (by decide) fun M h => ?_
  rw [hasNx h]
  refine s_al h (n' := 85) rfl fun M h => ?_
  refine s_upA (a := 0) (j := 3) (b := 84) h (by decide) fun M h => ?_
  rw [hasNx h]
  refine s_al h (n' := 86) rfl fun M h => ?_
  refine s_upA (a := 0) (j := 4) (b := 85) h (by decide) fun M h => ?_
  rw [hasNx h]
  refine s_al h (n' := 87) rfl fun M h => ?_
  try unfold wX5_init
  rw [hasNx h]
  refine s_al h (n' := 88) rfl fun M h => ?_
  refine s_upA (a := 86) (j := 0) (b := 87) h (by decide) fun M h => ?_
  refine s_upA (a := 0) (j := 5) (b := 86) h (by decide) fun M h => ?_
  rw [hasNx h]
  refine s_al h (n' := 89) rfl fun M h => ?_
  try unfold wX5_init
  rw [hasNx h]
  refine s_al h (n' := 90) rfl fun M h => ?_
  refine s_upA (a := 88) (j := 0) (b := 89) h (by decide) fun M h => ?_
  refine s_upA (a := 0) (j := 6) (b := 88) h (by decide) fun M h => ?_
  rw [hasNx h]
  refine s_al h (n' := 91) rfl fun M h => ?_
  rw [h.adr 0 0 1 (by decide) (by decide +kernel)]
  refine ⟨h.knd 1 (by decide) (by decide +kernel), ?_⟩
  unfold wX10_init
  rw [hasNx h]
  refine s_al h (n' := 92) rfl fun M h => ?_
  refine s_upA (a := 90) (j := 4) (b := 91) h (by decide) fun M h => ?_
  rw [hasNx h]
  refine s_al h (n' := 93) rfl fun M h => ?_
  refine s_upA (a := 90) (j := 5) (b := 92) h (by decide) fun M h => ?_
  rw [hasNx h]
  refine s_al h (n' := 94) rfl fun M h => ?_
  refine s_upA (a := 90) (j := 6) (b := 93) h (by decide) fun M h => ?_
  rw [hasNx h]
  refine s_al h (n' := 95) rfl fun M h => ?_
  refine s_upA (a := 90) (j := 7) (b := 94) h (by decide) fun M h => ?_
  rw [hasNx h]
  refine s_al h (n' := 96) rfl fun M h => ?_
  refine s_upA (a := 90) (j := 8) (b := 95) h (by decide) fun M h => ?_
  rw [hasNx h]
  refine s_al h (n' := 97) rfl fun M h => ?_
  refine s_upA (a := 90) (j := 9) (b := 96) h (by decide) fun M h => ?_
  rw [hasNx h]
  refine s_al h (n' := 98) rfl fun M h => ?_
  refine s_upA (a := 90) (j := 10) (b := 97) h (by decide) fun M h => ?_
  rw [hasNx h]
  refine s_al h (n' := 99) rfl fun M h => ?_
  refine s_upA (a := 90) (j := 11) (b := 98) h (by decide) fun M h => ?_
  rw [hasNx h]
  refine s_al h (n' := 100) rfl fun M h => ?_
  refine s_upA (a := 90) (j := 12) (b := 99) h (by decide) fun M h => ?_
  rw [hasNx h]
  refine s_al h (n' := 101) rfl fun M h => ?_
  refine s_upA (a := 90) (j := 13) (b := 100) h (by decide) fun M h => ?_
  rw [hasNx h]
  refine s_al h (n' := 102) rfl fun M h => ?_
  refine s_upA (a := 90) (j := 14) (b := 101) h (by decide) fun M h => ?_
  refine s_upA (a := 90) (j := 0) (b := 1) h (by decide) fun M h => ?_
  refine s_upA (a := 0) (j := 7) (b := 90) h (by decide) fun M h => ?_
  rw [hasNx h]
  refine s_al h (n' := 103) rfl fun M h => ?_
  rw [h.adr 0 0 1 (by decide) (by decide +kernel)]
  refine ⟨h.knd 1 (by decide) (by decide +kernel), ?_⟩
  rw [h.adr 0 7 90 (by decide) (by decide +kernel)]
  refine ⟨h.knd 90 (by decide) (by decide +kernel), ?_⟩
  unfold wX6_init
  rw [hasNx h]
  refine s_al h (n' := 104) rfl fun M h => ?_
  refine s_upA (a := 102) (j := 2) (b := 103) h (by decide) fun M h => ?_
  rw [hasNx h]
  refine s_al h (n' := 105) rfl fun M h => ?_
  try unfold wX5_init
  rw [hasNx h]
  refine s_al h (n' := 106) rfl fun M h => ?_
  refine s_upA (a := 104) (j := 0) (b := 105) h (by decide) fun M h => ?_
  refine s_upA (a := 102) (j := 11) (b := 104) h (by decide) fun M h => ?_
  rw [hasNx h]
  refine s_al h (n' := 107) rfl fun M h => ?_
  refine s_upA (a := 102) (j := 12) (b := 106) h (by decide) fun M h => ?_
  refine s_upV (a := 102) (j := 13) h (by decide) fun M h => ?_
  refine s_upA (a := 102) (j := 0) (b := 1) h (by decide) fun M h => ?_
  refine s_upA (a := 102) (j := 1) (b := 90) h (by decide) fun M h => ?_
  refine s_upA (a := 0) (j := 8) (b := 102) h (by decide) fun M h => ?_
  rw [hasNx h]
  refine s_al h (n' := 108) rfl fun M h => ?_
  rw [h.adr 0 0 1 (by decide) (by decide +kernel)]
  refine ⟨h.knd 1 (by decide) (by decide +kernel), ?_⟩
  unfold wX7_init
  rw [hasNx h]
  refine s_al h (n' := 109) rfl fun M h => ?_
  refine s_upA (a := 107) (j := 5) (b := 108) h (by decide) fun M h => ?_
  rw [hasNx h]
  refine s_al h (n' := 110) rfl fun M h => ?_
  refine s_upA (a := 107) (j := 6) (b := 109) h (by decide) fun M h => ?_
  refine s_upV (a := 107) (j := 7) h (by decide) fun M h => ?_
  refine s_upA (a := 107) (j := 0) (b := 1) h (by decide) fun M h => ?_
  refine s_upA (a := 0) (j := 9) (b := 107) h (by decide) fun M h => ?_
  rw [hasNx h]
  refine s_al h (n' := 111) rfl fun M h => ?_
  unfold wX4_init
  rw [hasNx h]
  refine s_al h (n' := 112) rfl fun M h => ?_
  refine s_upA (a := 110) (j := 0) (b := 111) h (by decide) fun M h => ?_
  rw [hasNx h]
  refine s_al h (n' := 113) rfl fun M h => ?_
  refine s_upA (a := 110) (j := 2) (b := 112) h (by decide) fun M h => ?_
  refine s_upV (a := 110) (j := 4) h (by decide) fun M h => ?_
  refine s_upA (a := 0) (j := 10) (b := 110) h (by decide) fun M h => ?_
  rw [hasNx h]
  refine s_al h (n' := 114) rfl fun M h => ?_
  unfold wX9_init
  rw [hasNx h]
  refine s_al h (n' := 115) rfl fun M h => ?_
  refine s_upA (a := 113) (j := 0) (b := 114) h (by decide) fun M h => ?_
  refine s_upA (a := 0) (j := 11) (b := 113) h (by decide) fun M h => ?_
  rw [hasNx h]
  refine s_al h (n' := 116) rfl fun M h => ?_
  refine s_upA (a := 0) (j := 12) (b := 115) h (by decide) fun M h => ?_
  refine ⟨((((0 + 1 + 1) + 1) + 1) + 1), ?_⟩
  refine L144_s ?_
  refine BR_f (by decide +kernel) ?_
  rw [h.adr 0 3 84 (by decide) (by decide +kernel)]
  refine ⟨h.knd 84 (by decide) (by decide +kernel), ?_⟩
  refine ⟨by decide, ?_⟩
  rw [hasNx h]
  refine s_al h (n' := 117) rfl fun M h => ?_
  refine ⟨by decide, ?_⟩
  unfold wX8_init
  rw [hasNx h]
  refine s_al h (n' := 118) rfl fun M h => ?_
  refine s_upA (a := 116) (j := 0) (b := 117) h (by decide) fun M h => ?_
  refine ⟨by unfold inb; decide +kernel, ?_⟩
  refine s_wrA (a := 84) (n0 := 0) (b := 116) h (by decide) (by decide) (by decide) fun M h => ?_
  refine LET_i ?_
  refine L144_s ?_
  refine BR_f (by decide +kernel) ?_
  rw [h.adr 0 3 84 (by decide) (by decide +kernel)]
  refine ⟨h.knd 84 (by decide) (by decide +kernel), ?_⟩
  refine ⟨by decide, ?_⟩
  rw [hasNx h]
  refine s_al h (n' := 119) rfl fun M h => ?_
  refine ⟨by decide, ?_⟩
  unfold wX8_init
  rw [hasNx h]
  refine s_al h (n' := 120) rfl fun M h => ?_
  refine s_upA (a := 118) (j := 0) (b := 119) h (by decide) fun M h => ?_
  refine ⟨by unfold inb; decide +kernel, ?_⟩
  refine s_wrA (a := 84) (n0 := 1) (b := 118) h (by decide) (by decide) (by decide) fun M h => ?_
  refine LET_i ?_
  refine L144_s ?_
  refine BR_f (by decide +kernel) ?_
  rw [h.adr 0 3 84 (by decide) (by decide +kernel)]
  refine ⟨h.knd 84 (by decide) (by decide +kernel), ?_⟩
  refine ⟨by decide, ?_⟩
  rw [hasNx h]
  refine s_al h (n' := 121) rfl fun M h => ?_
  refine ⟨by decide, ?_⟩
  unfold wX8_init
  rw [hasNx h]
  refine s_al h (n' := 122) rfl fun M h => ?_
  refine s_upA (a := 120) (j := 0) (b := 121) h (by decide) fun M h => ?_
  refine ⟨by unfold inb; decide +kernel, ?_⟩
  refine s_wrA (a := 84) (n0 := 2) (b := 120) h (by decide) (by decide) (by decide) fun M h => ?_
  refine LET_i ?_
  refine L144_s ?_
  refine BR_f (by decide +kernel) ?_
  rw [h.adr 0 3 84 (by decide) (by decide +kernel)]
  refine ⟨h.knd 84 (by decide) (by decide +kernel), ?_⟩
  refine ⟨by decide, ?_⟩
  rw [hasNx h]
  refine s_al h (n' := 123) rfl fun M h => ?_
  refine ⟨by decide, ?_⟩
  unfold wX8_init
  rw [hasNx h]
  refine s_al h (n' := 124) rfl fun M h => ?_
  refine s_upA (a := 122) (j := 0) (b := 123) h (by decide) fun M h => ?_
  refine ⟨by unfold inb; decide +kernel, ?_⟩
  refine s_wrA (a := 84) (n0 := 3) (b := 122) h (by decide) (by decide) (by decide) fun M h => ?_
  refine LET_i ?_
  refine L144_s ?_
  refine BR_t (by decide +kernel) ?_
  refine ⟨by decide, ?_⟩
  exact hQ _ h
def ini12Ks : List (Nat × Int) := [(22, kA 0 24), (21, kA 0 96), (20, kA 0 4), (19, kA 0 4), (18, kA 0 30), (17, kA 3 80), (16, kA 0 12), (15, kA 0 10), (14, kA 0 10240), (13, kA 2 1024), (12, kA 2 12), (11, kA 0 12), (10, kA 0 96), (9, kA 0 12), (8, kA 0 12), (7, kA 0 12), (6, kA 0 60), (5, kA 0 128), (4, kA 0 104), (3, kA 0 7), (2, kA 0 1522), (1, kA 0 1522), (0, kO 12)]
def ini12Fs : List (Nat × Nat × Bool × Int) := [(1, 9, false, 999), (1, 8, false, 20), (1, 7, false, 1), (1, 6, false, 1), (0, 39, true, 22), (0, 38, true, 21), (0, 37, true, 20), (0, 36, true, 19), (0, 32, true, 18), (0, 31, true, 17), (0, 30, true, 16), (0, 27, true, 15), (0, 26, true, 14), (0, 25, true, 13), (0, 24, true, 12), (0, 18, true, 11), (0, 17, true, 10), (0, 16, true, 9), (0, 15, true, 8), (0, 12, true, 7), (0, 11, true, 6), (0, 10, true, 5), (0, 9, true, 4), (0, 3, true, 3), (0, 1, true, 2), (0, 0, true, 1)]
theorem ini12_s {K : Nat} {M0 M : Mem} {Q : Mem → Prop} (h : Has K 1 M0 M [(0, kO 12)] []) (hQ : ∀ M', Has K 23 M0 M' ini12Ks ini12Fs → Q M') : wX12_init (K + 0) M Q := by
  unfold wX12_init
  rw [hasNx h]
  refine s_al h (n' := 2) rfl fun M h => ?_
  refine s_upA (a := 0) (j := 0) (b := 1) h (by decide) fun M h => ?_
  rw [hasNx h]
  refine s_al h (n' := 3) rfl fun M h => ?_
  refine s_upA (a := 0) (j := 1) (b := 2) h (by decide) fun M h => ?_
  rw [hasNx h]
  refine s_al h (n' := 4) rfl fun M h => ?_
  refine s_upA (a := 0) (j := 3) (b := 3) h (by decide) fun M h => ?_
  rw [hasNx h]
  refine s_al h (n' := 5) rfl fun M h => ?_
  refine s_upA (a := 0) (j := 9) (b := 4) h (by decide) fun M h => ?_
  rw [hasNx h]
  refine s_al h (n' := 6) rfl fun M h => ?_
  refine s_upA (a := 0) (j := 10) (b := 5) h (by decide) fun M h => ?_
  rw [hasNx h]
  refine s_al h (n' := 7) rfl fun M h => ?_
  refine s_upA (a := 0) (j := 11) (b := 6) h (by decide) fun M h => ?_
  rw [hasNx h]
  refine s_al h (n' := 8) rfl fun M h => ?_
  refine s_upA (a := 0) (j := 12) (b := 7) h (by decide) fun M h => ?_
  rw [hasNx h]
  refine s_al h (n' := 9) rfl fun M h => ?_
  refine s_upA (a := 0) (j := 15) (b := 8) h (by decide) fun M h => ?_
  rw [hasNx h]
  refine s_al h (n' := 10) rfl fun M h => ?_
  refine s_upA (a := 0) (j := 16) (b := 9) h (by decide) fun M h => ?_
  rw [hasNx h]
  refine s_al h (n' := 11) rfl fun M h => ?_
  refine s_upA (a := 0) (j := 17) (b := 10) h (by decide) fun M h => ?_
  rw [hasNx h]
  refine s_al h (n' := 12) rfl fun M h => ?_
  refine s_upA (a := 0) (j := 18) (b := 11) h (by decide) fun M h => ?_
  rw [hasNx h]
  refine s_al h (n' := 13) rfl fun M h => ?_
  refine s_upA (a := 0) (j := 24) (b := 12) h (by decide) fun M h => ?_
  rw [hasNx h]
  refine s_al h (n' := 14) rfl fun M h => ?_
  refine s_upA (a := 0) (j := 25) (b := 13) h (by decide) fun M h => ?_
  rw [hasNx h]
  refine s_al h (n' := 15) rfl fun M h => ?_
  refine s_upA (a := 0) (j := 26) (b := 14) h (by decide) fun M h => ?_
  rw [hasNx h]
  refine s_al h (n' := 16) rfl fun M h => ?_
  refine s_upA (a := 0) (j := 27) (b := 15) h (by decide) fun M h => ?_
  rw [hasNx h]
  refine s_al h (n' := 17) rfl fun M h => ?_
  refine s_upA (a := 0) (j := 30) (b := 16) h (by decide) fun M h => ?_
  rw [hasNx h]
  refine s_al h (n' := 18) rfl fun M h => ?_
  refine s_upA (a := 0) (j := 31) (b := 17) h (by decide) fun M h => ?_
  rw [hasNx h]
  refine s_al h (n' := 19) rfl fun M h => ?_
  refine s_upA (a := 0) (j := 32) (b := 18) h (by decide) fun M h => ?_
  rw [hasNx h]
  refine s_al h (n' := 20) rfl fun M h => ?_
  refine s_upA (a := 0) (j := 36) (b := 19) h (by decide) fun M h => ?_
  rw [hasNx h]
  refine s_al h (n' := 21) rfl fun M h => ?_
  refine s_upA (a := 0) (j := 37) (b := 20) h (by decide) fun M h => ?_
  rw [hasNx h]
  refine s_al h (n' := 22) rfl fun M h => ?_
  refine s_upA (a := 0) (j := 38) (b := 21) h (by decide) fun M h => ?_
  rw [hasNx h]
  refine s_al h (n' := 23) rfl fun M h => ?_
  refine s_upA (a := 0) (j := 39) (b := 22) h (by decide) fun M h => ?_
  rw [h.adr 0 0 1 (by decide) (by decide +kernel)]
  refine ⟨h.knd 1 (by decide) (by decide +kernel), ?_⟩
  refine s_wr (a := 1) (i := 6) (n0 := 6) h (by decide) rfl (by decide) fun M h => ?_
  rw [h.adr 0 0 1 (by decide) (by decide +kernel)]
  refine ⟨h.knd 1 (by decide) (by decide +kernel), ?_⟩
  refine s_wr (a := 1) (i := 7) (n0 := 7) h (by decide) rfl (by decide) fun M h => ?_
  rw [h.adr 0 0 1 (by decide) (by decide +kernel)]
  refine ⟨h.knd 1 (by decide) (by decide +kernel), ?_⟩
  refine s_wr (a := 1) (i := 8) (n0 := 8) h (by decide) rfl (by decide) fun M h => ?_
  rw [h.adr 0 0 1 (by decide) (by decide +kernel)]
  refine ⟨h.knd 1 (by decide) (by decide +kernel), ?_⟩
  refine s_wr (a := 1) (i := 9) (n0 := 9) h (by decide) rfl (by decide) fun M h => ?_
  exact hQ _ h
