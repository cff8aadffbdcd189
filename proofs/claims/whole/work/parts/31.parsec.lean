/-! TEXTS: the class reads them so -/
section PrsEqs
variable {b : Nat → Int} {n : Nat} {kd : Int} {f : Nat} {s s1 s2 s3 : PS}
theorem p0_f (h : prs b n kd f 1 s = (false, s1)) : prs b n kd (f + 1) 0 s = (false, s1) := by rw [prs]; simp [h]
theorem p0_e (h : prs b n kd f 1 s = (true, s1)) (h2 : lk b n s1.1 ≠ 63) : prs b n kd (f + 1) 0 s = (true, s1) := by rw [prs]; simp [h, h2]
theorem p0_o (h : prs b n kd f 1 s = (true, s1)) (h2 : lk b n s1.1 = 63) (h3 : s1.2.1 = 5) : prs b n kd (f + 1) 0 s = (false, s1) := by rw [prs]; simp [h, h2, h3]
theorem p0_2 (h : prs b n kd f 1 s = (true, s1)) (h2 : lk b n s1.1 = 63) (h3 : s1.2.1 ≠ 5) (h4 : prs b n kd f 0 (s1.1 + 1, s1.2.1 + 1, s1.2.2.1 + 1, s1.2.2.2) = (false, s2)) : prs b n kd (f + 1) 0 s = (false, s2) := by rw [prs]; simp [h, h2, h3, h4]
theorem p0_c (h : prs b n kd f 1 s = (true, s1)) (h2 : lk b n s1.1 = 63) (h3 : s1.2.1 ≠ 5) (h4 : prs b n kd f 0 (s1.1 + 1, s1.2.1 + 1, s1.2.2.1 + 1, s1.2.2.2) = (true, s2)) (h5 : lk b n s2.1 ≠ 58) : prs b n kd (f + 1) 0 s = (false, s2) := by rw [prs]; simp [h, h2, h3, h4, h5]
theorem p0_3 (h : prs b n kd f 1 s = (true, s1)) (h2 : lk b n s1.1 = 63) (h3 : s1.2.1 ≠ 5) (h4 : prs b n kd f 0 (s1.1 + 1, s1.2.1 + 1, s1.2.2.1 + 1, s1.2.2.2) = (true, s2)) (h5 : lk b n s2.1 = 58) (h6 : prs b n kd f 0 (s2.1 + 1, s2.2.1, s2.2.2.1, s2.2.2.2) = (false, s3)) : prs b n kd (f + 1) 0 s = (false, s3) := by rw [prs]; simp [h, h2, h3, h4, h5, h6]
theorem p0_4 (h : prs b n kd f 1 s = (true, s1)) (h2 : lk b n s1.1 = 63) (h3 : s1.2.1 ≠ 5) (h4 : prs b n kd f 0 (s1.1 + 1, s1.2.1 + 1, s1.2.2.1 + 1, s1.2.2.2) = (true, s2)) (h5 : lk b n s2.1 = 58) (h6 : prs b n kd f 0 (s2.1 + 1, s2.2.1, s2.2.2.1, s2.2.2.2) = (true, s3)) : prs b n kd (f + 1) 0 s = (true, (s3.1, s3.2.1 - 1, s3.2.2.1, (4, 0) :: s3.2.2.2)) := by rw [prs]; simp [h, h2, h3, h4, h5, h6]
theorem p1_f (h : prs b n kd f 2 s = (false, s1)) : prs b n kd (f + 1) 1 s = (false, s1) := by rw [prs]; simp [h]
theorem p1_t (h : prs b n kd f 2 s = (true, s1)) : prs b n kd (f + 1) 1 s = plp (prs b n kd f 2) cS b n 50 s1 := by rw [prs]; simp [h]
theorem p2_f (h : prs b n kd f 3 s = (false, s1)) : prs b n kd (f + 1) 2 s = (false, s1) := by rw [prs]; simp [h]
theorem p2_t (h : prs b n kd f 3 s = (true, s1)) : prs b n kd (f + 1) 2 s = plp (prs b n kd f 3) cP b n 50 s1 := by rw [prs]; simp [h]
theorem p3_n (h : 0 ≤ nmI kd (lk b n s.1)) : prs b n kd (f + 1) 3 s = (true, (s.1 + 1, s.2.1, s.2.2.1, (1, lk b n s.1) :: s.2.2.2)) := by rw [prs]; simp [h]
theorem p3_d2 (h : ¬ 0 ≤ nmI kd (lk b n s.1)) (h2 : 48 ≤ lk b n s.1 ∧ lk b n s.1 ≤ 57) (h3 : 48 ≤ lk b n (s.1 + 1) ∧ lk b n (s.1 + 1) ≤ 57) : prs b n kd (f + 1) 3 s = (true, (s.1 + 2, s.2.1, s.2.2.1, (0, 10 * (lk b n s.1 - 48) + lk b n (s.1 + 1) - 48) :: s.2.2.2)) := by
  rw [prs, if_neg (by decide), if_neg (by decide), if_neg (by decide), if_neg h, if_pos h2, if_pos h3]
theorem p3_d1 (h : ¬ 0 ≤ nmI kd (lk b n s.1)) (h2 : 48 ≤ lk b n s.1 ∧ lk b n s.1 ≤ 57) (h3 : ¬ (48 ≤ lk b n (s.1 + 1) ∧ lk b n (s.1 + 1) ≤ 57)) : prs b n kd (f + 1) 3 s = (true, (s.1 + 1, s.2.1, s.2.2.1, (0, lk b n s.1 - 48) :: s.2.2.2)) := by
  rw [prs, if_neg (by decide), if_neg (by decide), if_neg (by decide), if_neg h, if_pos h2, if_neg h3]
theorem p3_mo (h : ¬ 0 ≤ nmI kd (lk b n s.1)) (h2 : lk b n s.1 = 45) (h3 : s.2.1 = 5) : prs b n kd (f + 1) 3 s = (false, s) := by
  rw [prs, if_neg (by decide), if_neg (by decide), if_neg (by decide), if_neg h, if_neg (by omega), if_pos h2, if_pos h3]
theorem p3_mf (h : ¬ 0 ≤ nmI kd (lk b n s.1)) (h2 : lk b n s.1 = 45) (h3 : s.2.1 ≠ 5) (h4 : prs b n kd f 3 (s.1 + 1, s.2.1 + 1, s.2.2.1 + 1, s.2.2.2) = (false, s1)) : prs b n kd (f + 1) 3 s = (false, s1) := by
  rw [prs, if_neg (by decide), if_neg (by decide), if_neg (by decide), if_neg h, if_neg (by omega), if_pos h2, if_neg h3, h4]
theorem p3_mt (h : ¬ 0 ≤ nmI kd (lk b n s.1)) (h2 : lk b n s.1 = 45) (h3 : s.2.1 ≠ 5) (h4 : prs b n kd f 3 (s.1 + 1, s.2.1 + 1, s.2.2.1 + 1, s.2.2.2) = (true, s1)) : prs b n kd (f + 1) 3 s = (true, (s1.1, s1.2.1 - 1, s1.2.2.1, (2, 0) :: s1.2.2.2)) := by
  rw [prs, if_neg (by decide), if_neg (by decide), if_neg (by decide), if_neg h, if_neg (by omega), if_pos h2, if_neg h3, h4]
theorem p3_bo (h : ¬ 0 ≤ nmI kd (lk b n s.1)) (h2 : lk b n s.1 = 40) (h3 : s.2.1 = 5) : prs b n kd (f + 1) 3 s = (false, s) := by
  rw [prs, if_neg (by decide), if_neg (by decide), if_neg (by decide), if_neg h, if_neg (by omega), if_neg (by omega), if_pos h2, if_pos h3]
theorem p3_bf (h : ¬ 0 ≤ nmI kd (lk b n s.1)) (h2 : lk b n s.1 = 40) (h3 : s.2.1 ≠ 5) (h4 : prs b n kd f 0 (s.1 + 1, s.2.1 + 1, s.2.2.1, s.2.2.2) = (false, s1)) : prs b n kd (f + 1) 3 s = (false, s1) := by
  rw [prs, if_neg (by decide), if_neg (by decide), if_neg (by decide), if_neg h, if_neg (by omega), if_neg (by omega), if_pos h2, if_neg h3, h4]
theorem p3_bc (h : ¬ 0 ≤ nmI kd (lk b n s.1)) (h2 : lk b n s.1 = 40) (h3 : s.2.1 ≠ 5) (h4 : prs b n kd f 0 (s.1 + 1, s.2.1 + 1, s.2.2.1, s.2.2.2) = (true, s1)) (h5 : lk b n s1.1 ≠ 41) : prs b n kd (f + 1) 3 s = (false, s1) := by
  rw [prs, if_neg (by decide), if_neg (by decide), if_neg (by decide), if_neg h, if_neg (by omega), if_neg (by omega), if_pos h2, if_neg h3, h4]
  simp [h5]
theorem p3_bt (h : ¬ 0 ≤ nmI kd (lk b n s.1)) (h2 : lk b n s.1 = 40) (h3 : s.2.1 ≠ 5) (h4 : prs b n kd f 0 (s.1 + 1, s.2.1 + 1, s.2.2.1, s.2.2.2) = (true, s1)) (h5 : lk b n s1.1 = 41) : prs b n kd (f + 1) 3 s = (true, (s1.1 + 1, s1.2.1 - 1, s1.2.2.1, s1.2.2.2)) := by
  rw [prs, if_neg (by decide), if_neg (by decide), if_neg (by decide), if_neg h, if_neg (by omega), if_neg (by omega), if_pos h2, if_neg h3, h4]
  simp [h5]
theorem p3_e (h : ¬ 0 ≤ nmI kd (lk b n s.1)) (h1 : ¬ (48 ≤ lk b n s.1 ∧ lk b n s.1 ≤ 57)) (h2 : lk b n s.1 ≠ 45) (h3 : lk b n s.1 ≠ 40) : prs b n kd (f + 1) 3 s = (false, s) := by
  rw [prs, if_neg (by decide), if_neg (by decide), if_neg (by decide), if_neg h, if_neg h1, if_neg h2, if_neg h3]
end PrsEqs
theorem nm_no {kd c : Int} (h : c = 45 ∨ c = 40 ∨ (48 ≤ c ∧ c ≤ 57)) : ¬ 0 ≤ nmI kd c := by
  unfold nmI
  repeat' split
  all_goals omega
def Cds (kd : Int) (M : Mem) : List (Int × Int) → Prop
  | [] => True
  | x :: L => Cds kd M L ∧ M 112 L.length = cdOf kd x.1 x.2
theorem Cds.congr {kd : Int} {M M' : Mem} : ∀ {L : List (Int × Int)}, (∀ i, i < L.length → M' 112 i = M 112 i) → Cds kd M L → Cds kd M' L
  | [], _, _ => trivial
  | x :: L, h, q => ⟨Cds.congr (fun i hi => h i (by simp only [List.length_cons]; omega)) q.1, by rw [h _ (by simp)]; exact q.2⟩
def nmZ (kd : Int) : Int := if kd = 1 ∨ kd = 5 then 1 else if kd = 2 then 2 else if kd = 3 then 3 else 4
section ClassText
variable {B b : Nat → Int} {n : Nat} {kd : Int} {s : PS} {M : Mem} {Q : Int → Mem → Prop}
def RC (B : Nat → Int) (n : Nat) (kd : Int) (M : Mem) (s : PS) : Prop := M 111 1 = (s.2.2.2.length : Int) ∧ Cds kd M s.2.2.2 ∧ M 111 3 = (n : Int) ∧ M 111 4 = nmZ kd ∧ M 111 5 = (s.1 : Int) ∧ M 111 6 = (s.2.1 : Int) ∧ M 111 7 = (s.2.2.1 : Int) ∧ M 113 = B
def Byt (B b : Nat → Int) (n : Nat) : Prop := n ≤ 50 ∧ ∀ i, i < n → (-128 ≤ B i ∧ B i < 128) ∧ b i = B i % 256
def tx (a : Nat) : Prop := a = 111 ∨ a = 112
theorem rc_at (hR : RC B n kd M s) (hB : Byt B b n) (hp : s.1 ≤ n) {c : Nat} (hc : c < 128) (h1 : lk b n s.1 = c → Q 1 M) (h0 : lk b n s.1 ≠ c → Q 0 M) : wX4_isAt 111 (c : Int) M Q := by
  obtain ⟨r1, r2, r3, r4, r5, r6, r7, r8⟩ := hR
  obtain ⟨hn, hb⟩ := hB
  simp only [wX4_isAt, Nat.reduceAdd]
  rw [r3, r5, bm_nat (n := n) (by omega), bm_nat (n := s.1) (by omega), bm_nat (n := c) (by omega)]
  refine BR_i (fun h => h0 ?_) (fun h => ⟨inb_of rfl (by omega) (by decide), ?_⟩)
  · unfold lk
    rw [if_neg (by omega)]
    omega
  · rw [rd_at rfl (by omega), r8]
    have hb1 := hb s.1 (by omega)
    have hl : lk b n s.1 = b s.1 := by unfold lk; rw [if_pos (by omega)]
    rw [bm_id (z := B s.1) (by omega) (by omega)]
    exact BR_i (fun h => h1 (by rw [hl]; omega)) (fun h => h0 (by rw [hl]; omega))
theorem rc_dg (hR : RC B n kd M s) (hB : Byt B b n) (hp : s.1 ≤ n) (h1 : 48 ≤ lk b n s.1 ∧ lk b n s.1 ≤ 57 → Q 1 M) (h0 : ¬ (48 ≤ lk b n s.1 ∧ lk b n s.1 ≤ 57) → Q 0 M) : wX4_isAtDigit 111 M Q := by
  obtain ⟨r1, r2, r3, r4, r5, r6, r7, r8⟩ := hR
  obtain ⟨hn, hb⟩ := hB
  simp only [wX4_isAtDigit, Nat.reduceAdd]
  rw [r3, r5, bm_nat (n := n) (by omega), bm_nat (n := s.1) (by omega)]
  refine BR_i (fun h => h0 ?_) (fun h => ⟨inb_of rfl (by omega) (by decide), ?_⟩)
  · unfold lk
    rw [if_neg (by omega)]
    omega
  · rw [rd_at rfl (by omega), r8]
    have hb1 := hb s.1 (by omega)
    have hl : lk b n s.1 = b s.1 := by unfold lk; rw [if_pos (by omega)]
    rw [bm_id (z := B s.1) (by omega) (by omega)]
    exact BR_i (fun h => h0 (by rw [hl]; omega)) (fun h => ⟨inb_of rfl (by omega) (by decide), BR_i (fun h => h0 (by rw [hl]; omega)) (fun h => h1 (by rw [hl]; omega))⟩)
theorem RC.of {M' : Mem} {s' : PS} (hR : RC B n kd M s) (hc : ∀ a, a ≠ 111 → M' a = M a) (hj : ∀ j, j ≠ 5 → j ≠ 6 → j ≠ 7 → M' 111 j = M 111 j) (hL : s'.2.2.2 = s.2.2.2) (h5 : M' 111 5 = (s'.1 : Int)) (h6 : M' 111 6 = (s'.2.1 : Int)) (h7 : M' 111 7 = (s'.2.2.1 : Int)) : RC B n kd M' s' := by
  obtain ⟨r1, r2, r3, r4, r5, r6, r7, r8⟩ := hR
  refine ⟨by rw [hL, hj 1 (by decide) (by decide) (by decide)]; exact r1, by rw [hL]; exact r2.congr (fun i _ => by rw [hc 112 (by decide)]), by rw [hj 3 (by decide) (by decide) (by decide)]; exact r3, by rw [hj 4 (by decide) (by decide) (by decide)]; exact r4, h5, h6, h7, by rw [hc 113 (by decide)]; exact r8⟩
theorem rc_op (hR : RC B n kd M s) (ho : s.2.1 ≤ 5) (hp : s.1 ≤ 50) (h1 : s.2.1 ≠ 5 → ∀ M', Fr tx M M' → RC B n kd M' (s.1 + 1, s.2.1 + 1, s.2.2.1, s.2.2.2) → Q 1 M') (h0 : s.2.1 = 5 → Q 0 M) : wX4_opensAnother 111 M Q := by
  have hR' := hR
  obtain ⟨r1, r2, r3, r4, r5, r6, r7, r8⟩ := hR
  simp only [wX4_opensAnother]
  rw [r6, bm_nat (by omega)]
  refine BR_i (fun h => LET_i (LET_i (h1 (by omega) _ ?_ ?_))) (fun h => h0 (by omega))
  · intro a ha
    simp (disch := (unfold tx at ha; omega)) only [up_c]
  · refine hR'.of ?_ ?_ rfl ?_ ?_ ?_
    · intro a ha
      simp (disch := omega) only [up_c]
    · intro j h5 h6 h7
      simp (disch := omega) only [up_kn]
    · simp (disch := omega) only [up_s, up_kn, r5]
      omega
    · simp (disch := omega) only [up_s, up_kn]
      omega
    · simp (disch := omega) only [up_kn]
      exact r7
theorem rc_wr (hR : RC B n kd M s) (hl : s.2.2.2.length < 50) {v w x : Int} (hv : v = cdOf kd w x) (k : ∀ M', Fr tx M M' → RC B n kd M' (s.1, s.2.1, s.2.2.1, (w, x) :: s.2.2.2) → Q 1 M') : wX4_writes 111 v M Q := by
  obtain ⟨r1, r2, r3, r4, r5, r6, r7, r8⟩ := hR
  simp only [wX4_writes, Nat.reduceAdd]
  rw [r1]
  refine BR_t (by rw [bm_nat (by omega)]; omega) ⟨inb_of rfl (by omega) (by decide), LET_i (LET_i ?_)⟩
  rw [wr_up rfl (by omega)]
  refine k _ ?_ ?_
  · intro a ha
    simp (disch := (unfold tx at ha; omega)) only [up_c]
  · refine ⟨?_, ⟨r2.congr (fun i hi => ?_), ?_⟩, ?_, ?_, ?_, ?_, ?_, ?_⟩
    · simp (disch := omega) only [up_s, up_c, List.length_cons]
      omega
    · simp (disch := omega) only [up_c, up_kn]
    · simp (disch := omega) only [up_s, up_c]
      exact hv
    · simp (disch := omega) only [up_c, up_kn]
      exact r3
    · simp (disch := omega) only [up_c, up_kn]
      exact r4
    · simp (disch := omega) only [up_c, up_kn]
      exact r5
    · simp (disch := omega) only [up_c, up_kn]
      exact r6
    · simp (disch := omega) only [up_c, up_kn]
      exact r7
    · simp (disch := omega) only [up_c]
      exact r8
end ClassText
theorem ixc {Q : Int → Mem → Prop} {M : Mem} {z x3 x4 x5 : Int} {N i : Nat} {ch : Int} (hi : x5 = (i : Int)) (hl : (i : Int) < bm x3) (hl2 : (i : Int) < sLen z) (hi2 : i < 100) (e : bm (sByte z x5) = ch) (h1 : ch = bm x4 → Q x5 M) (h0 : ch ≠ bm x4 → wJ1_indexOfChar_4cfef_L7 Q z x3 x4 N (x5 + 1) M) : wJ1_indexOfChar_4cfef_L7 Q z x3 x4 (N + 1) x5 M := by
  unfold wJ1_indexOfChar_4cfef_L7
  rw [e]
  subst hi
  rw [bm_nat (by omega)]
  exact BR_f (by omega) ⟨⟨by omega, by omega⟩, BR_i h1 (fun h => LET_i (h0 h))⟩
theorem ixe {Q : Int → Mem → Prop} {M : Mem} {z x3 x4 x5 : Int} {N i : Nat} (hi : x5 = (i : Int)) (hl : bm x3 ≤ (i : Int)) (hi2 : i < 100) (h : Q (-1) M) : wJ1_indexOfChar_4cfef_L7 Q z x3 x4 (N + 1) x5 M := by
  unfold wJ1_indexOfChar_4cfef_L7
  subst hi
  rw [bm_nat (by omega)]
  exact BR_t hl h
def all_iB : Bool := (List.range 256).all fun k => iB (k : Int) == if k < 128 then (k : Int) else (k : Int) - 256
theorem all_iB_t : all_iB = true := by decide +kernel
theorem iB_n {k : Nat} (h : k < 256) : iB (k : Int) = if k < 128 then (k : Int) else (k : Int) - 256 := eq_of_beq (List.all_eq_true.mp all_iB_t k (List.mem_range.mpr h))
def all_iC : Bool := (List.range 256).all fun k => iC (iAnd ((k : Int) - 128) 255) == ((k : Int) - 128) % 256
theorem all_iC_t : all_iC = true := by decide +kernel
theorem iC_n {v : Int} (h : -128 ≤ v) (h2 : v < 128) : iC (iAnd v 255) = v % 256 := by
  have := eq_of_beq (List.all_eq_true.mp all_iC_t (v + 128).toNat (List.mem_range.mpr (by omega)))
  rw [show (((v + 128).toNat : Nat) : Int) - 128 = v by omega] at this
  exact this
theorem lf_indexOf {kd z : Int} {c : Nat} (hk : kd = 1 ∨ kd = 2 ∨ kd = 3 ∨ kd = 4 ∨ kd = 5) (hz : z = nmZ kd) (hc : c < 256) {M : Mem} {Q : Int → Mem → Prop} (h : Q (nmI kd c) M) : wJ0_indexOf_0f7a4 z c M Q := by
  simp only [wJ0_indexOf_0f7a4, wJ0_indexOf_7cf53, wJ0_isLatin1_aae02, wJ0_length_8abf5, wJ0_coder_7d493, wJ1_indexOf_4cfef, wJ1_canEncode_9a6ad, wJ1_indexOfChar_4cfef]
  refine BR_f (by decide) (BR_t (by decide) (BR_f q1 (BR_f (by decide) (BR_f (by rw [bm_nat (by omega)]; omega) (BR_f (by rw [bm_nat (by omega)]; omega) (BR_f q1 ?_))))))
  rw [lf_max, if_neg (by rw [bm0]; decide), lf_min]
  have hx : bm (iB (c : Int)) = iB (c : Int) := by rw [iB_n hc]; split <;> exact bm_id (by omega) (by omega)
  have hs : ∀ m : Int, (m = 4 ∨ m = 1 ∨ m = 5) → iShr m 0 = m := by
    intro m hm
    rcases hm with rfl | rfl | rfl <;> decide +kernel
  have hq : ∀ w : Int, w = nmI kd c → Q w M := fun w hw => by rw [hw]; exact h
  rcases hk with rfl | rfl | rfl | rfl | rfl
  · obtain rfl : z = 1 := hz
    rw [show sLen 1 = 4 from rfl, hs 4 (by decide), if_neg (by decide)]
    refine BR_t (by decide +kernel) (LET_i ⟨6, ?_⟩)
    refine ixc (i := 0) rfl (by decide +kernel) (by decide +kernel) (by decide) (show bm (sByte 1 0) = 97 from by decide +kernel) (fun q => hq _ ?_) (fun q => ixc (i := 1) rfl (by decide +kernel) (by decide +kernel) (by decide) (show bm (sByte 1 (0 + 1)) = 98 from by decide +kernel) (fun q => hq _ ?_) (fun q => ixc (i := 2) rfl (by decide +kernel) (by decide +kernel) (by decide) (show bm (sByte 1 (0 + 1 + 1)) = 107 from by decide +kernel) (fun q => hq _ ?_) (fun q => ixc (i := 3) rfl (by decide +kernel) (by decide +kernel) (by decide) (show bm (sByte 1 (0 + 1 + 1 + 1)) = 115 from by decide +kernel) (fun q => hq _ ?_) (fun q => ixe (i := 4) rfl (by decide +kernel) (by decide) (hq _ ?_)))))
    all_goals
      rw [hx, iB_n hc] at *
      unfold nmI
      repeat' split
      all_goals omega
  · obtain rfl : z = 2 := hz
    rw [show sLen 2 = 1 from rfl, hs 1 (by decide), if_neg (by decide)]
    refine BR_t (by decide +kernel) (LET_i ⟨6, ?_⟩)
    refine ixc (i := 0) rfl (by decide +kernel) (by decide +kernel) (by decide) (show bm (sByte 2 0) = 109 from by decide +kernel) (fun q => hq _ ?_) (fun q => ixe (i := 1) rfl (by decide +kernel) (by decide) (hq _ ?_))
    all_goals
      rw [hx, iB_n hc] at *
      unfold nmI
      repeat' split
      all_goals omega
  · obtain rfl : z = 3 := hz
    rw [show sLen 3 = 5 from rfl, hs 5 (by decide), if_neg (by decide)]
    refine BR_t (by decide +kernel) (LET_i ⟨6, ?_⟩)
    refine ixc (i := 0) rfl (by decide +kernel) (by decide +kernel) (by decide) (show bm (sByte 3 0) = 112 from by decide +kernel) (fun q => hq _ ?_) (fun q => ixc (i := 1) rfl (by decide +kernel) (by decide +kernel) (by decide) (show bm (sByte 3 (0 + 1)) = 110 from by decide +kernel) (fun q => hq _ ?_) (fun q => ixc (i := 2) rfl (by decide +kernel) (by decide +kernel) (by decide) (show bm (sByte 3 (0 + 1 + 1)) = 108 from by decide +kernel) (fun q => hq _ ?_) (fun q => ixc (i := 3) rfl (by decide +kernel) (by decide +kernel) (by decide) (show bm (sByte 3 (0 + 1 + 1 + 1)) = 105 from by decide +kernel) (fun q => hq _ ?_) (fun q => ixc (i := 4) rfl (by decide +kernel) (by decide +kernel) (by decide) (show bm (sByte 3 (0 + 1 + 1 + 1 + 1)) = 106 from by decide +kernel) (fun q => hq _ ?_) (fun q => ixe (i := 5) rfl (by decide +kernel) (by decide) (hq _ ?_))))))
    all_goals
      rw [hx, iB_n hc] at *
      unfold nmI
      repeat' split
      all_goals omega
  · obtain rfl : z = 4 := hz
    rw [show sLen 4 = 1 from rfl, hs 1 (by decide), if_neg (by decide)]
    refine BR_t (by decide +kernel) (LET_i ⟨6, ?_⟩)
    refine ixc (i := 0) rfl (by decide +kernel) (by decide +kernel) (by decide) (show bm (sByte 4 0) = 116 from by decide +kernel) (fun q => hq _ ?_) (fun q => ixe (i := 1) rfl (by decide +kernel) (by decide) (hq _ ?_))
    all_goals
      rw [hx, iB_n hc] at *
      unfold nmI
      repeat' split
      all_goals omega
  · obtain rfl : z = 1 := hz
    rw [show sLen 1 = 4 from rfl, hs 4 (by decide), if_neg (by decide)]
    refine BR_t (by decide +kernel) (LET_i ⟨6, ?_⟩)
    refine ixc (i := 0) rfl (by decide +kernel) (by decide +kernel) (by decide) (show bm (sByte 1 0) = 97 from by decide +kernel) (fun q => hq _ ?_) (fun q => ixc (i := 1) rfl (by decide +kernel) (by decide +kernel) (by decide) (show bm (sByte 1 (0 + 1)) = 98 from by decide +kernel) (fun q => hq _ ?_) (fun q => ixc (i := 2) rfl (by decide +kernel) (by decide +kernel) (by decide) (show bm (sByte 1 (0 + 1 + 1)) = 107 from by decide +kernel) (fun q => hq _ ?_) (fun q => ixc (i := 3) rfl (by decide +kernel) (by decide +kernel) (by decide) (show bm (sByte 1 (0 + 1 + 1 + 1)) = 115 from by decide +kernel) (fun q => hq _ ?_) (fun q => ixe (i := 4) rfl (by decide +kernel) (by decide) (hq _ ?_)))))
    all_goals
      rw [hx, iB_n hc] at *
      unfold nmI
      repeat' split
      all_goals omega
