/-! TEXTS: the class's reader does what prs does -/
section Reader
variable {B b : Nat → Int} {n : Nat} {kd : Int}
theorem rc_num {s : PS} {M : Mem} {Q : Int → Mem → Prop} (hR : RC B n kd M s) (hB : Byt B b n) (hp : s.1 ≤ n) (hd : 48 ≤ lk b n s.1 ∧ lk b n s.1 ≤ 57) (hl : s.2.2.2.length < 50)
    (k2 : 48 ≤ lk b n (s.1 + 1) ∧ lk b n (s.1 + 1) ≤ 57 → ∀ M', Fr tx M M' → RC B n kd M' (s.1 + 2, s.2.1, s.2.2.1, (0, 10 * (lk b n s.1 - 48) + lk b n (s.1 + 1) - 48) :: s.2.2.2) → Q 1 M')
    (k1 : ¬ (48 ≤ lk b n (s.1 + 1) ∧ lk b n (s.1 + 1) ≤ 57) → ∀ M', Fr tx M M' → RC B n kd M' (s.1 + 1, s.2.1, s.2.2.1, (0, lk b n s.1 - 48) :: s.2.2.2) → Q 1 M') : wX4_readNumber 111 M Q := by
  have hlt : s.1 < n := lk_lt (b := b) rfl (by omega)
  have hn50 := hB.1
  have rdv : ∀ {M' : Mem} {s' : PS}, RC B n kd M' s' → s'.1 < n → 48 ≤ lk b n s'.1 ∧ lk b n s'.1 ≤ 57 → rd M' 113 (M' 111 5) = lk b n s'.1 := by
    intro M' s' h h1 h2
    have hb1 := hB.2 s'.1 h1
    rw [h.2.2.2.2.1, rd_at rfl (by omega), h.2.2.2.2.2.2.2]
    unfold lk at h2 ⊢
    rw [if_pos h1] at h2 ⊢
    omega
  unfold wX4_readNumber
  refine ⟨4, ?_⟩
  unfold wX4_readNumber_L4
  refine BR_f (by decide +kernel) (rc_dg hR hB hp (fun _ => BR_f q1 ⟨?_, LET_i (LET_i (LET_i ?_))⟩) (fun h => absurd hd h))
  · rw [hR.2.2.2.2.1]
    exact inb_of rfl (by omega) (by decide)
  simp only [Nat.reduceAdd]
  rw [rdv hR hlt hd]
  have hR1 : RC B n kd (up M 111 5 (M 111 5 + 1)) (s.1 + 1, s.2.1, s.2.2.1, s.2.2.2) := by
    refine hR.of (fun a ha => up_c ha) (fun j h5 _ _ => up_kn h5) rfl ?_ ?_ ?_
    · rw [up_s, hR.2.2.2.2.1]
      simp
    · rw [up_kn (by decide)]
      exact hR.2.2.2.2.2.1
    · rw [up_kn (by decide)]
      exact hR.2.2.2.2.2.2.1
  have hF1 : Fr tx M (up M 111 5 (M 111 5 + 1)) := fun a ha => up_c (fun e => ha (Or.inl e))
  unfold wX4_readNumber_L4
  refine BR_f (by decide +kernel) (rc_dg hR1 hB (by dsimp only; omega) (fun h2 => BR_f q1 ⟨?_, LET_i (LET_i (LET_i ?_))⟩) (fun h2 => BR_t q0 ?_))
  · rw [hR1.2.2.2.2.1]
    have : s.1 + 1 < n := lk_lt (b := b) rfl (by dsimp only at h2; omega)
    exact inb_of rfl (by dsimp only; omega) (by decide)
  · have hlt2 : s.1 + 1 < n := lk_lt (b := b) rfl (by dsimp only at h2; omega)
    simp only [Nat.reduceAdd]
    rw [rdv hR1 hlt2 h2]
    have hR2 : RC B n kd (up (up M 111 5 (M 111 5 + 1)) 111 5 (up M 111 5 (M 111 5 + 1) 111 5 + 1)) (s.1 + 2, s.2.1, s.2.2.1, s.2.2.2) := by
      refine hR1.of (fun a ha => up_c ha) (fun j h5 _ _ => up_kn h5) rfl ?_ ?_ ?_
      · rw [up_s, hR1.2.2.2.2.1]
        dsimp only
        omega
      · rw [up_kn (by decide)]
        exact hR1.2.2.2.2.2.1
      · rw [up_kn (by decide)]
        exact hR1.2.2.2.2.2.2.1
    have hF2 : Fr tx M (up (up M 111 5 (M 111 5 + 1)) 111 5 (up M 111 5 (M 111 5 + 1) 111 5 + 1)) := fun a ha => by rw [up_c (fun e => ha (Or.inl e))]; exact hF1 a ha
    unfold wX4_readNumber_L4 wX4_readNumber_J50
    refine BR_t (by decide +kernel) (rc_wr hR2 hl (w := 0) (x := 10 * (lk b n s.1 - 48) + lk b n (s.1 + 1) - 48) ?_ (fun M3 hF3 hR3 => ⟨isB1, k2 h2 M3 (hF2.tr hF3 (fun _ h => h) (fun _ h => h)) hR3⟩))
    simp only [cdOf, if_true]
    omega
  · unfold wX4_readNumber_J50
    refine rc_wr hR1 hl (w := 0) (x := lk b n s.1 - 48) ?_ (fun M3 hF3 hR3 => ⟨isB1, k1 h2 M3 (hF1.tr hF3 (fun _ h => h) (fun _ h => h)) hR3⟩)
    simp only [cdOf, if_true]
    omega
def Sim (B b : Nat → Int) (n : Nat) (kd : Int) (f : Nat) (G : Mem → (Int → Mem → Prop) → Prop) (k o : Nat) : Prop := ∀ (s : PS) (M : Mem) (Q : Int → Mem → Prop), RC B n kd M s → s.1 ≤ n → s.2.1 = o → s.2.2.2.length ≤ s.1 → (∀ s' M', prs b n kd f k s = (true, s') → Fr tx M M' → RC B n kd M' s' → Q 1 M') → (∀ s' M', prs b n kd f k s = (false, s') → Fr tx M M' → M' 111 5 = (s'.1 : Int) → Q 0 M') → G M Q
theorem frt {M M' M'' : Mem} (h : Fr tx M M') (h' : Fr tx M' M'') : Fr tx M M'' := h.tr h' (fun _ q => q) (fun _ q => q)
/-- a sign behind which a part is read -/
theorem RC.sign {s : PS} {M : Mem} (hR : RC B n kd M s) : RC B n kd (up (up M 111 5 (M 111 5 + 1)) 111 7 (up M 111 5 (M 111 5 + 1) 111 7 + 1)) (s.1 + 1, s.2.1, s.2.2.1 + 1, s.2.2.2) ∧ Fr tx M (up (up M 111 5 (M 111 5 + 1)) 111 7 (up M 111 5 (M 111 5 + 1) 111 7 + 1)) := by
  refine ⟨hR.of (fun a ha => by rw [up_c ha, up_c ha]) (fun j h5 _ h7 => by rw [up_kn h7, up_kn h5]) rfl ?_ ?_ ?_, fun a ha => by rw [up_c (fun e => ha (Or.inl e)), up_c (fun e => ha (Or.inl e))]⟩
  · rw [up_kn (by decide), up_s, hR.2.2.2.2.1]
    dsimp only
    omega
  · rw [up_kn (by decide), up_kn (by decide)]
    exact hR.2.2.2.2.2.1
  · rw [up_s, up_kn (by decide), hR.2.2.2.2.2.2.1]
    dsimp only
    omega
theorem RC.sg {s : PS} {M : Mem} (hR : RC B n kd M s) : RC B n kd (up M 111 7 (M 111 7 + 1)) (s.1, s.2.1, s.2.2.1 + 1, s.2.2.2) ∧ Fr tx M (up M 111 7 (M 111 7 + 1)) := by
  refine ⟨hR.of (fun a ha => up_c ha) (fun j _ _ h7 => up_kn h7) rfl ?_ ?_ ?_, fun a ha => up_c (fun e => ha (Or.inl e))⟩
  · rw [up_kn (by decide)]
    exact hR.2.2.2.2.1
  · rw [up_kn (by decide)]
    exact hR.2.2.2.2.2.1
  · rw [up_s, hR.2.2.2.2.2.2.1]
    dsimp only
    omega
theorem RC.pl {s : PS} {M : Mem} (hR : RC B n kd M s) : RC B n kd (up M 111 5 (M 111 5 + 1)) (s.1 + 1, s.2.1, s.2.2.1, s.2.2.2) ∧ Fr tx M (up M 111 5 (M 111 5 + 1)) := by
  refine ⟨hR.of (fun a ha => up_c ha) (fun j h5 _ _ => up_kn h5) rfl ?_ ?_ ?_, fun a ha => up_c (fun e => ha (Or.inl e))⟩
  · rw [up_s, hR.2.2.2.2.1]
    dsimp only
    omega
  · rw [up_kn (by decide)]
    exact hR.2.2.2.2.2.1
  · rw [up_kn (by decide)]
    exact hR.2.2.2.2.2.2.1
theorem RC.cl {s : PS} {M : Mem} (hR : RC B n kd M s) (ho : 1 ≤ s.2.1) : RC B n kd (up M 111 6 (M 111 6 - 1)) (s.1, s.2.1 - 1, s.2.2.1, s.2.2.2) ∧ Fr tx M (up M 111 6 (M 111 6 - 1)) := by
  refine ⟨hR.of (fun a ha => up_c ha) (fun j _ h6 _ => up_kn h6) rfl ?_ ?_ ?_, fun a ha => up_c (fun e => ha (Or.inl e))⟩
  · rw [up_kn (by decide)]
    exact hR.2.2.2.2.1
  · rw [up_s, hR.2.2.2.2.2.1]
    dsimp only
    omega
  · rw [up_kn (by decide)]
    exact hR.2.2.2.2.2.2.1
theorem rc_byte {s : PS} {M : Mem} (hR : RC B n kd M s) (hB : Byt B b n) (h0 : 0 ≤ lk b n s.1) (h1 : lk b n s.1 < 128) : rd M 113 (M 111 5) = lk b n s.1 ∧ s.1 < n ∧ inb (M 111 5) 50 := by
  have hlt : s.1 < n := lk_lt rfl h0
  have hb1 := hB.2 s.1 hlt
  have hn50 := hB.1
  refine ⟨?_, hlt, by rw [hR.2.2.2.2.1]; exact inb_of rfl (by omega) (by decide)⟩
  rw [hR.2.2.2.2.1, rd_at rfl (by omega), hR.2.2.2.2.2.2.2]
  unfold lk at h0 h1 ⊢
  rw [if_pos hlt] at h0 h1 ⊢
  omega
theorem sc_sum {f o : Nat} {G : Nat → List Int → Mem → (Int → Mem → Prop) → Prop} (hB : Byt B b n) (hS : Sim B b n kd f (G 2 []) 2 o) : ∀ (N i : Nat), i + N = 50 → ∀ (s : PS) (M : Mem) (Q : Int → Mem → Prop) (x2 : Int), x2 = (i : Int) → RC B n kd M s → s.1 ≤ n → s.2.1 = o → s.2.2.2.length ≤ s.1 → (∀ s' M', plp (prs b n kd f 2) cS b n N s = (true, s') → Fr tx M M' → RC B n kd M' s' → Q 1 M') → (∀ s' M', plp (prs b n kd f 2) cS b n N s = (false, s') → Fr tx M M' → M' 111 5 = (s'.1 : Int) → Q 0 M') → wX4_readSum_L7 G Q 111 (N + 2) 1 x2 M
  | 0, i, hi, s, M, Q, x2, hx, hR, hp, ho, hL, hQ1, hQ0 => by
    subst hx
    unfold wX4_readSum_L7
    exact BR_t (by rw [bm_nat (by omega)]; omega) ⟨isB1, hQ1 s M rfl Fr.rf hR⟩
  | N + 1, i, hi, s, M, Q, x2, hx, hR, hp, ho, hL, hQ1, hQ0 => by
    subst hx
    have sgn : cS (lk b n s.1) = true → wX4_readSum_J35 G Q (fun x1' x2' M' => wX4_readSum_L7 G Q 111 (N + 2) x1' x2' M') 111 (i : Int) M := by
      intro hc
      obtain ⟨c0, c1⟩ := cS_ok _ hc
      obtain ⟨y1, y2, y3⟩ := rc_byte hR hB c0 (by omega)
      obtain ⟨hR1, hF1⟩ := hR.sign
      have hn50 := hB.1
      simp only [wX4_readSum_J35, wX4_readSum_J88, wX4_readSum_J89, Nat.reduceAdd]
      rw [y1]
      refine ⟨y3, LET_i (LET_i (LET_i (hS (s.1 + 1, s.2.1, s.2.2.1 + 1, s.2.2.2) _ _ hR1 (by dsimp only; omega) ho (by dsimp only; omega) (fun s' M' e hF hR' => BR_f q1 ?_) (fun s' M' e hF h5 => BR_t q0 (LET_i ?_)))))⟩
      · obtain ⟨a1, a2, a3, a4, a5, a6⟩ := (prs_ok _ _ _ _ e (by dsimp only; omega)).1
        dsimp only at a1 a2 a3 a4 a5
        refine rc_wr hR' (by omega) (w := 3) (x := lk b n s.1) (by simp [cdOf]) (fun M3 hF3 hR3 => BR_f q1 (LET_i ?_))
        refine sc_sum hB hS N (i + 1) (by omega) _ M3 Q _ (by omega) hR3 a2 (by dsimp only; omega) (by simp only [List.length_cons]; omega) (fun s'' M'' e'' hF'' hR'' => hQ1 s'' M'' ?_ (frt (frt (frt hF1 hF) hF3) hF'') hR'') (fun s'' M'' e'' hF'' h5'' => hQ0 s'' M'' ?_ (frt (frt (frt hF1 hF) hF3) hF'') h5'')
        · rw [plp, if_pos hc, e]
          exact e''
        · rw [plp, if_pos hc, e]
          exact e''
      · unfold wX4_readSum_L7
        have r : Q 0 M' := hQ0 s' M' (by rw [plp, if_pos hc, e]) (frt hF1 hF) h5
        exact BR_i (fun _ => ⟨isB0, r⟩) (fun _ => BR_t q0 ⟨isB0, r⟩)
    unfold wX4_readSum_L7
    refine BR_f (by rw [bm_nat (by omega)]; omega) (BR_f q1 (rc_at (c := 43) hR hB hp (by decide) (fun h => BR_f q1 (sgn (by rw [h]; rfl))) (fun h => BR_t q0 (rc_at (c := 45) hR hB hp (by decide) (fun h => BR_f q1 (sgn (by rw [h]; rfl))) (fun h' => BR_t q0 ⟨isB1, hQ1 s M ?_ Fr.rf hR⟩)))))
    rw [plp, if_neg]
    simp only [cS, Bool.or_eq_true, decide_eq_true_eq]
    omega
theorem sc_prod {f o : Nat} {G : Nat → List Int → Mem → (Int → Mem → Prop) → Prop} (hB : Byt B b n) (hS : Sim B b n kd f (G 3 []) 3 o) : ∀ (N i : Nat), i + N = 50 → ∀ (s : PS) (M : Mem) (Q : Int → Mem → Prop) (x2 : Int), x2 = (i : Int) → RC B n kd M s → s.1 ≤ n → s.2.1 = o → s.2.2.2.length ≤ s.1 → (∀ s' M', plp (prs b n kd f 3) cP b n N s = (true, s') → Fr tx M M' → RC B n kd M' s' → Q 1 M') → (∀ s' M', plp (prs b n kd f 3) cP b n N s = (false, s') → Fr tx M M' → M' 111 5 = (s'.1 : Int) → Q 0 M') → wX4_readProduct_L7 G Q 111 (N + 2) 1 x2 M
  | 0, i, hi, s, M, Q, x2, hx, hR, hp, ho, hL, hQ1, hQ0 => by
    subst hx
    unfold wX4_readProduct_L7
    exact BR_t (by rw [bm_nat (by omega)]; omega) ⟨isB1, hQ1 s M rfl Fr.rf hR⟩
  | N + 1, i, hi, s, M, Q, x2, hx, hR, hp, ho, hL, hQ1, hQ0 => by
    subst hx
    have sgn : cP (lk b n s.1) = true → wX4_readProduct_J53 G Q (fun x1' x2' M' => wX4_readProduct_L7 G Q 111 (N + 2) x1' x2' M') 111 (i : Int) M := by
      intro hc
      obtain ⟨c0, c1⟩ := cP_ok _ hc
      obtain ⟨y1, y2, y3⟩ := rc_byte hR hB c0 (by omega)
      obtain ⟨hR1, hF1⟩ := hR.sign
      have hn50 := hB.1
      simp only [wX4_readProduct_J53, wX4_readProduct_J106, wX4_readProduct_J107, Nat.reduceAdd]
      rw [y1]
      refine ⟨y3, LET_i (LET_i (LET_i (hS (s.1 + 1, s.2.1, s.2.2.1 + 1, s.2.2.2) _ _ hR1 (by dsimp only; omega) ho (by dsimp only; omega) (fun s' M' e hF hR' => BR_f q1 ?_) (fun s' M' e hF h5 => BR_t q0 (LET_i ?_)))))⟩
      · obtain ⟨a1, a2, a3, a4, a5, a6⟩ := (prs_ok _ _ _ _ e (by dsimp only; omega)).1
        dsimp only at a1 a2 a3 a4 a5
        refine rc_wr hR' (by omega) (w := 3) (x := lk b n s.1) (by simp [cdOf]) (fun M3 hF3 hR3 => BR_f q1 (LET_i ?_))
        refine sc_prod hB hS N (i + 1) (by omega) _ M3 Q _ (by omega) hR3 a2 (by dsimp only; omega) (by simp only [List.length_cons]; omega) (fun s'' M'' e'' hF'' hR'' => hQ1 s'' M'' ?_ (frt (frt (frt hF1 hF) hF3) hF'') hR'') (fun s'' M'' e'' hF'' h5'' => hQ0 s'' M'' ?_ (frt (frt (frt hF1 hF) hF3) hF'') h5'')
        · rw [plp, if_pos hc, e]
          exact e''
        · rw [plp, if_pos hc, e]
          exact e''
      · unfold wX4_readProduct_L7
        have r : Q 0 M' := hQ0 s' M' (by rw [plp, if_pos hc, e]) (frt hF1 hF) h5
        exact BR_i (fun _ => ⟨isB0, r⟩) (fun _ => BR_t q0 ⟨isB0, r⟩)
    unfold wX4_readProduct_L7
    refine BR_f (by rw [bm_nat (by omega)]; omega) (BR_f q1 (rc_at (c := 42) hR hB hp (by decide) (fun h => BR_f q1 (sgn (by rw [h]; rfl))) (fun h1 => BR_t q0 (rc_at (c := 47) hR hB hp (by decide) (fun h => BR_f q1 (sgn (by rw [h]; rfl))) (fun h2 => BR_t q0 (rc_at (c := 60) hR hB hp (by decide) (fun h => BR_f q1 (sgn (by rw [h]; rfl))) (fun h3 => BR_t q0 (rc_at (c := 61) hR hB hp (by decide) (fun h => BR_f q1 (sgn (by rw [h]; rfl))) (fun h4 => BR_t q0 ⟨isB1, hQ1 s M ?_ Fr.rf hR⟩)))))))))
    rw [plp, if_neg]
    simp only [cP, Bool.or_eq_true, decide_eq_true_eq]
    omega
theorem sc_all (hB : Byt B b n) (hk : kd = 1 ∨ kd = 2 ∨ kd = 3 ∨ kd = 4 ∨ kd = 5) : ∀ (f d k o : Nat), o ≤ 5 → k ≤ 3 → 5 * (5 - o) + (4 - k) ≤ f → 5 * (5 - o) + (5 - k) ≤ d → Sim B b n kd f (fun M Q => wGX4_readChoice 111 d k [] M Q) k o
  | 0, d, k, o, h5, h3, hf, hd => by omega
  | f + 1, 0, k, o, h5, h3, hf, hd => by omega
  | f + 1, d + 1, k, o, h5, h3, hf, hd => by
    have IH := sc_all hB hk f
    have hn50 := hB.1
    intro s M Q hR hp ho hL hQ1 hQ0
    rcases (show k = 0 ∨ k = 1 ∨ k = 2 ∨ k = 3 by omega) with rfl | rfl | rfl | rfl
    · show wbX4_readChoice (wGX4_readChoice 111 d) 111 M Q
      unfold wbX4_readChoice
      refine IH d 1 o h5 (by decide) (by omega) (by omega) s M _ hR hp ho hL (fun s1 M1 e1 hF1 hR1 => BR_f q1 ?_) (fun s1 M1 e1 hF1 h => BR_t q0 (hQ0 _ _ (p0_f e1) hF1 h))
      obtain ⟨a1, a2, a3, a4, a5, a6⟩ := (prs_ok _ _ _ _ e1 hp).1
      refine rc_at (c := 63) hR1 hB a2 (by decide) (fun h63 => BR_f q1 ?_) (fun h63 => BR_t q0 (hQ1 _ _ (p0_e e1 h63) hF1 hR1))
      refine rc_op hR1 (by omega) (by omega) (fun hn5 M2 hF2 hR2 => BR_f q1 (LET_i ?_)) (fun hn5 => BR_t q0 (hQ0 _ _ (p0_o e1 h63 hn5) hF1 hR1.2.2.2.2.1))
      have hlt := lk_lt h63 (by decide)
      obtain ⟨hR3, hF3⟩ := hR2.sg
      refine IH d 0 (o + 1) (by omega) (by decide) (by omega) (by omega) _ _ _ hR3 (by dsimp only; omega) (by dsimp only; omega) (by dsimp only; omega) (fun s4 M4 e4 hF4 hR4 => BR_f q1 ?_) (fun s4 M4 e4 hF4 h => BR_t q0 (hQ0 _ _ (p0_2 e1 h63 hn5 e4) (frt (frt (frt hF1 hF2) hF3) hF4) h))
      obtain ⟨b1, b2, b3, b4, b5, b6⟩ := (prs_ok _ _ _ _ e4 (by dsimp only; omega)).1
      dsimp only at b1 b2 b3 b4 b5
      refine rc_at (c := 58) hR4 hB b2 (by decide) (fun h58 => BR_f q1 (LET_i ?_)) (fun h58 => BR_t q0 (hQ0 _ _ (p0_c e1 h63 hn5 e4 h58) (frt (frt (frt hF1 hF2) hF3) hF4) hR4.2.2.2.2.1))
      have hlt2 := lk_lt h58 (by decide)
      obtain ⟨hR5, hF5⟩ := hR4.pl
      refine IH d 0 (o + 1) (by omega) (by decide) (by omega) (by omega) _ _ _ hR5 (by dsimp only; omega) (by dsimp only; omega) (by dsimp only; omega) (fun s6 M6 e6 hF6 hR6 => BR_f q1 (LET_i ?_)) (fun s6 M6 e6 hF6 h => BR_t q0 (hQ0 _ _ (p0_3 e1 h63 hn5 e4 h58 e6) (frt (frt (frt (frt (frt hF1 hF2) hF3) hF4) hF5) hF6) h))
      obtain ⟨c1, c2, c3, c4, c5, c6⟩ := (prs_ok _ _ _ _ e6 (by dsimp only; omega)).1
      dsimp only at c1 c2 c3 c4 c5
      obtain ⟨hR7, hF7⟩ := hR6.cl (by omega)
      exact rc_wr hR7 (by dsimp only; omega) (w := 4) (x := 0) (by simp [cdOf]) (fun M8 hF8 hR8 => ⟨isB1, hQ1 _ _ (p0_4 e1 h63 hn5 e4 h58 e6) (frt (frt (frt (frt (frt (frt (frt hF1 hF2) hF3) hF4) hF5) hF6) hF7) hF8) hR8⟩)
    · show wbX4_readSum (wGX4_readChoice 111 d) 111 M Q
      unfold wbX4_readSum
      have hS := IH d 2 o h5 (by decide) (by omega) (by omega)
      refine hS s M _ hR hp ho hL (fun s1 M1 e1 hF1 hR1 => ⟨52, ?_⟩) (fun s1 M1 e1 hF1 h => ⟨1, ?_⟩)
      · obtain ⟨a1, a2, a3, a4, a5, a6⟩ := (prs_ok _ _ _ _ e1 hp).1
        refine sc_sum (G := wGX4_readChoice 111 d) hB hS 50 0 (by decide) s1 M1 Q 0 rfl hR1 a2 (by omega) (by omega) (fun s' M' e hF hR' => hQ1 _ _ (by rw [p1_t e1, e]) (frt hF1 hF) hR') (fun s' M' e hF h => hQ0 _ _ (by rw [p1_t e1, e]) (frt hF1 hF) h)
      · unfold wX4_readSum_L7
        have r := hQ0 _ _ (p1_f e1) hF1 h
        exact BR_f (by decide +kernel) (BR_t q0 ⟨isB0, r⟩)
    · show wbX4_readProduct (wGX4_readChoice 111 d) 111 M Q
      unfold wbX4_readProduct
      have hS := IH d 3 o h5 (by decide) (by omega) (by omega)
      refine hS s M _ hR hp ho hL (fun s1 M1 e1 hF1 hR1 => ⟨52, ?_⟩) (fun s1 M1 e1 hF1 h => ⟨1, ?_⟩)
      · obtain ⟨a1, a2, a3, a4, a5, a6⟩ := (prs_ok _ _ _ _ e1 hp).1
        refine sc_prod (G := wGX4_readChoice 111 d) hB hS 50 0 (by decide) s1 M1 Q 0 rfl hR1 a2 (by omega) (by omega) (fun s' M' e hF hR' => hQ1 _ _ (by rw [p2_t e1, e]) (frt hF1 hF) hR') (fun s' M' e hF h => hQ0 _ _ (by rw [p2_t e1, e]) (frt hF1 hF) h)
      · unfold wX4_readProduct_L7
        have r := hQ0 _ _ (p2_f e1) hF1 h
        exact BR_f (by decide +kernel) (BR_t q0 ⟨isB0, r⟩)
    · show wbX4_readOne (wGX4_readChoice 111 d) 111 M Q
      unfold wbX4_readOne
      refine rc_at (c := 45) hR hB hp (by decide) (fun h45 => BR_f q1 ?_) (fun h45 => BR_t q0 (rc_at (c := 40) hR hB hp (by decide) (fun h40 => BR_f q1 ?_) (fun h40 => BR_t q0 (rc_dg hR hB hp (fun hdg => BR_f q1 ?_) (fun hdg => BR_t q0 ?_)))))
      · have hno : ¬ 0 ≤ nmI kd (lk b n s.1) := nm_no (Or.inl h45)
        have hlt := lk_lt h45 (by decide)
        obtain ⟨d', rfl⟩ : ∃ d', d = d' + 1 := ⟨d - 1, by omega⟩
        show wbX4_readNegated (wGX4_readChoice 111 d') 111 M (fun r M' => isB r ∧ Q r M')
        unfold wbX4_readNegated
        refine rc_op hR (by omega) (by omega) (fun hn5 M2 hF2 hR2 => BR_f q1 (LET_i ?_)) (fun hn5 => BR_t q0 ⟨isB0, hQ0 _ _ (p3_mo hno h45 hn5) Fr.rf hR.2.2.2.2.1⟩)
        obtain ⟨hR3, hF3⟩ := hR2.sg
        refine IH d' 3 (o + 1) (by omega) (by decide) (by omega) (by omega) _ _ _ hR3 (by dsimp only; omega) (by dsimp only; omega) (by dsimp only; omega) (fun s4 M4 e4 hF4 hR4 => BR_f q1 (LET_i ?_)) (fun s4 M4 e4 hF4 h => BR_t q0 ⟨isB0, hQ0 _ _ (p3_mf hno h45 hn5 e4) (frt (frt hF2 hF3) hF4) h⟩)
        obtain ⟨b1, b2, b3, b4, b5, b6⟩ := (prs_ok _ _ _ _ e4 (by dsimp only; omega)).1
        dsimp only at b1 b2 b3 b4 b5
        obtain ⟨hR7, hF7⟩ := hR4.cl (by omega)
        exact rc_wr hR7 (by dsimp only; omega) (w := 2) (x := 0) (by simp [cdOf]) (fun M8 hF8 hR8 => ⟨isB1, isB1, hQ1 _ _ (p3_mt hno h45 hn5 e4) (frt (frt (frt (frt hF2 hF3) hF4) hF7) hF8) hR8⟩)
      · have hno : ¬ 0 ≤ nmI kd (lk b n s.1) := nm_no (Or.inr (Or.inl h40))
        have hlt := lk_lt h40 (by decide)
        obtain ⟨d', rfl⟩ : ∃ d', d = d' + 1 := ⟨d - 1, by omega⟩
        show wbX4_readBraced (wGX4_readChoice 111 d') 111 M (fun r M' => isB r ∧ Q r M')
        unfold wbX4_readBraced
        refine rc_op hR (by omega) (by omega) (fun hn5 M2 hF2 hR2 => BR_f q1 ?_) (fun hn5 => BR_t q0 ⟨isB0, hQ0 _ _ (p3_bo hno h40 hn5) Fr.rf hR.2.2.2.2.1⟩)
        refine IH d' 0 (o + 1) (by omega) (by decide) (by omega) (by omega) _ _ _ hR2 (by dsimp only; omega) (by dsimp only; omega) (by dsimp only; omega) (fun s4 M4 e4 hF4 hR4 => BR_f q1 ?_) (fun s4 M4 e4 hF4 h => BR_t q0 ⟨isB0, hQ0 _ _ (p3_bf hno h40 hn5 e4) (frt hF2 hF4) h⟩)
        obtain ⟨b1, b2, b3, b4, b5, b6⟩ := (prs_ok _ _ _ _ e4 (by dsimp only; omega)).1
        dsimp only at b1 b2 b3 b4 b5
        refine rc_at (c := 41) hR4 hB b2 (by decide) (fun h41 => BR_f q1 (LET_i (LET_i ?_))) (fun h41 => BR_t q0 ⟨isB0, hQ0 _ _ (p3_bc hno h40 hn5 e4 h41) (frt hF2 hF4) hR4.2.2.2.2.1⟩)
        obtain ⟨hR7, hF7⟩ := hR4.cl (by omega)
        obtain ⟨hR8, hF8⟩ := hR7.pl
        exact ⟨isB1, hQ1 _ _ (p3_bt hno h40 hn5 e4 h41) (frt (frt (frt hF2 hF4) hF7) hF8) hR8⟩
      · have hno : ¬ 0 ≤ nmI kd (lk b n s.1) := nm_no (Or.inr (Or.inr hdg))
        have hlt := lk_lt (b := b) (n := n) (p := s.1) rfl (by omega)
        exact rc_num hR hB hp hdg (by omega) (fun h2 M' hF hR' => ⟨isB1, hQ1 _ _ (p3_d2 hno hdg h2) hF hR'⟩) (fun h2 M' hF hR' => ⟨isB1, hQ1 _ _ (p3_d1 hno hdg h2) hF hR'⟩)
      · simp only [wX4_readOne_J76, Nat.reduceAdd]
        rw [hR.2.2.1, hR.2.2.2.2.1, bm_nat (n := n) (by omega), bm_nat (n := s.1) (by omega)]
        refine BR_i (fun hge => BR_f (by decide +kernel) (hQ0 _ _ ?_ Fr.rf hR.2.2.2.2.1)) (fun hlt => ?_)
        · have hl : lk b n s.1 = -1 := by unfold lk; rw [if_neg (by omega)]
          refine p3_e ?_ hdg h45 h40
          rw [hl]
          intro h
          have := nmI_nn h
          omega
        · have hb1 := hB.2 s.1 (by omega)
          have hl : lk b n s.1 = b s.1 := by unfold lk; rw [if_pos (by omega)]
          rw [hR.2.2.2.1, rd_at rfl (by omega), hR.2.2.2.2.2.2.2, iC_n hb1.1.1 hb1.1.2, ← hb1.2]
          obtain ⟨c, hc⟩ : ∃ c : Nat, b s.1 = (c : Int) := ⟨(b s.1).toNat, by omega⟩
          have hs : isS (nmZ kd) := by
            unfold nmZ isS
            repeat' split
            all_goals omega
          rw [hc]
          refine ⟨hs, inb_of rfl (by omega) (by decide), lf_indexOf hk rfl (by omega) ?_⟩
          have hr : -1 ≤ nmI kd (c : Int) ∧ nmI kd (c : Int) ≤ 4 := by
            unfold nmI
            repeat' split
            all_goals omega
          rw [bm_id (z := nmI kd (c : Int)) (by omega) (by omega)]
          refine BR_i (fun hnm => LET_i ?_) (fun hnm => hQ0 _ _ (p3_e (by rw [hl, hc]; exact hnm) hdg h45 h40) Fr.rf hR.2.2.2.2.1)
          obtain ⟨hR5, hF5⟩ := hR.pl
          refine rc_wr hR5 (by dsimp only; omega) (w := 1) (x := lk b n s.1) ?_ (fun M8 hF8 hR8 => ⟨isB1, hQ1 _ _ (p3_n (by rw [hl, hc]; exact hnm)) (frt hF5 hF8) hR8⟩)
          rw [hl, hc]
          simp [cdOf]
end Reader
