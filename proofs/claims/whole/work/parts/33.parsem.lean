/-! TEXTS: the reference reads them so -/
def Sds (M : Mem) : List (Int × Int) → Prop
  | [] => True
  | x :: L => Sds M L ∧ M 129 (2 * L.length) = x.1 ∧ M 129 (2 * L.length + 1) = x.2
theorem Sds.congr {M M' : Mem} : ∀ {L : List (Int × Int)}, (∀ i, i < 2 * L.length → M' 129 i = M 129 i) → Sds M L → Sds M' L
  | [], _, _ => trivial
  | x :: L, h, q => ⟨Sds.congr (fun i hi => h i (by simp only [List.length_cons]; omega)) q.1, by rw [h _ (by simp only [List.length_cons]; omega)]; exact q.2.1, by rw [h _ (by simp only [List.length_cons]; omega)]; exact q.2.2⟩
def FrM (M M' : Mem) : Prop := (∀ a, a ≠ 125 → a ≠ 129 → M' a = M a) ∧ ∀ j, j ≠ 4 → j ≠ 5 → j ≠ 6 → j ≠ 7 → M' 125 j = M 125 j
theorem FrM.rf {M : Mem} : FrM M M := ⟨fun _ _ _ => rfl, fun _ _ _ _ _ => rfl⟩
theorem FrM.tr {M M' M'' : Mem} (h : FrM M M') (h' : FrM M' M'') : FrM M M'' := ⟨fun a q1 q2 => by rw [h'.1 a q1 q2, h.1 a q1 q2], fun j q1 q2 q3 q4 => by rw [h'.2 j q1 q2 q3 q4, h.2 j q1 q2 q3 q4]⟩
theorem FrM.up {M : Mem} {j : Nat} {v : Int} (hj : j = 4 ∨ j = 5 ∨ j = 6 ∨ j = 7) : FrM M (up M 125 j v) := ⟨fun a q1 _ => up_c q1, fun i q1 q2 q3 q4 => up_kn (by omega)⟩
section RefReader
variable {b : Nat → Int} {n : Nat} {kd : Int} {T : Nat → Int}
def RM (T : Nat → Int) (kd : Int) (M : Mem) (s : PS) : Prop := M 125 7 = (s.2.2.2.length : Int) ∧ Sds M s.2.2.2 ∧ M 125 4 = (s.1 : Int) ∧ M 125 5 = (s.2.1 : Int) ∧ M 125 6 = (s.2.2.1 : Int) ∧ M 125 8 = kd ∧ M 126 = T
def Tap (T b : Nat → Int) (n : Nat) : Prop := n ≤ 50 ∧ T 4 = (n : Int) ∧ ∀ i, i < n → T (1460 + i) = b i ∧ 0 ≤ b i ∧ b i ≤ 255
theorem RM.of {M M' : Mem} {s s' : PS} (hR : RM T kd M s) (hc : ∀ a, a ≠ 125 → M' a = M a) (h7 : M' 125 7 = M 125 7) (h8 : M' 125 8 = M 125 8) (hL : s'.2.2.2 = s.2.2.2) (h4 : M' 125 4 = (s'.1 : Int)) (h5 : M' 125 5 = (s'.2.1 : Int)) (h6 : M' 125 6 = (s'.2.2.1 : Int)) : RM T kd M' s' := by
  obtain ⟨r1, r2, r3, r4, r5, r6, r7⟩ := hR
  exact ⟨by rw [hL, h7]; exact r1, by rw [hL]; exact r2.congr (fun i _ => by rw [hc 129 (by decide)]), h4, h5, h6, by rw [h8]; exact r6, by rw [hc 126 (by decide)]; exact r7⟩
theorem RM.at {M : Mem} {s : PS} (hR : RM T kd M s) : RM T kd (up M 125 4 (M 125 4 + 1)) (s.1 + 1, s.2.1, s.2.2.1, s.2.2.2) := by
  refine hR.of (fun a ha => up_c ha) (up_kn (by decide)) (up_kn (by decide)) rfl ?_ ?_ ?_
  · rw [up_s, hR.2.2.1]
    dsimp only
    omega
  · rw [up_kn (by decide)]
    exact hR.2.2.2.1
  · rw [up_kn (by decide)]
    exact hR.2.2.2.2.1
theorem RM.sg {M : Mem} {s : PS} (hR : RM T kd M s) : RM T kd (up M 125 6 (M 125 6 + 1)) (s.1, s.2.1, s.2.2.1 + 1, s.2.2.2) := by
  refine hR.of (fun a ha => up_c ha) (up_kn (by decide)) (up_kn (by decide)) rfl ?_ ?_ ?_
  · rw [up_kn (by decide)]
    exact hR.2.2.1
  · rw [up_kn (by decide)]
    exact hR.2.2.2.1
  · rw [up_s, hR.2.2.2.2.1]
    dsimp only
    omega
theorem RM.cl {M : Mem} {s : PS} (hR : RM T kd M s) (ho : 1 ≤ s.2.1) : RM T kd (up M 125 5 (M 125 5 - 1)) (s.1, s.2.1 - 1, s.2.2.1, s.2.2.2) := by
  refine hR.of (fun a ha => up_c ha) (up_kn (by decide)) (up_kn (by decide)) rfl ?_ ?_ ?_
  · rw [up_kn (by decide)]
    exact hR.2.2.1
  · rw [up_s, hR.2.2.2.1]
    dsimp only
    omega
  · rw [up_kn (by decide)]
    exact hR.2.2.2.2.1
theorem rm_lk {M : Mem} {s : PS} {Q : Int → Mem → Prop} (hR : RM T kd M s) (hT : Tap T b n) (hp : s.1 ≤ n) (h : Q (lk b n s.1) M) : wX12_look 125 M Q := by
  obtain ⟨r1, r2, r3, r4, r5, r6, r7⟩ := hR
  obtain ⟨hn, h4, hb⟩ := hT
  simp only [wX12_look, Nat.reduceAdd]
  rw [rd_at (i := 4) (n := 4) rfl (by decide), r7, h4, r3, bm_nat (n := n) (by omega), bm_nat (n := s.1) (by omega)]
  unfold lk at h
  refine BR_i (fun hge => ?_) (fun hlt => ⟨inb_of (n := 1460 + s.1) (by omega) (by omega) (by decide), ?_⟩)
  · rw [if_neg (by omega)] at h
    exact h
  · rw [if_pos (by omega)] at h
    rw [rd_at (n := 1460 + s.1) (by omega) (by omega), r7, (hb s.1 (by omega)).1]
    exact h
theorem lk_rg {p : Nat} (hT : Tap T b n) : -1 ≤ lk b n p ∧ lk b n p ≤ 255 ∧ bm (lk b n p) = lk b n p := by
  have : -1 ≤ lk b n p ∧ lk b n p ≤ 255 := by
    unfold lk
    split
    · have := (hT.2.2 p ‹_›).2
      omega
    · omega
  exact ⟨this.1, this.2, bm_id (by omega) (by omega)⟩
theorem rm_nm {M : Mem} {c : Int} {Q : Int → Mem → Prop} (hk : kd = 1 ∨ kd = 2 ∨ kd = 3 ∨ kd = 4 ∨ kd = 5) (h8 : M 125 8 = kd) (hc : bm c = c) (h1 : 0 ≤ nmI kd c → Q 1 M) (h0 : ¬ 0 ≤ nmI kd c → Q 0 M) : wX12_isName 125 c M Q := by
  simp only [wX12_isName, wX12_isName_J40, wX12_isName_J118]
  rw [h8, hc]
  have e1 : ∀ x, x = 1 ∨ x = 5 → nmI x c = if c = 97 then 0 else if c = 98 then 1 else if c = 107 then 2 else if c = 115 then 3 else -1 := fun x hx => by unfold nmI; rw [if_pos hx]
  rcases hk with rfl | rfl | rfl | rfl | rfl
  · rw [e1 1 (Or.inl rfl)] at h1 h0
    refine BR_t (by decide +kernel) (BR_i (fun h => h1 (by rw [if_pos h]; decide)) (fun g1 => BR_i (fun h => h1 (by rw [if_neg g1, if_pos h]; decide)) (fun g2 => BR_i (fun h => h1 (by rw [if_neg g1, if_neg g2, if_pos h]; decide)) (fun g3 => BR_i (fun h => h1 (by rw [if_neg g1, if_neg g2, if_neg g3, if_pos h]; decide)) (fun g4 => h0 (by rw [if_neg g1, if_neg g2, if_neg g3, if_neg g4]; decide))))))
  · refine BR_f (by decide +kernel) (BR_t (by decide +kernel) (BR_i (fun h => h1 (by rw [h]; decide)) (fun g => h0 ?_)))
    unfold nmI
    rw [if_neg (by decide), if_pos rfl, if_neg g]
    decide
  · refine BR_f (by decide +kernel) (BR_f (by decide +kernel) (BR_t (by decide +kernel) (BR_i (fun h => h1 (by rw [h]; decide)) (fun g1 => BR_i (fun h => h1 (by rw [h]; decide)) (fun g2 => BR_i (fun h => h1 (by rw [h]; decide)) (fun g3 => BR_i (fun h => h1 (by rw [h]; decide)) (fun g4 => BR_i (fun h => h1 (by rw [h]; decide)) (fun g5 => h0 ?_))))))))
    unfold nmI
    rw [if_neg (by decide), if_neg (by decide), if_pos rfl, if_neg g1, if_neg g2, if_neg g3, if_neg g4, if_neg g5]
    decide
  · refine BR_f (by decide +kernel) (BR_f (by decide +kernel) (BR_f (by decide +kernel) (BR_t (by decide +kernel) (BR_i (fun h => h1 (by rw [h]; decide)) (fun g => h0 ?_)))))
    unfold nmI
    rw [if_neg (by decide), if_neg (by decide), if_neg (by decide), if_pos rfl, if_neg g]
    decide
  · rw [e1 5 (Or.inr rfl)] at h1 h0
    refine BR_f (by decide +kernel) (BR_f (by decide +kernel) (BR_f (by decide +kernel) (BR_f (by decide +kernel) (BR_t (by decide +kernel) (BR_i (fun h => h1 (by rw [if_pos h]; decide)) (fun g1 => BR_i (fun h => h1 (by rw [if_neg g1, if_pos h]; decide)) (fun g2 => BR_i (fun h => h1 (by rw [if_neg g1, if_neg g2, if_pos h]; decide)) (fun g3 => BR_i (fun h => h1 (by rw [if_neg g1, if_neg g2, if_neg g3, if_pos h]; decide)) (fun g4 => h0 (by rw [if_neg g1, if_neg g2, if_neg g3, if_neg g4]; decide))))))))))
theorem rm_ly {M : Mem} {s : PS} {w v : Int} {Q : Mem → Prop} (hR : RM T kd M s) (hl : s.2.2.2.length < 50) (k : ∀ M', FrM M M' → RM T kd M' (s.1, s.2.1, s.2.2.1, (w, v) :: s.2.2.2) → Q M') : wX12_lay 125 w v M Q := by
  obtain ⟨r1, r2, r3, r4, r5, r6, r7⟩ := hR
  simp only [wX12_lay, Nat.reduceAdd]
  rw [r1]
  refine ⟨inb_of (n := 2 * s.2.2.2.length) (by omega) (by omega) (by decide), LET_i ?_⟩
  rw [wr_up (n := 2 * s.2.2.2.length) (by omega) (by omega), up_c (a := 125) (k := 129) (by decide), r1]
  refine ⟨inb_of (n := 2 * s.2.2.2.length + 1) (by omega) (by omega) (by decide), LET_i ?_⟩
  rw [wr_up (n := 2 * s.2.2.2.length + 1) (by omega) (by omega)]
  refine LET_i (k _ ?_ ?_)
  · refine ⟨fun a q1 q2 => ?_, fun j q1 q2 q3 q4 => ?_⟩
    · simp (disch := omega) only [up_c]
    · simp (disch := omega) only [up_kn, up_c]
  · refine ⟨?_, ⟨r2.congr (fun i hi => ?_), ?_, ?_⟩, ?_, ?_, ?_, ?_, ?_⟩
    · simp (disch := omega) only [up_s, up_c, List.length_cons]
      omega
    · simp (disch := omega) only [up_c, up_kn]
    · simp (disch := omega) only [up_c, up_kn, up_s]
    · simp (disch := omega) only [up_c, up_s]
    · simp (disch := omega) only [up_c, up_kn]
      exact r3
    · simp (disch := omega) only [up_c, up_kn]
      exact r4
    · simp (disch := omega) only [up_c, up_kn]
      exact r5
    · simp (disch := omega) only [up_c, up_kn]
      exact r6
    · simp (disch := omega) only [up_c]
      exact r7
theorem rm_op {M : Mem} {s : PS} {Q : Int → Mem → Prop} (hR : RM T kd M s) (ho : s.2.1 ≤ 5) (h1 : s.2.1 ≠ 5 → ∀ M', FrM M M' → RM T kd M' (s.1 + 1, s.2.1 + 1, s.2.2.1, s.2.2.2) → Q 1 M') (h0 : s.2.1 = 5 → Q 0 M) : wX12_opens 125 M Q := by
  have hR' := hR
  obtain ⟨r1, r2, r3, r4, r5, r6, r7⟩ := hR
  simp only [wX12_opens]
  rw [r4, bm_nat (by omega)]
  refine BR_i (fun h => h0 (by omega)) (fun h => LET_i (LET_i (h1 (by omega) _ ?_ ?_)))
  · exact (FrM.up (by omega)).tr (FrM.up (by omega))
  · refine hR'.of ?_ ?_ ?_ rfl ?_ ?_ ?_
    · intro a ha
      simp (disch := omega) only [up_c]
    · simp (disch := omega) only [up_kn]
    · simp (disch := omega) only [up_kn]
    · simp (disch := omega) only [up_s, up_kn, r3]
      omega
    · simp (disch := omega) only [up_s, up_kn]
      omega
    · simp (disch := omega) only [up_kn]
      exact r5
theorem rm_ps {M : Mem} {s : PS} {Q : Int → Mem → Prop} {c : Nat} (hR : RM T kd M s) (hT : Tap T b n) (hp : s.1 ≤ n) (hc : c < 256) (h1 : lk b n s.1 = c → ∀ M', FrM M M' → RM T kd M' (s.1 + 1, s.2.1, s.2.2.1, s.2.2.2) → Q 1 M') (h0 : lk b n s.1 ≠ c → Q 0 M) : wX12_passes 125 (c : Int) M Q := by
  simp only [wX12_passes]
  refine rm_lk hR hT hp ?_
  rw [(lk_rg hT).2.2, bm_nat (by omega)]
  exact BR_i (fun h => LET_i (h1 h _ (FrM.up (by omega)) hR.at)) (fun h => h0 h)
def SimM (b : Nat → Int) (n : Nat) (kd : Int) (T : Nat → Int) (f : Nat) (G : Mem → (Int → Mem → Prop) → Prop) (k o : Nat) : Prop := ∀ (s : PS) (M : Mem) (Q : Int → Mem → Prop), RM T kd M s → s.1 ≤ n → s.2.1 = o → s.2.2.2.length ≤ s.1 → (∀ s' M', prs b n kd f k s = (true, s') → FrM M M' → RM T kd M' s' → Q 1 M') → (∀ s' M', prs b n kd f k s = (false, s') → FrM M M' → M' 125 4 = (s'.1 : Int) → M' 126 = T → Q 0 M') → G M Q
theorem sm_sum {f o : Nat} {G : Nat → List Int → Mem → (Int → Mem → Prop) → Prop} (hT : Tap T b n) (hS : SimM b n kd T f (G 2 []) 2 o) : ∀ (N : Nat) (s : PS) (M : Mem) (Q : Int → Mem → Prop), n ≤ s.1 + N → RM T kd M s → s.1 ≤ n → s.2.1 = o → s.2.2.2.length ≤ s.1 → (∀ s' M', plp (prs b n kd f 2) cS b n N s = (true, s') → FrM M M' → RM T kd M' s' → Q 1 M') → (∀ s' M', plp (prs b n kd f 2) cS b n N s = (false, s') → FrM M M' → M' 125 4 = (s'.1 : Int) → M' 126 = T → Q 0 M') → wX12_sum_L9 G Q 125 (N + 1) M
  | 0, s, M, Q, hN, hR, hp, ho, hL, hQ1, hQ0 => by
    unfold wX12_sum_L9
    have hl : lk b n s.1 = -1 := by unfold lk; rw [if_neg (by omega)]
    refine rm_lk hR hT hp ?_
    rw [hl, li_n1]
    refine BR_f (by decide) (rm_lk hR hT hp ?_)
    rw [hl, li_n1]
    exact BR_f (by decide) (hQ1 s M rfl FrM.rf hR)
  | N + 1, s, M, Q, hN, hR, hp, ho, hL, hQ1, hQ0 => by
    have hn50 := hT.1
    have sgn : cS (lk b n s.1) = true → wX12_sum_J27 G Q (fun M' => wX12_sum_L9 G Q 125 (N + 1) M') 125 M := by
      intro hc
      obtain ⟨c0, c1⟩ := cS_ok _ hc
      have hlt := lk_lt rfl c0
      simp only [wX12_sum_J27]
      refine rm_lk hR hT hp (LET_i (LET_i (hS (s.1 + 1, s.2.1, s.2.2.1 + 1, s.2.2.2) _ _ hR.at.sg (by dsimp only; omega) ho (by dsimp only; omega) (fun s' M' e hF hR' => BR_f q1 ?_) (fun s' M' e hF h4 h6 => BR_t q0 ?_))))
      · obtain ⟨a1, a2, a3, a4, a5, a6⟩ := (prs_ok _ _ _ _ e (by dsimp only; omega)).1
        dsimp only at a1 a2 a3 a4 a5
        have hF1 := (FrM.up (M := M) (j := 4) (v := M 125 4 + 1) (by omega)).tr (FrM.up (j := 6) (v := up M 125 4 (M 125 4 + 1) 125 6 + 1) (by omega))
        refine rm_ly hR' (by omega) (fun M3 hF3 hR3 => ?_)
        refine sm_sum hT hS N _ M3 Q (by dsimp only; omega) hR3 a2 (by dsimp only; omega) (by simp only [List.length_cons]; omega) (fun s'' M'' e'' hF'' hR'' => hQ1 s'' M'' ?_ (((hF1.tr hF).tr hF3).tr hF'') hR'') (fun s'' M'' e'' hF'' h4 h6 => hQ0 s'' M'' ?_ (((hF1.tr hF).tr hF3).tr hF'') h4 h6)
        · rw [plp, if_pos hc, e]
          exact e''
        · rw [plp, if_pos hc, e]
          exact e''
      · exact hQ0 s' M' (by rw [plp, if_pos hc, e]) (((FrM.up (by omega)).tr (FrM.up (by omega))).tr hF) h4 h6
    unfold wX12_sum_L9
    refine rm_lk hR hT hp ?_
    rw [(lk_rg hT).2.2]
    refine BR_i (fun h => sgn (by rw [h]; rfl)) (fun h1 => rm_lk hR hT hp ?_)
    rw [(lk_rg hT).2.2]
    refine BR_i (fun h => sgn (by rw [h]; rfl)) (fun h2 => hQ1 s M ?_ FrM.rf hR)
    rw [plp, if_neg]
    simp only [cS, Bool.or_eq_true, decide_eq_true_eq]
    omega
theorem sm_prod {f o : Nat} {G : Nat → List Int → Mem → (Int → Mem → Prop) → Prop} (hT : Tap T b n) (hS : SimM b n kd T f (G 3 []) 3 o) : ∀ (N : Nat) (s : PS) (M : Mem) (Q : Int → Mem → Prop), n ≤ s.1 + N → RM T kd M s → s.1 ≤ n → s.2.1 = o → s.2.2.2.length ≤ s.1 → (∀ s' M', plp (prs b n kd f 3) cP b n N s = (true, s') → FrM M M' → RM T kd M' s' → Q 1 M') → (∀ s' M', plp (prs b n kd f 3) cP b n N s = (false, s') → FrM M M' → M' 125 4 = (s'.1 : Int) → M' 126 = T → Q 0 M') → wX12_product_L9 G Q 125 (N + 1) M
  | 0, s, M, Q, hN, hR, hp, ho, hL, hQ1, hQ0 => by
    unfold wX12_product_L9
    have hl : lk b n s.1 = -1 := by unfold lk; rw [if_neg (by omega)]
    refine rm_lk hR hT hp ?_
    rw [hl, li_n1]
    refine BR_f (by decide) (rm_lk hR hT hp ?_)
    rw [hl, li_n1]
    refine BR_f (by decide) (rm_lk hR hT hp ?_)
    rw [hl, li_n1]
    refine BR_f (by decide) (rm_lk hR hT hp ?_)
    rw [hl, li_n1]
    exact BR_f (by decide) (hQ1 s M rfl FrM.rf hR)
  | N + 1, s, M, Q, hN, hR, hp, ho, hL, hQ1, hQ0 => by
    have hn50 := hT.1
    have sgn : cP (lk b n s.1) = true → wX12_product_J45 G Q (fun M' => wX12_product_L9 G Q 125 (N + 1) M') 125 M := by
      intro hc
      obtain ⟨c0, c1⟩ := cP_ok _ hc
      have hlt := lk_lt rfl c0
      simp only [wX12_product_J45]
      refine rm_lk hR hT hp (LET_i (LET_i (hS (s.1 + 1, s.2.1, s.2.2.1 + 1, s.2.2.2) _ _ hR.at.sg (by dsimp only; omega) ho (by dsimp only; omega) (fun s' M' e hF hR' => BR_f q1 ?_) (fun s' M' e hF h4 h6 => BR_t q0 ?_))))
      · obtain ⟨a1, a2, a3, a4, a5, a6⟩ := (prs_ok _ _ _ _ e (by dsimp only; omega)).1
        dsimp only at a1 a2 a3 a4 a5
        have hF1 := (FrM.up (M := M) (j := 4) (v := M 125 4 + 1) (by omega)).tr (FrM.up (j := 6) (v := up M 125 4 (M 125 4 + 1) 125 6 + 1) (by omega))
        refine rm_ly hR' (by omega) (fun M3 hF3 hR3 => ?_)
        refine sm_prod hT hS N _ M3 Q (by dsimp only; omega) hR3 a2 (by dsimp only; omega) (by simp only [List.length_cons]; omega) (fun s'' M'' e'' hF'' hR'' => hQ1 s'' M'' ?_ (((hF1.tr hF).tr hF3).tr hF'') hR'') (fun s'' M'' e'' hF'' h4 h6 => hQ0 s'' M'' ?_ (((hF1.tr hF).tr hF3).tr hF'') h4 h6)
        · rw [plp, if_pos hc, e]
          exact e''
        · rw [plp, if_pos hc, e]
          exact e''
      · exact hQ0 s' M' (by rw [plp, if_pos hc, e]) (((FrM.up (by omega)).tr (FrM.up (by omega))).tr hF) h4 h6
    unfold wX12_product_L9
    refine rm_lk hR hT hp ?_
    rw [(lk_rg hT).2.2]
    refine BR_i (fun h => sgn (by rw [h]; rfl)) (fun h1 => rm_lk hR hT hp ?_)
    rw [(lk_rg hT).2.2]
    refine BR_i (fun h => sgn (by rw [h]; rfl)) (fun h2 => rm_lk hR hT hp ?_)
    rw [(lk_rg hT).2.2]
    refine BR_i (fun h => sgn (by rw [h]; rfl)) (fun h3 => rm_lk hR hT hp ?_)
    rw [(lk_rg hT).2.2]
    refine BR_i (fun h => sgn (by rw [h]; rfl)) (fun h4 => hQ1 s M ?_ FrM.rf hR)
    rw [plp, if_neg]
    simp only [cP, Bool.or_eq_true, decide_eq_true_eq]
    omega
theorem sm_all (hT : Tap T b n) (hk : kd = 1 ∨ kd = 2 ∨ kd = 3 ∨ kd = 4 ∨ kd = 5) : ∀ (f d k o : Nat), o ≤ 5 → k ≤ 3 → 5 * (5 - o) + (4 - k) ≤ f → 5 * (5 - o) + (4 - k) ≤ d → SimM b n kd T f (fun M Q => wGX12_whole 125 d k [] M Q) k o
  | 0, d, k, o, h5, h3, hf, hd => by omega
  | f + 1, 0, k, o, h5, h3, hf, hd => by omega
  | f + 1, d + 1, k, o, h5, h3, hf, hd => by
    have IH := sm_all hT hk f
    have hn50 := hT.1
    intro s M Q hR hp ho hL hQ1 hQ0
    rcases (show k = 0 ∨ k = 1 ∨ k = 2 ∨ k = 3 by omega) with rfl | rfl | rfl | rfl
    · show wbX12_whole (wGX12_whole 125 d) 125 M Q
      unfold wbX12_whole
      refine IH d 1 o h5 (by decide) (by omega) (by omega) s M _ hR hp ho hL (fun s1 M1 e1 hF1 hR1 => BR_f q1 ?_) (fun s1 M1 e1 hF1 h h' => BR_t q0 (hQ0 _ _ (p0_f e1) hF1 h h'))
      obtain ⟨a1, a2, a3, a4, a5, a6⟩ := (prs_ok _ _ _ _ e1 hp).1
      refine rm_lk hR1 hT a2 ?_
      rw [(lk_rg hT).2.2]
      refine BR_i (fun h63 => ?_) (fun h63 => hQ1 _ _ (p0_e e1 h63) hF1 hR1)
      refine rm_op hR1 (by omega) (fun hn5 M2 hF2 hR2 => BR_f q1 (LET_i ?_)) (fun hn5 => BR_t q0 (hQ0 _ _ (p0_o e1 h63 hn5) hF1 hR1.2.2.1 hR1.2.2.2.2.2.2))
      have hlt := lk_lt h63 (by decide)
      refine IH d 0 (o + 1) (by omega) (by decide) (by omega) (by omega) _ _ _ hR2.sg (by dsimp only; omega) (by dsimp only; omega) (by dsimp only; omega) (fun s4 M4 e4 hF4 hR4 => BR_f q1 ?_) (fun s4 M4 e4 hF4 h h' => BR_t q0 (hQ0 _ _ (p0_2 e1 h63 hn5 e4) (((hF1.tr hF2).tr (FrM.up (by omega))).tr hF4) h h'))
      obtain ⟨b1, b2, b3, b4, b5, b6⟩ := (prs_ok _ _ _ _ e4 (by dsimp only; omega)).1
      dsimp only at b1 b2 b3 b4 b5
      refine rm_ps (c := 58) hR4 hT b2 (by decide) (fun h58 M5 hF5 hR5 => BR_f q1 ?_) (fun h58 => BR_t q0 (hQ0 _ _ (p0_c e1 h63 hn5 e4 h58) (((hF1.tr hF2).tr (FrM.up (by omega))).tr hF4) hR4.2.2.1 hR4.2.2.2.2.2.2))
      have hlt2 := lk_lt h58 (by decide)
      refine IH d 0 (o + 1) (by omega) (by decide) (by omega) (by omega) _ _ _ hR5 (by dsimp only; omega) (by dsimp only; omega) (by dsimp only; omega) (fun s6 M6 e6 hF6 hR6 => BR_f q1 (LET_i ?_)) (fun s6 M6 e6 hF6 h h' => BR_t q0 (hQ0 _ _ (p0_3 e1 h63 hn5 e4 h58 e6) (((((hF1.tr hF2).tr (FrM.up (by omega))).tr hF4).tr hF5).tr hF6) h h'))
      obtain ⟨c1, c2, c3, c4, c5, c6⟩ := (prs_ok _ _ _ _ e6 (by dsimp only; omega)).1
      dsimp only at c1 c2 c3 c4 c5
      exact rm_ly (hR6.cl (by omega)) (by dsimp only; omega) (fun M8 hF8 hR8 => hQ1 _ _ (p0_4 e1 h63 hn5 e4 h58 e6) (((((((hF1.tr hF2).tr (FrM.up (by omega))).tr hF4).tr hF5).tr hF6).tr (FrM.up (by omega))).tr hF8) hR8)
    · show wbX12_sum (wGX12_whole 125 d) 125 M Q
      unfold wbX12_sum
      have hS := IH d 2 o h5 (by decide) (by omega) (by omega)
      refine hS s M _ hR hp ho hL (fun s1 M1 e1 hF1 hR1 => BR_f q1 ⟨51, ?_⟩) (fun s1 M1 e1 hF1 h h' => BR_t q0 (hQ0 _ _ (p1_f e1) hF1 h h'))
      obtain ⟨a1, a2, a3, a4, a5, a6⟩ := (prs_ok _ _ _ _ e1 hp).1
      exact sm_sum (G := wGX12_whole 125 d) hT hS 50 s1 M1 Q (by omega) hR1 a2 (by omega) (by omega) (fun s' M' e hF hR' => hQ1 _ _ (by rw [p1_t e1, e]) (hF1.tr hF) hR') (fun s' M' e hF h h' => hQ0 _ _ (by rw [p1_t e1, e]) (hF1.tr hF) h h')
    · show wbX12_product (wGX12_whole 125 d) 125 M Q
      unfold wbX12_product
      have hS := IH d 3 o h5 (by decide) (by omega) (by omega)
      refine hS s M _ hR hp ho hL (fun s1 M1 e1 hF1 hR1 => BR_f q1 ⟨51, ?_⟩) (fun s1 M1 e1 hF1 h h' => BR_t q0 (hQ0 _ _ (p2_f e1) hF1 h h'))
      obtain ⟨a1, a2, a3, a4, a5, a6⟩ := (prs_ok _ _ _ _ e1 hp).1
      exact sm_prod (G := wGX12_whole 125 d) hT hS 50 s1 M1 Q (by omega) hR1 a2 (by omega) (by omega) (fun s' M' e hF hR' => hQ1 _ _ (by rw [p2_t e1, e]) (hF1.tr hF) hR') (fun s' M' e hF h h' => hQ0 _ _ (by rw [p2_t e1, e]) (hF1.tr hF) h h')
    · show wbX12_one (wGX12_whole 125 d) 125 M Q
      unfold wbX12_one
      obtain ⟨g0, g1, g2⟩ := lk_rg (p := s.1) hT
      refine rm_lk hR hT hp (rm_nm hk hR.2.2.2.2.2.1 g2 (fun hnm => BR_f q1 (LET_i ?_)) (fun hnm => BR_t q0 ?_))
      · have hlt := lk_lt rfl (nmI_nn hnm)
        exact rm_ly hR.at (by dsimp only; omega) (fun M8 hF8 hR8 => hQ1 _ _ (p3_n hnm) ((FrM.up (by omega)).tr hF8) hR8)
      · refine mi_i (fun hdg => BR_f q1 (LET_i (LET_i ?_))) (fun hdg => BR_t q0 ?_)
        · rw [g2, show bm 48 = 48 from by decide +kernel, show bm 57 = 57 from by decide +kernel] at hdg
          have hlt := lk_lt (b := b) (n := n) (p := s.1) rfl (by omega)
          obtain ⟨k0, k1, k2⟩ := lk_rg (p := s.1 + 1) hT
          refine rm_lk hR.at hT (by dsimp only; omega) (mi_i (fun h2 => BR_f q1 (rm_lk hR.at hT (by dsimp only; omega) (LET_i (LET_i ?_)))) (fun h2 => BR_t q0 ?_))
          · rw [show bm 48 = 48 from by decide +kernel, show bm 57 = 57 from by decide +kernel] at h2
            dsimp only at h2
            rw [k2] at h2
            simp only [wX12_one_J94]
            refine rm_ly hR.at.at (by dsimp only; omega) (fun M8 hF8 hR8 => hQ1 _ _ (p3_d2 hnm hdg h2) (((FrM.up (by omega)).tr (FrM.up (by omega))).tr hF8) hR8)
          · rw [show bm 48 = 48 from by decide +kernel, show bm 57 = 57 from by decide +kernel] at h2
            dsimp only at h2
            rw [k2] at h2
            simp only [wX12_one_J94]
            exact rm_ly hR.at (by dsimp only; omega) (fun M8 hF8 hR8 => hQ1 _ _ (p3_d1 hnm hdg h2) ((FrM.up (by omega)).tr hF8) hR8)
        · rw [g2, show bm 48 = 48 from by decide +kernel, show bm 57 = 57 from by decide +kernel] at hdg
          rw [g2]
          refine BR_i (fun h45 => ?_) (fun h45 => BR_i (fun h40 => ?_) (fun h40 => hQ0 _ _ (p3_e hnm hdg h45 h40) FrM.rf hR.2.2.1 hR.2.2.2.2.2.2))
          · have hlt := lk_lt h45 (by decide)
            refine rm_op hR (by omega) (fun hn5 M2 hF2 hR2 => BR_f q1 (LET_i ?_)) (fun hn5 => BR_t q0 (hQ0 _ _ (p3_mo hnm h45 hn5) FrM.rf hR.2.2.1 hR.2.2.2.2.2.2))
            refine IH d 3 (o + 1) (by omega) (by decide) (by omega) (by omega) _ _ _ hR2.sg (by dsimp only; omega) (by dsimp only; omega) (by dsimp only; omega) (fun s4 M4 e4 hF4 hR4 => BR_f q1 (LET_i ?_)) (fun s4 M4 e4 hF4 h h' => BR_t q0 (hQ0 _ _ (p3_mf hnm h45 hn5 e4) ((hF2.tr (FrM.up (by omega))).tr hF4) h h'))
            obtain ⟨b1, b2, b3, b4, b5, b6⟩ := (prs_ok _ _ _ _ e4 (by dsimp only; omega)).1
            dsimp only at b1 b2 b3 b4 b5
            exact rm_ly (hR4.cl (by omega)) (by dsimp only; omega) (fun M8 hF8 hR8 => hQ1 _ _ (p3_mt hnm h45 hn5 e4) ((((hF2.tr (FrM.up (by omega))).tr hF4).tr (FrM.up (by omega))).tr hF8) hR8)
          · have hlt := lk_lt h40 (by decide)
            refine rm_op hR (by omega) (fun hn5 M2 hF2 hR2 => BR_f q1 ?_) (fun hn5 => BR_t q0 (hQ0 _ _ (p3_bo hnm h40 hn5) FrM.rf hR.2.2.1 hR.2.2.2.2.2.2))
            refine IH d 0 (o + 1) (by omega) (by decide) (by omega) (by omega) _ _ _ hR2 (by dsimp only; omega) (by dsimp only; omega) (by dsimp only; omega) (fun s4 M4 e4 hF4 hR4 => BR_f q1 ?_) (fun s4 M4 e4 hF4 h h' => BR_t q0 (hQ0 _ _ (p3_bf hnm h40 hn5 e4) (hF2.tr hF4) h h'))
            obtain ⟨b1, b2, b3, b4, b5, b6⟩ := (prs_ok _ _ _ _ e4 (by dsimp only; omega)).1
            dsimp only at b1 b2 b3 b4 b5
            refine rm_ps (c := 41) hR4 hT b2 (by decide) (fun h41 M5 hF5 hR5 => BR_f q1 (LET_i ?_)) (fun h41 => BR_t q0 (hQ0 _ _ (p3_bc hnm h40 hn5 e4 h41) (hF2.tr hF4) hR4.2.2.1 hR4.2.2.2.2.2.2))
            exact hQ1 _ _ (p3_bt hnm h40 hn5 e4 h41) (((hF2.tr hF4).tr hF5).tr (FrM.up (by omega))) (hR5.cl (by dsimp only; omega))
end RefReader
