/-! TEXTS: how they are read -/
abbrev PS : Type := Nat × Nat × Nat × List (Int × Int)
def lk (b : Nat → Int) (n p : Nat) : Int := if p < n then b p else -1
def plp (g : PS → Bool × PS) (c : Int → Bool) (b : Nat → Int) (n : Nat) : Nat → PS → Bool × PS
  | 0, s => (true, s)
  | N + 1, s => if c (lk b n s.1) = true then
      (match g (s.1 + 1, s.2.1, s.2.2.1 + 1, s.2.2.2) with
      | (false, s') => (false, s')
      | (true, s') => plp g c b n N (s'.1, s'.2.1, s'.2.2.1, (3, lk b n s.1) :: s'.2.2.2))
    else (true, s)
def cS (c : Int) : Bool := decide (c = 43) || decide (c = 45)
def cP (c : Int) : Bool := decide (c = 42) || (decide (c = 47) || (decide (c = 60) || decide (c = 61)))
def prs (b : Nat → Int) (n : Nat) (kd : Int) : Nat → Nat → PS → Bool × PS
  | 0, _, s => (false, s)
  | f + 1, k, s =>
    if k = 0 then
      (match prs b n kd f 1 s with
      | (false, s1) => (false, s1)
      | (true, s1) => if lk b n s1.1 ≠ 63 then (true, s1) else if s1.2.1 = 5 then (false, s1) else
        (match prs b n kd f 0 (s1.1 + 1, s1.2.1 + 1, s1.2.2.1 + 1, s1.2.2.2) with
        | (false, s2) => (false, s2)
        | (true, s2) => if lk b n s2.1 ≠ 58 then (false, s2) else
          (match prs b n kd f 0 (s2.1 + 1, s2.2.1, s2.2.2.1, s2.2.2.2) with
          | (false, s3) => (false, s3)
          | (true, s3) => (true, (s3.1, s3.2.1 - 1, s3.2.2.1, (4, 0) :: s3.2.2.2)))))
    else if k = 1 then
      (match prs b n kd f 2 s with
      | (false, s1) => (false, s1)
      | (true, s1) => plp (prs b n kd f 2) cS b n 50 s1)
    else if k = 2 then
      (match prs b n kd f 3 s with
      | (false, s1) => (false, s1)
      | (true, s1) => plp (prs b n kd f 3) cP b n 50 s1)
    else if 0 ≤ nmI kd (lk b n s.1) then (true, (s.1 + 1, s.2.1, s.2.2.1, (1, lk b n s.1) :: s.2.2.2))
    else if 48 ≤ lk b n s.1 ∧ lk b n s.1 ≤ 57 then
      (if 48 ≤ lk b n (s.1 + 1) ∧ lk b n (s.1 + 1) ≤ 57 then (true, (s.1 + 2, s.2.1, s.2.2.1, (0, 10 * (lk b n s.1 - 48) + lk b n (s.1 + 1) - 48) :: s.2.2.2))
      else (true, (s.1 + 1, s.2.1, s.2.2.1, (0, lk b n s.1 - 48) :: s.2.2.2)))
    else if lk b n s.1 = 45 then
      (if s.2.1 = 5 then (false, s) else
        (match prs b n kd f 3 (s.1 + 1, s.2.1 + 1, s.2.2.1 + 1, s.2.2.2) with
        | (false, s1) => (false, s1)
        | (true, s1) => (true, (s1.1, s1.2.1 - 1, s1.2.2.1, (2, 0) :: s1.2.2.2))))
    else if lk b n s.1 = 40 then
      (if s.2.1 = 5 then (false, s) else
        (match prs b n kd f 0 (s.1 + 1, s.2.1 + 1, s.2.2.1, s.2.2.2) with
        | (false, s1) => (false, s1)
        | (true, s1) => if lk b n s1.1 ≠ 41 then (false, s1) else (true, (s1.1 + 1, s1.2.1 - 1, s1.2.2.1, s1.2.2.2))))
    else (false, s)
theorem lk_lt {b : Nat → Int} {n p : Nat} {c : Int} (h : lk b n p = c) (hc : 0 ≤ c) : p < n := by
  unfold lk at h
  split at h
  · assumption
  · omega
/-- the pile behind steps, the latest first -/
def dpl : List (Int × Int) → Option Nat
  | [] => some 0
  | x :: L => (dpl L).bind (dpS x.1)
def Adv (n : Nat) (kd : Int) (k : Nat) (s s' : PS) : Prop := s.1 + k ≤ s'.1 ∧ s'.1 ≤ n ∧ s'.2.1 = s.2.1 ∧ s'.2.2.2.length + s.1 ≤ s'.1 + s.2.2.2.length ∧ s'.2.2.1 + s.1 ≤ s'.1 + s.2.2.1 ∧ ((∀ x ∈ s.2.2.2, stepOk kd x.1 x.2) → ∀ x ∈ s'.2.2.2, stepOk kd x.1 x.2)
def Dpt (s s' : PS) : Prop := ∀ d, dpl s.2.2.2 = some d → dpl s'.2.2.2 = some (d + 1)
theorem plp_ok {g : PS → Bool × PS} {c : Int → Bool} {b : Nat → Int} {n : Nat} {kd : Int} (hc : ∀ x, c x = true → 0 ≤ x ∧ (x = 42 ∨ x = 43 ∨ x = 45 ∨ x = 47 ∨ x = 60 ∨ x = 61)) (hg : ∀ s s', g s = (true, s') → s.1 ≤ n → Adv n kd 1 s s' ∧ Dpt s s') :
    ∀ N s s', plp g c b n N s = (true, s') → s.1 ≤ n → Adv n kd 0 s s' ∧ ∀ d, dpl s.2.2.2 = some (d + 1) → dpl s'.2.2.2 = some (d + 1)
  | 0, s, s', h, hn => by
    unfold plp at h
    injection h with h1 h2
    subst h2
    exact ⟨⟨by omega, hn, rfl, by omega, by omega, fun q => q⟩, fun d q => q⟩
  | N + 1, s, s', h, hn => by
    unfold plp at h
    split at h
    · rename_i hcc
      obtain ⟨q0, q1⟩ := hc _ hcc
      have hlt := lk_lt rfl q0
      split at h
      · exact absurd (congrArg Prod.fst h) Bool.false_ne_true
      · rename_i s1 hs1
        obtain ⟨⟨a1, a2, a3, a4, a5, a6⟩, a7⟩ := hg _ _ hs1 (by dsimp only; omega)
        dsimp only at a1 a2 a3 a4 a5 a6
        obtain ⟨⟨b1, b2, b3, b4, b5, b6⟩, b7⟩ := plp_ok hc hg N _ _ h (by dsimp only; omega)
        dsimp only at b1 b2 b3 b4 b5 b6 b7
        simp only [List.length_cons] at b4
        refine ⟨⟨by omega, b2, by omega, by omega, by omega, fun q => b6 fun x hx => ?_⟩, fun d hd => b7 d ?_⟩
        · rcases List.mem_cons.mp hx with rfl | hx
          · exact Or.inr (Or.inr (Or.inr (Or.inl ⟨rfl, q1⟩)))
          · exact a6 q x hx
        · have := a7 (d + 1) hd
          simp only [dpl, this]
          simp [dpS]
    · injection h with h1 h2
      subst h2
      exact ⟨⟨by omega, hn, rfl, by omega, by omega, fun q => q⟩, fun d q => q⟩
theorem cS_ok : ∀ x, cS x = true → 0 ≤ x ∧ (x = 42 ∨ x = 43 ∨ x = 45 ∨ x = 47 ∨ x = 60 ∨ x = 61) := by
  intro x h
  simp only [cS, Bool.or_eq_true, decide_eq_true_eq] at h
  omega
theorem cP_ok : ∀ x, cP x = true → 0 ≤ x ∧ (x = 42 ∨ x = 43 ∨ x = 45 ∨ x = 47 ∨ x = 60 ∨ x = 61) := by
  intro x h
  simp only [cP, Bool.or_eq_true, decide_eq_true_eq] at h
  omega
theorem nmI_nn {kd c : Int} (h : 0 ≤ nmI kd c) : 0 ≤ c := by
  unfold nmI at h
  repeat' split at h
  all_goals omega
theorem prs_ok {b : Nat → Int} {n : Nat} {kd : Int} : ∀ f k s s', prs b n kd f k s = (true, s') → s.1 ≤ n → Adv n kd 1 s s' ∧ Dpt s s'
  | 0, k, s, s', h, hn => by
    unfold prs at h
    exact absurd (congrArg Prod.fst h) Bool.false_ne_true
  | f + 1, k, s, s', h, hn => by
    have ih := prs_ok (b := b) (n := n) (kd := kd) f
    unfold prs at h
    split at h
    · -- a choice
      split at h
      · exact absurd (congrArg Prod.fst h) Bool.false_ne_true
      · rename_i s1 hs1
        obtain ⟨⟨a1, a2, a3, a4, a5, a6⟩, a7⟩ := ih _ _ _ hs1 hn
        split at h
        · injection h with h1 h2
          subst h2
          exact ⟨⟨a1, a2, a3, a4, a5, a6⟩, a7⟩
        · rename_i hq
          have hlt := lk_lt (Decidable.not_not.mp hq) (by decide)
          split at h
          · exact absurd (congrArg Prod.fst h) Bool.false_ne_true
          · split at h
            · exact absurd (congrArg Prod.fst h) Bool.false_ne_true
            · rename_i s2 hs2
              obtain ⟨⟨b1, b2, b3, b4, b5, b6⟩, b7⟩ := ih _ _ _ hs2 (by dsimp only; omega)
              dsimp only at b1 b2 b3 b4 b5 b6
              split at h
              · exact absurd (congrArg Prod.fst h) Bool.false_ne_true
              · rename_i hq2
                have hlt2 := lk_lt (Decidable.not_not.mp hq2) (by decide)
                split at h
                · exact absurd (congrArg Prod.fst h) Bool.false_ne_true
                · rename_i s3 hs3
                  obtain ⟨⟨c1, c2, c3, c4, c5, c6⟩, c7⟩ := ih _ _ _ hs3 (by dsimp only; omega)
                  dsimp only at c1 c2 c3 c4 c5 c6
                  injection h with h1 h2
                  subst h2
                  refine ⟨⟨by dsimp only; omega, c2, by dsimp only; omega, by simp only [List.length_cons]; omega, by dsimp only; omega, fun q x hx => ?_⟩, fun d hd => ?_⟩
                  · rcases List.mem_cons.mp hx with rfl | hx
                    · exact Or.inr (Or.inr (Or.inr (Or.inr rfl)))
                    · exact c6 (b6 (a6 q)) x hx
                  · have e3 := c7 _ (b7 _ (a7 d hd))
                    simp only [dpl, e3]
                    simp [dpS]
    · split at h
      · split at h
        · exact absurd (congrArg Prod.fst h) Bool.false_ne_true
        · rename_i s1 hs1
          obtain ⟨⟨a1, a2, a3, a4, a5, a6⟩, a7⟩ := ih _ _ _ hs1 hn
          obtain ⟨⟨b1, b2, b3, b4, b5, b6⟩, b7⟩ := plp_ok cS_ok (fun s s' q1 q2 => ih _ s s' q1 q2) _ _ _ h a2
          exact ⟨⟨by omega, b2, by omega, by omega, by omega, fun q => b6 (a6 q)⟩, fun d hd => b7 d (a7 d hd)⟩
      · split at h
        · split at h
          · exact absurd (congrArg Prod.fst h) Bool.false_ne_true
          · rename_i s1 hs1
            obtain ⟨⟨a1, a2, a3, a4, a5, a6⟩, a7⟩ := ih _ _ _ hs1 hn
            obtain ⟨⟨b1, b2, b3, b4, b5, b6⟩, b7⟩ := plp_ok cP_ok (fun s s' q1 q2 => ih _ s s' q1 q2) _ _ _ h a2
            exact ⟨⟨by omega, b2, by omega, by omega, by omega, fun q => b6 (a6 q)⟩, fun d hd => b7 d (a7 d hd)⟩
        · split at h
          · rename_i hnm
            have hlt := lk_lt rfl (nmI_nn hnm)
            injection h with h1 h2
            subst h2
            refine ⟨⟨by dsimp only; omega, by dsimp only; omega, rfl, by simp only [List.length_cons]; omega, by dsimp only; omega, fun q x hx => ?_⟩, fun d hd => ?_⟩
            · rcases List.mem_cons.mp hx with rfl | hx
              · exact Or.inr (Or.inl ⟨rfl, hnm⟩)
              · exact q x hx
            · simp only [dpl, hd]
              simp [dpS]
          · split at h
            · rename_i hdg
              have hlt := lk_lt (b := b) (n := n) (p := s.1) rfl (by omega)
              split at h
              · rename_i hdg2
                have hlt2 := lk_lt (b := b) (n := n) (p := s.1 + 1) rfl (by omega)
                injection h with h1 h2
                subst h2
                refine ⟨⟨by dsimp only; omega, by dsimp only; omega, rfl, by simp only [List.length_cons]; omega, by dsimp only; omega, fun q x hx => ?_⟩, fun d hd => ?_⟩
                · rcases List.mem_cons.mp hx with rfl | hx
                  · exact Or.inl ⟨rfl, by dsimp only; omega, by dsimp only; omega⟩
                  · exact q x hx
                · simp only [dpl, hd]
                  simp [dpS]
              · injection h with h1 h2
                subst h2
                refine ⟨⟨by dsimp only; omega, by dsimp only; omega, rfl, by simp only [List.length_cons]; omega, by dsimp only; omega, fun q x hx => ?_⟩, fun d hd => ?_⟩
                · rcases List.mem_cons.mp hx with rfl | hx
                  · exact Or.inl ⟨rfl, by dsimp only; omega, by dsimp only; omega⟩
                  · exact q x hx
                · simp only [dpl, hd]
                  simp [dpS]
            · split at h
              · rename_i h45
                have hlt := lk_lt h45 (by decide)
                split at h
                · exact absurd (congrArg Prod.fst h) Bool.false_ne_true
                · split at h
                  · exact absurd (congrArg Prod.fst h) Bool.false_ne_true
                  · rename_i s1 hs1
                    obtain ⟨⟨a1, a2, a3, a4, a5, a6⟩, a7⟩ := ih _ _ _ hs1 (by dsimp only; omega)
                    dsimp only at a1 a2 a3 a4 a5 a6
                    injection h with h1 h2
                    subst h2
                    refine ⟨⟨by dsimp only; omega, a2, by dsimp only; omega, by simp only [List.length_cons]; omega, by dsimp only; omega, fun q x hx => ?_⟩, fun d hd => ?_⟩
                    · rcases List.mem_cons.mp hx with rfl | hx
                      · exact Or.inr (Or.inr (Or.inl rfl))
                      · exact a6 q x hx
                    · have e3 := a7 d hd
                      simp only [dpl, e3]
                      simp [dpS]
              · split at h
                · rename_i h40
                  have hlt := lk_lt h40 (by decide)
                  split at h
                  · exact absurd (congrArg Prod.fst h) Bool.false_ne_true
                  · split at h
                    · exact absurd (congrArg Prod.fst h) Bool.false_ne_true
                    · rename_i s1 hs1
                      obtain ⟨⟨a1, a2, a3, a4, a5, a6⟩, a7⟩ := ih _ _ _ hs1 (by dsimp only; omega)
                      dsimp only at a1 a2 a3 a4 a5 a6
                      split at h
                      · exact absurd (congrArg Prod.fst h) Bool.false_ne_true
                      · rename_i hq2
                        have hlt2 := lk_lt (Decidable.not_not.mp hq2) (by decide)
                        injection h with h1 h2
                        subst h2
                        exact ⟨⟨by dsimp only; omega, by dsimp only; omega, by dsimp only; omega, by dsimp only; omega, by dsimp only; omega, a6⟩, a7⟩
                · exact absurd (congrArg Prod.fst h) Bool.false_ne_true
