/-! THE BEST OF ALL, in whatever order they are seen -/
theorem lex_tri : ∀ {a b : List Nat}, a.length = b.length → lexLt a b ∨ a = b ∨ lexLt b a
  | [], [], _ => Or.inr (Or.inl rfl)
  | [], _ :: _, h => by simp at h
  | _ :: _, [], h => by simp at h
  | x :: a, y :: b, h => by
    have hl : a.length = b.length := by simpa using h
    rcases Nat.lt_trichotomy x y with h1 | h1 | h1
    · exact Or.inl (Or.inl h1)
    · subst h1
      rcases lex_tri hl with h2 | h2 | h2
      · exact Or.inl (Or.inr ⟨rfl, h2⟩)
      · exact Or.inr (Or.inl (by rw [h2]))
      · exact Or.inr (Or.inr (Or.inr ⟨rfl, h2⟩))
    · exact Or.inr (Or.inr (Or.inl h1))
theorem lex_irr : ∀ {a : List Nat}, ¬ lexLt a a
  | [], h => h
  | x :: a, h => by
    rcases h with h | ⟨_, h⟩
    · omega
    · exact lex_irr h
theorem lex_tr : ∀ {a b c : List Nat}, lexLt a b → lexLt b c → lexLt a c
  | [], _, _, h, _ => h.elim
  | _ :: _, [], _, h, _ => h.elim
  | _ :: _, _ :: _, [], _, h => h.elim
  | x :: a, y :: b, w :: c, h, h' => by
    rcases h with h | ⟨e, h⟩ <;> rcases h' with h' | ⟨e', h'⟩
    · exact Or.inl (by omega)
    · exact Or.inl (by omega)
    · exact Or.inl (by omega)
    · exact Or.inr ⟨by omega, lex_tr h h'⟩
theorem cLt_tri {c d : Cand} (h : c.1.length = d.1.length) : cLt c d ∨ c = d ∨ cLt d c := by
  rcases lex_tri h with h | h | h
  · exact Or.inl (Or.inl h)
  · rcases Nat.lt_trichotomy c.2 d.2 with h2 | h2 | h2
    · exact Or.inl (Or.inr ⟨h, h2⟩)
    · exact Or.inr (Or.inl (Prod.ext h h2))
    · exact Or.inr (Or.inr (Or.inr ⟨h.symm, h2⟩))
  · exact Or.inr (Or.inr (Or.inl h))
theorem cLt_irr {c : Cand} : ¬ cLt c c := by
  rintro (h | ⟨_, h⟩)
  · exact lex_irr h
  · omega
theorem cLt_tr {c d e : Cand} (h : cLt c d) (h' : cLt d e) : cLt c e := by
  rcases h with h | ⟨h1, h2⟩ <;> rcases h' with h' | ⟨h3, h4⟩
  · exact Or.inl (lex_tr h h')
  · exact Or.inl (by rw [← h3]; exact h)
  · exact Or.inl (by rw [h1]; exact h')
  · exact Or.inr ⟨h1.trans h3, by omega⟩
/-- c is before d: worth more, or as much and first -/
def btr (z : Fl) (n : Nat) (c d : Cand) : Prop := cwo z n d < cwo z n c ∨ (cwo z n d = cwo z n c ∧ cLt c d)
theorem btr_tr {z : Fl} {n : Nat} {c d e : Cand} (h : btr z n c d) (h' : btr z n d e) : btr z n c e := by
  rcases h with h | ⟨h1, h2⟩ <;> rcases h' with h' | ⟨h3, h4⟩
  · exact Or.inl (by omega)
  · exact Or.inl (by omega)
  · exact Or.inl (by omega)
  · exact Or.inr ⟨by omega, cLt_tr h2 h4⟩
theorem btr_irr {z : Fl} {n : Nat} {c : Cand} : ¬ btr z n c c := by
  rintro (h | ⟨_, h⟩)
  · omega
  · exact cLt_irr h
theorem btr_tri {z : Fl} {n : Nat} {c d : Cand} (h : c.1.length = d.1.length) : btr z n c d ∨ c = d ∨ btr z n d c := by
  rcases Int.lt_trichotomy (cwo z n d) (cwo z n c) with h1 | h1 | h1
  · exact Or.inl (Or.inl h1)
  · rcases cLt_tri h with h2 | h2 | h2
    · exact Or.inl (Or.inr ⟨h1, h2⟩)
    · exact Or.inr (Or.inl h2)
    · exact Or.inr (Or.inr (Or.inr ⟨h1.symm, h2⟩))
  · exact Or.inr (Or.inr (Or.inl h1))
theorem isBest_iff {z : Fl} {n : Nat} {Ls : List Cand} {c : Cand} : IsBest z n Ls c ↔ c ∈ Ls ∧ ∀ d ∈ Ls, d = c ∨ btr z n c d := by
  unfold IsBest btr
  constructor
  · rintro ⟨h1, h2⟩
    refine ⟨h1, fun d hd => ?_⟩
    rcases h2 d hd with h | ⟨h3, h | h⟩
    · exact Or.inr (Or.inl h)
    · exact Or.inl h
    · exact Or.inr (Or.inr ⟨h3, h⟩)
  · rintro ⟨h1, h2⟩
    refine ⟨h1, fun d hd => ?_⟩
    rcases h2 d hd with h | h | ⟨h3, h⟩
    · exact Or.inr ⟨by rw [h], Or.inl h⟩
    · exact Or.inl h
    · exact Or.inr ⟨h3, Or.inr h⟩
theorem isBest_u {z : Fl} {n : Nat} {Ls : List Cand} {c d : Cand} (h : IsBest z n Ls c) (h' : IsBest z n Ls d) : c = d := by
  rw [isBest_iff] at h h'
  rcases h.2 d h'.1 with e | e
  · exact e.symm
  · rcases h'.2 c h.1 with e' | e'
    · exact e'
    · exact absurd (btr_tr e e') btr_irr
theorem isBest_e {z : Fl} {n : Nat} : ∀ {Ls : List Cand}, (∀ d ∈ Ls, d.1.length = n) → Ls ≠ [] → ∃ c, IsBest z n Ls c
  | [], _, h => absurd rfl h
  | [c], _, _ => ⟨c, isBest_iff.mpr ⟨List.mem_cons_self, fun d hd => Or.inl (by simpa using hd)⟩⟩
  | c :: c' :: Ls, hl, _ => by
    obtain ⟨b, hb⟩ := isBest_e (z := z) (n := n) (Ls := c' :: Ls) (fun d hd => hl d (List.mem_cons_of_mem _ hd)) (by simp)
    rw [isBest_iff] at hb
    rcases btr_tri (z := z) (n := n) (c := c) (d := b) (by rw [hl c List.mem_cons_self, hl b (List.mem_cons_of_mem _ hb.1)]) with h | h | h
    · refine ⟨c, isBest_iff.mpr ⟨List.mem_cons_self, fun d hd => ?_⟩⟩
      rcases List.mem_cons.mp hd with rfl | hd
      · exact Or.inl rfl
      · rcases hb.2 d hd with e | e
        · exact Or.inr (by rw [e]; exact h)
        · exact Or.inr (btr_tr h e)
    · refine ⟨b, isBest_iff.mpr ⟨List.mem_cons_of_mem _ hb.1, fun d hd => ?_⟩⟩
      rcases List.mem_cons.mp hd with rfl | hd
      · exact Or.inl h
      · exact hb.2 d hd
    · refine ⟨b, isBest_iff.mpr ⟨List.mem_cons_of_mem _ hb.1, fun d hd => ?_⟩⟩
      rcases List.mem_cons.mp hd with rfl | hd
      · exact Or.inr h
      · exact hb.2 d hd
theorem cnt_cP {α : Type} (p : α → Bool) : ∀ l : List α, cnt p l = l.countP p
  | [] => rfl
  | a :: l => by
    rw [List.countP_cons, ← cnt_cP p l]
    rfl
theorem cnt_perm {α : Type} {p : α → Bool} {l l' : List α} (h : l.Perm l') : cnt p l = cnt p l' := by rw [cnt_cP, cnt_cP, h.countP_eq]
theorem cnt_s {α : Type} (p : α → Bool) (a : α) (l : List α) : cnt p (a :: l) = cnt p l + (if p a then 1 else 0) := rfl
theorem cnt_0 {α : Type} {p : α → Bool} : ∀ {l : List α}, (∀ a ∈ l, p a = false) → cnt p l = 0
  | [], _ => rfl
  | a :: l, h => by rw [cnt_s, cnt_0 (l := l) (fun b hb => h b (List.mem_cons_of_mem _ hb)), h a List.mem_cons_self]; rfl
theorem fixb_iff {z : Fl} {n : Nat} {Ls : List Cand} {c : Cand} {i : Nat} : fixb z n Ls c i = true ↔ ∀ d ∈ Ls, cwo z n d = cwo z n c → d.1.getD i 0 = c.1.getD i 0 := by
  unfold fixb
  rw [List.all_eq_true]
  constructor
  · intro h d hd he
    have := h d hd
    rw [decide_eq_true he] at this
    simpa using this
  · intro h d hd
    by_cases he : cwo z n d = cwo z n c
    · rw [decide_eq_true he, decide_eq_true (h d hd he)]
      rfl
    · rw [decide_eq_false he]
      rfl
theorem fixs_tb {z : Fl} {n : Nat} {Ls : List Cand} {c : Cand} {j : Nat} : ∀ {m : Nat}, (fixs z n Ls c m).testBit j = true ↔ ∃ i, i < m ∧ fixb z n Ls c i = true ∧ c.1.getD i 0 = j
  | 0 => by
    show (Nat.testBit 0 j) = true ↔ _
    rw [Nat.zero_testBit]
    exact ⟨fun h => (by cases h), fun ⟨k, hk, _⟩ => by omega⟩
  | m + 1 => by
    show (fixs z n Ls c m ||| (if fixb z n Ls c m then 2 ^ (c.1.getD m 0) else 0)).testBit j = true ↔ _
    rw [Nat.testBit_or, Bool.or_eq_true, fixs_tb (m := m)]
    constructor
    · rintro (⟨i, h1, h2⟩ | h)
      · exact ⟨i, by omega, h2⟩
      · by_cases hf : fixb z n Ls c m = true
        · rw [if_pos hf, Nat.testBit_two_pow, decide_eq_true_eq] at h
          exact ⟨m, by omega, hf, h⟩
        · rw [if_neg hf, Nat.zero_testBit] at h
          cases h
    · rintro ⟨i, h1, h2, h3⟩
      rcases Nat.lt_or_ge i m with h4 | h4
      · exact Or.inl ⟨i, h4, h2, h3⟩
      · obtain rfl : i = m := by omega
        rw [if_pos h2, Nat.testBit_two_pow]
        exact Or.inr (decide_eq_true h3)
/-- an order of the pieces of k -/
def POk (k n : Nat) (l : List Nat) : Prop := l.length = n ∧ (∀ i j, i < n → j < n → l.getD i 0 = l.getD j 0 → i = j) ∧ ∀ x, k.testBit x = true ↔ ∃ i, i < n ∧ l.getD i 0 = x
theorem fixs_lt {z : Fl} {k n : Nat} {Ls : List Cand} {c : Cand} (hk : k < 2 ^ 12) (h : POk k n c.1) : ∀ m, m ≤ n → fixs z n Ls c m < 2 ^ 12
  | 0, _ => by show (0 : Nat) < 2 ^ 12; decide
  | m + 1, hm => by
    refine Nat.or_lt_two_pow (fixs_lt hk h m (by omega)) ?_
    split
    · refine Nat.pow_lt_pow_right (by decide) ?_
      have ht := (h.2.2 (c.1.getD m 0)).mpr ⟨m, by omega, rfl⟩
      rcases Nat.lt_or_ge (c.1.getD m 0) 12 with h1 | h1
      · exact h1
      · rw [tb_big hk h1] at ht
        cases ht
    · decide
/-- SR does not hang on the order -/
theorem SR.perm {z : Fl} {n : Nat} {Ls Ls' : List Cand} {G E F W V : Int} {P : Nat → Int} (hp : Ls.Perm Ls') (h : SR z n Ls G E F W V P) : SR z n Ls' G E F W V P := by
  obtain ⟨h1, h2, h3⟩ := h
  refine ⟨by rw [h1, hp.length_eq], fun he => h2 (by rw [he] at hp; exact hp.eq_nil), fun c hc => ?_⟩
  have hc' : IsBest z n Ls c := ⟨hp.mem_iff.mpr hc.1, fun d hd => hc.2 d (hp.mem_iff.mp hd)⟩
  obtain ⟨a1, a2, a3, a4, a5⟩ := h3 c hc'
  have hf : ∀ i, fixb z n Ls c i = fixb z n Ls' c i := fun i => by
    rw [Bool.eq_iff_iff, fixb_iff, fixb_iff]
    exact ⟨fun h d hd => h d (hp.mem_iff.mpr hd), fun h d hd => h d (hp.mem_iff.mp hd)⟩
  have hs : ∀ m, fixs z n Ls c m = fixs z n Ls' c m := by
    intro m
    induction m with
    | zero => rfl
    | succ m ih =>
      show fixs z n Ls c m ||| _ = fixs z n Ls' c m ||| _
      rw [ih, hf]
  exact ⟨by rw [a1, cnt_perm hp], a2, a3, a4, by rw [a5, hs]⟩
theorem SR.nil {z : Fl} {n : Nat} {W V : Int} {P : Nat → Int} : SR z n [] 0 0 0 W V P := ⟨rfl, fun _ => ⟨rfl, rfl⟩, fun c hc => by cases hc.1⟩
/-- rows compared place by place -/
theorem lex_iff : ∀ {n : Nat} {a b : List Nat}, a.length = n → b.length = n → (lexLt a b ↔ ∃ p, p < n ∧ (∀ q, q < p → a.getD q 0 = b.getD q 0) ∧ a.getD p 0 < b.getD p 0)
  | 0, a, b, ha, hb => by
    obtain rfl := List.length_eq_zero_iff.mp ha
    exact ⟨fun h => h.elim, fun ⟨p, hp, _⟩ => by omega⟩
  | n + 1, [], b, ha, hb => by simp at ha
  | n + 1, _ :: _, [], ha, hb => by simp at hb
  | n + 1, x :: a, y :: b, ha, hb => by
    have ha' : a.length = n := by simpa using ha
    have hb' : b.length = n := by simpa using hb
    show (x < y ∨ (x = y ∧ lexLt a b)) ↔ _
    rw [lex_iff ha' hb']
    constructor
    · rintro (h | ⟨h, p, h1, h2, h3⟩)
      · exact ⟨0, by omega, fun q hq => by omega, h⟩
      · refine ⟨p + 1, by omega, fun q hq => ?_, h3⟩
        cases q with
        | zero => exact h
        | succ q => exact h2 q (by omega)
    · rintro ⟨p, h1, h2, h3⟩
      cases p with
      | zero => exact Or.inl h3
      | succ p => exact Or.inr ⟨h2 0 (by omega), p, by omega, fun q hq => h2 (q + 1) (by omega), h3⟩
/-- a new one is worth more -/
theorem SR.more {z : Fl} {k n : Nat} {Ls : List Cand} {c : Cand} {G E F W V : Int} {P : Nat → Int} {V' : Int} {P' : Nat → Int} (hk : k < 2 ^ 12) (h : SR z n Ls G E F W V P) (hc : POk k n c.1) (hm : ∀ d ∈ Ls, cwo z n d < cwo z n c) (hV : V' = (c.2 : Int)) (hP : ∀ i, i < n → P' i = (c.1.getD i 0 : Nat)) : SR z n (c :: Ls) (G + 1) 1 (k : Int) (cwo z n c) V' P' := by
  obtain ⟨h1, h2, h3⟩ := h
  refine ⟨by rw [h1, List.length_cons]; omega, fun he => (by cases he), fun b hb => ?_⟩
  have hcb : IsBest z n (c :: Ls) c := isBest_iff.mpr ⟨List.mem_cons_self, fun d hd => by
    rcases List.mem_cons.mp hd with rfl | hd
    · exact Or.inl rfl
    · exact Or.inr (Or.inl (hm d hd))⟩
  obtain rfl := isBest_u hb hcb
  refine ⟨?_, rfl, hV, hP, ?_⟩
  · rw [cnt_s, cnt_0 fun d hd => decide_eq_false (by have := hm d hd; omega), decide_eq_true rfl]
    rfl
  · have hf : ∀ i, fixb z n (b :: Ls) b i = true := fun i => fixb_iff.mpr fun d hd he => by
      rcases List.mem_cons.mp hd with rfl | hd
      · rfl
      · have := hm d hd
        omega
    have : fixs z n (b :: Ls) b n = k := by
      refine set_ext (n := 12) (fixs_lt hk hc n (Nat.le_refl n)) hk fun j _ => ?_
      rw [Bool.eq_iff_iff, fixs_tb, hc.2.2 j]
      exact ⟨fun ⟨i, a1, _, a3⟩ => ⟨i, a1, a3⟩, fun ⟨i, a1, a3⟩ => ⟨i, a1, hf i, a3⟩⟩
    rw [this]
/-- a new one is worth less -/
theorem SR.less {z : Fl} {n : Nat} {Ls : List Cand} {b c : Cand} {G E F W V : Int} {P : Nat → Int} (h : SR z n Ls G E F W V P) (hb : IsBest z n Ls b) (hm : cwo z n c < cwo z n b) : SR z n (c :: Ls) (G + 1) E F W V P := by
  obtain ⟨h1, h2, h3⟩ := h
  refine ⟨by rw [h1, List.length_cons]; omega, fun he => (by cases he), fun b' hb' => ?_⟩
  have hcb : IsBest z n (c :: Ls) b := ⟨List.mem_cons_of_mem _ hb.1, fun d hd => by
    rcases List.mem_cons.mp hd with rfl | hd
    · exact Or.inl hm
    · exact hb.2 d hd⟩
  obtain rfl := isBest_u hb' hcb
  obtain ⟨a1, a2, a3, a4, a5⟩ := h3 b' hb
  have hf : ∀ i, fixb z n (c :: Ls) b' i = fixb z n Ls b' i := fun i => by
    rw [Bool.eq_iff_iff, fixb_iff, fixb_iff]
    refine ⟨fun h d hd => h d (List.mem_cons_of_mem _ hd), fun h d hd he => ?_⟩
    rcases List.mem_cons.mp hd with rfl | hd
    · omega
    · exact h d hd he
  have hs : ∀ m, fixs z n (c :: Ls) b' m = fixs z n Ls b' m := by
    intro m
    induction m with
    | zero => rfl
    | succ m ih =>
      show fixs z n (c :: Ls) b' m ||| _ = fixs z n Ls b' m ||| _
      rw [ih, hf]
  refine ⟨?_, a2, a3, a4, by rw [a5, hs]⟩
  rw [a1, cnt_s, decide_eq_false (by omega)]
  simp
/-- a new one is worth as much -/
theorem SR.same {z : Fl} {k n : Nat} {Ls : List Cand} {b c : Cand} {G E F W V : Int} {P : Nat → Int} {F' : Nat} {V' : Int} {P' : Nat → Int} (hk : k < 2 ^ 12) (h : SR z n Ls G E F W V P) (hb : IsBest z n Ls b) (hl : ∀ d ∈ Ls, POk k n d.1) (hc : POk k n c.1) (hm : cwo z n c = cwo z n b) (hlater : b.1 = c.1 → b.2 ≤ c.2)
    (hF : F' < 2 ^ 12) (hF' : ∀ j, F'.testBit j = true ↔ (fixs z n Ls b n).testBit j = true ∧ ∀ i, i < n → b.1.getD i 0 = j → c.1.getD i 0 = b.1.getD i 0)
    (hnew : lexLt c.1 b.1 → V' = (c.2 : Int) ∧ ∀ i, i < n → P' i = (c.1.getD i 0 : Nat)) (hold : ¬ lexLt c.1 b.1 → V' = V ∧ ∀ i, i < n → P' i = P i) : SR z n (c :: Ls) (G + 1) (E + 1) (F' : Int) W V' P' := by
  obtain ⟨h1, h2, h3⟩ := h
  obtain ⟨a1, a2, a3, a4, a5⟩ := h3 b hb
  have pb := hl b hb.1
  refine ⟨by rw [h1, List.length_cons]; omega, fun he => (by cases he), fun b' hb' => ?_⟩
  have hcnt : ∀ x : Int, x = cwo z n b → E + 1 = (cnt (fun d => decide (cwo z n d = x)) (c :: Ls) : Int) := fun x hx => by
    subst hx
    rw [cnt_s, decide_eq_true hm, a1]
    simp
  by_cases hlt : lexLt c.1 b.1
  · obtain ⟨n1, n2⟩ := hnew hlt
    have hcb : IsBest z n (c :: Ls) c := isBest_iff.mpr ⟨List.mem_cons_self, fun d hd => by
      rcases List.mem_cons.mp hd with rfl | hd
      · exact Or.inl rfl
      · have hcb' : btr z n c b := Or.inr ⟨hm.symm, Or.inl hlt⟩
        rcases (isBest_iff.mp hb).2 d hd with e | e
        · exact Or.inr (by rw [e]; exact hcb')
        · exact Or.inr (btr_tr hcb' e)⟩
    obtain rfl := isBest_u hb' hcb
    refine ⟨hcnt _ hm, by rw [a2, hm], n1, n2, ?_⟩
    have : fixs z n (b' :: Ls) b' n = F' := by
      refine set_ext (n := 12) (fixs_lt hk hc n (Nat.le_refl n)) hF fun j _ => ?_
      rw [Bool.eq_iff_iff, hF' j, fixs_tb, fixs_tb]
      constructor
      · rintro ⟨i, q1, q2, q3⟩
        rw [fixb_iff] at q2
        have hbi : b.1.getD i 0 = b'.1.getD i 0 := q2 b (List.mem_cons_of_mem _ hb.1) hm.symm
        refine ⟨⟨i, q1, fixb_iff.mpr fun d hd he => ?_, by omega⟩, fun i' hi' he => ?_⟩
        · rw [hbi]
          exact q2 d (List.mem_cons_of_mem _ hd) (by omega)
        · have := pb.2.1 i' i hi' q1 (by omega)
          subst this
          omega
      · rintro ⟨⟨i, q1, q2, q3⟩, q4⟩
        have hci := q4 i q1 q3
        rw [fixb_iff] at q2
        refine ⟨i, q1, fixb_iff.mpr fun d hd he => ?_, by omega⟩
        rcases List.mem_cons.mp hd with rfl | hd
        · rfl
        · rw [hci]
          exact q2 d hd (by omega)
    rw [this]
  · obtain ⟨n1, n2⟩ := hold hlt
    have hbc : c = b ∨ cLt b c := by
      rcases lex_tri (a := b.1) (b := c.1) (by rw [pb.1, hc.1]) with h | h | h
      · exact Or.inr (Or.inl h)
      · rcases Nat.lt_or_ge b.2 c.2 with h2 | h2
        · exact Or.inr (Or.inr ⟨h, h2⟩)
        · exact Or.inl (Prod.ext h.symm (by have := hlater h; omega))
      · exact absurd h hlt
    have hcb : IsBest z n (c :: Ls) b := isBest_iff.mpr ⟨List.mem_cons_of_mem _ hb.1, fun d hd => by
      rcases List.mem_cons.mp hd with rfl | hd
      · exact hbc.imp id fun h => Or.inr ⟨hm, h⟩
      · exact (isBest_iff.mp hb).2 d hd⟩
    obtain rfl := isBest_u hb' hcb
    refine ⟨hcnt _ rfl, a2, by rw [n1, a3], fun i hi => by rw [n2 i hi, a4 i hi], ?_⟩
    have : fixs z n (c :: Ls) b' n = F' := by
      refine set_ext (n := 12) (fixs_lt hk pb n (Nat.le_refl n)) hF fun j _ => ?_
      rw [Bool.eq_iff_iff, hF' j, fixs_tb, fixs_tb]
      constructor
      · rintro ⟨i, q1, q2, q3⟩
        rw [fixb_iff] at q2
        refine ⟨⟨i, q1, fixb_iff.mpr fun d hd he => q2 d (List.mem_cons_of_mem _ hd) he, q3⟩, fun i' hi' he => ?_⟩
        have := pb.2.1 i' i hi' q1 (by omega)
        subst this
        exact q2 c List.mem_cons_self hm
      · rintro ⟨⟨i, q1, q2, q3⟩, q4⟩
        rw [fixb_iff] at q2
        refine ⟨i, q1, fixb_iff.mpr fun d hd he => ?_, q3⟩
        rcases List.mem_cons.mp hd with rfl | hd
        · exact q4 i q1 q3
        · exact q2 d hd he
    rw [this]
