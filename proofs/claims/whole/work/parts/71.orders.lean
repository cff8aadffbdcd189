/-! ALL ORDERS, and those that are come to place by place -/
theorem fm_congr {α β : Type} {f g : α → List β} : ∀ {L : List α}, (∀ x ∈ L, f x = g x) → L.flatMap f = L.flatMap g
  | [], _ => rfl
  | x :: L, h => by rw [List.flatMap_cons, List.flatMap_cons, h x List.mem_cons_self, fm_congr (L := L) (fun y hy => h y (List.mem_cons_of_mem _ hy))]
theorem fm_filter {α β : Type} {p : α → Bool} {f : α → List β} : ∀ {L : List α}, (L.filter p).flatMap f = L.flatMap fun x => if p x = true then f x else []
  | [] => rfl
  | x :: L => by
    rw [List.flatMap_cons, ← fm_filter (L := L)]
    cases h : p x
    · rw [List.filter_cons_of_neg (by rw [h]; decide), if_neg (by decide)]
      rfl
    · rw [List.filter_cons_of_pos h, if_pos rfl, List.flatMap_cons]
def rmn (L l : List Nat) : List Nat := L.filter fun x => !decide (x ∈ l)
def dl (p : List Nat → Bool) (v : Nat) (L : List Nat) : Nat → List Nat → List Cand
  | 0, l => [(l.reverse, v)]
  | m + 1, l => L.flatMap fun x => if x ∈ l then [] else if p (x :: l) = true then dl p v L m (x :: l) else []
theorem dl_s (p : List Nat → Bool) (v : Nat) (L : List Nat) (m : Nat) (l : List Nat) : dl p v L (m + 1) l = L.flatMap fun x => if x ∈ l then [] else if p (x :: l) = true then dl p v L m (x :: l) else [] := rfl
theorem p_app {p : List Nat → Bool} (hp : ∀ x l, p (x :: l) = true → p l = true) : ∀ {s l : List Nat}, p (s ++ l) = true → p l = true
  | [], _, h => h
  | x :: s, l, h => p_app hp (s := s) (hp x (s ++ l) h)
theorem rmn_er {L l : List Nat} {x : Nat} (hL : L.Nodup) : (rmn L l).erase x = rmn L (x :: l) := by
  unfold rmn
  rw [List.Nodup.erase_eq_filter (List.Pairwise.filter _ hL), List.filter_filter]
  refine List.filter_congr fun y _ => ?_
  by_cases h1 : y = x
  · subst h1
    simp
  · by_cases h2 : y ∈ l <;> simp [h1, h2]
theorem dl_eq {p : List Nat → Bool} {v : Nat} {L : List Nat} (hp : ∀ x l, p (x :: l) = true → p l = true) (hL : L.Nodup) : ∀ (m : Nat) (l : List Nat), (m = 0 → p l = true) → dl p v L m l = ((ords m (rmn L l)).map fun s => (l.reverse ++ s, v)).filter fun c => p c.1.reverse
  | 0, l, h => by
    show [(l.reverse, v)] = ([(l.reverse ++ [], v)] : List Cand).filter _
    rw [List.filter_cons_of_pos (by show p (l.reverse ++ []).reverse = true; rw [List.append_nil, List.reverse_reverse]; exact h rfl), List.append_nil]
    rfl
  | m + 1, l, _ => by
    rw [dl_s]
    show _ = (((rmn L l).flatMap fun x => (ords m ((rmn L l).erase x)).map (x :: ·)).map fun s => (l.reverse ++ s, v)).filter fun c => p c.1.reverse
    rw [List.map_flatMap, List.filter_flatMap]
    conv => rhs; rw [show rmn L l = L.filter fun x => !decide (x ∈ l) from rfl]
    rw [fm_filter]
    refine fm_congr fun x hx => ?_
    by_cases hxl : x ∈ l
    · rw [if_pos hxl, if_neg (show ¬ (!decide (x ∈ l)) = true by simp [hxl])]
    · rw [if_neg hxl, if_pos (show (!decide (x ∈ l)) = true by simp [hxl])]
      show _ = List.filter _ (List.map _ (List.map (x :: ·) (ords m ((rmn L l).erase x))))
      rw [rmn_er hL, List.map_map]
      have ef : ((fun s => (l.reverse ++ s, v)) ∘ (x :: ·) : List Nat → Cand) = fun s => ((x :: l).reverse ++ s, v) := by
        funext s
        show (l.reverse ++ x :: s, v) = ((x :: l).reverse ++ s, v)
        rw [List.reverse_cons, List.append_assoc]
        rfl
      rw [ef]
      by_cases hpx : p (x :: l) = true
      · rw [if_pos hpx]
        exact dl_eq hp hL m (x :: l) fun _ => hpx
      · rw [if_neg hpx]
        symm
        rw [List.filter_eq_nil_iff]
        intro c hc hpc
        rw [List.mem_map] at hc
        obtain ⟨s, _, rfl⟩ := hc
        have h2 : p ((x :: l).reverse ++ s).reverse = true := hpc
        rw [List.reverse_append, List.reverse_reverse] at h2
        exact hpx (p_app hp h2)
theorem ords_perm : ∀ {n : Nat} {L c : List Nat}, L.length = n → c ∈ ords n L → c.Perm L
  | 0, L, c, hl, h => by
    obtain rfl := List.length_eq_zero_iff.mp hl
    have : c = [] := by simpa [ords] using h
    rw [this]
  | n + 1, L, c, hl, h => by
    have h' : c ∈ L.flatMap fun x => (ords n (L.erase x)).map (x :: ·) := h
    rw [List.mem_flatMap] at h'
    obtain ⟨x, hx, hc⟩ := h'
    rw [List.mem_map] at hc
    obtain ⟨s, hs, rfl⟩ := hc
    have := ords_perm (n := n) (L := L.erase x) (by rw [List.length_erase_of_mem hx]; omega) hs
    exact (this.cons x).trans (List.perm_cons_erase hx).symm
theorem mem_mems {k x : Nat} : ∀ {n : Nat}, x ∈ mems k n ↔ x < n ∧ k.testBit x = true
  | 0 => by simp [mems]
  | n + 1 => by
    show x ∈ mems k n ++ (if k.testBit n then [n] else []) ↔ _
    rw [List.mem_append, mem_mems (n := n)]
    constructor
    · rintro (⟨h1, h2⟩ | h)
      · exact ⟨by omega, h2⟩
      · cases hk : k.testBit n
        · rw [hk] at h
          simp at h
        · rw [hk] at h
          have : x = n := by simpa using h
          subst this
          exact ⟨by omega, hk⟩
    · rintro ⟨h1, h2⟩
      rcases Nat.lt_or_ge x n with h3 | h3
      · exact Or.inl ⟨h3, h2⟩
      · obtain rfl : x = n := by omega
        rw [h2]
        exact Or.inr (by simp)
theorem mems_nd (k : Nat) : ∀ n, (mems k n).Nodup
  | 0 => by simp [mems]
  | n + 1 => by
    show (mems k n ++ (if k.testBit n then [n] else [])).Nodup
    rw [List.nodup_append]
    refine ⟨mems_nd k n, ?_, fun a ha b hb => ?_⟩
    · split <;> simp
    · have := (mem_mems.mp ha).1
      split at hb
      · have : b = n := by simpa using hb
        omega
      · simp at hb
theorem mems_len (k : Nat) : ∀ n, (mems k n).length = popn k n
  | 0 => rfl
  | n + 1 => by
    show (mems k n ++ (if k.testBit n then [n] else [])).length = popn k n + _
    rw [List.length_append, mems_len k n]
    split <;> rfl
theorem mems_lt {k n i : Nat} (hi : i < (mems k n).length) : (mems k n).getD i 0 < n ∧ k.testBit ((mems k n).getD i 0) = true := by
  have : (mems k n).getD i 0 ∈ mems k n := by
    rw [List.getD_eq_getElem?_getD, List.getElem?_eq_getElem hi]
    exact List.getElem_mem hi
  exact mem_mems.mp this
/-- an order of the members is one of the pieces of k -/
theorem POk.of {k : Nat} {c : List Nat} (hk : k < 2 ^ 12) (h : c.Perm (mems k 12)) : POk k (pop k) c := by
  have hl : c.length = pop k := by rw [h.length_eq, mems_len]; rfl
  have hnd : c.Nodup := h.nodup_iff.mpr (mems_nd k 12)
  refine ⟨hl, fun i j hi hj he => ?_, fun x => ?_⟩
  · rw [List.getD_eq_getElem?_getD, List.getD_eq_getElem?_getD, List.getElem?_eq_getElem (by omega), List.getElem?_eq_getElem (by omega)] at he
    exact (List.getElem_inj hnd).mp he
  · constructor
    · intro hx
      have hx12 : x < 12 := by
        rcases Nat.lt_or_ge x 12 with h1 | h1
        · exact h1
        · rw [tb_big hk h1] at hx
          cases hx
      have hm : x ∈ c := h.mem_iff.mpr (mem_mems.mpr ⟨hx12, hx⟩)
      obtain ⟨i, hi, he⟩ := List.mem_iff_getElem.mp hm
      exact ⟨i, by omega, by rw [List.getD_eq_getElem?_getD, List.getElem?_eq_getElem hi]; exact he⟩
    · rintro ⟨i, hi, he⟩
      have hm : x ∈ c := by
        rw [← he, List.getD_eq_getElem?_getD, List.getElem?_eq_getElem (by omega)]
        exact List.getElem_mem _
      exact (mem_mems.mp (h.mem_iff.mp hm)).2
/-- rows by intervals, intervals by rows -/
theorem fm_split {α β : Type} {f : α → β} {g : α → List β} : ∀ V : List α, (V.flatMap fun v => f v :: g v).Perm (V.map f ++ V.flatMap g)
  | [] => List.Perm.refl _
  | v :: V => by
    rw [List.flatMap_cons, List.map_cons, List.flatMap_cons]
    refine ((fm_split (f := f) (g := g) V).append_left (f v :: g v)).trans ?_
    show (f v :: (g v ++ (V.map f ++ V.flatMap g))).Perm (f v :: (V.map f ++ (g v ++ V.flatMap g)))
    refine List.Perm.cons _ ?_
    rw [← List.append_assoc, ← List.append_assoc]
    exact List.perm_append_comm.append_right _
theorem fm_swap {α β : Type} : ∀ (A : List α) (V : List β), (A.flatMap fun r => V.map fun v => (r, v)).Perm (V.flatMap fun v => A.map fun r => (r, v))
  | [], V => by
    have : (V.flatMap fun v => ([] : List α).map fun r => (r, v)) = [] := by
      rw [List.flatMap_eq_nil_iff]
      intro x _
      rfl
    rw [this]
    exact List.Perm.refl _
  | a :: A, V => by
    rw [List.flatMap_cons]
    refine ((fm_swap A V).append_left _).trans ?_
    exact (fm_split (f := fun v => (a, v)) (g := fun v => A.map fun r => (r, v)) V).symm
theorem cands_dl {z : Fl} {k : Nat} (h1 : 1 ≤ pop k) : (cands z k).Perm ((List.range (pop k)).flatMap fun v => dl (goodb z v (pop k)) v (mems k 12) (pop k) []) := by
  unfold cands candsOf
  have e : ((List.range (pop k)).flatMap fun v => dl (goodb z v (pop k)) v (mems k 12) (pop k) []) = ((List.range (pop k)).flatMap fun v => (ords (pop k) (mems k 12)).map fun s => (s, v)).filter fun c => goodb z c.2 (pop k) c.1.reverse := by
    rw [List.filter_flatMap]
    refine fm_congr fun v _ => ?_
    rw [dl_eq (p := goodb z v (pop k)) (fun x l h => goodb_mono h) (mems_nd k 12) (pop k) [] (fun h => by omega)]
    have er : rmn (mems k 12) [] = mems k 12 := by
      unfold rmn
      rw [List.filter_eq_self]
      intro x _
      rfl
    rw [er]
    show List.filter _ (List.map (fun s => ([] ++ s, v)) _) = List.filter _ (List.map (fun s => (s, v)) _)
    refine List.filter_congr fun c hc => ?_
    rw [List.mem_map] at hc
    obtain ⟨s, _, rfl⟩ := hc
    rfl
  rw [e]
  exact (fm_swap _ _).filter _
theorem cands_ok {z : Fl} {k : Nat} (hk : k < 2 ^ 12) {c : Cand} (h : c ∈ cands z k) : POk k (pop k) c.1 ∧ c.2 < pop k ∧ goodb z c.2 (pop k) c.1.reverse = true := by
  unfold cands candsOf at h
  rw [List.mem_filter, List.mem_flatMap] at h
  obtain ⟨⟨r, hr, hc⟩, hg⟩ := h
  rw [List.mem_map] at hc
  obtain ⟨v, hv, rfl⟩ := hc
  exact ⟨POk.of hk (ords_perm (by rw [mems_len]; rfl) hr), List.mem_range.mp hv, hg⟩
