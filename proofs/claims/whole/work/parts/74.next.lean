/-! THE NEXT ORDER: the reference -/
def scI (f : Nat → Nat) : Nat → Option Nat
  | 0 => none
  | j + 1 => if f j ≤ f (j + 1) then some j else scI f j
def scJ (f : Nat → Nat) (i : Nat) : Nat → Nat
  | 0 => 0
  | j + 1 => if f i ≤ f (j + 1) then j + 1 else scJ f i j
def sw (f : Nat → Nat) (i j : Nat) : Nat → Nat := fun k => if k = j then f i else if k = i then f j else f k
def rv (f : Nat → Nat) (lo hi : Nat) : Nat → (Nat → Nat)
  | 0 => f
  | m + 1 => if hi ≤ lo then f else rv (sw f lo hi) (lo + 1) (hi - 1) m
def nx' (n : Nat) (f : Nat → Nat) : Option (Nat → Nat) := match scI f (n - 1) with
  | none => none
  | some i => some (rv (sw f i (scJ f i (n - 1))) (i + 1) (n - 1) n)
def ck (n : Nat) : List (List Nat) → Bool
  | [] => true
  | [a] => (nx' n fun k => a.getD k 0).isNone
  | a :: b :: r => (match nx' n fun k => a.getD k 0 with
    | some g => (List.range n).all fun k => g k == b.getD k 0
    | none => false) && ck n (b :: r)
def all_ck : Bool := (List.range 7).all fun n => ck n (ords n (List.range n))
theorem all_ck_t : all_ck = true := by decide +kernel
theorem ck_n {n : Nat} (h : n ≤ 6) : ck n (ords n (List.range n)) = true := List.all_eq_true.mp all_ck_t n (List.mem_range.mpr (by omega))
/-- behind a rising map -/
def Mono (F : Nat → Nat) (n : Nat) : Prop := ∀ i j, i < j → j < n → F i < F j
theorem Mono.le {F : Nat → Nat} {n i j : Nat} (h : Mono F n) (hi : i < n) (hj : j < n) : F i ≤ F j ↔ i ≤ j := by
  rcases Nat.lt_trichotomy i j with h1 | h1 | h1
  · have := h i j h1 hj
    omega
  · subst h1
    omega
  · have := h j i h1 hi
    omega
theorem scI_map {F f : Nat → Nat} {n : Nat} (hF : Mono F n) (hf : ∀ k, k < n → f k < n) : ∀ m, m < n → scI (fun k => F (f k)) m = scI f m
  | 0, _ => rfl
  | m + 1, h => by
    show (if F (f m) ≤ F (f (m + 1)) then some m else scI (fun k => F (f k)) m) = if f m ≤ f (m + 1) then some m else scI f m
    rw [scI_map hF hf m (by omega)]
    by_cases h1 : f m ≤ f (m + 1)
    · rw [if_pos h1, if_pos ((hF.le (hf _ (by omega)) (hf _ h)).mpr h1)]
    · rw [if_neg h1, if_neg fun h2 => h1 ((hF.le (hf _ (by omega)) (hf _ h)).mp h2)]
theorem scJ_map {F f : Nat → Nat} {n i : Nat} (hF : Mono F n) (hf : ∀ k, k < n → f k < n) (hi : i < n) : ∀ m, m < n → scJ (fun k => F (f k)) i m = scJ f i m
  | 0, _ => rfl
  | m + 1, h => by
    show (if F (f i) ≤ F (f (m + 1)) then m + 1 else scJ (fun k => F (f k)) i m) = if f i ≤ f (m + 1) then m + 1 else scJ f i m
    rw [scJ_map hF hf hi m (by omega)]
    by_cases h1 : f i ≤ f (m + 1)
    · rw [if_pos h1, if_pos ((hF.le (hf _ hi) (hf _ h)).mpr h1)]
    · rw [if_neg h1, if_neg fun h2 => h1 ((hF.le (hf _ hi) (hf _ h)).mp h2)]
theorem sw_map {F f : Nat → Nat} {i j : Nat} : sw (fun k => F (f k)) i j = fun k => F (sw f i j k) := by
  funext k
  unfold sw
  split
  · rfl
  · split <;> rfl
theorem rv_map {F : Nat → Nat} : ∀ {m : Nat} {f : Nat → Nat} {lo hi : Nat}, rv (fun k => F (f k)) lo hi m = fun k => F (rv f lo hi m k)
  | 0, _, _, _ => rfl
  | m + 1, f, lo, hi => by
    show (if hi ≤ lo then (fun k => F (f k)) else rv (sw (fun k => F (f k)) lo hi) (lo + 1) (hi - 1) m) = fun k => F ((if hi ≤ lo then f else rv (sw f lo hi) (lo + 1) (hi - 1) m) k)
    split
    · rfl
    · rw [sw_map, rv_map]
theorem scI_lt {f : Nat → Nat} : ∀ {m i : Nat}, scI f m = some i → i < m
  | 0, i, h => by cases h
  | m + 1, i, h => by
    have h' : (if f m ≤ f (m + 1) then some m else scI f m) = some i := h
    split at h'
    · cases h'
      omega
    · have := scI_lt h'
      omega
theorem nx_map {F f : Nat → Nat} {n : Nat} (h1 : 1 ≤ n) (hF : Mono F n) (hf : ∀ k, k < n → f k < n) : nx' n (fun k => F (f k)) = (nx' n f).map fun g k => F (g k) := by
  unfold nx'
  rw [scI_map hF hf (n - 1) (by omega)]
  cases hs : scI f (n - 1) with
  | none => rfl
  | some i =>
    have := scI_lt hs
    show some _ = some _
    rw [scJ_map hF hf (by omega) (n - 1) (by omega), sw_map, rv_map]
/-- agreeing up to n -/
theorem scI_cg {f g : Nat → Nat} : ∀ {m : Nat}, (∀ k, k ≤ m → f k = g k) → scI f m = scI g m
  | 0, _ => rfl
  | m + 1, h => by
    show (if f m ≤ f (m + 1) then some m else scI f m) = if g m ≤ g (m + 1) then some m else scI g m
    rw [h m (by omega), h (m + 1) (by omega), scI_cg (m := m) fun k hk => h k (by omega)]
theorem scJ_cg {f g : Nat → Nat} {i : Nat} (hi : f i = g i) : ∀ {m : Nat}, (∀ k, k ≤ m → f k = g k) → scJ f i m = scJ g i m
  | 0, _ => rfl
  | m + 1, h => by
    show (if f i ≤ f (m + 1) then m + 1 else scJ f i m) = if g i ≤ g (m + 1) then m + 1 else scJ g i m
    rw [hi, h (m + 1) (by omega), scJ_cg hi (m := m) fun k hk => h k (by omega)]
theorem scJ_le {f : Nat → Nat} {i : Nat} : ∀ m, scJ f i m ≤ m
  | 0 => Nat.le_refl 0
  | m + 1 => by
    show (if f i ≤ f (m + 1) then m + 1 else scJ f i m) ≤ m + 1
    have := scJ_le (f := f) (i := i) m
    split <;> omega
/-- the program -/
theorem no7_L {n : Nat} {r : Nat → Nat} {M : Mem} {Q : Int → Mem → Prop} {E : Int → Mem → Prop} (hr : ∀ k, k < n → M 132 k = (r k : Int) ∧ r k < 12) (hn12 : n ≤ 12) (h0 : scI r (n - 1) = none → E (-1) M) (h1 : ∀ i, scI r (n - 1) = some i → i + 1 < n → E (i : Int) M) : ∀ (m : Nat) (x1 : Int), m < n → x1 = (m : Int) - 1 → scI r (n - 1) = scI r m → wX12_nextOrder_L7 Q E 125 (m + 1) x1 M
  | 0, x1, hm, hx, hs => by
    subst hx
    unfold wX12_nextOrder_L7
    exact BR_t (by decide +kernel) (h0 hs)
  | m + 1, x1, hm, hx, hs => by
    have hx' : x1 = (m : Int) := by omega
    subst hx'
    obtain ⟨a1, a2⟩ := hr m (by omega)
    obtain ⟨b1, b2⟩ := hr (m + 1) (by omega)
    have es : scI r (m + 1) = if r m ≤ r (m + 1) then some m else scI r m := rfl
    unfold wX12_nextOrder_L7
    rw [bm_nat (n := m) (by omega), show (m : Int) + 1 = ((m + 1 : Nat) : Int) by omega, rd_at (n := m) rfl (by omega), rd_at (n := m + 1) rfl (by omega), show (125 : Nat) + 7 = 132 from rfl, a1, b1, bm_nat (n := r m) (by omega), bm_nat (n := r (m + 1)) (by omega)]
    refine BR_f (by omega) ⟨inb_of rfl (by omega) (by decide), inb_of rfl (by omega) (by decide), BR_i (fun h => ?_) (fun h => LET_i ?_)⟩
    · refine h1 m ?_ (by omega)
      rw [hs, es, if_pos (by omega)]
    · rw [if_neg (by omega)] at es
      exact no7_L hr hn12 h0 h1 m _ (by omega) (by omega) (by rw [hs, es])
theorem no47_L {n i : Nat} {r : Nat → Nat} {M : Mem} {Q : Int → Mem → Prop} {E : Int → Mem → Prop} (hr : ∀ k, k < n → M 132 k = (r k : Int) ∧ r k < 12) (hn12 : n ≤ 12) (hi : i < n) (h1 : E (scJ r i (n - 1) : Int) M) : ∀ (m : Nat) (x2 : Int), m < n → i ≤ m → x2 = (m : Int) → scJ r i (n - 1) = scJ r i m → wX12_nextOrder_L47 Q E 125 (i : Int) (m + 1) x2 M
  | 0, x2, hm, him, hx, hs => by
    subst hx
    obtain rfl : i = 0 := by omega
    unfold wX12_nextOrder_L47
    refine ⟨inb_of (n := 0) rfl (by omega) (by decide), inb_of rfl (by omega) (by decide), BR_t (Int.le_refl _) ?_⟩
    rw [hs] at h1
    exact h1
  | m + 1, x2, hm, him, hx, hs => by
    subst hx
    obtain ⟨a1, a2⟩ := hr i hi
    obtain ⟨b1, b2⟩ := hr (m + 1) (by omega)
    have es : scJ r i (m + 1) = if r i ≤ r (m + 1) then m + 1 else scJ r i m := rfl
    unfold wX12_nextOrder_L47
    rw [rd_at (n := i) rfl (by omega), rd_at (n := m + 1) rfl (by omega), show (125 : Nat) + 7 = 132 from rfl, a1, b1, bm_nat (n := r i) (by omega), bm_nat (n := r (m + 1)) (by omega)]
    refine ⟨inb_of rfl (by omega) (by decide), inb_of rfl (by omega) (by decide), BR_i (fun h => ?_) (fun h => LET_i ?_)⟩
    · rw [hs, es, if_pos (by omega)] at h1
      exact h1
    · rw [if_neg (by omega)] at es
      have : i ≠ m + 1 := fun e => by
        subst e
        omega
      exact no47_L hr hn12 hi h1 m _ (by omega) (by omega) (by omega) (by rw [hs, es])
theorem mf_swap {n i j : Nat} {r : Nat → Nat} {M : Mem} {x1 x2 : Int} {Q : Mem → Prop} (hn12 : n ≤ 12) (hr : ∀ k, k < n → M 132 k = (r k : Int)) (hi : i < n) (hj : j < n) (h1 : x1 = (i : Int)) (h2 : x2 = (j : Int)) (hQ : ∀ M', (∀ a, a ≠ 132 → M' a = M a) → (∀ k, k < n → M' 132 k = (sw r i j k : Int)) → Q M') : wX12_swap 125 x1 x2 M Q := by
  subst h1 h2
  unfold wX12_swap
  refine ⟨inb_of rfl (by omega) (by decide), LET_i ⟨inb_of rfl (by omega) (by decide), inb_of rfl (by omega) (by decide), LET_i ⟨inb_of rfl (by omega) (by decide), LET_i ?_⟩⟩⟩
  rw [rd_at (n := i) rfl (by omega), rd_at (n := j) rfl (by omega), wr_up (n := i) rfl (by omega), wr_up (n := j) rfl (by omega), show (125 : Nat) + 7 = 132 from rfl, hr i hi, hr j hj]
  refine hQ _ (fun a ha => by rw [up_c ha, up_c ha]) fun k hk => ?_
  rw [up_k, up_k, hr k hk]
  unfold sw
  split
  · rfl
  · split <;> rfl
theorem no86_L {n : Nat} {M0 : Mem} {Q : Int → Mem → Prop} (hn12 : n ≤ 12) : ∀ (m : Nat) (f : Nat → Nat) (lo hi : Nat) (M : Mem) (x3 x4 : Int), lo ≤ n → hi < n → hi < lo + m → x3 = (lo : Int) → x4 = (hi : Int) → (∀ a, a ≠ 132 → M a = M0 a) → (∀ k, k < n → M 132 k = (f k : Int)) → (∀ M', (∀ a, a ≠ 132 → M' a = M0 a) → (∀ k, k < n → M' 132 k = (rv f lo hi m k : Int)) → Q 1 M') → wX12_nextOrder_L86 Q 125 (m + 1) x3 x4 M
  | 0, f, lo, hi, M, x3, x4, h1, h2, h3, e3, e4, f1, f2, hQ => by
    subst e3 e4
    unfold wX12_nextOrder_L86
    rw [bm_nat (n := hi) (by omega), bm_nat (n := lo) (by omega)]
    exact BR_t (by omega) (hQ M f1 f2)
  | m + 1, f, lo, hi, M, x3, x4, h1, h2, h3, e3, e4, f1, f2, hQ => by
    subst e3 e4
    have er : rv f lo hi (m + 1) = if hi ≤ lo then f else rv (sw f lo hi) (lo + 1) (hi - 1) m := rfl
    unfold wX12_nextOrder_L86
    rw [bm_nat (n := hi) (by omega), bm_nat (n := lo) (by omega)]
    refine BR_i (fun h => hQ M f1 fun k hk => ?_) (fun h => mf_swap hn12 f2 (by omega) h2 rfl rfl fun M1 g1 g2 => LET_i (LET_i ?_))
    · rw [er, if_pos (by omega)]
      exact f2 k hk
    · rw [if_neg (by omega)] at er
      rw [er] at hQ
      exact no86_L hn12 m (sw f lo hi) (lo + 1) (hi - 1) M1 _ _ (by omega) (by omega) (by omega) (by omega) (by omega) (fun a ha => by rw [g1 a ha, f1 a ha]) g2 hQ
theorem mf_next {n : Nat} {r : Nat → Nat} {M : Mem} {Q : Int → Mem → Prop} (h13 : M 125 13 = (n : Int)) (h1 : 1 ≤ n) (hn12 : n ≤ 12) (hr : ∀ k, k < n → M 132 k = (r k : Int) ∧ r k < 12) (h0 : nx' n r = none → Q 0 M) (hS : ∀ g, nx' n r = some g → ∀ M', (∀ a, a ≠ 132 → M' a = M a) → (∀ k, k < n → M' 132 k = (g k : Int)) → Q 1 M') : wX12_nextOrder 125 M Q := by
  unfold wX12_nextOrder
  rw [h13]
  refine LET_i ⟨n - 1 + 1, no7_L hr hn12 (fun h => ?_) (fun i hi hin => ?_) (n - 1) _ (by omega) (by omega) rfl⟩
  · unfold wX12_nextOrder_J34
    refine BR_f (by decide +kernel) (h0 ?_)
    unfold nx'
    rw [h]
  · unfold wX12_nextOrder_J34
    rw [h13, bm_nat (n := i) (by omega)]
    have hj := scJ_le (f := r) (i := i) (n - 1)
    refine BR_t (by omega) (LET_i ⟨n - 1 + 1, no47_L hr hn12 (by omega) (mf_swap hn12 (fun k hk => (hr k hk).1) (by omega) (j := scJ r i (n - 1)) (by omega) rfl rfl fun M1 g1 g2 => LET_i (LET_i ⟨n + 1, ?_⟩)) (n - 1) _ (by omega) (by omega) (by omega) rfl⟩)
    refine no86_L hn12 n (sw r i (scJ r i (n - 1))) (i + 1) (n - 1) M1 _ _ (by omega) (by omega) (by omega) (by omega) (by rw [g1 125 (by decide), h13]; omega) g1 g2 (hS _ ?_)
    unfold nx'
    rw [hi]
/-- orders of a rising row -/
theorem er_map {f : Nat → Nat} {x : Nat} : ∀ {L : List Nat}, (∀ y ∈ L, f y = f x → y = x) → (L.map f).erase (f x) = (L.erase x).map f
  | [], _ => rfl
  | y :: L, h => by
    rw [List.map_cons, List.erase_cons, List.erase_cons]
    by_cases hy : y = x
    · subst hy
      simp
    · have : ¬ f y = f x := fun e => hy (h y List.mem_cons_self e)
      rw [if_neg (by simpa using this), if_neg (by simpa using hy), List.map_cons, er_map fun z hz => h z (List.mem_cons_of_mem _ hz)]
theorem ords_map {f : Nat → Nat} : ∀ {n : Nat} {L : List Nat}, (∀ x ∈ L, ∀ y ∈ L, f y = f x → y = x) → ords n (L.map f) = (ords n L).map (List.map f)
  | 0, _, _ => rfl
  | n + 1, L, h => by
    show ((L.map f).flatMap fun y => (ords n ((L.map f).erase y)).map (y :: ·)) = (L.flatMap fun x => (ords n (L.erase x)).map (x :: ·)).map (List.map f)
    rw [List.map_flatMap, List.flatMap_map]
    refine fm_congr fun x hx => ?_
    rw [er_map (h x hx), ords_map fun a ha b hb => h a (List.mem_of_mem_erase ha) b (List.mem_of_mem_erase hb), List.map_map, List.map_map]
    rfl
theorem ords_pw : ∀ {n : Nat} {L : List Nat}, L.Pairwise (· < ·) → (ords n L).Pairwise lexLt
  | 0, L, _ => by simp [ords]
  | n + 1, L, h => by
    show (L.flatMap fun x => (ords n (L.erase x)).map (x :: ·)).Pairwise lexLt
    rw [List.pairwise_flatMap]
    refine ⟨fun x hx => ?_, h.imp fun {x y} hxy => fun a ha b hb => ?_⟩
    · rw [List.pairwise_map]
      exact (ords_pw (n := n) (h.sublist (List.erase_sublist ..))).imp fun hab => Or.inr ⟨rfl, hab⟩
    · rw [List.mem_map] at ha hb
      obtain ⟨a', _, rfl⟩ := ha
      obtain ⟨b', _, rfl⟩ := hb
      exact Or.inl hxy
theorem mems_pw (k : Nat) : ∀ n, (mems k n).Pairwise (· < ·)
  | 0 => by simp [mems]
  | n + 1 => by
    show (mems k n ++ (if k.testBit n = true then [n] else [])).Pairwise (· < ·)
    rw [List.pairwise_append]
    refine ⟨mems_pw k n, ?_, fun a ha b hb => ?_⟩
    · split <;> simp
    · have := (mem_mems.mp ha).1
      split at hb
      · have : b = n := by simpa using hb
        omega
      · simp at hb
theorem mems_mono (k : Nat) : Mono (fun i => (mems k 12).getD i 0) (pop k) := by
  intro i j hij hj
  have hl : (mems k 12).length = pop k := mems_len k 12
  show (mems k 12).getD i 0 < (mems k 12).getD j 0
  rw [List.getD_eq_getElem?_getD, List.getD_eq_getElem?_getD, List.getElem?_eq_getElem (by omega), List.getElem?_eq_getElem (by omega)]
  exact List.pairwise_iff_getElem.mp (mems_pw k 12) i j (by omega) (by omega) hij
theorem mems_rng (k : Nat) : mems k 12 = (List.range (pop k)).map fun i => (mems k 12).getD i 0 := by
  have hl : (mems k 12).length = pop k := mems_len k 12
  refine List.ext_getElem (by rw [List.length_map, List.length_range, hl]) fun i h1 h2 => ?_
  rw [List.getElem_map, List.getElem_range, List.getD_eq_getElem?_getD, List.getElem?_eq_getElem h1]
  rfl
theorem ords_mems (k : Nat) : ords (pop k) (mems k 12) = (ords (pop k) (List.range (pop k))).map (List.map fun i => (mems k 12).getD i 0) := by
  conv => lhs; rw [mems_rng k]
  refine ords_map fun x hx y hy e => ?_
  have hx' := List.mem_range.mp hx
  have hy' := List.mem_range.mp hy
  rcases Nat.lt_trichotomy x y with h | h | h
  · have := mems_mono k x y h hy'
    have e' : (mems k 12).getD y 0 = (mems k 12).getD x 0 := e
    have h' : (mems k 12).getD x 0 < (mems k 12).getD y 0 := this
    omega
  · exact h.symm
  · have := mems_mono k y x h hx'
    have e' : (mems k 12).getD y 0 = (mems k 12).getD x 0 := e
    have h' : (mems k 12).getD y 0 < (mems k 12).getD x 0 := this
    omega
theorem ords_rng {n : Nat} {a : List Nat} (h : a ∈ ords n (List.range n)) : a.length = n ∧ ∀ i, i < n → a.getD i 0 < n := by
  have hp := ords_perm (by rw [List.length_range]) h
  have hl : a.length = n := by rw [hp.length_eq, List.length_range]
  refine ⟨hl, fun i hi => ?_⟩
  rw [List.getD_eq_getElem?_getD, List.getElem?_eq_getElem (by omega)]
  exact List.mem_range.mp (hp.mem_iff.mp (List.getElem_mem _))
