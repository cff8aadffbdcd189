/-! WHAT IS TOLD OF THE START: the classes of rows, nest mates, all of it -/
theorem at_prim {args : Array Value} {s : State} {ty : FieldType} (h : (Cond.arrayClass ty).before args s = true) (hr : ∀ C : String, ty ≠ .object C) : ∃ c : ClassId, ArrOfT s c ty ∧ va_RA s c ty := by
  obtain ⟨c, kA, comp, h1, h2, h3⟩ := Cond.arrayClass_spec h
  refine ⟨c, fun n z => ⟨(fun k h => by cases h), kA, h2, comp, h3⟩, ?_⟩
  cases ty with
  | object C => exact absurd rfl (hr C)
  | _ => exact h1
theorem at_obj {args : Array Value} {s : State} {C : String} (h : (Cond.arrayOver (.object C)).before args s = true) : ∃ c : ClassId, ArrOfT s c (.object C) ∧ va_RA s c (.object C) := by
  obtain ⟨comp, c, kA, h1, -, h3, h4, h5⟩ := Cond.arrayOver_spec h
  exact ⟨c, fun n z => ⟨(fun k h => by cases h), kA, h3, comp, h4⟩, kA, comp, h3, h4, h1, h5⟩
theorem sp_aty {args : Array Value} {s : State} (hts : ∀ w ∈ lw_tbl, w.before args s = true) : ∃ cA : Nat → ClassId, ∀ (k : Nat) (q : ClassId × FieldType), (tysOf cA)[k]? = some q → ArrOfT s q.1 q.2 ∧ va_RA s q.1 q.2 := by
  have m1 : ∀ C ∈ refC, Cond.arrayOver (.object C) ∈ lw_tbl := by decide +kernel
  have m2 : ∀ t, t < 4 → Cond.arrayClass (aty t) ∈ lw_tbl := by decide +kernel
  have hp : ∀ t, t < 4 → ∀ C : String, aty t ≠ .object C := by
    intro t ht C
    rcases (show t = 0 ∨ t = 1 ∨ t = 2 ∨ t = 3 by omega) with rfl | rfl | rfl | rfl <;> exact fun h => by cases h
  have ho : ∀ t, 4 ≤ t → ∃ C, C ∈ refC ∧ aty t = .object C := by
    intro t ht
    by_cases h : t < 9
    · rcases (show t = 4 ∨ t = 5 ∨ t = 6 ∨ t = 7 ∨ t = 8 by omega) with rfl | rfl | rfl | rfl | rfl
      · exact ⟨"EveningOrder$Piece", by decide, rfl⟩
      · exact ⟨"EveningOrder$Liking", by decide, rfl⟩
      · exact ⟨"EveningOrder$Must", by decide, rfl⟩
      · exact ⟨"EveningOrder$Row", by decide, rfl⟩
      · exact ⟨"EveningOrder$Row", by decide, rfl⟩
    · obtain ⟨j, rfl⟩ : ∃ j, t = j + 9 := ⟨t - 9, by omega⟩
      exact ⟨"EveningOrder$Sheet", by decide, rfl⟩
  have h : ∀ t : Nat, ∃ c : ClassId, ArrOfT s c (aty t) ∧ va_RA s c (aty t) := by
    intro t
    by_cases ht : t < 4
    · exact at_prim (hts _ (m2 t ht)) (hp t ht)
    · obtain ⟨C, hC, he⟩ := ho t (by omega)
      rw [he]
      exact at_obj (hts _ (m1 C hC))
  obtain ⟨f, hf⟩ := Classical.axiomOfChoice h
  refine ⟨f, fun k q hq => ?_⟩
  have hm := List.mem_of_getElem? hq
  simp only [tysOf, List.mem_cons, List.not_mem_nil, or_false] at hm
  rcases hm with rfl | rfl | rfl | rfl | rfl | rfl | rfl | rfl | rfl | rfl <;> exact hf _
theorem sp_nest {args : Array Value} {s : State} (hts : ∀ w ∈ lw_tbl, w.before args s = true) : ∀ w ∈ nestW, va_Nw w s := by
  intro w hw
  obtain ⟨h1, h2⟩ := List.mem_filter.mp hw
  have hb := hts w (List.mem_append_right _ h1)
  cases w <;> first | exact va_Nw.of rfl hb | cases h2
theorem vk_Sc {N : Nat} {len : List Nat} {byt : List (List Int32)} {k1 v1 k2 v2 : Nat → Nat} {A : Nat → Prop} {s : State} {H : Heap} (h : vk_S N len byt k1 v1 A s H) (hk : ∀ i, i < N → k2 i = k1 i) (hv : ∀ i, i < N → v2 i = v1 i) : vk_S N len byt k2 v2 A s H := by
  refine ⟨fun i hi => ?_, fun i j hi hj e => h.2 i j hi hj ?_⟩
  · rw [hk i hi, hv i hi]
    exact h.1 i hi
  · rw [← hk i hi, ← hk j hj]
    exact e
def adrY (k v t : Nat → Nat) (i : Nat) : Nat := if i < 10 then k (i - 1) else if i < 100 then v (i - 11) else t (i - 100)
theorem sp_all {args : Array Value} {s : State} (hg : (Jvm.Cond.and given_1 narrow_1).before args s = true) (hts : ∀ w ∈ lw_tbl, w.before args s = true) (hpos : 0 < s.heap.size) : ∃ Y : Yx, Y.2.2.2.2 = true ∧ Y.1 + 1 = s.heap.size ∧ Sp Y s := by
  have hA : ∀ a : Nat, a < s.heap.size → ¬ (fun q : Nat => s.heap.size - 1 < q) a := fun a ha => by show ¬ (s.heap.size - 1 < a); omega
  obtain ⟨adK, adV, hS, hE⟩ := sp_txt hg hA
  obtain ⟨D, hD⟩ := sp_cls hts
  obtain ⟨cA, hcA⟩ := sp_aty hts
  have hT := sp_tab hg hts hA
  have hT' : ∀ i, ∃ t : Nat, i < 3 → va_Z (tabC i) (tabN i) "[I" (.ref t) (fun q : Nat => s.heap.size - 1 < q) s s.heap ∧ va_T .int t (tabL i).length (fun j => vI ((tabL i).getD j 0)) (fun q : Nat => s.heap.size - 1 < q) s s.heap := by
    intro i
    by_cases hi : i < 3
    · obtain ⟨t, h⟩ := hT i hi
      exact ⟨t, fun _ => h⟩
    · exact ⟨0, fun h => absurd h hi⟩
  obtain ⟨tb, htb⟩ := Classical.axiomOfChoice hT'
  have m1 : ∀ q ∈ strW, Cond.stringRef q.1 q.2.1 q.2.2.1 ∈ lw_tbl := by decide +kernel
  have m2 : Cond.eq (.string "EveningOrder$Reader" 19) (.string "EveningOrder$Liking" 62) ∈ flatC (Jvm.Cond.and given_1 narrow_1) ∨ Cond.eq (.string "EveningOrder$Liking" 62) (.string "EveningOrder$Reader" 19) ∈ flatC (Jvm.Cond.and given_1 narrow_1) := by decide +kernel
  have hR : (Term.string "EveningOrder$Reader" 19).eval args s none [] s = some (.ref (adK 4)) := by
    rcases m2 with h | h
    · exact va_eqv (flat_of_before _ hg _ h) (hE 4 (by decide))
    · exact va_eqR (flat_of_before _ hg _ h) (hE 4 (by decide))
  refine ⟨(s.heap.size - 1, D, adrY adK adV tb, cA, true), rfl, by show s.heap.size - 1 + 1 = s.heap.size; omega, ⟨hD, hcA⟩, by show s.heap.size - 1 < s.heap.size; omega, ?_, sp_nest hts, ?_, ?_, sp_cs hg hts hA, sp_ao hts⟩
  · intro i hi
    have e : adrY adK adV tb (100 + i) = tb i := by
      unfold adrY
      rw [if_neg (by omega), if_neg (by omega), Nat.add_sub_cancel_left]
    show va_Z (tabC i) (tabN i) "[I" (.ref (adrY adK adV tb (100 + i))) _ s s.heap ∧ va_T .int (adrY adK adV tb (100 + i)) (tabL i).length (fun j => vI ((tabL i).getD j 0)) _ s s.heap
    rw [e]
    exact htb i hi
  · intro q hq
    have hw := hts _ (m1 q hq)
    simp only [strW, List.mem_cons, List.not_mem_nil, or_false] at hq
    rcases hq with rfl | rfl | rfl | rfl | rfl | rfl
    · exact vk_R.of (A := args) hw (hE 0 (by decide))
    · exact vk_R.of (A := args) hw (hE 1 (by decide))
    · exact vk_R.of (A := args) hw (hE 2 (by decide))
    · exact vk_R.of (A := args) hw (hE 3 (by decide))
    · exact vk_R.of (A := args) hw (hE 4 (by decide))
    · exact vk_R.of (A := args) hw hR
  · refine vk_Sc hS (fun i hi => ?_) (fun i hi => ?_)
    · show adrY adK adV tb (i + 1) = adK i
      unfold adrY
      rw [if_pos (by omega), Nat.add_sub_cancel]
    · show adrY adK adV tb (i + 11) = adV i
      unfold adrY
      rw [if_neg (by omega), if_pos (by omega), Nat.add_sub_cancel]
theorem whole_start {p : Program} (l : Launch) (hflags : l.flags = flags0) {e : Env} {s : State} {m : MethodId} {below : List Frame} {meth : Method} {c : Code} {b : Nat} {xs : List Int32} (hL : xs.length ≤ 3072) (hA : lw_At p s m meth c b xs.length (fun j => xs.getD j 0)) : W p l e room_1 s m #[Value.ref b] below meth c s.heap [] 0 0 (lw_Z below #[Value.ref b] s) (entryFrame m ([Value.ref b] : List Value).toArray 4) := by
  have hpos : 0 < s.heap.size := Nat.lt_of_le_of_lt (Nat.zero_le b) hA.2.2.2.2.2.2.2.1
  obtain ⟨Y, h1, h2, h3⟩ := sp_all hA.2.2.2.2.2.2.2.2.2 hA.2.2.2.2.2.1 hpos
  exact whole_of hA hL h1 h2 h3
