theorem sp_tab {args : Array Value} {s : State} {A : Nat → Prop} (hg : (Jvm.Cond.and given_1 narrow_1).before args s = true) (hts : ∀ w ∈ lw_tbl, w.before args s = true) (hA : ∀ a : Nat, a < s.heap.size → ¬ A a) : ∀ i, i < 3 → ∃ t : Nat, va_Z (tabC i) (tabN i) "[I" (.ref t) A s s.heap ∧ va_T .int t (tabL i).length (fun j => vI ((tabL i).getD j 0)) A s s.heap := by
  have hs := flat_of_before _ hg
  have m0 : ∀ i, i < 3 → (tabL i).length < 2 ^ 31 := by decide
  have m1 : ∀ i, i < 3 → Cond.arrayOf (.static (tabC i) (tabN i) "[I") .int ∈ flatC (Jvm.Cond.and given_1 narrow_1) := by decide +kernel
  have m2 : ∀ i, i < 3 → Cond.eq (.length (.static (tabC i) (tabN i) "[I")) (.int (Int32.ofNat (tabL i).length)) ∈ flatC (Jvm.Cond.and given_1 narrow_1) := by decide +kernel
  have m3 : ∀ i, i < 3 → ∀ j, j < (tabL i).length → Cond.eq (.elem (.static (tabC i) (tabN i) "[I") (.int (Int32.ofNat j))) (.int (Int32.ofInt ((tabL i).getD j 0))) ∈ flatC (Jvm.Cond.and given_1 narrow_1) := by decide +kernel
  have m4 : ∀ i, i < 3 → Cond.laysStatic (tabC i) (tabN i) "[I" ∈ lw_tbl := by decide +kernel
  have m5 : ∀ i, i < 3 → Cond.initialized (tabC i) ∈ lw_tbl := by decide +kernel
  intro i hi
  obtain ⟨t, ht, hT⟩ := va_Tof (f := fun j => vI ((tabL i).getD j 0)) (A := A) (m0 i hi) (hs _ (m1 i hi)) (va_eqt (hs _ (m2 i hi))) (fun j hj => va_eqt (hs _ (m3 i hi j hj))) hA
  exact ⟨t, va_Zref (hts _ (m4 i hi)) (hts _ (m5 i hi)) ht hA, hT⟩
theorem sp_cs {args : Array Value} {s : State} {A : Nat → Prop} (hg : (Jvm.Cond.and given_1 narrow_1).before args s = true) (hts : ∀ w ∈ lw_tbl, w.before args s = true) (hA : ∀ a : Nat, a < s.heap.size → ¬ A a) : va_Z "java/lang/String" "COMPACT_STRINGS" "Z" (.int 1) A s s.heap :=
  va_Zof (hts _ (by decide +kernel)) (hts _ (by decide +kernel)) (va_eqt (flat_of_before _ hg _ (by decide +kernel))) hA
theorem sp_ao {args : Array Value} {s : State} (hts : ∀ w ∈ lw_tbl, w.before args s = true) : ∀ C ∈ refC, va_AO C s := by
  have m : ∀ C ∈ refC, Cond.arrayOver (.object C) ∈ lw_tbl := by decide +kernel
  exact fun C hC => va_AO.of (hts _ (m C hC))
