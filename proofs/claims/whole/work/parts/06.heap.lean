/-! THE HEAP'S ROWS: fields, rows of numbers, cells of cells -/
theorem rd_obj {Y : Yx} {M : Mem} {H H' : Heap} {k ci j : Nat} {z : Int} {q : vw_C} (hR : Rd Y M H) (hk : 0 < k) (hg : M 0 k = kO ci) (hci : ci < 13) (hq : classes[ci]? = some q)
    (hob : t_OB (Y.1 + k) (Y.2.1.1 ci) q.2.2 (Y.2.1.2 ci) H' (fun i => fv Y.1 Y.2.2.1 (ftc ci i) (up M k j z k i))) (hz : H'.size = H.size) (ho : ∀ p : Nat, p ≠ Y.1 + k → H'[p]? = H[p]?) : Rd Y (up M k j z) H' := by
  obtain ⟨⟨h1, h2, h3⟩, h4, h5⟩ := hR
  have e0 : ∀ i, up M k j z 0 i = M 0 i := fun i => up_0 M j z hk i
  refine ⟨⟨by rw [e0]; exact h1, by rw [e0, hz]; exact h2, fun a ha => by rw [e0] at ha ⊢; exact h3 a ha⟩, ?_, ?_⟩
  · intro a c r ha hc hr
    rw [e0] at hc
    by_cases hak : a = k
    · subst hak
      have hcc := kO_inj (hc.symm.trans hg)
      subst hcc
      have hqr : q = r := Option.some.inj (hq.symm.trans hr)
      subst hqr
      exact hob
    · exact ((h4 a c r ha hc hr).kept (ho _ (by omega))).to (fun i _ => by rw [up_n M z (Or.inl hak)])
  · intro a t n ha hn hc
    rw [e0] at hc
    have hak : a ≠ k := by
      intro e
      subst e
      exact kO_kA (by omega) (hg.symm.trans hc)
    rw [ho _ (by omega), h5 a t n ha hn hc]
    simp only [up_n M z (Or.inl hak)]
theorem rd_arr {Y : Yx} {M : Mem} {H H' : Heap} {k t n j : Nat} {z : Int} (hR : Rd Y M H) (hk : 0 < k) (hg : M 0 k = kA t n) (hn : n < 1000000)
    (hob : H'[Y.1 + k]? = some (arrV (Y.2.2.2.1 t) n (updV (fun i => av Y.1 t (M k i)) j (av Y.1 t z)))) (hz : H'.size = H.size) (ho : ∀ p : Nat, p ≠ Y.1 + k → H'[p]? = H[p]?) : Rd Y (up M k j z) H' := by
  obtain ⟨⟨h1, h2, h3⟩, h4, h5⟩ := hR
  have e0 : ∀ i, up M k j z 0 i = M 0 i := fun i => up_0 M j z hk i
  refine ⟨⟨by rw [e0]; exact h1, by rw [e0, hz]; exact h2, fun a ha => by rw [e0] at ha ⊢; exact h3 a ha⟩, ?_, ?_⟩
  · intro a c r ha hc hr
    rw [e0] at hc
    have hak : a ≠ k := by
      intro e
      subst e
      have hc13 : c < 13 := by
        have := (List.getElem?_eq_some_iff.mp hr).1
        simpa [classes] using this
      exact kO_kA (by omega) (hc.symm.trans hg)
    exact ((h4 a c r ha hc hr).kept (ho _ (by omega))).to (fun i _ => by rw [up_n M z (Or.inl hak)])
  · intro a t' n' ha hn' hc
    rw [e0] at hc
    by_cases hak : a = k
    · subst hak
      obtain ⟨rfl, rfl⟩ := kA_inj hn' hn (hc.symm.trans hg)
      rw [hob]
      congr 2
      funext i
      unfold updV up
      by_cases hi : i = j
      · simp [hi]
      · simp [hi]
    · rw [ho _ (by omega), h5 a t' n' ha hn' hc]
      simp only [up_n M z (Or.inl hak)]
theorem lay_obj {M : Mem} {k ci j : Nat} {z : Int} (hL : Lay M) (hk : 0 < k) (hg : M 0 k = kO ci) (hci : ci < 13) (hf : (fin ci).all (fun e => e.1 != j) = true) : Lay (up M k j z) := by
  have e0 : ∀ i, up M k j z 0 i = M 0 i := fun i => up_0 M j z hk i
  refine ⟨?_, ?_⟩
  · intro a c i add sub kd ha hc hm
    rw [e0] at hc
    obtain ⟨q1, q2, q3⟩ := hL.1 a c i add sub kd ha hc hm
    refine ⟨q1, ?_, by rw [e0]; exact q3⟩
    rw [← q2]
    apply up_n
    by_cases hak : a = k
    · right
      subst hak
      have hcc := kO_inj (hc.symm.trans hg)
      subst hcc
      have := List.all_eq_true.mp hf _ hm
      simpa using this
    · exact Or.inl hak
  · intro a t n i ha hn hc ht hi
    rw [e0] at hc
    obtain ⟨q2, q3⟩ := hL.2 a t n i ha hn hc ht hi
    refine ⟨?_, by rw [e0]; exact q3⟩
    rw [← q2]
    apply up_n
    left
    intro e
    subst e
    exact kO_kA (by omega) (hg.symm.trans hc)
theorem lay_arr {M : Mem} {k t n j : Nat} {z : Int} (hL : Lay M) (hk : 0 < k) (hg : M 0 k = kA t n) (hn : n < 1000000) (ht : t < 4) : Lay (up M k j z) := by
  have e0 : ∀ i, up M k j z 0 i = M 0 i := fun i => up_0 M j z hk i
  refine ⟨?_, ?_⟩
  · intro a c i add sub kd ha hc hm
    rw [e0] at hc
    obtain ⟨q1, q2, q3⟩ := hL.1 a c i add sub kd ha hc hm
    refine ⟨q1, ?_, by rw [e0]; exact q3⟩
    rw [← q2]
    apply up_n
    left
    intro e
    subst e
    have hc13 : c < 13 := by
      rcases Nat.lt_or_ge c 13 with h | h
      · exact h
      · obtain ⟨d, rfl⟩ : ∃ d, c = 13 + d := ⟨c - 13, by omega⟩
        rw [show 13 + d = d + 13 by omega] at hm
        simp [fin] at hm
    exact kO_kA (by omega) (hc.symm.trans hg)
  · intro a t' n' i ha hn' hc ht' hi
    rw [e0] at hc
    obtain ⟨q2, q3⟩ := hL.2 a t' n' i ha hn' hc ht' hi
    refine ⟨?_, by rw [e0]; exact q3⟩
    rw [← q2]
    apply up_n
    left
    intro e
    subst e
    obtain ⟨rfl, rfl⟩ := kA_inj hn' hn (hc.symm.trans hg)
    omega
/-- a field as an instruction names it: its class, its place -/
def FG (own : String) (idx ci j : Nat) : Prop := ∃ (C : String) (T : u_T) (N : Nat), classes[ci]? = some (C, T, N) ∧ (∀ w ∈ u_ws C T N, w ∈ gtbl) ∧ j < N ∧ Cond.fieldLink own idx (T j).1 (T j).2.1 (T j).2.2.1 ∈ gtbl
/-- a field that may be written -/
def FP (own : String) (idx ci j : Nat) (ty : FieldType) : Prop := ∃ (C : String) (T : u_T) (N : Nat) (ty0 : Nat → FieldType), classes[ci]? = some (C, T, N) ∧ (∀ w ∈ u_ws C T N, w ∈ gtbl) ∧ j < N ∧ Cond.fieldLink own idx (T j).1 (T j).2.1 (T j).2.2.1 ∈ gtbl ∧ (∀ k, k < N → parseFieldDescriptor (T k).2.2.1 = some (ty0 k)) ∧ (∀ a, a < N → ∀ b, b < N → a ≠ b → (T a).2.1 ≠ (T b).2.1) ∧ (T j).2.2.2 = false ∧ ty0 j = ty ∧ (fin ci).all (fun e => e.1 != j) = true
section HeapRows
variable {X : Cx} {Y : Yx} {own : String} {cc : ByteArray} {nL : Nat} {rt : Option FieldType} {rm : Room} {Qm : Option Value → Mem → Prop} {M0 M : Mem} {n k pc pc' : Nat} {lv : List (Nat × Value)} {st : List Value}
theorem ci13 {ci : Nat} {q : vw_C} (h : classes[ci]? = some q) : ci < 13 := by
  have := (List.getElem?_eq_some_iff.mp h).1
  simpa [classes] using this
/-- a field is read -/
theorem r_getV (hC : OKX X Y own cc nL rt rm) {idx ci j a : Nat} (hf : FG own idx ci j) (ha : 0 < a) (g : M0 0 a = kO ci) (hd : dec cc pc 3 pc' (.getfield idx))
    (kk : WW X Y nL rm Qm M0 n k pc' lv (fv Y.1 Y.2.2.1 (ftc ci j) (M a j) :: st) M) : WW X Y nL rm Qm M0 n k pc lv (vR Y.1 a :: st) M := by
  obtain ⟨p, l, e, R, s, m, args, below, meth, c⟩ := X
  obtain ⟨hx, hb, hml, hown, hts, hsp, hr, hlo, hrm⟩ := hC
  obtain ⟨hd, rfl⟩ := hd
  intro ls H locs hl hk hR hS
  obtain ⟨C, T, N, hc, hin, hj, hlk⟩ := hf
  have hg : M 0 a = kO ci := by rw [hk a ha (by rw [g]; exact kO_pos ci)]; exact g
  obtain ⟨cell, q1, q2, q3, q4⟩ := hR.1.2.1 a ci _ ha hg hc
  obtain ⟨hSl, hfc, kC, hkC, hkind⟩ := hsp.1.1 ci _ hc
  obtain ⟨cf, kf, fi, f, hi, hsl⟩ := hSl j hj
  refine W.getf hx hb hown (hts _ hlk) hi (u_facts hfc hkC (u_lays hts hin hj) hi).1 q1 (by rw [q3]; exact fun h => by cases h) (v := fv Y.1 Y.2.2.1 (ftc ci j) (M a j)) ?_ rfl rfl hd (kk ls H locs hl hk hR hS)
  rw [hsl]
  exact q4 j hj
theorem r_getI (hC : OKX X Y own cc nL rt rm) {idx ci j a : Nat} (hf : FG own idx ci j) (ht : ftc ci j = 0) (ha : 0 < a) (g : M0 0 a = kO ci) (hd : dec cc pc 3 pc' (.getfield idx))
    (kk : WW X Y nL rm Qm M0 n k pc' lv (vI (M a j) :: st) M) : WW X Y nL rm Qm M0 n k pc lv (vR Y.1 a :: st) M := r_getV hC hf ha g hd (by rw [ht]; exact kk)
theorem r_getL (hC : OKX X Y own cc nL rt rm) {idx ci j a : Nat} (hf : FG own idx ci j) (ht : ftc ci j = 1) (ha : 0 < a) (g : M0 0 a = kO ci) (hd : dec cc pc 3 pc' (.getfield idx))
    (kk : WW X Y nL rm Qm M0 n k pc' lv (vL (M a j) :: st) M) : WW X Y nL rm Qm M0 n k pc lv (vR Y.1 a :: st) M := r_getV hC hf ha g hd (by rw [ht]; exact kk)
theorem r_getN (hC : OKX X Y own cc nL rt rm) {idx ci j a : Nat} (hf : FG own idx ci j) (ht : ftc ci j = 2) (ha : 0 < a) (g : M0 0 a = kO ci) (hd : dec cc pc 3 pc' (.getfield idx))
    (kk : WW X Y nL rm Qm M0 n k pc' lv (vN Y.1 (M a j) :: st) M) : WW X Y nL rm Qm M0 n k pc lv (vR Y.1 a :: st) M := r_getV hC hf ha g hd (by rw [ht]; exact kk)
theorem r_getS (hC : OKX X Y own cc nL rt rm) {idx ci j a : Nat} (hf : FG own idx ci j) (ht : ftc ci j = 3) (ha : 0 < a) (g : M0 0 a = kO ci) (hd : dec cc pc 3 pc' (.getfield idx))
    (kk : WW X Y nL rm Qm M0 n k pc' lv (vS Y.2.2.1 (M a j) :: st) M) : WW X Y nL rm Qm M0 n k pc lv (vR Y.1 a :: st) M := r_getV hC hf ha g hd (by rw [ht]; exact kk)
theorem vN_R {b : Nat} {z : Int} {q : Nat} (hq : 0 < q) (h : z = (q : Int)) : vN b z = vR b q := by
  subst h
  unfold vN vR
  rw [if_neg (by omega)]
  simp
/-- a final field that is a cell is read -/
theorem r_getR (hC : OKX X Y own cc nL rt rm) {idx ci j a add sub a' : Nat} {kd : Int} (hf : FG own idx ci j) (ht : ftc ci j = 2) (hF : Y.2.2.2.2 = true) (hm : (j, add, sub, kd) ∈ fin ci) (ha : 0 < a) (g : M0 0 a = kO ci) (he : a + add - sub = a') (hd : dec cc pc 3 pc' (.getfield idx))
    (kk : WW X Y nL rm Qm M0 n k pc' lv (vR Y.1 a' :: st) M) : WW X Y nL rm Qm M0 n k pc lv (vR Y.1 a :: st) M := by
  refine r_getN hC hf ht ha g hd ?_
  intro ls H locs hl hk hR hS
  have hg : M 0 a = kO ci := by rw [hk a ha (by rw [g]; exact kO_pos ci)]; exact g
  obtain ⟨q1, q2, q3⟩ := (hR.2 hF).1 a ci j add sub kd ha hg hm
  rw [vN_R (q := a') (by omega) (by rw [q2, he])]
  exact kk ls H locs hl hk hR hS
/-- a field is written -/
theorem r_putV (hC : OKX X Y own cc nL rt rm) {idx ci j a : Nat} {ty : FieldType} {z : Int} (hf : FP own idx ci j ty) (hn : narrow ty (fv Y.1 Y.2.2.1 (ftc ci j) z) = fv Y.1 Y.2.2.1 (ftc ci j) z) (hfit : fits ty (fv Y.1 Y.2.2.1 (ftc ci j) z) = true) (ha : 0 < a) (g : M0 0 a = kO ci) (hd : dec cc pc 3 pc' (.putfield idx))
    (kk : WW X Y nL rm Qm M0 n k pc' lv st (up M a j z)) : WW X Y nL rm Qm M0 n k pc lv (fv Y.1 Y.2.2.1 (ftc ci j) z :: vR Y.1 a :: st) M := by
  obtain ⟨p, l, e, R, s, m, args, below, meth, c⟩ := X
  obtain ⟨hx, hb, hml, hown, hts, hsp, hr, hlo, hrm⟩ := hC
  obtain ⟨hd, rfl⟩ := hd
  intro ls H locs hl hk hR hS
  obtain ⟨C, T, N, ty0, hc, hin, hj, hlk, hty, hnm, hfin, htj, hall⟩ := hf
  have hg : M 0 a = kO ci := by rw [hk a ha (by rw [g]; exact kO_pos ci)]; exact g
  have hap := va_apart (own := own) hts hin ty0 hty hnm hsp.1 hc
  obtain ⟨cell, q1, q2, q3, q4⟩ := hR.1.2.1 a ci _ ha hg hc
  obtain ⟨hSl, hfc, kC, hkC, hkind⟩ := hsp.1.1 ci _ hc
  obtain ⟨cf, kf, fi, f, hi, hsl⟩ := hSl j hj
  have hlay := hts _ (hin _ (u_in_lay hj))
  unfold u_lay at hlay
  rw [if_neg (by rw [hfin]; decide)] at hlay
  have hst := (u_facts hfc hkC (u_lays hts hin hj) hi).1
  have h6 := u_store hfc hkC hkind hlay hi (by rw [hty j hj, htj]) hn hfit
  refine W.putK hx hb (f := f) ⟨hown, hts _ hlk, ⟨_, _, _, hi⟩, hst⟩ (by rw [q2]; exact h6) q1 q3 (by rw [hsl]; exact k2_hasslot (q4 j hj)) rfl rfl hd fun H' e1 e2 e3 => ?_
  rw [hsl] at e1 ⊢
  have hRd : Rd Y (up M a j z) H' := by
    refine rd_obj hR.1 ha hg (ci13 hc) hc ?_ e2 e3
    refine t_OB.to (V := updV (fun i => fv Y.1 Y.2.2.1 (ftc ci i) (M a i)) j (fv Y.1 Y.2.2.1 (ftc ci j) z)) ⟨_, e1, q2, q3, t_set q4 hap hj _⟩ ?_
    intro i _
    unfold updV up
    by_cases hij : i = j
    · subst hij; simp
    · simp [hij]
  exact kk ls H' _ hl (fun a1 h1 h2 => by rw [up_0 M j z ha]; exact hk a1 h1 h2) ⟨hRd, fun hF => lay_obj (hR.2 hF) ha hg (ci13 hc) hall⟩ (hS.put e2 e3 (by show Y.1 < Y.1 + a; omega))
theorem r_putI (hC : OKX X Y own cc nL rt rm) {idx ci j a : Nat} {z : Int} (hf : FP own idx ci j .int) (ht : ftc ci j = 0) (ha : 0 < a) (g : M0 0 a = kO ci) (hd : dec cc pc 3 pc' (.putfield idx))
    (kk : WW X Y nL rm Qm M0 n k pc' lv st (up M a j z)) : WW X Y nL rm Qm M0 n k pc lv (vI z :: vR Y.1 a :: st) M := by
  have := r_putV (k := k) (n := n) (lv := lv) (st := st) (M := M) (Qm := Qm) (z := z) hC hf (by rw [ht]; rfl) (by rw [ht]; rfl) ha g hd kk
  rw [ht] at this
  exact this
def isB (z : Int) : Prop := z = 0 ∨ z = 1
theorem r_putZ (hC : OKX X Y own cc nL rt rm) {idx ci j a : Nat} {z : Int} (hz : isB z) (hf : FP own idx ci j .boolean) (ht : ftc ci j = 0) (ha : 0 < a) (g : M0 0 a = kO ci) (hd : dec cc pc 3 pc' (.putfield idx))
    (kk : WW X Y nL rm Qm M0 n k pc' lv st (up M a j z)) : WW X Y nL rm Qm M0 n k pc lv (vI z :: vR Y.1 a :: st) M := by
  have h1 : narrow .boolean (vI z) = vI z := by rcases hz with rfl | rfl <;> rfl
  have h2 : fits .boolean (vI z) = true := by rcases hz with rfl | rfl <;> rfl
  have := r_putV (k := k) (n := n) (lv := lv) (st := st) (M := M) (Qm := Qm) (z := z) hC hf (by rw [ht]; exact h1) (by rw [ht]; exact h2) ha g hd kk
  rw [ht] at this
  exact this
theorem r_putL (hC : OKX X Y own cc nL rt rm) {idx ci j a : Nat} {z : Int} (hf : FP own idx ci j .long) (ht : ftc ci j = 1) (ha : 0 < a) (g : M0 0 a = kO ci) (hd : dec cc pc 3 pc' (.putfield idx))
    (kk : WW X Y nL rm Qm M0 n k pc' lv st (up M a j z)) : WW X Y nL rm Qm M0 n k pc lv (vL z :: vR Y.1 a :: st) M := by
  have := r_putV (k := k) (n := n) (lv := lv) (st := st) (M := M) (Qm := Qm) (z := z) hC hf (by rw [ht]; rfl) (by rw [ht]; rfl) ha g hd kk
  rw [ht] at this
  exact this
end HeapRows
