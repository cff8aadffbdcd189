/-! ROWS IN THE FORMS THAT THE WALKS USE; the fields' words -/
theorem lay_f0 {M0 : Mem} (hL : Lay M0) {a ci j add : Nat} {kd : Int} (q : 0 < a ∧ M0 0 a = kO ci) (hm : (j, add, 0, kd) ∈ fin ci) : 0 < a + add ∧ M0 0 (a + add) = kd := lay_f hL q hm
theorem lay_fs {M0 : Mem} (hL : Lay M0) {a ci j sub : Nat} {kd : Int} (q : 0 < a ∧ M0 0 a = kO ci) (hm : (j, 0, sub, kd) ∈ fin ci) : 0 < a - sub ∧ M0 0 (a - sub) = kd := lay_f hL q hm
theorem lay_a4 {M0 : Mem} (hL : Lay M0) {a i : Nat} (q : 0 < a ∧ M0 0 a = kA 4 12) (hi : i < 12) : 0 < a + 8 + i ∧ M0 0 (a + 8 + i) = kO 3 := by have := lay_a hL q (by decide) (by decide) hi; simpa [abase, astr, akd] using this
theorem lay_a5 {M0 : Mem} (hL : Lay M0) {a i : Nat} (q : 0 < a ∧ M0 0 a = kA 5 10) (hi : i < 10) : 0 < a + 18 + 2 * i ∧ M0 0 (a + 18 + 2 * i) = kO 1 := lay_a hL q (by decide) (by decide) hi
theorem lay_a6 {M0 : Mem} (hL : Lay M0) {a i : Nat} (q : 0 < a ∧ M0 0 a = kA 6 10) (hi : i < 10) : 0 < a + 37 + i ∧ M0 0 (a + 37 + i) = kO 2 := by have := lay_a hL q (by decide) (by decide) hi; simpa [abase, astr, akd] using this
theorem lay_a7 {M0 : Mem} (hL : Lay M0) {a i : Nat} (q : 0 < a ∧ M0 0 a = kA 7 8) (hi : i < 8) : 0 < a + 45 + 4 * i ∧ M0 0 (a + 45 + 4 * i) = kO 5 := lay_a hL q (by decide) (by decide) hi
theorem lay_a8 {M0 : Mem} (hL : Lay M0) {a i : Nat} (q : 0 < a ∧ M0 0 a = kA 8 8) (hi : i < 8) : 0 < a + 46 + 4 * i ∧ M0 0 (a + 46 + 4 * i) = kO 5 := lay_a hL q (by decide) (by decide) hi
theorem lay_a9 {M0 : Mem} (hL : Lay M0) {a i : Nat} (q : 0 < a ∧ M0 0 a = kA 9 4) (hi : i < 4) : 0 < a + 32 + 2 * i ∧ M0 0 (a + 32 + 2 * i) = kO 8 := lay_a hL q (by decide) (by decide) hi
section MoreRows
variable {X : Cx} {Y : Yx} {own : String} {cc : ByteArray} {nL : Nat} {rt : Option FieldType} {rm : Room} {Qm : Option Value → Mem → Prop} {M0 M : Mem} {n k pc pc' : Nat} {lv : List (Nat × Value)} {st : List Value}
theorem r_getR0 (hC : OKX X Y own cc nL rt rm) {idx ci j a add a' : Nat} {kd : Int} (hf : FG own idx ci j) (ht : ftc ci j = 2) (hF : Y.2.2.2.2 = true) (hm : (j, add, 0, kd) ∈ fin ci) (ha : 0 < a) (g : M0 0 a = kO ci) (he : a + add = a') (hd : dec cc pc 3 pc' (.getfield idx))
    (kk : WW X Y nL rm Qm M0 n k pc' lv (vR Y.1 a' :: st) M) : WW X Y nL rm Qm M0 n k pc lv (vR Y.1 a :: st) M := r_getR hC hf ht hF hm ha g he hd kk
theorem r_getRs (hC : OKX X Y own cc nL rt rm) {idx ci j a sub a' : Nat} {kd : Int} (hf : FG own idx ci j) (ht : ftc ci j = 2) (hF : Y.2.2.2.2 = true) (hm : (j, 0, sub, kd) ∈ fin ci) (ha : 0 < a) (g : M0 0 a = kO ci) (he : a - sub = a') (hd : dec cc pc 3 pc' (.getfield idx))
    (kk : WW X Y nL rm Qm M0 n k pc' lv (vR Y.1 a' :: st) M) : WW X Y nL rm Qm M0 n k pc lv (vR Y.1 a :: st) M := r_getR hC hf ht hF hm ha g he hd kk
theorem r_aald4 (hC : OKX X Y own cc nL rt rm) (hF : Y.2.2.2.2 = true) {a : Nat} {i : Int} (hi : inb i 12) (ha : 0 < a) (g : M0 0 a = kA 4 12) (hd : dec cc pc 1 pc' .aaload)
    (kk : WW X Y nL rm Qm M0 n k pc' lv (vR Y.1 (a + 8 + (bm i).toNat) :: st) M) : WW X Y nL rm Qm M0 n k pc lv (vI i :: vR Y.1 a :: st) M := r_aald (t := 4) hC hF (by decide) (by decide) rfl hi ha g (by decide) (by simp [abase, astr]) hd kk
theorem r_aald5 (hC : OKX X Y own cc nL rt rm) (hF : Y.2.2.2.2 = true) {a : Nat} {i : Int} (hi : inb i 10) (ha : 0 < a) (g : M0 0 a = kA 5 10) (hd : dec cc pc 1 pc' .aaload)
    (kk : WW X Y nL rm Qm M0 n k pc' lv (vR Y.1 (a + 18 + 2 * (bm i).toNat) :: st) M) : WW X Y nL rm Qm M0 n k pc lv (vI i :: vR Y.1 a :: st) M := r_aald (t := 5) hC hF (by decide) (by decide) rfl hi ha g (by decide) (by simp [abase, astr]) hd kk
theorem r_aald6 (hC : OKX X Y own cc nL rt rm) (hF : Y.2.2.2.2 = true) {a : Nat} {i : Int} (hi : inb i 10) (ha : 0 < a) (g : M0 0 a = kA 6 10) (hd : dec cc pc 1 pc' .aaload)
    (kk : WW X Y nL rm Qm M0 n k pc' lv (vR Y.1 (a + 37 + (bm i).toNat) :: st) M) : WW X Y nL rm Qm M0 n k pc lv (vI i :: vR Y.1 a :: st) M := r_aald (t := 6) hC hF (by decide) (by decide) rfl hi ha g (by decide) (by simp [abase, astr]) hd kk
theorem r_aald7 (hC : OKX X Y own cc nL rt rm) (hF : Y.2.2.2.2 = true) {a : Nat} {i : Int} (hi : inb i 8) (ha : 0 < a) (g : M0 0 a = kA 7 8) (hd : dec cc pc 1 pc' .aaload)
    (kk : WW X Y nL rm Qm M0 n k pc' lv (vR Y.1 (a + 45 + 4 * (bm i).toNat) :: st) M) : WW X Y nL rm Qm M0 n k pc lv (vI i :: vR Y.1 a :: st) M := r_aald (t := 7) hC hF (by decide) (by decide) rfl hi ha g (by decide) (by simp [abase, astr]) hd kk
theorem r_aald8 (hC : OKX X Y own cc nL rt rm) (hF : Y.2.2.2.2 = true) {a : Nat} {i : Int} (hi : inb i 8) (ha : 0 < a) (g : M0 0 a = kA 8 8) (hd : dec cc pc 1 pc' .aaload)
    (kk : WW X Y nL rm Qm M0 n k pc' lv (vR Y.1 (a + 46 + 4 * (bm i).toNat) :: st) M) : WW X Y nL rm Qm M0 n k pc lv (vI i :: vR Y.1 a :: st) M := r_aald (t := 8) hC hF (by decide) (by decide) rfl hi ha g (by decide) (by simp [abase, astr]) hd kk
theorem r_aald9 (hC : OKX X Y own cc nL rt rm) (hF : Y.2.2.2.2 = true) {a : Nat} {i : Int} (hi : inb i 4) (ha : 0 < a) (g : M0 0 a = kA 9 4) (hd : dec cc pc 1 pc' .aaload)
    (kk : WW X Y nL rm Qm M0 n k pc' lv (vR Y.1 (a + 32 + 2 * (bm i).toNat) :: st) M) : WW X Y nL rm Qm M0 n k pc lv (vI i :: vR Y.1 a :: st) M := r_aald (t := 9) hC hF (by decide) (by decide) rfl hi ha g (by decide) (by simp [abase, astr]) hd kk
end MoreRows
/-! TEXTS, TABLES OF NEST MATES, COPIES -/
def vB (sa : Nat → Nat) (z : Int) : Value := .ref (sa (z.toNat + 10))
def isS (z : Int) : Prop := 1 ≤ z ∧ z ≤ 5
def sLen (z : Int) : Int := (strL.getD (z.toNat - 1) 0 : Nat)
def sByte (z i : Int) : Int := ((strB.getD (z.toNat - 1) []).getD (bm i).toNat 0).toInt
theorem nw_in {w : Cond} (h : w ∈ tables_1) (hn : isNest w = true) : w ∈ nestW := List.mem_filter.mpr ⟨h, hn⟩
theorem vS_R {sa : Nat → Nat} {z : Int} (h : isS z) : vS sa z = .ref (sa (z.toNat - 1 + 1)) := by
  have := h.1
  unfold vS
  rw [if_neg (by omega)]
  congr 2
  omega
theorem vB_R {sa : Nat → Nat} {z : Int} (h : isS z) : vB sa z = .ref (sa (z.toNat - 1 + 11)) := by
  have := h.1
  unfold vB
  rw [show z.toNat + 10 = z.toNat - 1 + 11 by omega]
section TextRows
variable {X : Cx} {Y : Yx} {own : String} {cc : ByteArray} {nL : Nat} {rt : Option FieldType} {rm : Room} {Qm : Option Value → Mem → Prop} {M0 M : Mem} {n k pc pc' : Nat} {lv : List (Nat × Value)} {st : List Value}
theorem r_tabN (hC : OKX X Y own cc nL rt rm) {i idx : Nat} {host : String} (hi : i < 3) (hw : Cond.fieldLinkNest own idx (tabC i) (tabN i) "[I" host ∈ nestW) (hd : dec cc pc 3 pc' (.getstatic idx))
    (kk : WW X Y nL rm Qm M0 n k pc' lv (.ref (Y.2.2.1 (100 + i)) :: st) M) : WW X Y nL rm Qm M0 n k pc lv st M := by
  obtain ⟨p, l, e, R, s, m, args, below, meth, c⟩ := X
  obtain ⟨hx, hb, hml, hown, hts, hsp, hr, hlo, hrm⟩ := hC
  obtain ⟨hd, rfl⟩ := hd
  intro ls H locs hl hk hR hS
  exact va_getsN hx hb (hsp.2.2.1 i hi).1 hS hown (va_Nw.use rfl (hsp.2.2.2.1 _ hw)) (fun _ h => h) hd (kk ls H locs hl hk hR hS)
theorem r_ldcS (hC : OKX X Y own cc nL rt rm) {idx i : Nat} {tx : String} (hw : (own, idx, tx, i) ∈ strW) (hi : 0 < i) (hd : dec cc pc 2 pc' (.ldc idx))
    (kk : WW X Y nL rm Qm M0 n k pc' lv (vS Y.2.2.1 (i : Int) :: st) M) : WW X Y nL rm Qm M0 n k pc lv st M := by
  obtain ⟨p, l, e, R, s, m, args, below, meth, c⟩ := X
  obtain ⟨hx, hb, hml, hown, hts, hsp, hr, hlo, hrm⟩ := hC
  obtain ⟨hd, rfl⟩ := hd
  intro ls H locs hl hk hR hS
  have kk := kk ls H locs hl hk hR hS
  rw [show vS Y.2.2.1 (i : Int) = .ref (Y.2.2.1 i) by unfold vS; rw [if_neg (by omega)]; rfl] at kk
  exact va_ldcS hx hb hown (hsp.2.2.2.2.1 _ hw) hd kk
theorem r_compact (hC : OKX X Y own cc nL rt rm) {idx : Nat} (hw : Cond.fieldLink own idx "java/lang/String" "COMPACT_STRINGS" "Z" ∈ gtbl) (hd : dec cc pc 3 pc' (.getstatic idx))
    (kk : WW X Y nL rm Qm M0 n k pc' lv (vI 1 :: st) M) : WW X Y nL rm Qm M0 n k pc lv st M := by
  obtain ⟨p, l, e, R, s, m, args, below, meth, c⟩ := X
  obtain ⟨hx, hb, hml, hown, hts, hsp, hr, hlo, hrm⟩ := hC
  obtain ⟨hd, rfl⟩ := hd
  intro ls H locs hl hk hR hS
  exact va_gets hx hb hsp.2.2.2.2.2.2.1 hS hown (hts _ hw) (fun _ h => h) hd (kk ls H locs hl hk hR hS)
theorem r_sval (hC : OKX X Y own cc nL rt rm) {idx : Nat} {z : Int} (hz : isS z) (hw : Cond.fieldLink own idx "java/lang/String" "value" "[B" ∈ gtbl) (hd : dec cc pc 3 pc' (.getfield idx))
    (kk : WW X Y nL rm Qm M0 n k pc' lv (vB Y.2.2.1 z :: st) M) : WW X Y nL rm Qm M0 n k pc lv (vS Y.2.2.1 z :: st) M := by
  obtain ⟨p, l, e, R, s, m, args, below, meth, c⟩ := X
  obtain ⟨hx, hb, hml, hown, hts, hsp, hr, hlo, hrm⟩ := hC
  obtain ⟨hd, rfl⟩ := hd
  intro ls H locs hl hk hR hS
  have kk := kk ls H locs hl hk hR hS
  have h1 := hz.1
  have h2 := hz.2
  rw [vB_R hz] at kk
  rw [vS_R hz]
  exact vk_getf hx hb (hsp.2.2.2.2.2.1.1 (z.toNat - 1) (by omega)).2.2.1 hS hown (hts _ hw) (fun _ h => h) hd kk
theorem r_scoder (hC : OKX X Y own cc nL rt rm) {idx : Nat} {z : Int} (hz : isS z) (hw : Cond.fieldLink own idx "java/lang/String" "coder" "B" ∈ gtbl) (hd : dec cc pc 3 pc' (.getfield idx))
    (kk : WW X Y nL rm Qm M0 n k pc' lv (vI 0 :: st) M) : WW X Y nL rm Qm M0 n k pc lv (vS Y.2.2.1 z :: st) M := by
  obtain ⟨p, l, e, R, s, m, args, below, meth, c⟩ := X
  obtain ⟨hx, hb, hml, hown, hts, hsp, hr, hlo, hrm⟩ := hC
  obtain ⟨hd, rfl⟩ := hd
  intro ls H locs hl hk hR hS
  have kk := kk ls H locs hl hk hR hS
  have h1 := hz.1
  have h2 := hz.2
  rw [vS_R hz]
  exact vk_getf hx hb (hsp.2.2.2.2.2.1.1 (z.toNat - 1) (by omega)).2.1 hS hown (hts _ hw) (fun _ h => h) hd kk
theorem r_sbyte (hC : OKX X Y own cc nL rt rm) {z i : Int} (hz : isS z) (hi : 0 ≤ bm i ∧ bm i < sLen z) (hd : dec cc pc 1 pc' .baload)
    (kk : WW X Y nL rm Qm M0 n k pc' lv (vI (sByte z i) :: st) M) : WW X Y nL rm Qm M0 n k pc lv (vI i :: vB Y.2.2.1 z :: st) M := by
  obtain ⟨p, l, e, R, s, m, args, below, meth, c⟩ := X
  obtain ⟨hx, hb, hml, hown, hts, hsp, hr, hlo, hrm⟩ := hC
  obtain ⟨hd, rfl⟩ := hd
  intro ls H locs hl hk hR hS
  have kk := kk ls H locs hl hk hR hS
  have h1 := hz.1
  have h2 := hz.2
  rw [vB_R hz]
  have hin : inb i (strL.getD (z.toNat - 1) 0) := ⟨hi.1, hi.2⟩
  exact va_tb hx hb (hsp.2.2.2.2.2.1.1 (z.toNat - 1) (by omega)).2.2.2 hS (inb_vp hin) (by rw [cl_bm hi.1]; exact (vI_of _).symm) hd kk
theorem r_slen (hC : OKX X Y own cc nL rt rm) {z : Int} (hz : isS z) (hd : dec cc pc 1 pc' .arraylength)
    (kk : WW X Y nL rm Qm M0 n k pc' lv (vI (sLen z) :: st) M) : WW X Y nL rm Qm M0 n k pc lv (vB Y.2.2.1 z :: st) M := by
  obtain ⟨p, l, e, R, s, m, args, below, meth, c⟩ := X
  obtain ⟨hx, hb, hml, hown, hts, hsp, hr, hlo, hrm⟩ := hC
  obtain ⟨hd, rfl⟩ := hd
  intro ls H locs hl hk hR hS
  have kk := kk ls H locs hl hk hR hS
  have h1 := hz.1
  have h2 := hz.2
  rw [vB_R hz]
  exact va_tlen hx hb (hsp.2.2.2.2.2.1.1 (z.toNat - 1) (by omega)).2.2.2 hS rfl hd kk
/-- texts and their bytes among the locals, and as fields -/
theorem r_aloadS_n (hC : OKX X Y own cc nL rt rm) {i : Nat} {f : Fin 4} {z : Int} (hz : isS z) (q : Nat) (hd : dec cc pc 1 pc' (.aload_n f)) (hl : lv[q]? = some (i, vS Y.2.2.1 z)) (hi : (f : Nat) = i) (kk : WW X Y nL rm Qm M0 n k pc' lv (vS Y.2.2.1 z :: st) M) : WW X Y nL rm Qm M0 n k pc lv st M := by
  obtain ⟨p, l, e, R, s, m, args, below, meth, c⟩ := X
  obtain ⟨hx, hb, hml, hown, hts, hsp, hr, hlo, hrm⟩ := hC
  obtain ⟨hd, rfl⟩ := hd
  intro ls H locs h hk hR hS
  have kk := kk ls H locs h hk hR hS
  rw [vS_R hz] at hl kk
  exact lv_aload_n hx hb hd hi (lv_at h q hl) kk
theorem r_aloadB_n (hC : OKX X Y own cc nL rt rm) {i : Nat} {f : Fin 4} {z : Int} (q : Nat) (hd : dec cc pc 1 pc' (.aload_n f)) (hl : lv[q]? = some (i, vB Y.2.2.1 z)) (hi : (f : Nat) = i) (kk : WW X Y nL rm Qm M0 n k pc' lv (vB Y.2.2.1 z :: st) M) : WW X Y nL rm Qm M0 n k pc lv st M := by
  obtain ⟨p, l, e, R, s, m, args, below, meth, c⟩ := X
  obtain ⟨hx, hb, hml, hown, hts, hsp, hr, hlo, hrm⟩ := hC
  obtain ⟨hd, rfl⟩ := hd
  intro ls H locs h hk hR hS
  exact lv_aload_n hx hb hd hi (lv_at h q hl) (kk ls H locs h hk hR hS)
theorem r_sret (hC : OKX X Y own cc nL (some (.object "java/lang/String")) rm) {z : Int} (hz : isS z) (hn : n ≤ rm.cells) (hs : k ≤ rm.slots) (hd : dec cc pc 1 pc' .areturn) (hq : Qm (some (vS Y.2.2.1 z)) M) : WW X Y nL rm Qm M0 n k pc lv [vS Y.2.2.1 z] M := by
  rw [vS_R hz] at hq ⊢
  exact r_aret hC (Or.inl ⟨_, rfl⟩) hn hs hd hq
def FPS (own : String) (idx ci j : Nat) : Prop := FP own idx ci j (.object "java/lang/String")
theorem r_putS (hC : OKX X Y own cc nL rt rm) {idx ci j a : Nat} {z : Int} (hz : isS z) (hf : FPS own idx ci j) (ht : ftc ci j = 3) (ha : 0 < a) (g : M0 0 a = kO ci) (hd : dec cc pc 3 pc' (.putfield idx))
    (kk : WW X Y nL rm Qm M0 n k pc' lv st (up M a j z)) : WW X Y nL rm Qm M0 n k pc lv (vS Y.2.2.1 z :: vR Y.1 a :: st) M := by
  have h1 : narrow (.object "java/lang/String") (vS Y.2.2.1 z) = vS Y.2.2.1 z := by rw [vS_R hz]; rfl
  have h2 : fits (.object "java/lang/String") (vS Y.2.2.1 z) = true := by rw [vS_R hz]; rfl
  have := r_putV (k := k) (n := n) (lv := lv) (st := st) (M := M) (Qm := Qm) (z := z) hC hf (by rw [ht]; exact h1) (by rw [ht]; exact h2) ha g hd kk
  rw [ht] at this
  exact this
end TextRows
/-- a stretch of a row comes to a row -/
def cpy (M : Mem) (src dst : Nat) (sp dp n : Int) : Mem := fun a j => if a = dst then va_cpy (M src) (M dst) (bm sp).toNat (bm dp).toNat (bm n).toNat j else M a j
theorem rd_arrG {Y : Yx} {M M' : Mem} {H H' : Heap} {k t n : Nat} (hR : Rd Y M H) (hk : 0 < k) (hg : M 0 k = kA t n) (hn : n < 1000000) (hrow : ∀ a : Nat, a ≠ k → M' a = M a)
    (hob : H'[Y.1 + k]? = some (arrV (Y.2.2.2.1 t) n (fun i => av Y.1 t (M' k i)))) (hz : H'.size = H.size) (ho : ∀ p : Nat, p ≠ Y.1 + k → H'[p]? = H[p]?) : Rd Y M' H' := by
  obtain ⟨⟨h1, h2, h3⟩, h4, h5⟩ := hR
  have e0 : M' 0 = M 0 := hrow 0 (by omega)
  refine ⟨⟨by rw [e0]; exact h1, by rw [e0, hz]; exact h2, fun a ha => by rw [e0] at ha ⊢; exact h3 a ha⟩, ?_, ?_⟩
  · intro a c r ha hc hr
    rw [e0] at hc
    have hak : a ≠ k := by
      intro e
      subst e
      exact kO_kA (by have := ci13 hr; omega) (hc.symm.trans hg)
    rw [hrow a hak]
    exact (h4 a c r ha hc hr).kept (ho _ (by omega))
  · intro a t' n' ha hn' hc
    rw [e0] at hc
    by_cases hak : a = k
    · subst hak
      obtain ⟨rfl, rfl⟩ := kA_inj hn' hn (hc.symm.trans hg)
      exact hob
    · rw [ho _ (by omega), h5 a t' n' ha hn' hc, hrow a hak]
theorem lay_arrG {M M' : Mem} {k t n : Nat} (hL : Lay M) (hk : 0 < k) (hg : M 0 k = kA t n) (hn : n < 1000000) (ht : t < 4) (hrow : ∀ a : Nat, a ≠ k → M' a = M a) : Lay M' := by
  have e0 : M' 0 = M 0 := hrow 0 (by omega)
  refine ⟨?_, ?_⟩
  · intro a c i add sub kd ha hc hm
    rw [e0] at hc ⊢
    have hc13 : c < 13 := by
      rcases Nat.lt_or_ge c 13 with h | h
      · exact h
      · obtain ⟨d, rfl⟩ : ∃ d, c = d + 13 := ⟨c - 13, by omega⟩
        simp [fin] at hm
    have hak : a ≠ k := by
      intro e
      subst e
      exact kO_kA (by omega) (hc.symm.trans hg)
    rw [hrow a hak]
    exact hL.1 a c i add sub kd ha hc hm
  · intro a t' n' i ha hn' hc ht' hi
    rw [e0] at hc ⊢
    have hak : a ≠ k := by
      intro e
      subst e
      obtain ⟨rfl, rfl⟩ := kA_inj hn' hn (hc.symm.trans hg)
      omega
    rw [hrow a hak]
    exact hL.2 a t' n' i ha hn' hc ht' hi
def cpW (own : String) (idx : Nat) : Prop := Cond.methodLink own idx arraycopyName ∈ gtbl ∧ Cond.native arraycopyName ∈ gtbl ∧ Cond.static arraycopyName ∈ gtbl ∧ Cond.initialized "java/lang/System" ∈ gtbl
section CopyRow
variable {X : Cx} {Y : Yx} {own : String} {cc : ByteArray} {nL : Nat} {rt : Option FieldType} {rm : Room} {Qm : Option Value → Mem → Prop} {M0 M : Mem} {n k pc pc' : Nat} {lv : List (Nat × Value)} {st : List Value}
theorem r_copy (hC : OKX X Y own cc nL rt rm) {idx src dst t n0 n1 : Nat} {sp dp cnt : Int} (ht : t < 2) (hw : cpW own idx) (hfr : 1 ≤ rm.frames) (hlo' : 26 ≤ rm.locals) (hrest : (st.map fun v => v.category).sum ≤ 8)
    (hs : 0 ≤ bm sp ∧ 0 ≤ bm dp ∧ 0 ≤ bm cnt ∧ bm sp + bm cnt ≤ (n0 : Int) ∧ bm dp + bm cnt ≤ (n1 : Int)) (hby : t = 1 → ∀ j : Nat, bm sp ≤ (j : Int) → (j : Int) < bm sp + bm cnt → -128 ≤ M src j ∧ M src j < 128)
    (q0 : 0 < src ∧ M0 0 src = kA t n0) (q1 : 0 < dst ∧ M0 0 dst = kA t n1) (hn0 : n0 < 1000000) (hn1 : n1 < 1000000) (hd : dec cc pc 3 pc' (.invokestatic idx))
    (kk : WW X Y nL rm Qm M0 n k pc' lv st (cpy M src dst sp dp cnt)) : WW X Y nL rm Qm M0 n k pc lv (vI cnt :: vI dp :: vR Y.1 dst :: vI sp :: vR Y.1 src :: st) M := by
  obtain ⟨p, l, e, R, s, m, args, below, meth, c⟩ := X
  obtain ⟨hx, hb, hml, hown, hts, hsp, hr, hlo, hrm⟩ := hC
  obtain ⟨hd, rfl⟩ := hd
  obtain ⟨w1, w2, w3, w4⟩ := hw
  obtain ⟨s1, s2, s3, s4, s5⟩ := hs
  dsimp only at hrm
  subst hrm
  intro ls H locs hl hk hR hS T hT Xs
  have g0 := kind_now hk q0.1 q0.2 (kA_pos _ _)
  have g1 := kind_now hk q1.1 q1.2 (kA_pos _ _)
  have hc0 := hR.1.2.2 src t n0 q0.1 hn0 g0
  have hc1 := hR.1.2.2 dst t n1 q1.1 hn1 g1
  have hav : ∀ z, av Y.1 t z = vI z := by
    intro z
    rcases (show t = 0 ∨ t = 1 by omega) with rfl | rfl <;> rfl
  obtain ⟨-, k0, hk0, cm0, hkk0⟩ := (tys_at hsp.1 t (by omega)).1 n0 (fun j => av Y.1 t (M src j))
  obtain ⟨vm', X', step⟩ := Xs.arraycopy hx hown (hts _ w1) (hts _ w2) (hts _ w3) (hts _ w4) (src := Y.1 + src) (dst := Y.1 + dst) (cs := arrV (Y.2.2.2.1 t) n0 (fun j => av Y.1 t (M src j))) (cd := arrV (Y.2.2.2.1 t) n1 (fun j => av Y.1 t (M dst j))) (srcPos := Int32.ofInt sp) (destPos := Int32.ofInt dp) (n := Int32.ofInt cnt) (by rw [hT]; exact hc0) (by rw [hT]; exact hc1)
    (fun _ h => by cases h) (fun _ h => by cases h) (fun h => by cases h) (fun h => by cases h) hk0 hk0 hkk0 hkk0 (by rcases (show t = 0 ∨ t = 1 by omega) with rfl | rfl <;> rfl) (by rw [lt0_bm]; omega) (by rw [lt0_bm]; omega) (by rw [lt0_bm]; omega)
    (by rw [arrV_size]; show ¬ bm sp + bm cnt > _; omega)
    (by rw [arrV_size]; show ¬ bm dp + bm cnt > _; omega)
    (fun vm₁ _ i hi => by
      have hi' : i < (bm cnt).toNat := by rw [← cl_bm s3]; exact hi
      have e : (arrV (Y.2.2.2.1 t) n0 (fun j => av Y.1 t (M src j))).slots.getD ((Int32.ofInt sp).toNatClampNeg + i) .null = vI (M src ((bm sp).toNat + i)) := by
        rw [cl_bm s1, Array.getD_eq_getD_getElem?, arrV_read _ _ (by omega), hav]
        rfl
      rw [e]
      refine ⟨?_, trivial⟩
      rcases (show t = 0 ∨ t = 1 by omega) with rfl | rfl
      · rfl
      · have hb1 := hby rfl ((bm sp).toNat + i) (by omega) (by omega)
        have hb2 : (Int32.ofInt (M src ((bm sp).toNat + i))).toInt = M src ((bm sp).toNat + i) := bm_id (by omega) (by omega)
        show fits .byte (.int (Int32.ofInt (M src ((bm sp).toNat + i)))) = true
        simp only [fits]
        simp only [Int32.le_iff_toInt_le, Int32.lt_iff_toInt_lt, decide_eq_true_eq, Bool.and_eq_true, hb2]
        have h127 : Int32.toInt 127 = 127 := rfl
        have h128 : Int32.toInt (-128) = -128 := rfl
        constructor <;> omega)
    (g := F0 m pc ls (vI cnt :: vI dp :: vR Y.1 dst :: vI sp :: vR Y.1 src :: st)) rfl (by rw [hml]; exact hl.1) (rest := st) rfl (by rw [hb]; exact hd) hfr (by show 2 * 0 + _ + (7 + 11) ≤ R.locals; omega)
  have e1 : copied (arrV (Y.2.2.2.1 t) n0 (fun j => av Y.1 t (M src j))) (arrV (Y.2.2.2.1 t) n1 (fun j => av Y.1 t (M dst j))) (Int32.ofInt sp) (Int32.ofInt dp) (Int32.ofInt cnt) = arrV (Y.2.2.2.1 t) n1 (fun j => av Y.1 t (cpy M src dst sp dp cnt dst j)) := by
    have := va_copied (fun z => av Y.1 t z) (Y.2.2.2.1 t) (Y.2.2.2.1 t) (n0 := n0) (n1 := n1) (sp := (bm sp).toNat) (dp := (bm dp).toNat) (n := (bm cnt).toNat) (M src) (M dst) (by omega)
    simp only [cpy, if_true]
    rw [← this]
    rfl
  rw [e1] at X' step
  have hlt : Y.1 + dst < H.size := (Array.getElem?_eq_some_iff.mp hc1).1
  have oq : ∀ q : Nat, q ≠ Y.1 + dst → (H.setIfInBounds (Y.1 + dst) (arrV (Y.2.2.2.1 t) n1 (fun j => av Y.1 t (cpy M src dst sp dp cnt dst j))))[q]? = H[q]? := fun q hq => by simp [Array.getElem?_setIfInBounds, Ne.symm hq]
  have hrow : ∀ a : Nat, a ≠ dst → cpy M src dst sp dp cnt a = M a := fun a ha => by funext j; simp [cpy, ha]
  have hRd : Rd Y (cpy M src dst sp dp cnt) (H.setIfInBounds (Y.1 + dst) (arrV (Y.2.2.2.1 t) n1 (fun j => av Y.1 t (cpy M src dst sp dp cnt dst j)))) :=
    rd_arrG hR.1 q1.1 g1 hn1 hrow (by simp [Array.getElem?_setIfInBounds, hlt]) (by simp) oq
  obtain ⟨t2, a1, b1⟩ := kk ls _ _ hl (fun a h1 h2 => by rw [hrow 0 (by have := q1.1; omega)]; exact hk a h1 h2) ⟨hRd, fun hF => lay_arrG (hR.2 hF) q1.1 g1 hn1 (by omega) hrow⟩ ⟨by simp; exact hS.1, fun q z1 z2 => by
      rw [oq q (fun e => z2 (by rw [e]; show Y.1 < Y.1 + dst; have := q1.1; omega))]
      exact hS.2.1 q z1 z2, fun q hq => by
      rcases List.mem_append.mp hq with h | h
      · exact hS.2.2 q h
      · obtain ⟨z, -, hz⟩ := List.mem_map.mp h
        rw [← hz]
        show Y.1 < Y.1 + dst
        have := q1.1
        omega⟩ _ (by rw [← hT]; rfl) X'
  exact ⟨t2, step t2 a1, b1⟩
end CopyRow
