/-! THE LAW'S SCRIPT -/
def sxv (xs : Nat → Int32) (i : Int) : Int := (xs (bm i).toNat).toInt
section ScriptRows
variable {X : Cx} {Y : Yx} {own : String} {cc : ByteArray} {nL : Nat} {rt : Option FieldType} {rm : Room} {Qm : Option Value → Mem → Prop} {M0 M : Mem} {n k pc pc' : Nat} {lv : List (Nat × Value)} {st : List Value} {b L : Nat} {xs : Nat → Int32}
theorem r_aloadX (hC : OKX X Y own cc nL rt rm) {i : Nat} {f : Fin 4} (q : Nat) (hd : dec cc pc 1 pc' (.aload_n f)) (hl : lv[q]? = some (i, .ref b)) (hi : (f : Nat) = i) (kk : WW X Y nL rm Qm M0 n k pc' lv (.ref b :: st) M) : WW X Y nL rm Qm M0 n k pc lv st M := by
  obtain ⟨p, l, e, R, s, m, args, below, meth, c⟩ := X
  obtain ⟨hx, hb, hml, hown, hts, hsp, hr, hlo, hrm⟩ := hC
  obtain ⟨hd, rfl⟩ := hd
  intro ls H locs h hk hR hS
  exact lv_aload_n hx hb hd hi (lv_at h q hl) (kk ls H locs h hk hR hS)
theorem r_sld (hC : OKX X Y own cc nL rt rm) {i : Int} (hX : va_X b L xs X.2.2.2.2.1 X.2.2.2.2.1.heap) (hbl : b < X.2.2.2.2.1.heap.size) (hbA : ¬ frA Y b) (hi : inb i L) (hd : dec cc pc 1 pc' .iaload)
    (kk : WW X Y nL rm Qm M0 n k pc' lv (vI (sxv xs i) :: st) M) : WW X Y nL rm Qm M0 n k pc lv (vI i :: .ref b :: st) M := by
  obtain ⟨p, l, e, R, s, m, args, below, meth, c⟩ := X
  obtain ⟨hx, hb, hml, hown, hts, hsp, hr, hlo, hrm⟩ := hC
  obtain ⟨hd, rfl⟩ := hd
  intro ls H locs hl hk hR hS
  have kk := kk ls H locs hl hk hR hS
  rw [show vI (sxv xs i) = .int (xs (bm i).toNat) from vI_of _] at kk
  rw [← cl_bm hi.1] at kk
  exact va_sld hx hb hX hbl hbA hS (inb_vp hi) hd kk
theorem r_slenX (hC : OKX X Y own cc nL rt rm) (hX : va_X b L xs X.2.2.2.2.1 X.2.2.2.2.1.heap) (hbl : b < X.2.2.2.2.1.heap.size) (hbA : ¬ frA Y b) (hd : dec cc pc 1 pc' .arraylength)
    (kk : WW X Y nL rm Qm M0 n k pc' lv (vI (L : Int) :: st) M) : WW X Y nL rm Qm M0 n k pc lv (.ref b :: st) M := by
  obtain ⟨p, l, e, R, s, m, args, below, meth, c⟩ := X
  obtain ⟨hx, hb, hml, hown, hts, hsp, hr, hlo, hrm⟩ := hC
  obtain ⟨hd, rfl⟩ := hd
  intro ls H locs hl hk hR hS
  exact va_slen hx hb hX hbl hbA hS hd (kk ls H locs hl hk hR hS)
end ScriptRows
section MoreEnds
variable {X : Cx} {Y : Yx} {own : String} {cc : ByteArray} {nL : Nat} {rm : Room} {Qm : Option Value → Mem → Prop} {M0 M : Mem} {n k pc pc' : Nat} {lv : List (Nat × Value)} {st : List Value}
theorem r_bret (hC : OKX X Y own cc nL (some .byte) rm) {z : Int} (hz : isB z) (hn : n ≤ rm.cells) (hs : k ≤ rm.slots) (hd : dec cc pc 1 pc' .ireturn) (hq : Qm (some (vI z)) M) : WW X Y nL rm Qm M0 n k pc lv [vI z] M := by
  obtain ⟨p, l, e, R, s, m, args, below, meth, c⟩ := X
  obtain ⟨hx, hb, hml, hown, hts, hsp, hr, hlo, hrm⟩ := hC
  obtain ⟨hd, -⟩ := hd
  intro ls H locs hl hk hR hS
  refine W.widen hn hs ?_
  exact W.zret hx hb hr (by rcases hz with rfl | rfl <;> rfl) (fun t ht hW => ⟨⟨_, M, rfl, hq, hk, by rw [ht]; exact hR⟩, hS.F ht⟩) hS.2.2 hd hlo
end MoreEnds
theorem kp_tr {A B C : Mem} (h : KP A B) (h' : KP B C) : KP A C := fun a q1 q2 => by
  rw [h' a q1 (by rw [h a q1 q2]; exact q2)]
  exact h a q1 q2
