/-! FROM THE START TO THE END, WHAT IS TOLD OF THE START GIVEN -/
theorem go_w {X : Cx} {Y : Yx} (hC : OKX X Y R_law code 4 (some .boolean) room_1) (hF : Y.2.2.2.2 = true) {b L : Nat} {xs : Nat → Int32} (hL : L ≤ 3072) (hX : va_X b L xs X.2.2.2.2.1 X.2.2.2.2.1.heap) (hbl : b < X.2.2.2.2.1.heap.size) (hbA : ¬ frA Y b) : WW X Y 4 room_1 (QI fun r _ => r = 1) E0 0 0 0 [(0, .ref b)] [] E0 := by
  refine tL_start hC hF e0_lay hX hbl hbA (fun a1 a2 M => a1 = 1 ∧ a2 = 125 ∧ Inv 0 M) (fun a1 a2 M hLay q1 q2 hc => ?_) (start_w fun M hI => ⟨rfl, rfl, hI⟩)
  obtain ⟨rfl, rfl, hI⟩ := hc
  have h := tL_loop hC hF hLay hX hbl hbA q1 q2 (fun r _ => r = 1) 513 147 241323 0 M (lp_all hL (fun _ => rfl) 513 0 M 0 0 rfl (by omega) (by omega) hI (by omega)) (by omega) (by omega)
  intro ls H locs hl hk hR hS
  refine h ls H locs ?_ (fun _ _ _ => rfl) hR hS
  exact ⟨hl.1, hl.2.1, fun q hq => hl.2.2 q (by
    simp only [List.mem_cons, List.not_mem_nil, or_false] at hq ⊢
    rcases hq with h | h | h | h <;> simp [h])⟩
theorem framed_free {Y : Yx} {s t : State} {o : Outcome} {L : List Loc} {k n : Nat} (hY : Y.1 + 1 = s.heap.size) (h : FrameEnd s o t L k n) (hf : ∀ q ∈ L, frA Y q.base) : Framed s o t [] k n := by
  obtain ⟨h1, h2, a1, a2, a3, a4, a5, a6⟩ := h
  refine ⟨h1, h2, a1, a2, a3, a4, a5, fun a c hc => ?_⟩
  obtain ⟨c', b1, b2, b3, b4⟩ := a6 a c hc
  refine ⟨c', b1, b2, b3, fun i _ => b4 i fun hm => ?_⟩
  have hq : Y.1 < a := hf _ hm
  have ha : a < s.heap.size := (Array.getElem?_eq_some_iff.mp hc).1
  rw [← hY] at ha
  exact absurd (Nat.lt_succ_iff.mp ha) (Nat.not_le.mpr hq)
theorem whole_of {p : Program} {l : Launch} {e : Env} {s : State} {m : MethodId} {below : List Frame} {meth : Method} {c : Code} {b L : Nat} {xs : Nat → Int32} (hA : lw_At p s m meth c b L xs) (hL : L ≤ 3072) {Y : Yx} (hF : Y.2.2.2.2 = true) (hY : Y.1 + 1 = s.heap.size) (hSp : Sp Y s) : W p l e room_1 s m #[Value.ref b] below meth c s.heap [] 0 0 (lw_Z below #[Value.ref b] s) (entryFrame m ([Value.ref b] : List Value).toArray 4) := by
  obtain ⟨h1, h2, h3, h4, h5, h6, hX, hbl, hlk, hgv⟩ := hA
  have hC : OKX (p, l, e, room_1, s, m, #[Value.ref b], below, meth, c) Y R_law code 4 (some .boolean) room_1 := ⟨h1, h2, h4, h5, fun w hw => h6 w (List.mem_filter.mp hw).1, hSp, h3, hlk, rfl⟩
  have hW := go_w (X := (p, l, e, room_1, s, m, #[Value.ref b], below, meth, c)) hC hF hL hX hbl (by show ¬ Y.1 < b; have : b < s.heap.size := hbl; omega)
  have hR : Rz Y E0 s.heap := ⟨⟨⟨by decide, by rw [← hY]; rfl, fun k hk => e0_z (by have : (E0 0 0).toNat = 1 := rfl; omega)⟩, fun k ci q hk hkk _ => absurd ((e0_z hk).symm.trans hkk).symm (kO_pos ci), fun k t n hk _ hkk => absurd ((e0_z hk).symm.trans hkk).symm (kA_pos t n)⟩, fun _ => e0_lay⟩
  have hS : va_S (frA Y) s.heap s.heap [] := ⟨Nat.le_refl _, fun _ _ _ => rfl, fun l h => by cases h⟩
  rw [lg_entry_eq]
  refine W_mono (fun t ht => ?_) (hW _ s.heap [] ?_ (fun _ _ h => rfl) hR hS)
  · obtain ⟨o, ho1, ho2, ⟨⟨v, M', hv, ⟨r, hv2, hr⟩, _⟩, hvF⟩, Ls, hFE, hfree⟩ := ht
    refine ⟨o, ho1, ho2, ?_, ?_⟩
    · rw [hv, hv2, hr]
      rfl
    · exact framed_free (Y := Y) hY hFE hfree
  · exact lv_entry [Value.ref b] (n := 4) (show (1 : Nat) ≤ 4 by decide)
