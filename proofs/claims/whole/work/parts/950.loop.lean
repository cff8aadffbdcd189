/-! THE LOOP: every call of the script on both sides -/
theorem sx {xs : Nat → Int32} {i : Int} : bm (sxv xs i) = sxv xs i := by
  unfold sxv bm
  rw [Int32.ofInt_toInt]
theorem ib_q {j L q : Nat} {x3 : Int} {y : Int} (hx : x3 = (j : Int)) (hq : y = (q : Int)) (h : j + q < L) (hL : L ≤ 3072) : inb (x3 + y) L := inb_of (n := j + q) (by omega) h (by omega)
theorem cs_0 {xs : Nat → Int32} {L j : Nat} {C : Mem → Prop} {x3 t : Int} {M : Mem} (hI : Inv t M) (ht : t < 2147483648) (hx : x3 = (j : Int)) (hj : j + 6 ≤ L) (hL : L ≤ 3072) (hC : ∀ M', Inv (t + 1) M' → C M') : wL_c0 xs L 1 125 C x3 M := by
  unfold wL_c0
  exact ⟨ib_q hx (q := 1) rfl (by omega) hL, ib_q hx (q := 2) rfl (by omega) hL, ib_q hx (q := 3) rfl (by omega) hL, ib_q hx (q := 4) rfl (by omega) hL, (st_piece hI sx sx sx) _ fun r M1 h => ⟨ib_q hx (q := 1) rfl (by omega) hL, ib_q hx (q := 2) rfl (by omega) hL, ib_q hx (q := 3) rfl (by omega) hL, ib_q hx (q := 4) rfl (by omega) hL, h _ fun r2 M2 hr hI2 => BR_t (hr) (hC M2 hI2)⟩⟩
theorem cs_1 {xs : Nat → Int32} {L j : Nat} {C : Mem → Prop} {x3 t : Int} {M : Mem} (hI : Inv t M) (ht : t < 2147483648) (hx : x3 = (j : Int)) (hj : j + 6 ≤ L) (hL : L ≤ 3072) (hC : ∀ M', Inv (t + 1) M' → C M') : wL_c1 xs L 1 125 C x3 M := by
  unfold wL_c1
  exact ⟨ib_q hx (q := 1) rfl (by omega) hL, ib_q hx (q := 2) rfl (by omega) hL, (st_pieceIs hI sx sx) _ fun r M1 h => ⟨ib_q hx (q := 1) rfl (by omega) hL, ib_q hx (q := 2) rfl (by omega) hL, h _ fun r2 M2 hr hI2 => BR_t (hr) (hC M2 hI2)⟩⟩
theorem cs_2 {xs : Nat → Int32} {L j : Nat} {C : Mem → Prop} {x3 t : Int} {M : Mem} (hI : Inv t M) (ht : t < 2147483648) (hx : x3 = (j : Int)) (hj : j + 6 ≤ L) (hL : L ≤ 3072) (hC : ∀ M', Inv (t + 1) M' → C M') : wL_c2 xs L 1 125 C x3 M := by
  unfold wL_c2
  exact ⟨ib_q hx (q := 1) rfl (by omega) hL, ib_q hx (q := 2) rfl (by omega) hL, (st_rule hI sx sx) _ fun r M1 h => ⟨ib_q hx (q := 1) rfl (by omega) hL, ib_q hx (q := 2) rfl (by omega) hL, h _ fun r2 M2 hr hI2 => BR_t (hr) (hC M2 hI2)⟩⟩
theorem cs_3 {xs : Nat → Int32} {L j : Nat} {C : Mem → Prop} {x3 t : Int} {M : Mem} (hI : Inv t M) (ht : t < 2147483648) (hx : x3 = (j : Int)) (hj : j + 6 ≤ L) (hL : L ≤ 3072) (hC : ∀ M', Inv (t + 1) M' → C M') : wL_c3 xs L 1 125 C x3 M := by
  unfold wL_c3
  exact ⟨ib_q hx (q := 1) rfl (by omega) hL, ib_q hx (q := 2) rfl (by omega) hL, ib_q hx (q := 3) rfl (by omega) hL, (st_liking hI sx sx sx) _ fun r M1 h => ⟨ib_q hx (q := 1) rfl (by omega) hL, ib_q hx (q := 2) rfl (by omega) hL, ib_q hx (q := 3) rfl (by omega) hL, h _ fun r2 M2 hr hI2 => BR_t (hr) (hC M2 hI2)⟩⟩
theorem cs_4 {xs : Nat → Int32} {L j : Nat} {C : Mem → Prop} {x3 t : Int} {M : Mem} (hI : Inv t M) (ht : t < 2147483648) (hx : x3 = (j : Int)) (hj : j + 6 ≤ L) (hL : L ≤ 3072) (hC : ∀ M', Inv (t + 1) M' → C M') : wL_c4 xs L 1 125 C x3 M := by
  unfold wL_c4
  exact ⟨ib_q hx (q := 1) rfl (by omega) hL, ib_q hx (q := 2) rfl (by omega) hL, BR_i (fun h0 => (st_turn hI sx (Or.inl rfl)) _ fun r M1 h => ⟨ib_q hx (q := 1) rfl (by omega) hL, ib_q hx (q := 2) rfl (by omega) hL, BR_t h0 (h _ fun r2 M2 hr hI2 => BR_t hr (hC M2 hI2))⟩) (fun h0 => (st_turn hI sx (Or.inr rfl)) _ fun r M1 h => ⟨ib_q hx (q := 1) rfl (by omega) hL, ib_q hx (q := 2) rfl (by omega) hL, BR_f h0 (h _ fun r2 M2 hr hI2 => BR_t hr (hC M2 hI2))⟩)⟩
theorem cs_5 {xs : Nat → Int32} {L j : Nat} {C : Mem → Prop} {x3 t : Int} {M : Mem} (hI : Inv t M) (ht : t < 2147483648) (hx : x3 = (j : Int)) (hj : j + 6 ≤ L) (hL : L ≤ 3072) (hC : ∀ M', Inv (t + 1) M' → C M') : wL_c5 xs L 1 125 C x3 M := by
  unfold wL_c5
  exact ⟨ib_q hx (q := 1) rfl (by omega) hL, ib_q hx (q := 2) rfl (by omega) hL, (st_as hI sx sx) _ fun r M1 h => ⟨ib_q hx (q := 1) rfl (by omega) hL, ib_q hx (q := 2) rfl (by omega) hL, h _ fun r2 M2 hr hI2 => BR_t (hr) (hC M2 hI2)⟩⟩
theorem cs_6 {xs : Nat → Int32} {L j : Nat} {C : Mem → Prop} {x3 t : Int} {M : Mem} (hI : Inv t M) (ht : t < 2147483648) (hx : x3 = (j : Int)) (hj : j + 6 ≤ L) (hL : L ≤ 3072) (hC : ∀ M', Inv (t + 1) M' → C M') : wL_c6 xs L 1 125 C x3 M := by
  unfold wL_c6
  exact ⟨ib_q hx (q := 1) rfl (by omega) hL, ib_q hx (q := 2) rfl (by omega) hL, ib_q hx (q := 3) rfl (by omega) hL, (st_must hI sx sx) _ fun r M1 h => ⟨ib_q hx (q := 1) rfl (by omega) hL, ib_q hx (q := 2) rfl (by omega) hL, ib_q hx (q := 3) rfl (by omega) hL, h _ fun r2 M2 hr hI2 => BR_t (hr) (hC M2 hI2)⟩⟩
theorem cs_7 {xs : Nat → Int32} {L j : Nat} {C : Mem → Prop} {x3 t : Int} {M : Mem} (hI : Inv t M) (ht : t < 2147483648) (hx : x3 = (j : Int)) (hj : j + 6 ≤ L) (hL : L ≤ 3072) (hC : ∀ M', Inv (t + 1) M' → C M') : wL_c7 xs L 1 125 C x3 M := by
  unfold wL_c7
  exact ⟨ib_q hx (q := 1) rfl (by omega) hL, ib_q hx (q := 2) rfl (by omega) hL, ib_q hx (q := 3) rfl (by omega) hL, (st_feed hI sx) _ fun r M1 h => ⟨ib_q hx (q := 1) rfl (by omega) hL, ib_q hx (q := 2) rfl (by omega) hL, ib_q hx (q := 3) rfl (by omega) hL, h _ fun r2 M2 hr hI2 => BR_t (hr) (hC M2 hI2)⟩⟩
theorem cs_8 {xs : Nat → Int32} {L j : Nat} {C : Mem → Prop} {x3 t : Int} {M : Mem} (hI : Inv t M) (ht : t < 2147483648) (hx : x3 = (j : Int)) (hj : j + 6 ≤ L) (hL : L ≤ 3072) (hC : ∀ M', Inv (t + 1) M' → C M') : wL_c8 xs L 1 125 C x3 M := by
  unfold wL_c8
  exact ⟨ib_q hx (q := 1) rfl (by omega) hL, (st_text hI sx) _ fun r M1 h => ⟨ib_q hx (q := 1) rfl (by omega) hL, h _ fun r2 M2 hr hI2 => BR_t (hr) (hC M2 hI2)⟩⟩
theorem cs_9 {xs : Nat → Int32} {L j : Nat} {C : Mem → Prop} {x3 t : Int} {M : Mem} (hI : Inv t M) (ht : t < 2147483648) (hx : x3 = (j : Int)) (hj : j + 6 ≤ L) (hL : L ≤ 3072) (hC : ∀ M', Inv (t + 1) M' → C M') : wL_c9 xs L 1 125 C x3 M := by
  unfold wL_c9
  exact ⟨ib_q hx (q := 1) rfl (by omega) hL, ib_q hx (q := 2) rfl (by omega) hL, ib_q hx (q := 3) rfl (by omega) hL, (st_worth hI sx sx) _ fun r M1 h => ⟨ib_q hx (q := 1) rfl (by omega) hL, ib_q hx (q := 2) rfl (by omega) hL, ib_q hx (q := 3) rfl (by omega) hL, h _ fun r2 M2 hr hI2 => BR_t (lc_eq.mpr hr) (hC M2 hI2)⟩⟩
theorem cs_10 {xs : Nat → Int32} {L j : Nat} {C : Mem → Prop} {x3 t : Int} {M : Mem} (hI : Inv t M) (ht : t < 2147483648) (hx : x3 = (j : Int)) (hj : j + 6 ≤ L) (hL : L ≤ 3072) (hC : ∀ M', Inv (t + 1) M' → C M') : wL_c10 xs L 1 125 C x3 M := by
  unfold wL_c10
  exact ⟨ib_q hx (q := 1) rfl (by omega) hL, ib_q hx (q := 2) rfl (by omega) hL, ib_q hx (q := 3) rfl (by omega) hL, (st_worthBy hI sx sx sx) _ fun r M1 h => ⟨ib_q hx (q := 1) rfl (by omega) hL, ib_q hx (q := 2) rfl (by omega) hL, ib_q hx (q := 3) rfl (by omega) hL, h _ fun r2 M2 hr hI2 => BR_t (hr) (hC M2 hI2)⟩⟩
theorem cs_11 {xs : Nat → Int32} {L j : Nat} {C : Mem → Prop} {x3 t : Int} {M : Mem} (hI : Inv t M) (ht : t < 2147483648) (hx : x3 = (j : Int)) (hj : j + 6 ≤ L) (hL : L ≤ 3072) (hC : ∀ M', Inv (t + 1) M' → C M') : wL_c11 xs L 1 125 C x3 M := by
  unfold wL_c11
  exact ⟨ib_q hx (q := 1) rfl (by omega) hL, ib_q hx (q := 2) rfl (by omega) hL, ib_q hx (q := 3) rfl (by omega) hL, ib_q hx (q := 4) rfl (by omega) hL, (st_tired hI sx sx sx sx) _ fun r M1 h => ⟨ib_q hx (q := 1) rfl (by omega) hL, ib_q hx (q := 2) rfl (by omega) hL, ib_q hx (q := 3) rfl (by omega) hL, ib_q hx (q := 4) rfl (by omega) hL, h _ fun r2 M2 hr hI2 => BR_t (hr) (hC M2 hI2)⟩⟩
theorem cs_12 {xs : Nat → Int32} {L j : Nat} {C : Mem → Prop} {x3 t : Int} {M : Mem} (hI : Inv t M) (ht : t < 2147483648) (hx : x3 = (j : Int)) (hj : j + 6 ≤ L) (hL : L ≤ 3072) (hC : ∀ M', Inv (t + 1) M' → C M') : wL_c12 xs L 1 125 C x3 M := by
  unfold wL_c12
  exact ⟨ib_q hx (q := 1) rfl (by omega) hL, ib_q hx (q := 2) rfl (by omega) hL, ib_q hx (q := 3) rfl (by omega) hL, (st_judge hI sx sx sx) _ fun r M1 h => ⟨ib_q hx (q := 1) rfl (by omega) hL, ib_q hx (q := 2) rfl (by omega) hL, ib_q hx (q := 3) rfl (by omega) hL, h _ fun r2 M2 hr hI2 => BR_t (hr) (hC M2 hI2)⟩⟩
theorem cs_13 {xs : Nat → Int32} {L j : Nat} {C : Mem → Prop} {x3 t : Int} {M : Mem} (hI : Inv t M) (ht : t < 2147483648) (hx : x3 = (j : Int)) (hj : j + 6 ≤ L) (hL : L ≤ 3072) (hC : ∀ M', Inv (t + 1) M' → C M') : wL_c13 xs L 1 125 C x3 M := by
  unfold wL_c13
  exact ⟨ib_q hx (q := 1) rfl (by omega) hL, ib_q hx (q := 2) rfl (by omega) hL, ib_q hx (q := 3) rfl (by omega) hL, (st_begins hI sx sx sx) _ fun r M1 h => ⟨ib_q hx (q := 1) rfl (by omega) hL, ib_q hx (q := 2) rfl (by omega) hL, ib_q hx (q := 3) rfl (by omega) hL, h _ fun r2 M2 hr hI2 => BR_t (hr) (hC M2 hI2)⟩⟩
theorem cs_14 {xs : Nat → Int32} {L j : Nat} {C : Mem → Prop} {x3 t : Int} {M : Mem} (hI : Inv t M) (ht : t < 2147483648) (hx : x3 = (j : Int)) (hj : j + 6 ≤ L) (hL : L ≤ 3072) (hC : ∀ M', Inv (t + 1) M' → C M') : wL_c14 xs L 1 125 C x3 M := by
  unfold wL_c14
  exact ⟨ib_q hx (q := 1) rfl (by omega) hL, ib_q hx (q := 2) rfl (by omega) hL, (st_best hI sx sx) _ fun r M1 h => ⟨ib_q hx (q := 1) rfl (by omega) hL, ib_q hx (q := 2) rfl (by omega) hL, h _ fun r2 M2 hr hI2 => BR_t (hr) (hC M2 hI2)⟩⟩
theorem cs_15 {xs : Nat → Int32} {L j : Nat} {C : Mem → Prop} {x3 t : Int} {M : Mem} (hI : Inv t M) (ht : t < 2147483648) (hx : x3 = (j : Int)) (hj : j + 6 ≤ L) (hL : L ≤ 3072) (hC : ∀ M', Inv (t + 1) M' → C M') : wL_c15 xs L 1 125 C x3 M := by
  unfold wL_c15
  exact ⟨ib_q hx (q := 1) rfl (by omega) hL, ib_q hx (q := 2) rfl (by omega) hL, (st_most hI sx) _ fun r M1 h => ⟨ib_q hx (q := 1) rfl (by omega) hL, ib_q hx (q := 2) rfl (by omega) hL, h _ fun r2 M2 hr hI2 => BR_t (lc_eq.mpr hr) (hC M2 hI2)⟩⟩
theorem cs_16 {xs : Nat → Int32} {L j : Nat} {C : Mem → Prop} {x3 t : Int} {M : Mem} (hI : Inv t M) (ht : t < 2147483648) (hx : x3 = (j : Int)) (hj : j + 6 ≤ L) (hL : L ≤ 3072) (hC : ∀ M', Inv (t + 1) M' → C M') : wL_c16 xs L 1 125 C x3 M := by
  unfold wL_c16
  exact ⟨ib_q hx (q := 1) rfl (by omega) hL, ib_q hx (q := 2) rfl (by omega) hL, (st_equals hI sx) _ fun r M1 h => ⟨ib_q hx (q := 1) rfl (by omega) hL, ib_q hx (q := 2) rfl (by omega) hL, h _ fun r2 M2 hr hI2 => BR_t (hr) (hC M2 hI2)⟩⟩
theorem cs_17 {xs : Nat → Int32} {L j : Nat} {C : Mem → Prop} {x3 t : Int} {M : Mem} (hI : Inv t M) (ht : t < 2147483648) (hx : x3 = (j : Int)) (hj : j + 6 ≤ L) (hL : L ≤ 3072) (hC : ∀ M', Inv (t + 1) M' → C M') : wL_c17 xs L 1 125 C x3 M := by
  unfold wL_c17
  exact ⟨ib_q hx (q := 1) rfl (by omega) hL, (st_bars hI sx) _ fun r M1 h => ⟨ib_q hx (q := 1) rfl (by omega) hL, h _ fun r2 M2 hr hI2 => BR_t (hr) (hC M2 hI2)⟩⟩
theorem cs_18 {xs : Nat → Int32} {L j : Nat} {C : Mem → Prop} {x3 t : Int} {M : Mem} (hI : Inv t M) (ht : t < 2147483648) (hx : x3 = (j : Int)) (hj : j + 6 ≤ L) (hL : L ≤ 3072) (hC : ∀ M', Inv (t + 1) M' → C M') : wL_c18 xs L 1 125 C x3 M := by
  unfold wL_c18
  exact ⟨ib_q hx (q := 1) rfl (by omega) hL, ib_q hx (q := 2) rfl (by omega) hL, (st_fewest hI sx sx) _ fun r M1 h => ⟨ib_q hx (q := 1) rfl (by omega) hL, ib_q hx (q := 2) rfl (by omega) hL, h _ fun r2 M2 hr hI2 => BR_t (hr) (hC M2 hI2)⟩⟩
theorem cs_19 {xs : Nat → Int32} {L j : Nat} {C : Mem → Prop} {x3 t : Int} {M : Mem} (hI : Inv t M) (ht : t < 2147483648) (hx : x3 = (j : Int)) (hj : j + 6 ≤ L) (hL : L ≤ 3072) (hC : ∀ M', Inv (t + 1) M' → C M') : wL_c19 xs L 1 125 C x3 M := by
  unfold wL_c19
  exact ⟨ib_q hx (q := 1) rfl (by omega) hL, ib_q hx (q := 2) rfl (by omega) hL, (st_better hI sx sx) _ fun r M1 h => ⟨ib_q hx (q := 1) rfl (by omega) hL, ib_q hx (q := 2) rfl (by omega) hL, h _ fun r2 M2 hr hI2 => BR_t (hr) (hC M2 hI2)⟩⟩
theorem cs_20 {xs : Nat → Int32} {L j : Nat} {C : Mem → Prop} {x3 t : Int} {M : Mem} (hI : Inv t M) (ht : t < 2147483648) (hx : x3 = (j : Int)) (hj : j + 6 ≤ L) (hL : L ≤ 3072) (hC : ∀ M', Inv (t + 1) M' → C M') : wL_c20 xs L 1 125 C x3 M := by
  unfold wL_c20
  exact ⟨ib_q hx (q := 1) rfl (by omega) hL, ib_q hx (q := 2) rfl (by omega) hL, ib_q hx (q := 3) rfl (by omega) hL, (st_slides hI sx sx sx) _ fun r M1 h => ⟨ib_q hx (q := 1) rfl (by omega) hL, ib_q hx (q := 2) rfl (by omega) hL, ib_q hx (q := 3) rfl (by omega) hL, h _ fun r2 M2 hr hI2 => BR_t (hr) (hC M2 hI2)⟩⟩
theorem cs_21 {xs : Nat → Int32} {L j : Nat} {C : Mem → Prop} {x3 t : Int} {M : Mem} (hI : Inv t M) (ht : t < 2147483648) (hx : x3 = (j : Int)) (hj : j + 6 ≤ L) (hL : L ≤ 3072) (hC : ∀ M', Inv (t + 1) M' → C M') : wL_c21 xs L 1 125 C x3 M := by
  unfold wL_c21
  exact ⟨ib_q hx (q := 1) rfl (by omega) hL, ib_q hx (q := 2) rfl (by omega) hL, ib_q hx (q := 3) rfl (by omega) hL, ib_q hx (q := 4) rfl (by omega) hL, (st_ill hI sx sx sx sx) _ fun r M1 h => ⟨ib_q hx (q := 1) rfl (by omega) hL, ib_q hx (q := 2) rfl (by omega) hL, ib_q hx (q := 3) rfl (by omega) hL, ib_q hx (q := 4) rfl (by omega) hL, h _ fun r2 M2 hr hI2 => BR_t (hr) (hC M2 hI2)⟩⟩
theorem cs_22 {xs : Nat → Int32} {L j : Nat} {C : Mem → Prop} {x3 t : Int} {M : Mem} (hI : Inv t M) (ht : t < 2147483648) (hx : x3 = (j : Int)) (hj : j + 6 ≤ L) (hL : L ≤ 3072) (hC : ∀ M', Inv (t + 1) M' → C M') : wL_c22 xs L 1 125 C x3 M := by
  unfold wL_c22
  exact ⟨ib_q hx (q := 1) rfl (by omega) hL, (st_two hI sx) _ fun r M1 h => ⟨ib_q hx (q := 1) rfl (by omega) hL, h _ fun r2 M2 hr hI2 => BR_t (hr) (hC M2 hI2)⟩⟩
theorem cs_23 {xs : Nat → Int32} {L j : Nat} {C : Mem → Prop} {x3 t : Int} {M : Mem} (hI : Inv t M) (ht : t < 2147483648) (hx : x3 = (j : Int)) (hj : j + 6 ≤ L) (hL : L ≤ 3072) (hC : ∀ M', Inv (t + 1) M' → C M') : wL_c23 xs L 1 125 C x3 M := by
  unfold wL_c23
  exact ⟨ib_q hx (q := 1) rfl (by omega) hL, ib_q hx (q := 2) rfl (by omega) hL, ib_q hx (q := 3) rfl (by omega) hL, (st_past hI sx sx sx) _ fun r M1 h => ⟨ib_q hx (q := 1) rfl (by omega) hL, ib_q hx (q := 2) rfl (by omega) hL, ib_q hx (q := 3) rfl (by omega) hL, h _ fun r2 M2 hr hI2 => BR_t (hr) (hC M2 hI2)⟩⟩
theorem cs_24 {xs : Nat → Int32} {L j : Nat} {C : Mem → Prop} {x3 t : Int} {M : Mem} (hI : Inv t M) (ht : t < 2147483648) (hx : x3 = (j : Int)) (hj : j + 6 ≤ L) (hL : L ≤ 3072) (hC : ∀ M', Inv (t + 1) M' → C M') : wL_c24 xs L 1 125 C x3 M := by
  unfold wL_c24
  exact ⟨ib_q hx (q := 1) rfl (by omega) hL, (st_plain hI sx) _ fun r M1 h => ⟨ib_q hx (q := 1) rfl (by omega) hL, h _ fun r2 M2 hr hI2 => BR_t (hr) (hC M2 hI2)⟩⟩
theorem cs_25 {xs : Nat → Int32} {L j : Nat} {C : Mem → Prop} {x3 t : Int} {M : Mem} (hI : Inv t M) (ht : t < 2147483648) (hx : x3 = (j : Int)) (hj : j + 6 ≤ L) (hL : L ≤ 3072) (hC : ∀ M', Inv (t + 1) M' → C M') : wL_c25 xs L 1 125 C x3 M := by
  unfold wL_c25
  exact ⟨ib_q hx (q := 1) rfl (by omega) hL, ib_q hx (q := 2) rfl (by omega) hL, ib_q hx (q := 3) rfl (by omega) hL, (st_voice hI sx sx) _ fun r M1 h => ⟨ib_q hx (q := 1) rfl (by omega) hL, ib_q hx (q := 2) rfl (by omega) hL, ib_q hx (q := 3) rfl (by omega) hL, h _ fun r2 M2 hr hI2 => BR_t (hr) (hC M2 hI2)⟩⟩
theorem cs_26 {xs : Nat → Int32} {L j : Nat} {C : Mem → Prop} {x3 t : Int} {M : Mem} (hI : Inv t M) (ht : t < 2147483648) (hx : x3 = (j : Int)) (hj : j + 6 ≤ L) (hL : L ≤ 3072) (hC : ∀ M', Inv (t + 1) M' → C M') : wL_c26 xs L 1 125 C x3 M := by
  unfold wL_c26
  exact ⟨ib_q hx (q := 1) rfl (by omega) hL, (st_trace hI sx) _ fun r M1 h => ⟨ib_q hx (q := 1) rfl (by omega) hL, h _ fun r2 M2 hr hI2 => BR_t (hr) (hC M2 hI2)⟩⟩
theorem cs_27 {xs : Nat → Int32} {L j : Nat} {C : Mem → Prop} {x3 t : Int} {M : Mem} (hI : Inv t M) (ht : t < 2147483648) (hx : x3 = (j : Int)) (hj : j + 6 ≤ L) (hL : L ≤ 3072) (hC : ∀ M', Inv (t + 1) M' → C M') : wL_c27 xs L 1 125 C x3 M := by
  unfold wL_c27
  exact ⟨ib_q hx (q := 1) rfl (by omega) hL, ib_q hx (q := 2) rfl (by omega) hL, ib_q hx (q := 3) rfl (by omega) hL, (st_sheet hI sx sx sx) _ fun r M1 h => ⟨ib_q hx (q := 1) rfl (by omega) hL, ib_q hx (q := 2) rfl (by omega) hL, ib_q hx (q := 3) rfl (by omega) hL, h _ fun r2 M2 hr hI2 => BR_t (hr) (hC M2 hI2)⟩⟩
theorem cs_28 {xs : Nat → Int32} {L j : Nat} {C : Mem → Prop} {x3 t : Int} {M : Mem} (hI : Inv t M) (ht : t < 2147483648) (hx : x3 = (j : Int)) (hj : j + 6 ≤ L) (hL : L ≤ 3072) (hC : ∀ M', Inv (t + 1) M' → C M') : wL_c28 xs L 1 125 C x3 M := by
  unfold wL_c28
  exact ⟨ib_q hx (q := 1) rfl (by omega) hL, ib_q hx (q := 2) rfl (by omega) hL, ib_q hx (q := 3) rfl (by omega) hL, (st_put hI _ sx sx) _ fun r M1 h => ⟨ib_q hx (q := 1) rfl (by omega) hL, ib_q hx (q := 2) rfl (by omega) hL, ib_q hx (q := 3) rfl (by omega) hL, h _ fun r2 M2 hr hI2 => BR_t (hr) (hC M2 hI2)⟩⟩
theorem cs_29 {xs : Nat → Int32} {L j : Nat} {C : Mem → Prop} {x3 t : Int} {M : Mem} (hI : Inv t M) (ht : t < 2147483648) (hx : x3 = (j : Int)) (hj : j + 6 ≤ L) (hL : L ≤ 3072) (hC : ∀ M', Inv (t + 1) M' → C M') : wL_c29 xs L 1 125 C x3 M := by
  unfold wL_c29
  exact ⟨ib_q hx (q := 1) rfl (by omega) hL, ib_q hx (q := 2) rfl (by omega) hL, (st_get hI sx sx) _ fun r M1 h => ⟨ib_q hx (q := 1) rfl (by omega) hL, ib_q hx (q := 2) rfl (by omega) hL, h _ fun r2 M2 hr hI2 => BR_t (hr) (hC M2 hI2)⟩⟩
theorem cs_30 {xs : Nat → Int32} {L j : Nat} {C : Mem → Prop} {x3 t : Int} {M : Mem} (hI : Inv t M) (ht : t < 2147483648) (hx : x3 = (j : Int)) (hj : j + 6 ≤ L) (hL : L ≤ 3072) (hC : ∀ M', Inv (t + 1) M' → C M') : wL_c30 xs L 1 125 C x3 M := by
  unfold wL_c30
  exact ⟨ib_q hx (q := 1) rfl (by omega) hL, ib_q hx (q := 2) rfl (by omega) hL, ib_q hx (q := 3) rfl (by omega) hL, ib_q hx (q := 4) rfl (by omega) hL, ib_q hx (q := 5) rfl (by omega) hL, (st_move hI sx sx sx sx sx) _ fun r M1 h => ⟨ib_q hx (q := 1) rfl (by omega) hL, ib_q hx (q := 2) rfl (by omega) hL, ib_q hx (q := 3) rfl (by omega) hL, ib_q hx (q := 4) rfl (by omega) hL, ib_q hx (q := 5) rfl (by omega) hL, h _ fun r2 M2 hr hI2 => BR_t (hr) (hC M2 hI2)⟩⟩
theorem cs_31 {xs : Nat → Int32} {L j : Nat} {C : Mem → Prop} {x3 t : Int} {M : Mem} (hI : Inv t M) (ht : t < 2147483648) (hx : x3 = (j : Int)) (hj : j + 6 ≤ L) (hL : L ≤ 3072) (hC : ∀ M', Inv (t + 1) M' → C M') : wL_c31 xs L 1 125 C x3 M := by
  unfold wL_c31
  exact fun hLay hFre => (st_image hI hLay hFre) _ fun r M1 h => h _ fun r2 M2 hr hI2 => BR_t hr (hC M2 hI2)
theorem cs_32 {xs : Nat → Int32} {L j : Nat} {C : Mem → Prop} {x3 t : Int} {M : Mem} (hI : Inv t M) (ht : t < 2147483648) (hx : x3 = (j : Int)) (hj : j + 6 ≤ L) (hL : L ≤ 3072) (hC : ∀ M', Inv (t + 1) M' → C M') : wL_c32 xs L 1 125 C x3 M := by
  unfold wL_c32
  exact (st_restore hI ht) _ fun r M1 h => h _ fun r2 M2 hr hI2 => BR_t (hr) (hC M2 hI2)
theorem cs_33 {xs : Nat → Int32} {L j : Nat} {C : Mem → Prop} {x3 t : Int} {M : Mem} (hI : Inv t M) (ht : t < 2147483648) (hx : x3 = (j : Int)) (hj : j + 6 ≤ L) (hL : L ≤ 3072) (hC : ∀ M', Inv (t + 1) M' → C M') : wL_c33 xs L 1 125 C x3 M := by
  unfold wL_c33
  exact ⟨ib_q hx (q := 1) rfl (by omega) hL, (st_tell hI _) _ fun r M1 h => ⟨ib_q hx (q := 1) rfl (by omega) hL, h _ fun r2 M2 hr hI2 => BR_t (hr) (hC M2 hI2)⟩⟩
theorem cs_34 {xs : Nat → Int32} {L j : Nat} {C : Mem → Prop} {x3 t : Int} {M : Mem} (hI : Inv t M) (ht : t < 2147483648) (hx : x3 = (j : Int)) (hj : j + 6 ≤ L) (hL : L ≤ 3072) (hC : ∀ M', Inv (t + 1) M' → C M') : wL_c34 xs L 1 125 C x3 M := by
  unfold wL_c34
  exact ⟨ib_q hx (q := 1) rfl (by omega) hL, (st_check hI sx) _ fun r M1 h => ⟨ib_q hx (q := 1) rfl (by omega) hL, h _ fun r2 M2 hr hI2 => BR_t (hr) (hC M2 hI2)⟩⟩
theorem cs_35 {xs : Nat → Int32} {L j : Nat} {C : Mem → Prop} {x3 t : Int} {M : Mem} (hI : Inv t M) (ht : t < 2147483648) (hx : x3 = (j : Int)) (hj : j + 6 ≤ L) (hL : L ≤ 3072) (hC : ∀ M', Inv (t + 1) M' → C M') : wL_c35 xs L 1 125 C x3 M := by
  unfold wL_c35
  exact ⟨ib_q hx (q := 1) rfl (by omega) hL, (st_count hI sx) _ fun r M1 h => ⟨ib_q hx (q := 1) rfl (by omega) hL, h _ fun r2 M2 hr hI2 => BR_t (hr) (hC M2 hI2)⟩⟩
theorem cs_36 {xs : Nat → Int32} {L j : Nat} {C : Mem → Prop} {x3 t : Int} {M : Mem} (hI : Inv t M) (ht : t < 2147483648) (hx : x3 = (j : Int)) (hj : j + 6 ≤ L) (hL : L ≤ 3072) (hC : ∀ M', Inv (t + 1) M' → C M') : wL_c36 xs L 1 125 C x3 M := by
  unfold wL_c36
  exact ⟨ib_q hx (q := 1) rfl (by omega) hL, (st_told hI sx) _ fun r M1 h => ⟨ib_q hx (q := 1) rfl (by omega) hL, h _ fun r2 M2 hr hI2 => BR_t (hr) (hC M2 hI2)⟩⟩
theorem lp_all {xs : Nat → Int32} {L : Nat} {Q : Int → Mem → Prop} (hL : L ≤ 3072) (hQ : ∀ M, Q 1 M) : ∀ (N j : Nat) (M : Mem) (x3 t : Int), x3 = (j : Int) → j ≤ L → L < j + 6 * N → Inv t M → t + N ≤ 1000 → wL_loop xs L 1 125 Q N x3 M
  | 0, j, M, x3, t, h3, hjL, hN, hI, ht => by omega
  | N + 1, j, M, x3, t, h3, hjL, hN, hI, ht => by
    subst h3
    have ht' : t + 1 + (N : Int) ≤ 1000 := by omega
    unfold wL_loop
    rw [bm_id (z := ((L : Nat) : Int) - 6) (by omega) (by omega), bm_nat (n := j) (by omega)]
    refine BR_i (fun _ => hQ M) (fun hlt => ⟨inb_of rfl (by omega) (by omega), LET_i ?_⟩)
    have hj6 : j + 6 ≤ L := by omega
    have hC : ∀ M', Inv (t + 1) M' → wL_loop xs L 1 125 Q N ((j : Int) + 6) M' := fun M' hI' => lp_all hL hQ N (j + 6) M' _ (t + 1) (by omega) hj6 (by omega) hI' ht'
    exact BR_i (fun _ => cs_0 hI (by omega) rfl hj6 hL hC) (fun _ => BR_i (fun _ => cs_1 hI (by omega) rfl hj6 hL hC) (fun _ => BR_i (fun _ => cs_2 hI (by omega) rfl hj6 hL hC) (fun _ => BR_i (fun _ => cs_3 hI (by omega) rfl hj6 hL hC) (fun _ => BR_i (fun _ => cs_4 hI (by omega) rfl hj6 hL hC) (fun _ => BR_i (fun _ => cs_5 hI (by omega) rfl hj6 hL hC) (fun _ => BR_i (fun _ => cs_6 hI (by omega) rfl hj6 hL hC) (fun _ => BR_i (fun _ => cs_7 hI (by omega) rfl hj6 hL hC) (fun _ => BR_i (fun _ => cs_8 hI (by omega) rfl hj6 hL hC) (fun _ => BR_i (fun _ => cs_9 hI (by omega) rfl hj6 hL hC) (fun _ => BR_i (fun _ => cs_10 hI (by omega) rfl hj6 hL hC) (fun _ => BR_i (fun _ => cs_11 hI (by omega) rfl hj6 hL hC) (fun _ => BR_i (fun _ => cs_12 hI (by omega) rfl hj6 hL hC) (fun _ => BR_i (fun _ => cs_13 hI (by omega) rfl hj6 hL hC) (fun _ => BR_i (fun _ => cs_14 hI (by omega) rfl hj6 hL hC) (fun _ => BR_i (fun _ => cs_15 hI (by omega) rfl hj6 hL hC) (fun _ => BR_i (fun _ => cs_16 hI (by omega) rfl hj6 hL hC) (fun _ => BR_i (fun _ => cs_17 hI (by omega) rfl hj6 hL hC) (fun _ => BR_i (fun _ => cs_18 hI (by omega) rfl hj6 hL hC) (fun _ => BR_i (fun _ => cs_19 hI (by omega) rfl hj6 hL hC) (fun _ => BR_i (fun _ => cs_20 hI (by omega) rfl hj6 hL hC) (fun _ => BR_i (fun _ => cs_21 hI (by omega) rfl hj6 hL hC) (fun _ => BR_i (fun _ => cs_22 hI (by omega) rfl hj6 hL hC) (fun _ => BR_i (fun _ => cs_23 hI (by omega) rfl hj6 hL hC) (fun _ => BR_i (fun _ => cs_24 hI (by omega) rfl hj6 hL hC) (fun _ => BR_i (fun _ => cs_25 hI (by omega) rfl hj6 hL hC) (fun _ => BR_i (fun _ => cs_26 hI (by omega) rfl hj6 hL hC) (fun _ => BR_i (fun _ => cs_27 hI (by omega) rfl hj6 hL hC) (fun _ => BR_i (fun _ => cs_28 hI (by omega) rfl hj6 hL hC) (fun _ => BR_i (fun _ => cs_29 hI (by omega) rfl hj6 hL hC) (fun _ => BR_i (fun _ => cs_30 hI (by omega) rfl hj6 hL hC) (fun _ => BR_i (fun _ => cs_31 hI (by omega) rfl hj6 hL hC) (fun _ => BR_i (fun _ => cs_32 hI (by omega) rfl hj6 hL hC) (fun _ => BR_i (fun _ => cs_33 hI (by omega) rfl hj6 hL hC) (fun _ => BR_i (fun _ => cs_34 hI (by omega) rfl hj6 hL hC) (fun _ => BR_i (fun _ => cs_35 hI (by omega) rfl hj6 hL hC) (fun _ => BR_i (fun _ => cs_36 hI (by omega) rfl hj6 hL hC) (fun _ => hC M (hI.mono (by omega)))))))))))))))))))))))))))))))))))))))
