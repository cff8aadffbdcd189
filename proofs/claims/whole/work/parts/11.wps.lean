def rmX3_copyFrom : Room := { frames := 0, cells := 0, slots := 0, locals := 0 }
def wX3_copyFrom (a0 : Nat) (a1 : Nat) (M : Mem) (Q : Mem → Prop) : Prop := LET (up M a0 0 (M a1 0)) (fun M_1 => LET (up M_1 a0 1 (M_1 a1 1)) (fun M_2 => LET (up M_2 a0 2 (M_2 a1 2)) (fun M_3 => LET (up M_3 a0 3 (M_3 a1 3)) (fun M_4 => LET (up M_4 a0 4 (M_4 a1 4)) (fun M_5 => LET (up M_5 a0 5 (M_5 a1 5)) (fun M_6 => Q M_6))))))
def rmJ9_min_7cf53 : Room := { frames := 0, cells := 0, slots := 0, locals := 0 }
def wJ9_min_7cf53 (x0 : Int) (x1 : Int) (M : Mem) (Q : Int → Mem → Prop) : Prop := BR (bm x1 < bm x0) (Q x1 M) (Q x0 M)
def rmX1_takeText : Room := { frames := 1, cells := 0, slots := 0, locals := 26 }
def wX1_takeText (a0 : Nat) (a1 : Nat) (x2 : Int) (M : Mem) (Q : Mem → Prop) : Prop := wJ9_min_7cf53 50 50 M (fun r_3 M_2 => wJ9_min_7cf53 x2 r_3 M_2 (fun r_5 M_4 => LET (up M_4 a0 5 r_5) (fun M_6 => (0 ≤ bm 0 ∧ 0 ≤ bm 0 ∧ 0 ≤ bm (M_6 a0 5) ∧ bm 0 + bm (M_6 a0 5) ≤ ((50 : Nat) : Int) ∧ bm 0 + bm (M_6 a0 5) ≤ ((50 : Nat) : Int)) ∧ LET (cpy M_6 a1 (a0 + 1) 0 0 (M_6 a0 5)) (fun M_10 => Q M_10))))
def rmX1_copyFrom : Room := { frames := 2, cells := 0, slots := 0, locals := 48 }
def wX1_copyFrom (a0 : Nat) (a1 : Nat) (M : Mem) (Q : Mem → Prop) : Prop := LET (up M a0 0 (M a1 0)) (fun M_1 => LET (up M_1 a0 1 (M_1 a1 1)) (fun M_2 => LET (up M_2 a0 2 (M_2 a1 2)) (fun M_3 => LET (up M_3 a0 3 (M_3 a1 3)) (fun M_4 => isB (M_4 a1 4) ∧ LET (up M_4 a0 4 (M_4 a1 4)) (fun M_5 => wX1_takeText a0 (a1 + 1) (M_5 a1 5) M_5 (fun M_8 => Q M_8))))))
def rmX2_copyFrom : Room := { frames := 0, cells := 0, slots := 0, locals := 0 }
def wX2_copyFrom (a0 : Nat) (a1 : Nat) (M : Mem) (Q : Mem → Prop) : Prop := LET (up M a0 0 (M a1 0)) (fun M_1 => LET (up M_1 a0 1 (M_1 a1 1)) (fun M_2 => LET (up M_2 a0 2 (M_2 a1 2)) (fun M_3 => LET (up M_3 a0 3 (M_3 a1 3)) (fun M_4 => Q M_4))))
def rmX5_copyFrom : Room := { frames := 1, cells := 0, slots := 0, locals := 26 }
def wX5_copyFrom (a0 : Nat) (a1 : Nat) (M : Mem) (Q : Mem → Prop) : Prop := LET (up M a0 1 (M a1 1)) (fun M_1 => LET (up M_1 a0 2 (M_1 a1 2)) (fun M_2 => (0 ≤ bm 0 ∧ 0 ≤ bm 0 ∧ 0 ≤ bm 12 ∧ bm 0 + bm 12 ≤ ((12 : Nat) : Int) ∧ bm 0 + bm 12 ≤ ((12 : Nat) : Int)) ∧ LET (cpy M_2 (a1 + 1) (a0 + 1) 0 0 12) (fun M_7 => Q M_7)))
def rmX0_copyFrom : Room := { frames := 3, cells := 0, slots := 0, locals := 69 }
def wX0_copyFrom_L10 (Q : Mem → Prop) (E39 : Mem → Prop) (a0 : Nat) (a1 : Nat) : Nat → Int → Mem → Prop
  | 0, _, _ => False
  | N + 1, x2, M => BR (bm (M a0 1) ≤ bm x2) (E39  M) (inb x2 12 ∧ inb x2 12 ∧ wX3_copyFrom (a0 + 9 + (bm x2).toNat) (a1 + 9 + (bm x2).toNat) M (fun M_8 => LET (x2 + 1) (fun x2_9 => wX0_copyFrom_L10 Q E39 a0 a1 N x2_9 M_8)))
def wX0_copyFrom_L49 (Q : Mem → Prop) (E78 : Mem → Prop) (a0 : Nat) (a1 : Nat) : Nat → Int → Mem → Prop
  | 0, _, _ => False
  | N + 1, x2, M => BR (bm (M a0 4) ≤ bm x2) (E78  M) (inb x2 10 ∧ inb x2 10 ∧ wX1_copyFrom (a0 + 21 + 2 * (bm x2).toNat) (a1 + 21 + 2 * (bm x2).toNat) M (fun M_19 => LET (x2 + 1) (fun x2_20 => wX0_copyFrom_L49 Q E78 a0 a1 N x2_20 M_19)))
def wX0_copyFrom_L88 (Q : Mem → Prop) (E117 : Mem → Prop) (a0 : Nat) (a1 : Nat) : Nat → Int → Mem → Prop
  | 0, _, _ => False
  | N + 1, x2, M => BR (bm (M a0 6) ≤ bm x2) (E117  M) (inb x2 10 ∧ inb x2 10 ∧ wX2_copyFrom (a0 + 41 + (bm x2).toNat) (a1 + 41 + (bm x2).toNat) M (fun M_30 => LET (x2 + 1) (fun x2_31 => wX0_copyFrom_L88 Q E117 a0 a1 N x2_31 M_30)))
def wX0_copyFrom_L127 (Q : Mem → Prop) (E171 : Mem → Prop) (a0 : Nat) (a1 : Nat) : Nat → Int → Mem → Prop
  | 0, _, _ => False
  | N + 1, x2, M => BR (bm (M a0 11) ≤ bm x2) (E171  M) (inb x2 8 ∧ inb x2 8 ∧ wX5_copyFrom (a0 + 51 + 4 * (bm x2).toNat) (a1 + 51 + 4 * (bm x2).toNat) M (fun M_41 => inb x2 8 ∧ inb x2 8 ∧ wX5_copyFrom (a0 + 53 + 4 * (bm x2).toNat) (a1 + 53 + 4 * (bm x2).toNat) M_41 (fun M_48 => LET (x2 + 1) (fun x2_49 => wX0_copyFrom_L127 Q E171 a0 a1 N x2_49 M_48))))
def wX0_copyFrom (a0 : Nat) (a1 : Nat) (M : Mem) (Q : Mem → Prop) : Prop := LET (up M a0 1 (M a1 1)) (fun M_1 => ∃ N_72, wX0_copyFrom_L10 Q (fun M_11 => LET (up M_11 a0 4 (M_11 a1 4)) (fun M_12 => ∃ N_71, wX0_copyFrom_L49 Q (fun M_22 => LET (up M_22 a0 6 (M_22 a1 6)) (fun M_23 => ∃ N_70, wX0_copyFrom_L88 Q (fun M_33 => LET (up M_33 a0 11 (M_33 a1 11)) (fun M_34 => ∃ N_69, wX0_copyFrom_L127 Q (fun M_51 => LET (up M_51 a0 8 (M_51 a1 8)) (fun M_52 => (0 ≤ bm 0 ∧ 0 ≤ bm 0 ∧ 0 ≤ bm 50 ∧ bm 0 + bm 50 ≤ ((50 : Nat) : Int) ∧ bm 0 + bm 50 ≤ ((50 : Nat) : Int)) ∧ (∀ j : Nat, bm 0 ≤ (j : Int) → (j : Int) < bm 0 + bm 50 → -128 ≤ M_52 (a1 + 5) j ∧ M_52 (a1 + 5) j < 128) ∧ LET (cpy M_52 (a1 + 5) (a0 + 5) 0 0 50) (fun M_57 => LET (up M_57 a0 13 (M_57 a1 13)) (fun M_58 => (0 ≤ bm 0 ∧ 0 ≤ bm 0 ∧ 0 ≤ bm 12 ∧ bm 0 + bm 12 ≤ ((12 : Nat) : Int) ∧ bm 0 + bm 12 ≤ ((12 : Nat) : Int)) ∧ LET (cpy M_58 (a1 + 8) (a0 + 8) 0 0 12) (fun M_63 => (0 ≤ bm 0 ∧ 0 ≤ bm 0 ∧ 0 ≤ bm 4 ∧ bm 0 + bm 4 ≤ ((4 : Nat) : Int) ∧ bm 0 + bm 4 ≤ ((4 : Nat) : Int)) ∧ LET (cpy M_63 (a1 + 2) (a0 + 2) 0 0 4) (fun M_68 => Q M_68)))))) a0 a1 N_69 0 M_34)) a0 a1 N_70 0 M_23)) a0 a1 N_71 0 M_12)) a0 a1 N_72 0 M_1)
def rmX0_likingsOn : Room := { frames := 0, cells := 0, slots := 0, locals := 0 }
def wX0_likingsOn_L4 (Q : Int → Mem → Prop)  (a0 : Nat) : Nat → Int → Int → Mem → Prop
  | 0, _, _, _ => False
  | N + 1, x1, x2, M => BR (bm (M a0 4) ≤ bm x2) (Q x1 M) (inb x2 10 ∧ BR (bm (M (a0 + 21 + 2 * (bm x2).toNat) 4) = 0) (LET (x2 + 1) (fun x2_4 => wX0_likingsOn_L4 Q  a0 N x1 x2_4 M)) (LET (iOr x1 (iShl 1 x2)) (fun x1_6 => LET (x2 + 1) (fun x2_7 => wX0_likingsOn_L4 Q  a0 N x1_6 x2_7 M))))
def wX0_likingsOn (a0 : Nat) (M : Mem) (Q : Int → Mem → Prop) : Prop := ∃ N_9, wX0_likingsOn_L4 Q  a0 N_9 0 0 M
def rmX1_become : Room := { frames := 0, cells := 0, slots := 0, locals := 0 }
def wX1_become_J31 (Q : Mem → Prop)  (a0 : Nat) (xs0 : Int) (as1 : Nat) (M : Mem) : Prop := LET (up M as1 3 xs0) (fun M_5 => LET (up M_5 a0 4 1) (fun M_6 => LET (up M_6 a0 5 0) (fun M_7 => Q M_7)))
def wX1_become (a0 : Nat) (x1 : Int) (x2 : Int) (x3 : Int) (M : Mem) (Q : Mem → Prop) : Prop := LET (up M a0 0 x1) (fun M_1 => LET (up M_1 a0 1 x2) (fun M_2 => LET (up M_2 a0 2 x3) (fun M_3 => BR (bm x3 = 0) (wX1_become_J31 Q  a0 0 a0 M_3) ((¬ bm x3 = 0) ∧ (wX1_become_J31 Q  a0 (x2 * (iDiv 2520 x3)) a0 M_3)))))
def rmX1_hasText : Room := { frames := 0, cells := 0, slots := 0, locals := 0 }
def wX1_hasText (a0 : Nat) (M : Mem) (Q : Int → Mem → Prop) : Prop := BR (bm (M a0 5) ≤ 0) (Q 0 M) (Q 1 M)
def rmX1_isOf : Room := { frames := 0, cells := 0, slots := 0, locals := 0 }
def wX1_isOf_L7 (Q : Int → Mem → Prop)  (x1 : Int) : Nat → Int → Int → Mem → Prop
  | 0, _, _, _ => False
  | N + 1, x2, x3, M => BR (7 ≤ bm x3) (Q 0 M) (BR (bm x2 < 0) (Q 0 M) (BR (bm x2 = bm x1) (Q 1 M) (inb x2 7 ∧ LET (tabV 1 x2) (fun x2_3 => LET (x3 + 1) (fun x3_4 => wX1_isOf_L7 Q  x1 N x2_3 x3_4 M)))))
def wX1_isOf (a0 : Nat) (x1 : Int) (M : Mem) (Q : Int → Mem → Prop) : Prop := LET (M a0 0) (fun x2_1 => ∃ N_6, wX1_isOf_L7 Q  x1 N_6 x2_1 0 M)
def rmX1_names : Room := { frames := 0, cells := 0, slots := 0, locals := 0 }
def wX1_names (a0 : Nat) (M : Mem) (Q : Int → Mem → Prop) : Prop := BR (bm (M a0 0) = 1) (Q (((1 : Nat) : Int)) M) (BR (bm (M a0 0) = 2) (Q (((2 : Nat) : Int)) M) (BR (bm (M a0 0) = 3) (Q (((3 : Nat) : Int)) M) (BR (bm (M a0 0) = 4) (Q (((4 : Nat) : Int)) M) (BR (bm (M a0 0) = 5) (Q (((1 : Nat) : Int)) M) (Q (((5 : Nat) : Int)) M)))))
def rmX1_joined : Room := { frames := 0, cells := 0, slots := 0, locals := 0 }
def wX1_joined (x0 : Int) (x1 : Int) (x2 : Int) (M : Mem) (Q : Int → Mem → Prop) : Prop := BR (bm x0 = 42) (Q (x1 * x2) M) (BR (bm x0 = 43) (Q (x1 + x2) M) (BR (bm x0 = 45) (Q (x1 - x2) M) (BR (bm x0 = 47) (BR (bm x2 = 0) (Q 0 M) ((¬ bm x2 = 0) ∧ (Q (iDiv x1 x2) M))) (BR (bm x0 = 60) (BR (bm x2 ≤ bm x1) (Q 0 M) (Q 1 M)) (BR (bm x1 = bm x2) (Q 1 M) (Q 0 M))))))
def rmX1_comesTo : Room := { frames := 1, cells := 0, slots := 0, locals := 22 }
def wX1_comesTo_J168 (Q : Int → Mem → Prop) (C5 : Int → Int → Mem → Prop) (a0 : Nat) (a1 : Nat) (a2 : Nat) (x3 : Int) (x4 : Int) (xs0 : Int) (xs1 : Int) (as2 : Nat) (M : Mem) : Prop := inb xs1 50 ∧ LET (wr M as2 xs1 xs0) (fun M_16 => LET (x4 + 1) (fun x4_17 => C5 x3 x4_17 M_16))
def wX1_comesTo_J102 (Q : Int → Mem → Prop) (C5 : Int → Int → Mem → Prop) (a0 : Nat) (a1 : Nat) (a2 : Nat) (x3 : Int) (x4 : Int) (x5 : Int) (xs0 : Int) (M : Mem) : Prop := BR (bm xs0 ≤ bm x3) (LET (x3 - (xs0 - 1)) (fun x3_4 => BR (bm xs0 = 1) (inb (x3_4 - 1) 50 ∧ inb (x3_4 - 1) 50 ∧ LET (wr M a2 (x3_4 - 1) (-(rd M a2 (x3_4 - 1)))) (fun M_22 => LET (x4 + 1) (fun x4_23 => C5 x3_4 x4_23 M_22))) (BR (bm xs0 = 3) (inb (x3_4 - 1) 50 ∧ BR (bm (rd M a2 (x3_4 - 1)) = 0) (inb (x3_4 + 1) 50 ∧ wX1_comesTo_J168 Q C5 a0 a1 a2 x3_4 x4 (rd M a2 (x3_4 + 1)) (x3_4 - 1) a2 M) (inb x3_4 50 ∧ wX1_comesTo_J168 Q C5 a0 a1 a2 x3_4 x4 (rd M a2 x3_4) (x3_4 - 1) a2 M)) (inb (x3_4 - 1) 50 ∧ inb x3_4 50 ∧ wX1_joined (x5 - 200) (rd M a2 (x3_4 - 1)) (rd M a2 x3_4) M (fun r_8 M_7 => inb (x3_4 - 1) 50 ∧ LET (wr M_7 a2 (x3_4 - 1) r_8) (fun M_10 => LET (x4 + 1) (fun x4_11 => C5 x3_4 x4_11 M_10))))))) (Q 0 M)
def wX1_comesTo_J70 (Q : Int → Mem → Prop) (C5 : Int → Int → Mem → Prop) (a0 : Nat) (a1 : Nat) (a2 : Nat) (x3 : Int) (x4 : Int) (xs0 : Int) (xs1 : Int) (as2 : Nat) (M : Mem) : Prop := inb xs1 50 ∧ LET (wr M as2 xs1 xs0) (fun M_27 => LET (x3 + 1) (fun x3_28 => LET (x4 + 1) (fun x4_30 => C5 x3_28 x4_30 M_27)))
def wX1_comesTo_L5 (Q : Int → Mem → Prop)  (a0 : Nat) (a1 : Nat) (a2 : Nat) : Nat → Int → Int → Mem → Prop
  | 0, _, _, _ => False
  | N + 1, x3, x4, M => BR (bm (M a0 5) ≤ bm x4) (Q (rd M a2 0) M) (inb x4 50 ∧ LET (rd M (a0 + 1) x4) (fun x5_3 => BR (200 ≤ bm x5_3) (BR (bm x5_3 = 326) (wX1_comesTo_J102 Q (fun x3' x4' M' => wX1_comesTo_L5 Q  a0 a1 a2 N x3' x4' M') a0 a1 a2 x3 x4 x5_3 1 M) (BR (bm x5_3 = 263) (wX1_comesTo_J102 Q (fun x3' x4' M' => wX1_comesTo_L5 Q  a0 a1 a2 N x3' x4' M') a0 a1 a2 x3 x4 x5_3 3 M) (wX1_comesTo_J102 Q (fun x3' x4' M' => wX1_comesTo_L5 Q  a0 a1 a2 N x3' x4' M') a0 a1 a2 x3 x4 x5_3 2 M))) (BR (50 ≤ bm x3) (Q 0 M) (BR (bm (x5_3 - 100) < 5) (BR (100 ≤ bm x5_3) (inb (x5_3 - 100) 5 ∧ wX1_comesTo_J70 Q (fun x3' x4' M' => wX1_comesTo_L5 Q  a0 a1 a2 N x3' x4' M') a0 a1 a2 x3 x4 (rd M a1 (x5_3 - 100)) x3 a2 M) (wX1_comesTo_J70 Q (fun x3' x4' M' => wX1_comesTo_L5 Q  a0 a1 a2 N x3' x4' M') a0 a1 a2 x3 x4 x5_3 x3 a2 M)) (Q 0 M)))))
def wX1_comesTo (a0 : Nat) (a1 : Nat) (a2 : Nat) (M : Mem) (Q : Int → Mem → Prop) : Prop := ∃ N_32, wX1_comesTo_L5 Q  a0 a1 a2 N_32 0 0 M
def rmJ6_bitCount_0f7a4 : Room := { frames := 0, cells := 0, slots := 0, locals := 0 }
def wJ6_bitCount_0f7a4 (x0 : Int) (M : Mem) (Q : Int → Mem → Prop) : Prop := LET (x0 - (iAnd (iUshr x0 1) 1431655765)) (fun x0_1 => LET ((iAnd x0_1 858993459) + (iAnd (iUshr x0_1 2) 858993459)) (fun x0_2 => LET (iAnd (x0_2 + (iUshr x0_2 4)) 252645135) (fun x0_3 => LET (x0_3 + (iUshr x0_3 8)) (fun x0_4 => LET (x0_4 + (iUshr x0_4 16)) (fun x0_5 => Q (iAnd x0_5 63) M)))))
def rmX3_carriedTo : Room := { frames := 1, cells := 0, slots := 0, locals := 20 }
def wX3_carriedTo (a0 : Nat) (a1 : Nat) (M : Mem) (Q : Int → Mem → Prop) : Prop := wJ6_bitCount_0f7a4 (iXor (M a0 4) (M a1 4)) M (fun r_2 M_1 => Q r_2 M_1)
def rmJ9_max_7cf53 : Room := { frames := 0, cells := 0, slots := 0, locals := 0 }
def wJ9_max_7cf53 (x0 : Int) (x1 : Int) (M : Mem) (Q : Int → Mem → Prop) : Prop := BR (bm x0 < bm x1) (Q x1 M) (Q x0 M)
def rmX4_isAt : Room := { frames := 0, cells := 0, slots := 0, locals := 0 }
def wX4_isAt (a0 : Nat) (x1 : Int) (M : Mem) (Q : Int → Mem → Prop) : Prop := BR (bm (M a0 3) ≤ bm (M a0 5)) (Q 0 M) (inb (M a0 5) 50 ∧ BR (bm (rd M (a0 + 2) (M a0 5)) = bm x1) (Q 1 M) (Q 0 M))
def rmX4_opensAnother : Room := { frames := 0, cells := 0, slots := 0, locals := 0 }
def wX4_opensAnother (a0 : Nat) (M : Mem) (Q : Int → Mem → Prop) : Prop := BR (bm (M a0 6) < 5) (LET (up M a0 6 ((M a0 6) + 1)) (fun M_1 => LET (up M_1 a0 5 ((M_1 a0 5) + 1)) (fun M_2 => Q 1 M_2))) (Q 0 M)
def rmX4_writes : Room := { frames := 0, cells := 0, slots := 0, locals := 0 }
def wX4_writes (a0 : Nat) (x1 : Int) (M : Mem) (Q : Int → Mem → Prop) : Prop := BR (bm (M a0 1) < 50) (inb (M a0 1) 50 ∧ LET (wr M (a0 + 1) (M a0 1) x1) (fun M_4 => LET (up M_4 a0 1 ((M_4 a0 1) + 1)) (fun M_5 => Q 1 M_5))) (Q 0 M)
def rmX4_isAtDigit : Room := { frames := 0, cells := 0, slots := 0, locals := 0 }
def wX4_isAtDigit (a0 : Nat) (M : Mem) (Q : Int → Mem → Prop) : Prop := BR (bm (M a0 3) ≤ bm (M a0 5)) (Q 0 M) (inb (M a0 5) 50 ∧ BR (bm (rd M (a0 + 2) (M a0 5)) < 48) (Q 0 M) (inb (M a0 5) 50 ∧ BR (57 < bm (rd M (a0 + 2) (M a0 5))) (Q 0 M) (Q 1 M)))
def rmX4_readNumber : Room := { frames := 1, cells := 0, slots := 0, locals := 21 }
def wX4_readNumber_L4 (Q : Int → Mem → Prop) (E50 : Int → Mem → Prop) (a0 : Nat) : Nat → Int → Int → Mem → Prop
  | 0, _, _, _ => False
  | N + 1, x1, x2, M => BR (2 ≤ bm x2) (E50 x1 M) (wX4_isAtDigit a0 M (fun r_2 M_1 => BR (bm r_2 = 0) (E50 x1 M_1) (inb (M_1 a0 5) 50 ∧ LET (((10 * x1) + (rd M_1 (a0 + 2) (M_1 a0 5))) - 48) (fun x1_5 => LET (up M_1 a0 5 ((M_1 a0 5) + 1)) (fun M_6 => LET (x2 + 1) (fun x2_7 => wX4_readNumber_L4 Q E50 a0 N x1_5 x2_7 M_6))))))
def wX4_readNumber_J50 (Q : Int → Mem → Prop)  (a0 : Nat) (x1 : Int) (M : Mem) : Prop := wX4_writes a0 x1 M (fun r_12 M_11 => isB r_12 ∧ Q r_12 M_11)
def wX4_readNumber (a0 : Nat) (M : Mem) (Q : Int → Mem → Prop) : Prop := ∃ N_13, wX4_readNumber_L4 Q (fun x1_9 M_10 => wX4_readNumber_J50 Q  a0 x1_9 M_10) a0 N_13 0 0 M
def rmJ0_isLatin1_aae02 : Room := { frames := 0, cells := 0, slots := 0, locals := 0 }
def wJ0_isLatin1_aae02 (z0 : Int) (M : Mem) (Q : Int → Mem → Prop) : Prop := BR (1 = 0) (Q 0 M) (BR (0 = 0) (Q 1 M) (Q 0 M))
def rmJ0_coder_7d493 : Room := { frames := 0, cells := 0, slots := 0, locals := 0 }
def wJ0_coder_7d493 (z0 : Int) (M : Mem) (Q : Int → Mem → Prop) : Prop := BR (1 = 0) (False) (False)
def rmJ0_length_8abf5 : Room := { frames := 1, cells := 0, slots := 0, locals := 20 }
def wJ0_length_8abf5 (z0 : Int) (M : Mem) (Q : Int → Mem → Prop) : Prop := wJ0_coder_7d493 z0 M (fun r_2 M_1 => Q (iShr (sLen z0) r_2) M_1)
def rmJ1_canEncode_9a6ad : Room := { frames := 0, cells := 0, slots := 0, locals := 0 }
def wJ1_canEncode_9a6ad (x0 : Int) (M : Mem) (Q : Int → Mem → Prop) : Prop := BR (bm x0 < 0) (Q 0 M) (BR (255 < bm x0) (Q 0 M) (Q 1 M))
def rmJ1_indexOfChar_4cfef : Room := { frames := 0, cells := 0, slots := 0, locals := 0 }
def wJ1_indexOfChar_4cfef_L7 (Q : Int → Mem → Prop)  (z0 : Int) (x3 : Int) (x4 : Int) : Nat → Int → Mem → Prop
  | 0, _, _ => False
  | N + 1, x5, M => BR (bm x3 ≤ bm x5) (Q ((-1)) M) ((0 ≤ bm x5 ∧ bm x5 < sLen z0) ∧ BR (bm (sByte z0 x5) = bm x4) (Q x5 M) (LET (x5 + 1) (fun x5_3 => wJ1_indexOfChar_4cfef_L7 Q  z0 x3 x4 N x5_3 M)))
def wJ1_indexOfChar_4cfef (z0 : Int) (x1 : Int) (x2 : Int) (x3 : Int) (M : Mem) (Q : Int → Mem → Prop) : Prop := LET (iB x1) (fun x4_1 => ∃ N_5, wJ1_indexOfChar_4cfef_L7 Q  z0 x3 x4_1 N_5 x2 M)
def rmJ1_indexOf_4cfef : Room := { frames := 1, cells := 0, slots := 0, locals := 25 }
def wJ1_indexOf_4cfef (z0 : Int) (x1 : Int) (x2 : Int) (x3 : Int) (M : Mem) (Q : Int → Mem → Prop) : Prop := wJ1_canEncode_9a6ad x1 M (fun r_2 M_1 => BR (bm r_2 = 0) (Q ((-1)) M_1) (wJ9_max_7cf53 x2 0 M_1 (fun r_4 M_3 => wJ9_min_7cf53 x3 (sLen z0) M_3 (fun r_6 M_5 => BR (bm r_4 < bm r_6) (wJ1_indexOfChar_4cfef z0 x1 r_4 r_6 M_5 (fun r_8 M_7 => Q r_8 M_7)) (Q ((-1)) M_5)))))
def rmJ0_checkBoundsBeginEnd_23922 : Room := { frames := 0, cells := 0, slots := 0, locals := 0 }
def wJ0_checkBoundsBeginEnd_23922 (x0 : Int) (x1 : Int) (x2 : Int) (M : Mem) (Q : Mem → Prop) : Prop := False
def rmJ0_indexOf_7cf53 : Room := { frames := 2, cells := 0, slots := 0, locals := 48 }
def wJ0_indexOf_7cf53 (z0 : Int) (x1 : Int) (x2 : Int) (M : Mem) (Q : Int → Mem → Prop) : Prop := wJ0_isLatin1_aae02 z0 M (fun r_2 M_1 => BR (bm r_2 = 0) (wJ0_length_8abf5 z0 M_1 (fun r_4 M_3 => False)) (wJ0_length_8abf5 z0 M_1 (fun r_6 M_5 => wJ1_indexOf_4cfef z0 x1 x2 r_6 M_5 (fun r_8 M_7 => Q r_8 M_7))))
def rmJ0_indexOf_0f7a4 : Room := { frames := 3, cells := 0, slots := 0, locals := 70 }
def wJ0_indexOf_0f7a4 (z0 : Int) (x1 : Int) (M : Mem) (Q : Int → Mem → Prop) : Prop := wJ0_indexOf_7cf53 z0 x1 0 M (fun r_2 M_1 => Q r_2 M_1)
def rmX4_readChoice (d : Nat) : Room := { frames := 4 + d, cells := 0, slots := 0, locals := 91 + 23 * d }
def rmX4_readSum (d : Nat) : Room := { frames := 4 + d, cells := 0, slots := 0, locals := 91 + 23 * d }
def rmX4_readProduct (d : Nat) : Room := { frames := 4 + d, cells := 0, slots := 0, locals := 91 + 23 * d }
def rmX4_readOne (d : Nat) : Room := { frames := 4 + d, cells := 0, slots := 0, locals := 91 + 23 * d }
def rmX4_readNegated (d : Nat) : Room := { frames := 4 + d, cells := 0, slots := 0, locals := 91 + 23 * d }
def rmX4_readBraced (d : Nat) : Room := { frames := 4 + d, cells := 0, slots := 0, locals := 91 + 23 * d }
def wbX4_readChoice (Γ : Nat → List Int → Mem → (Int → Mem → Prop) → Prop) (a0 : Nat) (M : Mem) (Q : Int → Mem → Prop) : Prop := Γ 1 [] M (fun r_2 M_1 => BR (bm r_2 = 0) (Q 0 M_1) (wX4_isAt a0 63 M_1 (fun r_4 M_3 => BR (bm r_4 = 0) (Q 1 M_3) (wX4_opensAnother a0 M_3 (fun r_6 M_5 => BR (bm r_6 = 0) (Q 0 M_5) (LET (up M_5 a0 7 ((M_5 a0 7) + 1)) (fun M_7 => Γ 0 [] M_7 (fun r_9 M_8 => BR (bm r_9 = 0) (Q 0 M_8) (wX4_isAt a0 58 M_8 (fun r_11 M_10 => BR (bm r_11 = 0) (Q 0 M_10) (LET (up M_10 a0 5 ((M_10 a0 5) + 1)) (fun M_12 => Γ 0 [] M_12 (fun r_14 M_13 => BR (bm r_14 = 0) (Q 0 M_13) (LET (up M_13 a0 6 ((M_13 a0 6) - 1)) (fun M_15 => wX4_writes a0 263 M_15 (fun r_17 M_16 => isB r_17 ∧ Q r_17 M_16))))))))))))))))
def wX4_readSum_J89 (Γ : Nat → List Int → Mem → (Int → Mem → Prop) → Prop) (Q : Int → Mem → Prop) (C7 : Int → Int → Mem → Prop) (a0 : Nat) (x2 : Int) (xs0 : Int) (M : Mem) : Prop := LET (x2 + 1) (fun x2_12 => C7 xs0 x2_12 M)
def wX4_readSum_J88 (Γ : Nat → List Int → Mem → (Int → Mem → Prop) → Prop) (Q : Int → Mem → Prop) (C7 : Int → Int → Mem → Prop) (a0 : Nat) (x2 : Int) (M : Mem) : Prop := wX4_readSum_J89 Γ Q C7 a0 x2 0 M
def wX4_readSum_J35 (Γ : Nat → List Int → Mem → (Int → Mem → Prop) → Prop) (Q : Int → Mem → Prop) (C7 : Int → Int → Mem → Prop) (a0 : Nat) (x2 : Int) (M : Mem) : Prop := inb (M a0 5) 50 ∧ LET (rd M (a0 + 2) (M a0 5)) (fun x3_7 => LET (up M a0 5 ((M a0 5) + 1)) (fun M_8 => LET (up M_8 a0 7 ((M_8 a0 7) + 1)) (fun M_9 => Γ 2 [] M_9 (fun r_11 M_10 => BR (bm r_11 = 0) (wX4_readSum_J88 Γ Q C7 a0 x2 M_10) (wX4_writes a0 (200 + x3_7) M_10 (fun r_15 M_14 => BR (bm r_15 = 0) (wX4_readSum_J88 Γ Q C7 a0 x2 M_14) (wX4_readSum_J89 Γ Q C7 a0 x2 1 M_14)))))))
def wX4_readSum_L7 (Γ : Nat → List Int → Mem → (Int → Mem → Prop) → Prop) (Q : Int → Mem → Prop)  (a0 : Nat) : Nat → Int → Int → Mem → Prop
  | 0, _, _, _ => False
  | N + 1, x1, x2, M => BR (50 ≤ bm x2) (isB x1 ∧ Q x1 M) (BR (bm x1 = 0) (isB x1 ∧ Q x1 M) (wX4_isAt a0 43 M (fun r_4 M_3 => BR (bm r_4 = 0) (wX4_isAt a0 45 M_3 (fun r_17 M_16 => BR (bm r_17 = 0) (isB x1 ∧ Q x1 M_16) (wX4_readSum_J35 Γ Q (fun x1' x2' M' => wX4_readSum_L7 Γ Q  a0 N x1' x2' M') a0 x2 M_16))) (wX4_readSum_J35 Γ Q (fun x1' x2' M' => wX4_readSum_L7 Γ Q  a0 N x1' x2' M') a0 x2 M_3))))
def wbX4_readSum (Γ : Nat → List Int → Mem → (Int → Mem → Prop) → Prop) (a0 : Nat) (M : Mem) (Q : Int → Mem → Prop) : Prop := Γ 2 [] M (fun r_2 M_1 => ∃ N_18, wX4_readSum_L7 Γ Q  a0 N_18 r_2 0 M_1)
def wX4_readProduct_J107 (Γ : Nat → List Int → Mem → (Int → Mem → Prop) → Prop) (Q : Int → Mem → Prop) (C7 : Int → Int → Mem → Prop) (a0 : Nat) (x2 : Int) (xs0 : Int) (M : Mem) : Prop := LET (x2 + 1) (fun x2_12 => C7 xs0 x2_12 M)
def wX4_readProduct_J106 (Γ : Nat → List Int → Mem → (Int → Mem → Prop) → Prop) (Q : Int → Mem → Prop) (C7 : Int → Int → Mem → Prop) (a0 : Nat) (x2 : Int) (M : Mem) : Prop := wX4_readProduct_J107 Γ Q C7 a0 x2 0 M
def wX4_readProduct_J53 (Γ : Nat → List Int → Mem → (Int → Mem → Prop) → Prop) (Q : Int → Mem → Prop) (C7 : Int → Int → Mem → Prop) (a0 : Nat) (x2 : Int) (M : Mem) : Prop := inb (M a0 5) 50 ∧ LET (rd M (a0 + 2) (M a0 5)) (fun x3_7 => LET (up M a0 5 ((M a0 5) + 1)) (fun M_8 => LET (up M_8 a0 7 ((M_8 a0 7) + 1)) (fun M_9 => Γ 3 [] M_9 (fun r_11 M_10 => BR (bm r_11 = 0) (wX4_readProduct_J106 Γ Q C7 a0 x2 M_10) (wX4_writes a0 (200 + x3_7) M_10 (fun r_15 M_14 => BR (bm r_15 = 0) (wX4_readProduct_J106 Γ Q C7 a0 x2 M_14) (wX4_readProduct_J107 Γ Q C7 a0 x2 1 M_14)))))))
def wX4_readProduct_L7 (Γ : Nat → List Int → Mem → (Int → Mem → Prop) → Prop) (Q : Int → Mem → Prop)  (a0 : Nat) : Nat → Int → Int → Mem → Prop
  | 0, _, _, _ => False
  | N + 1, x1, x2, M => BR (50 ≤ bm x2) (isB x1 ∧ Q x1 M) (BR (bm x1 = 0) (isB x1 ∧ Q x1 M) (wX4_isAt a0 42 M (fun r_4 M_3 => BR (bm r_4 = 0) (wX4_isAt a0 47 M_3 (fun r_17 M_16 => BR (bm r_17 = 0) (wX4_isAt a0 60 M_16 (fun r_19 M_18 => BR (bm r_19 = 0) (wX4_isAt a0 61 M_18 (fun r_21 M_20 => BR (bm r_21 = 0) (isB x1 ∧ Q x1 M_20) (wX4_readProduct_J53 Γ Q (fun x1' x2' M' => wX4_readProduct_L7 Γ Q  a0 N x1' x2' M') a0 x2 M_20))) (wX4_readProduct_J53 Γ Q (fun x1' x2' M' => wX4_readProduct_L7 Γ Q  a0 N x1' x2' M') a0 x2 M_18))) (wX4_readProduct_J53 Γ Q (fun x1' x2' M' => wX4_readProduct_L7 Γ Q  a0 N x1' x2' M') a0 x2 M_16))) (wX4_readProduct_J53 Γ Q (fun x1' x2' M' => wX4_readProduct_L7 Γ Q  a0 N x1' x2' M') a0 x2 M_3))))
def wbX4_readProduct (Γ : Nat → List Int → Mem → (Int → Mem → Prop) → Prop) (a0 : Nat) (M : Mem) (Q : Int → Mem → Prop) : Prop := Γ 3 [] M (fun r_2 M_1 => ∃ N_22, wX4_readProduct_L7 Γ Q  a0 N_22 r_2 0 M_1)
def wX4_readOne_J76 (Γ : Nat → List Int → Mem → (Int → Mem → Prop) → Prop) (Q : Int → Mem → Prop)  (a0 : Nat) (xs0 : Int) (M : Mem) : Prop := BR (0 ≤ bm xs0) (LET (up M a0 5 ((M a0 5) + 1)) (fun M_7 => wX4_writes a0 (100 + xs0) M_7 (fun r_9 M_8 => isB r_9 ∧ Q r_9 M_8))) (Q 0 M)
def wbX4_readOne (Γ : Nat → List Int → Mem → (Int → Mem → Prop) → Prop) (a0 : Nat) (M : Mem) (Q : Int → Mem → Prop) : Prop := wX4_isAt a0 45 M (fun r_2 M_1 => BR (bm r_2 = 0) (wX4_isAt a0 40 M_1 (fun r_4 M_3 => BR (bm r_4 = 0) (wX4_isAtDigit a0 M_3 (fun r_6 M_5 => BR (bm r_6 = 0) (BR (bm (M_5 a0 3) ≤ bm (M_5 a0 5)) (wX4_readOne_J76 Γ Q  a0 ((-1)) M_5) (isS (M_5 a0 4) ∧ inb (M_5 a0 5) 50 ∧ wJ0_indexOf_0f7a4 (M_5 a0 4) (iC (iAnd (rd M_5 (a0 + 2) (M_5 a0 5)) 255)) M_5 (fun r_14 M_13 => wX4_readOne_J76 Γ Q  a0 r_14 M_13))) (wX4_readNumber a0 M_5 (fun r_16 M_15 => isB r_16 ∧ Q r_16 M_15)))) (Γ 5 [] M_3 (fun r_18 M_17 => isB r_18 ∧ Q r_18 M_17)))) (Γ 4 [] M_1 (fun r_20 M_19 => isB r_20 ∧ Q r_20 M_19)))
def wbX4_readNegated (Γ : Nat → List Int → Mem → (Int → Mem → Prop) → Prop) (a0 : Nat) (M : Mem) (Q : Int → Mem → Prop) : Prop := wX4_opensAnother a0 M (fun r_2 M_1 => BR (bm r_2 = 0) (Q 0 M_1) (LET (up M_1 a0 7 ((M_1 a0 7) + 1)) (fun M_3 => Γ 3 [] M_3 (fun r_5 M_4 => BR (bm r_5 = 0) (Q 0 M_4) (LET (up M_4 a0 6 ((M_4 a0 6) - 1)) (fun M_6 => wX4_writes a0 326 M_6 (fun r_8 M_7 => isB r_8 ∧ Q r_8 M_7)))))))
def wbX4_readBraced (Γ : Nat → List Int → Mem → (Int → Mem → Prop) → Prop) (a0 : Nat) (M : Mem) (Q : Int → Mem → Prop) : Prop := wX4_opensAnother a0 M (fun r_2 M_1 => BR (bm r_2 = 0) (Q 0 M_1) (Γ 0 [] M_1 (fun r_4 M_3 => BR (bm r_4 = 0) (Q 0 M_3) (wX4_isAt a0 41 M_3 (fun r_6 M_5 => BR (bm r_6 = 0) (Q 0 M_5) (LET (up M_5 a0 6 ((M_5 a0 6) - 1)) (fun M_7 => LET (up M_7 a0 5 ((M_7 a0 5) + 1)) (fun M_8 => Q 1 M_8))))))))
def wGX4_readChoice (a0 : Nat) : Nat → Nat → List Int → Mem → (Int → Mem → Prop) → Prop
  | 0, _, _, _, _ => False
  | d + 1, k, xs, M, Q => match k with
    | 0 => wbX4_readChoice (wGX4_readChoice a0 d) a0 M Q
    | 1 => wbX4_readSum (wGX4_readChoice a0 d) a0 M Q
    | 2 => wbX4_readProduct (wGX4_readChoice a0 d) a0 M Q
    | 3 => wbX4_readOne (wGX4_readChoice a0 d) a0 M Q
    | 4 => wbX4_readNegated (wGX4_readChoice a0 d) a0 M Q
    | _ => wbX4_readBraced (wGX4_readChoice a0 d) a0 M Q
def wX4_readChoice  (a0 : Nat) (M : Mem) (Q : Int → Mem → Prop) : Prop := wGX4_readChoice a0 40 0 [] M Q
def wX4_readSum  (a0 : Nat) (M : Mem) (Q : Int → Mem → Prop) : Prop := wGX4_readChoice a0 40 1 [] M Q
def wX4_readProduct  (a0 : Nat) (M : Mem) (Q : Int → Mem → Prop) : Prop := wGX4_readChoice a0 40 2 [] M Q
def wX4_readOne  (a0 : Nat) (M : Mem) (Q : Int → Mem → Prop) : Prop := wGX4_readChoice a0 40 3 [] M Q
def wX4_readNegated  (a0 : Nat) (M : Mem) (Q : Int → Mem → Prop) : Prop := wGX4_readChoice a0 40 4 [] M Q
def wX4_readBraced  (a0 : Nat) (M : Mem) (Q : Int → Mem → Prop) : Prop := wGX4_readChoice a0 40 5 [] M Q
def rmX4_readTape : Room := { frames := 45, cells := 0, slots := 0, locals := 1031 }
def wX4_readTape (a0 : Nat) (a1 : Nat) (x2 : Int) (z3 : Int) (M : Mem) (Q : Int → Mem → Prop) : Prop := wJ9_min_7cf53 50 50 M (fun r_2 M_1 => wJ9_min_7cf53 x2 r_2 M_1 (fun r_4 M_3 => wJ9_max_7cf53 0 r_4 M_3 (fun r_6 M_5 => LET (up M_5 a0 3 r_6) (fun M_7 => (0 ≤ bm 0 ∧ 0 ≤ bm 0 ∧ 0 ≤ bm (M_7 a0 3) ∧ bm 0 + bm (M_7 a0 3) ≤ ((50 : Nat) : Int) ∧ bm 0 + bm (M_7 a0 3) ≤ ((50 : Nat) : Int)) ∧ (∀ j : Nat, bm 0 ≤ (j : Int) → (j : Int) < bm 0 + bm (M_7 a0 3) → -128 ≤ M_7 a1 j ∧ M_7 a1 j < 128) ∧ LET (cpy M_7 a1 (a0 + 2) 0 0 (M_7 a0 3)) (fun M_11 => LET (up M_11 a0 4 z3) (fun M_12 => LET (up M_12 a0 1 0) (fun M_13 => LET (up M_13 a0 5 0) (fun M_14 => LET (up M_14 a0 6 0) (fun M_15 => LET (up M_15 a0 7 0) (fun M_16 => wX4_readChoice a0 M_16 (fun r_18 M_17 => BR (bm r_18 = 0) (Q (((-10)) - (M_17 a0 5)) M_17) (BR (bm (M_17 a0 5) = bm (M_17 a0 3)) (Q (M_17 a0 7) M_17) (Q (((-10)) - (M_17 a0 5)) M_17)))))))))))))
def rmX11_within : Room := { frames := 0, cells := 0, slots := 0, locals := 0 }
def wX11_within (x0 : Int) (x1 : Int) (x2 : Int) (M : Mem) (Q : Int → Mem → Prop) : Prop := BR (bm x0 < bm x1) (Q 0 M) (BR (bm x2 < bm x0) (Q 0 M) (Q 1 M))
def rmX11_isIn : Room := { frames := 0, cells := 0, slots := 0, locals := 0 }
def wX11_isIn (x0 : Int) (x1 : Int) (M : Mem) (Q : Int → Mem → Prop) : Prop := BR (bm (iAnd (iShr x0 x1) 1) = 0) (Q 0 M) (Q 1 M)
def rmX5_takesSheet : Room := { frames := 1, cells := 0, slots := 0, locals := 22 }
def wX5_takesSheet_L35 (Q : Int → Mem → Prop) (E101 : Mem → Prop) (a0 : Nat) (a1 : Nat) (x2 : Int) (x3 : Int) : Nat → Int → Int → Mem → Prop
  | 0, _, _, _ => False
  | N + 1, x4, x5, M => BR (bm (M a1 2) ≤ bm x5) (E101  M) (inb x5 24 ∧ LET (rd M (a1 + 1) x5) (fun x6_7 => wX11_within x6_7 0 (x3 - 1) M (fun r_9 M_8 => BR (bm r_9 = 0) (Q 0 M_8) (wX11_isIn x4 x6_7 M_8 (fun r_11 M_10 => BR (bm r_11 = 0) (LET (iOr x4 (iShl 1 x6_7)) (fun x4_12 => inb x5 12 ∧ LET (wr M_10 (a0 + 1) x5 x6_7) (fun M_15 => LET (x5 + 1) (fun x5_16 => wX5_takesSheet_L35 Q E101 a0 a1 x2 x3 N x4_12 x5_16 M_15)))) (Q 0 M_10))))))
def wX5_takesSheet (a0 : Nat) (a1 : Nat) (x2 : Int) (x3 : Int) (M : Mem) (Q : Int → Mem → Prop) : Prop := wX11_within (M a1 2) 1 12 M (fun r_2 M_1 => BR (bm r_2 = 0) (Q 0 M_1) (wX11_within x2 0 ((M_1 a1 2) - 1) M_1 (fun r_4 M_3 => BR (bm r_4 = 0) (Q 0 M_3) (∃ N_21, wX5_takesSheet_L35 Q (fun M_18 => LET (up M_18 a0 1 (M_18 a1 2)) (fun M_19 => LET (up M_19 a0 2 x2) (fun M_20 => Q 1 M_20))) a0 a1 x2 x3 N_21 0 0 M_3))))
def rmX5_swap : Room := { frames := 1, cells := 0, slots := 0, locals := 22 }
def wX5_swap (a0 : Nat) (x1 : Int) (x2 : Int) (M : Mem) (Q : Mem → Prop) : Prop := wX11_within x1 0 11 M (fun r_2 M_1 => BR (bm r_2 = 0) (Q M_1) (wX11_within x2 0 11 M_1 (fun r_4 M_3 => BR (bm r_4 = 0) (Q M_3) (inb x1 12 ∧ LET (rd M_3 (a0 + 1) x1) (fun x3_7 => inb x2 12 ∧ inb x1 12 ∧ LET (wr M_3 (a0 + 1) x1 (rd M_3 (a0 + 1) x2)) (fun M_12 => inb x2 12 ∧ LET (wr M_12 (a0 + 1) x2 x3_7) (fun M_15 => Q M_15)))))))
def rmX6_gather : Room := { frames := 1, cells := 0, slots := 0, locals := 21 }
def wX6_gather_L27 (Q : Mem → Prop)  (a0 : Nat) : Nat → Int → Mem → Prop
  | 0, _, _ => False
  | N + 1, x2, M => BR (bm (M ((a0 - 101)) 1) ≤ bm x2) (Q M) (wX11_isIn (M a0 4) x2 M (fun r_8 M_7 => BR (bm r_8 = 0) (LET (x2 + 1) (fun x2_9 => wX6_gather_L27 Q  a0 N x2_9 M_7)) (inb (M_7 a0 5) 12 ∧ LET (wr M_7 (a0 + 1) (M_7 a0 5) x2) (fun M_13 => LET (up M_13 a0 5 ((M_13 a0 5) + 1)) (fun M_14 => LET (x2 + 1) (fun x2_15 => wX6_gather_L27 Q  a0 N x2_15 M_14))))))
def wX6_gather (a0 : Nat) (x1 : Int) (M : Mem) (Q : Mem → Prop) : Prop := LET (up M a0 4 x1) (fun M_1 => LET (up M_1 a0 5 0) (fun M_2 => LET (up M_2 a0 6 0) (fun M_3 => LET (up M_3 a0 7 0) (fun M_4 => LET (up M_4 a0 8 0) (fun M_5 => ∃ N_17, wX6_gather_L27 Q  a0 N_17 0 M_5)))))
def rmX10_start : Room := { frames := 1, cells := 0, slots := 0, locals := 21 }
def wX10_start (a0 : Nat) (x1 : Int) (x2 : Int) (x3 : Int) (M : Mem) (Q : Mem → Prop) : Prop := wJ9_min_7cf53 x1 12 M (fun r_2 M_1 => wJ9_max_7cf53 0 r_2 M_1 (fun r_4 M_3 => LET (up M_3 a0 1 r_4) (fun M_5 => LET (up M_5 a0 2 x2) (fun M_6 => LET (up M_6 a0 3 x3) (fun M_7 => Q M_7)))))
def rmX10_totalBy : Room := { frames := 1, cells := 0, slots := 0, locals := 22 }
def wX10_totalBy_J41 (Q : Int → Mem → Prop)  (a0 : Nat) (x1 : Int) (xs0 : Int) (M : Mem) : Prop := BR (bm xs0 = 0) (inb (((M a0 1) * 10) + x1) 130 ∧ Q (rd M (a0 + 9) (((M a0 1) * 10) + x1)) M) (inb (M a0 1) 13 ∧ wJ6_bitCount_0f7a4 (rd M (a0 + 6) (M a0 1)) M (fun r_13 M_12 => Q (-r_13) M_12))
def wX10_totalBy (a0 : Nat) (x1 : Int) (M : Mem) (Q : Int → Mem → Prop) : Prop := wX11_within x1 0 ((M ((a0 - 89)) 4) - 1) M (fun r_3 M_2 => BR (bm r_3 = 0) (Q 0 M_2) (inb x1 10 ∧ BR (bm (M_2 ((a0 - 89) + 21 + 2 * (bm x1).toNat) 0) = 6) (wX10_totalBy_J41 Q  a0 x1 1 M_2) (wX10_totalBy_J41 Q  a0 x1 0 M_2)))
def rmX10_total : Room := { frames := 2, cells := 0, slots := 0, locals := 44 }
def wX10_total_L4 (Q : Int → Mem → Prop)  (a0 : Nat) : Nat → Int → Int → Mem → Prop
  | 0, _, _, _ => False
  | N + 1, l1, x3, M => BR (bm (M ((a0 - 89)) 4) ≤ bm x3) (Q l1 M) (wX11_isIn (M a0 3) x3 M (fun r_3 M_2 => BR (bm r_3 = 0) (LET (x3 + 1) (fun x3_4 => wX10_total_L4 Q  a0 N l1 x3_4 M_2)) (wX10_totalBy a0 x3 M_2 (fun r_7 M_6 => inb x3 10 ∧ LET (l1 + ((bm r_7) * (bm (M_6 ((a0 - 89) + 21 + 2 * (bm x3).toNat) 3)))) (fun x1_12 => LET (x3 + 1) (fun x3_13 => wX10_total_L4 Q  a0 N x1_12 x3_13 M_6))))))
def wX10_total (a0 : Nat) (M : Mem) (Q : Int → Mem → Prop) : Prop := ∃ N_15, wX10_total_L4 Q  a0 N_15 0 0 M
def rmX6_keepFound : Room := { frames := 1, cells := 0, slots := 0, locals := 26 }
def wX6_keepFound (a0 : Nat) (x1 : Int) (M : Mem) (Q : Mem → Prop) : Prop := LET (up M (a0 + 2) 1 (M a0 5)) (fun M_2 => LET (up M_2 (a0 + 2) 2 x1) (fun M_4 => (0 ≤ bm 0 ∧ 0 ≤ bm 0 ∧ 0 ≤ bm 12 ∧ bm 0 + bm 12 ≤ ((12 : Nat) : Int) ∧ bm 0 + bm 12 ≤ ((12 : Nat) : Int)) ∧ LET (cpy M_4 ((a0 - 12) + 1) (a0 + 3) 0 0 12) (fun M_11 => Q M_11)))
def rmX6_takeEqual : Room := { frames := 2, cells := 0, slots := 0, locals := 47 }
def wX6_takeEqual_J86 (Q : Mem → Prop) (C7 : Int → Int → Int → Mem → Prop) (a0 : Nat) (x1 : Int) (x4 : Int) (xs0 : Int) (M : Mem) : Prop := LET (x4 + 1) (fun x4_11 => C7 xs0 0 x4_11 M)
def wX6_takeEqual_L7 (Q : Mem → Prop) (E95 : Int → Mem → Prop) (a0 : Nat) (x1 : Int) : Nat → Int → Int → Int → Mem → Prop
  | 0, _, _, _, _ => False
  | N + 1, x2, x3, x4, M => BR (bm (M a0 5) ≤ bm x4) (E95 x2 M) (inb x4 12 ∧ LET (rd M (a0 + 3) x4) (fun x5_4 => inb x4 12 ∧ BR (bm (rd M ((a0 - 12) + 1) x4) = bm x5_4) (LET (x4 + 1) (fun x4_8 => wX6_takeEqual_L7 Q E95 a0 x1 N x2 x3 x4_8 M)) (LET (up M a0 8 (iAnd (M a0 8) (iXor (iShl 1 x5_4) ((-1))))) (fun M_10 => BR (bm x3 = 0) (wX6_takeEqual_J86 Q (fun x2' x3' x4' M' => wX6_takeEqual_L7 Q E95 a0 x1 N x2' x3' x4' M') a0 x1 x4 x2 M_10) (inb x4 12 ∧ BR (bm x5_4 ≤ bm (rd M_10 ((a0 - 12) + 1) x4)) (wX6_takeEqual_J86 Q (fun x2' x3' x4' M' => wX6_takeEqual_L7 Q E95 a0 x1 N x2' x3' x4' M') a0 x1 x4 0 M_10) (wX6_takeEqual_J86 Q (fun x2' x3' x4' M' => wX6_takeEqual_L7 Q E95 a0 x1 N x2' x3' x4' M') a0 x1 x4 1 M_10))))))
def wX6_takeEqual (a0 : Nat) (x1 : Int) (M : Mem) (Q : Mem → Prop) : Prop := ∃ N_19, wX6_takeEqual_L7 Q (fun x2_16 M_17 => BR (bm x2_16 = 0) (Q M_17) (wX6_keepFound a0 x1 M_17 (fun M_18 => Q M_18))) a0 x1 N_19 0 1 0 M
def rmX6_takeGood : Room := { frames := 3, cells := 0, slots := 0, locals := 72 }
def wX6_takeGood_J35 (Q : Mem → Prop)  (a0 : Nat) (x1 : Int) (l2 : Int) (M : Mem) : Prop := LET (up M a0 9 l2) (fun M_5 => LET (up M_5 a0 7 1) (fun M_6 => LET (up M_6 a0 8 (M_6 a0 4)) (fun M_7 => wX6_keepFound a0 x1 M_7 (fun M_8 => Q M_8))))
def wX6_takeGood (a0 : Nat) (x1 : Int) (M : Mem) (Q : Mem → Prop) : Prop := wX10_total ((a0 - 12)) M (fun r_3 M_2 => LET (up M_2 a0 6 ((M_2 a0 6) + 1)) (fun M_4 => BR (bm (M_4 a0 6) = 1) (wX6_takeGood_J35 Q  a0 x1 r_3 M_4) (BR (bm (lCmp r_3 (M_4 a0 9)) ≤ 0) (BR (bm (lCmp r_3 (M_4 a0 9)) = 0) (LET (up M_4 a0 7 ((M_4 a0 7) + 1)) (fun M_9 => wX6_takeEqual a0 x1 M_9 (fun M_10 => Q M_10))) (Q M_4)) (wX6_takeGood_J35 Q  a0 x1 r_3 M_4))))
def rmX10_tire : Room := { frames := 1, cells := 0, slots := 0, locals := 21 }
def wX10_tire_J95 (Q : Mem → Prop) (C17 : Int → Int → Mem → Prop) (a0 : Nat) (x1 : Int) (a2 : Nat) (x3 : Int) (x4 : Int) (x5 : Int) (x6 : Int) (x9 : Int) (M : Mem) : Prop := inb ((x4 + 8) + x6) 104 ∧ LET (wr M (a0 + 8) ((x4 + 8) + x6) x9) (fun M_15 => wJ9_max_7cf53 x5 x9 M_15 (fun r_17 M_16 => LET (x6 + 1) (fun x6_18 => C17 r_17 x6_18 M_16)))
def wX10_tire_J50 (Q : Mem → Prop) (C17 : Int → Int → Mem → Prop) (a0 : Nat) (x1 : Int) (a2 : Nat) (x3 : Int) (x4 : Int) (x5 : Int) (x6 : Int) (x7 : Int) (xs0 : Int) (M : Mem) : Prop := inb (x4 + x6) 104 ∧ wJ9_max_7cf53 0 ((rd M (a0 + 8) (x4 + x6)) - (xs0 * (rd M ((a0 - 89) + 2) 1))) M (fun r_12 M_11 => BR (bm x7 = 0) (wX10_tire_J95 Q C17 a0 x1 a2 x3 x4 x5 x6 r_12 M_11) (LET (r_12 + (M_11 a2 5)) (fun x9_20 => wX10_tire_J95 Q C17 a0 x1 a2 x3 x4 x5 x6 x9_20 M_11)))
def wX10_tire_L17 (Q : Mem → Prop) (E125 : Int → Mem → Prop) (a0 : Nat) (x1 : Int) (a2 : Nat) (x3 : Int) (x4 : Int) : Nat → Int → Int → Mem → Prop
  | 0, _, _, _ => False
  | N + 1, x5, x6, M => BR (8 ≤ bm x6) (E125 x5 M) (wX11_isIn (M a2 3) x6 M (fun r_6 M_5 => BR (bm r_6 = 0) (wX10_tire_J50 Q (fun x5' x6' M' => wX10_tire_L17 Q E125 a0 x1 a2 x3 x4 N x5' x6' M') a0 x1 a2 x3 x4 x5 x6 r_6 (x3 + (M_5 a2 0)) M_5) (wX10_tire_J50 Q (fun x5' x6' M' => wX10_tire_L17 Q E125 a0 x1 a2 x3 x4 N x5' x6' M') a0 x1 a2 x3 x4 x5 x6 r_6 x3 M_5)))
def wX10_tire (a0 : Nat) (x1 : Int) (a2 : Nat) (x3 : Int) (M : Mem) (Q : Mem → Prop) : Prop := LET (x1 * 8) (fun x4_1 => inb x1 13 ∧ LET (rd M (a0 + 7) x1) (fun x5_4 => ∃ N_26, wX10_tire_L17 Q (fun x5_21 M_22 => inb (x1 + 1) 13 ∧ LET (wr M_22 (a0 + 7) (x1 + 1) x5_21) (fun M_25 => Q M_25)) a0 x1 a2 x3 x4_1 N_26 x5_4 0 M))
def rmX10_isRightBehind : Room := { frames := 0, cells := 0, slots := 0, locals := 0 }
def wX10_isRightBehind (a0 : Nat) (x1 : Int) (x2 : Int) (M : Mem) (Q : Int → Mem → Prop) : Prop := BR (bm x1 ≤ 0) (Q 0 M) (inb (x1 - 1) 12 ∧ BR (bm (rd M (a0 + 1) (x1 - 1)) = bm x2) (Q 1 M) (Q 0 M))
def rmX10_isBroken : Room := { frames := 1, cells := 0, slots := 0, locals := 22 }
def wX10_isBroken_J244 (Q : Int → Mem → Prop)  (a0 : Nat) (x2 : Int) (M : Mem) : Prop := BR (bm (M a0 2) ≤ 0) (Q 0 M) (BR (bm x2 < bm (M a0 2)) (Q 0 M) (Q 1 M))
def wX10_isBroken_J64 (Q : Int → Mem → Prop)  (a0 : Nat) (x2 : Int) (x4 : Int) (xs0 : Int) (M : Mem) : Prop := BR (bm xs0 = 0) (Q 0 M) (BR (bm x2 = bm (M a0 2)) (Q 1 M) (wX10_isRightBehind a0 x2 x4 M (fun r_14 M_13 => BR (bm r_14 = 0) (Q 1 M_13) (Q 0 M_13))))
def wX10_isBroken_J63 (Q : Int → Mem → Prop)  (a0 : Nat) (x2 : Int) (x4 : Int) (M : Mem) : Prop := wX10_isBroken_J64 Q  a0 x2 x4 0 M
def wX10_isBroken_J45 (Q : Int → Mem → Prop)  (a0 : Nat) (x2 : Int) (x4 : Int) (M : Mem) : Prop := inb x2 13 ∧ wX11_isIn (rd M (a0 + 5) x2) x4 M (fun r_12 M_11 => BR (bm r_12 = 0) (wX10_isBroken_J63 Q  a0 x2 x4 M_11) (wX10_isBroken_J64 Q  a0 x2 x4 1 M_11))
def wX10_isBroken_J27 (Q : Int → Mem → Prop)  (a0 : Nat) (a1 : Nat) (x2 : Int) (x3 : Int) (xs0 : Int) (M : Mem) : Prop := BR (bm x3 = bm (M a1 1)) (wX10_isBroken_J45 Q  a0 x2 xs0 M) (BR (bm x3 = bm (M a1 2)) (wX10_isBroken_J45 Q  a0 x2 xs0 M) (wX10_isBroken_J63 Q  a0 x2 xs0 M))
def wX10_isBroken (a0 : Nat) (a1 : Nat) (x2 : Int) (x3 : Int) (M : Mem) (Q : Int → Mem → Prop) : Prop := BR (bm (M a1 0) = 1) (BR (bm x3 = bm (M a1 1)) (wX10_isBroken_J27 Q  a0 a1 x2 x3 (M a1 2) M) (wX10_isBroken_J27 Q  a0 a1 x2 x3 (M a1 1) M)) (BR (bm x3 = bm (M a1 1)) (BR (bm (M a1 0) = 0) (wX10_isRightBehind a0 x2 (M a1 2) M (fun r_2 M_1 => isB r_2 ∧ Q r_2 M_1)) (BR (bm (M a1 0) = 1) (wX10_isBroken_J244 Q  a0 x2 M) (BR (bm (M a1 0) = 2) (inb (x2 + 1) 13 ∧ BR (bm (rd M (a0 + 3) (x2 + 1)) ≤ bm (M a1 3)) (Q 0 M) (Q 1 M)) (BR (bm (M a1 0) = 3) (BR (bm x2 = 0) (Q 1 M) (Q 0 M)) (BR (bm (M a1 0) = 4) (BR (bm x2 = bm ((M a0 1) - 1)) (Q 1 M) (Q 0 M)) (BR (bm (M a1 0) = 5) (inb x2 13 ∧ wX11_isIn (rd M (a0 + 5) x2) (M a1 2) M (fun r_8 M_7 => isB r_8 ∧ Q r_8 M_7)) (BR (bm (M a1 0) = 6) (BR (bm (M a0 2) ≤ 0) (Q 0 M) (BR (bm x2 = bm (M a0 2)) (Q 1 M) (Q 0 M))) (wX10_isBroken_J244 Q  a0 x2 M)))))))) (Q 0 M))
def rmX10_step : Room := { frames := 2, cells := 0, slots := 0, locals := 50 }
def wX10_step_L208 (Q : Mem → Prop) (E254 : Int → Mem → Prop) (a0 : Nat) (x1 : Int) (x2 : Int) : Nat → Int → Int → Mem → Prop
  | 0, _, _, _ => False
  | N + 1, x6, x7, M => BR (bm (M ((a0 - 89)) 6) ≤ bm x7) (E254 x6 M) (inb x7 10 ∧ wX10_isBroken a0 ((a0 - 89) + 41 + (bm x7).toNat) x1 x2 M (fun r_53 M_52 => BR (bm r_53 = 0) (LET (x7 + 1) (fun x7_54 => wX10_step_L208 Q E254 a0 x1 x2 N x6 x7_54 M_52)) (LET (iOr x6 (iShl 1 x7)) (fun x6_56 => LET (x7 + 1) (fun x7_57 => wX10_step_L208 Q E254 a0 x1 x2 N x6_56 x7_57 M_52)))))
def wX10_step_J113 (Q : Mem → Prop)  (a0 : Nat) (x1 : Int) (x2 : Int) (a3 : Nat) (x4 : Int) (x5 : Int) (M : Mem) : Prop := inb x1 12 ∧ LET (wr M (a0 + 1) x1 x2) (fun M_22 => inb x1 13 ∧ inb (x1 + 1) 13 ∧ LET (wr M_22 (a0 + 5) (x1 + 1) (iOr (rd M_22 (a0 + 5) x1) (iShl 1 x2))) (fun M_27 => inb x1 13 ∧ inb (x1 + 1) 13 ∧ LET (wr M_27 (a0 + 4) (x1 + 1) ((rd M_27 (a0 + 4) x1) + x4)) (fun M_32 => inb x1 13 ∧ inb x1 12 ∧ LET (wr M_32 (a0 + 2) x1 ((rd M_32 (a0 + 3) x1) + x5)) (fun M_37 => inb x1 12 ∧ inb (x1 + 1) 13 ∧ LET (wr M_37 (a0 + 3) (x1 + 1) ((rd M_37 (a0 + 2) x1) + (M_37 a3 0))) (fun M_42 => wX10_tire a0 x1 a3 x5 M_42 (fun M_43 => inb x1 13 ∧ LET (rd M_43 (a0 + 6) x1) (fun x6_46 => ∃ N_64, wX10_step_L208 Q (fun x6_59 M_60 => inb (x1 + 1) 13 ∧ LET (wr M_60 (a0 + 6) (x1 + 1) x6_59) (fun M_63 => Q M_63)) a0 x1 x2 N_64 x6_46 0 M_43)))))))
def wX10_step_J104 (Q : Mem → Prop)  (a0 : Nat) (x1 : Int) (x2 : Int) (a3 : Nat) (x4 : Int) (xs0 : Int) (M : Mem) : Prop := BR (bm x1 = 0) (wX10_step_J113 Q  a0 x1 x2 a3 x4 0 M) (wX10_step_J113 Q  a0 x1 x2 a3 x4 xs0 M)
def wX10_step_J70 (Q : Mem → Prop)  (a0 : Nat) (x1 : Int) (x2 : Int) (a3 : Nat) (xs0 : Int) (M : Mem) : Prop := BR (bm x1 = bm (M a0 2)) (wX10_step_J104 Q  a0 x1 x2 a3 xs0 (rd M ((a0 - 89) + 2) 2) M) (wX10_step_J104 Q  a0 x1 x2 a3 xs0 (xs0 * (rd M ((a0 - 89) + 2) 0)) M)
def wX10_step (a0 : Nat) (x1 : Int) (x2 : Int) (M : Mem) (Q : Mem → Prop) : Prop := wX11_within x1 0 ((M a0 1) - 1) M (fun r_2 M_1 => BR (bm r_2 = 0) (Q M_1) (wX11_within x2 0 ((M_1 ((a0 - 89)) 1) - 1) M_1 (fun r_5 M_4 => BR (bm r_5 = 0) (Q M_4) (inb x2 12 ∧ BR (bm x1 = 0) (wX10_step_J70 Q  a0 x1 x2 ((a0 - 89) + 9 + (bm x2).toNat) 0 M_4) (inb (x1 - 1) 12 ∧ inb (rd M_4 (a0 + 1) (x1 - 1)) 12 ∧ wX3_carriedTo ((a0 - 89) + 9 + (bm (rd M_4 (a0 + 1) (x1 - 1))).toNat) ((a0 - 89) + 9 + (bm x2).toNat) M_4 (fun r_17 M_16 => wX10_step_J70 Q  a0 x1 x2 ((a0 - 89) + 9 + (bm x2).toNat) r_17 M_16))))))
def rmX10_isNoneTooTired : Room := { frames := 1, cells := 0, slots := 0, locals := 22 }
def wX10_isNoneTooTired (a0 : Nat) (x1 : Int) (M : Mem) (Q : Int → Mem → Prop) : Prop := wX11_within x1 0 (M a0 1) M (fun r_2 M_1 => BR (bm r_2 = 0) (Q 0 M_1) (inb x1 13 ∧ BR (bm (rd M_1 ((a0 - 89) + 2) 3) < bm (rd M_1 (a0 + 7) x1)) (Q 0 M_1) (Q 1 M_1)))
def rmX10_isGood : Room := { frames := 2, cells := 0, slots := 0, locals := 43 }
def wX10_isGood (a0 : Nat) (x1 : Int) (M : Mem) (Q : Int → Mem → Prop) : Prop := wX10_isNoneTooTired a0 x1 M (fun r_2 M_1 => BR (bm r_2 = 0) (Q 0 M_1) (inb x1 13 ∧ BR (bm (rd M_1 (a0 + 6) x1) = 0) (Q 1 M_1) (Q 0 M_1)))
def rmX11_wayRound : Room := { frames := 0, cells := 0, slots := 0, locals := 0 }
def wX11_wayRound_J14 (Q : Int → Mem → Prop)  (xs0 : Int) (M : Mem) : Prop := BR (6 < bm xs0) (Q (12 - xs0) M) (Q xs0 M)
def wX11_wayRound (x0 : Int) (x1 : Int) (M : Mem) (Q : Int → Mem → Prop) : Prop := BR (bm x1 ≤ bm x0) (wX11_wayRound_J14 Q  (x0 - x1) M) (wX11_wayRound_J14 Q  (x1 - x0) M)
def rmX10_namesPair : Room := { frames := 1, cells := 0, slots := 0, locals := 22 }
def wX10_namesPair (a0 : Nat) (x1 : Int) (M : Mem) (Q : Int → Mem → Prop) : Prop := BR (bm x1 = 0) (Q 0 M) (BR (bm x1 = bm (M a0 2)) (Q 0 M) (inb (x1 - 1) 12 ∧ inb (rd M (a0 + 1) (x1 - 1)) 12 ∧ inb x1 12 ∧ inb (rd M (a0 + 1) x1) 12 ∧ LET (wr M (a0 + 10) 0 (M ((a0 - 89) + 9 + (bm (rd M (a0 + 1) (x1 - 1))).toNat) 2)) (fun M_14 => LET (wr M_14 (a0 + 10) 1 (M_14 ((a0 - 89) + 9 + (bm (rd M (a0 + 1) x1)).toNat) 2)) (fun M_16 => wX11_wayRound (M_16 ((a0 - 89) + 9 + (bm (rd M (a0 + 1) (x1 - 1))).toNat) 1) (M_16 ((a0 - 89) + 9 + (bm (rd M (a0 + 1) x1)).toNat) 1) M_16 (fun r_19 M_18 => LET (wr M_18 (a0 + 10) 2 r_19) (fun M_20 => inb (x1 + 1) 13 ∧ inb x1 13 ∧ LET (wr M_20 (a0 + 10) 3 ((rd M_20 (a0 + 4) (x1 + 1)) - (rd M_20 (a0 + 4) x1))) (fun M_26 => Q 1 M_26)))))))
def rmX10_namesSince : Room := { frames := 0, cells := 0, slots := 0, locals := 0 }
def wX10_namesSince_L22 (Q : Int → Mem → Prop) (E47 : Int → Mem → Prop) (a0 : Nat) (x1 : Int) (x2 : Int) : Nat → Int → Mem → Prop
  | 0, _, _ => False
  | N + 1, x3, M => BR (bm x3 < 0) (Q 0 M) (inb x3 12 ∧ inb (rd M (a0 + 1) x3) 12 ∧ BR (bm (M ((a0 - 89) + 9 + (bm (rd M (a0 + 1) x3)).toNat) 1) = bm x2) (E47 x3 M) (LET (x3 + (-1)) (fun x3_15 => wX10_namesSince_L22 Q E47 a0 x1 x2 N x3_15 M)))
def wX10_namesSince (a0 : Nat) (x1 : Int) (M : Mem) (Q : Int → Mem → Prop) : Prop := inb x1 12 ∧ inb (rd M (a0 + 1) x1) 12 ∧ LET (M ((a0 - 89) + 9 + (bm (rd M (a0 + 1) x1)).toNat) 1) (fun x2_7 => LET (x1 - 1) (fun x3_8 => ∃ N_25, wX10_namesSince_L22 Q (fun x3_17 M_18 => inb x1 12 ∧ inb (x3_17 + 1) 13 ∧ LET (wr M_18 (a0 + 10) 0 ((rd M_18 (a0 + 2) x1) - (rd M_18 (a0 + 3) (x3_17 + 1)))) (fun M_24 => Q 1 M_24)) a0 x1 x2_7 N_25 x3_8 M))
def rmX10_namesPlace : Room := { frames := 0, cells := 0, slots := 0, locals := 0 }
def wX10_namesPlace_J113 (Q : Int → Mem → Prop)  (xs0 : Int) (xs1 : Int) (as2 : Nat) (M : Mem) : Prop := inb xs1 5 ∧ LET (wr M as2 xs1 xs0) (fun M_18 => Q 1 M_18)
def wX10_namesPlace_J98 (Q : Int → Mem → Prop)  (a0 : Nat) (x3 : Int) (xs0 : Int) (xs1 : Int) (as2 : Nat) (M : Mem) : Prop := inb xs1 5 ∧ LET (wr M as2 xs1 xs0) (fun M_15 => BR (bm x3 = 0) (wX10_namesPlace_J113 Q  0 4 (a0 + 10) M_15) (wX10_namesPlace_J113 Q  1 4 (a0 + 10) M_15))
def wX10_namesPlace_J43 (Q : Int → Mem → Prop)  (a0 : Nat) (x1 : Int) (x2 : Int) (xs0 : Int) (M : Mem) : Prop := LET (wr M (a0 + 10) 0 x1) (fun M_2 => LET (wr M_2 (a0 + 10) 1 (M_2 a0 1)) (fun M_4 => inb x1 12 ∧ inb (rd M_4 (a0 + 1) x1) 12 ∧ LET (wr M_4 (a0 + 10) 2 (M_4 ((a0 - 89) + 9 + (bm (rd M_4 (a0 + 1) x1)).toNat) 2)) (fun M_12 => BR (bm x2 = 0) (wX10_namesPlace_J98 Q  a0 xs0 0 3 (a0 + 10) M_12) (wX10_namesPlace_J98 Q  a0 xs0 1 3 (a0 + 10) M_12))))
def wX10_namesPlace_J38 (Q : Int → Mem → Prop)  (a0 : Nat) (x1 : Int) (x2 : Int) (M : Mem) : Prop := wX10_namesPlace_J43 Q  a0 x1 x2 1 M
def wX10_namesPlace_J25 (Q : Int → Mem → Prop)  (a0 : Nat) (x1 : Int) (xs0 : Int) (M : Mem) : Prop := BR (bm x1 = 0) (wX10_namesPlace_J38 Q  a0 x1 xs0 M) (BR (bm x1 = bm (M a0 2)) (wX10_namesPlace_J38 Q  a0 x1 xs0 M) (wX10_namesPlace_J43 Q  a0 x1 xs0 0 M))
def wX10_namesPlace_J20 (Q : Int → Mem → Prop)  (a0 : Nat) (x1 : Int) (M : Mem) : Prop := wX10_namesPlace_J25 Q  a0 x1 1 M
def wX10_namesPlace (a0 : Nat) (x1 : Int) (M : Mem) (Q : Int → Mem → Prop) : Prop := BR (bm x1 = bm ((M a0 1) - 1)) (wX10_namesPlace_J20 Q  a0 x1 M) (BR (bm x1 = bm ((M a0 2) - 1)) (wX10_namesPlace_J20 Q  a0 x1 M) (wX10_namesPlace_J25 Q  a0 x1 0 M))
def rmX10_namesTired : Room := { frames := 1, cells := 0, slots := 0, locals := 21 }
def wX10_namesTired_L23 (Q : Int → Mem → Prop) (E64 : Int → Mem → Prop) (a0 : Nat) (x1 : Int) (x2 : Int) : Nat → Int → Int → Mem → Prop
  | 0, _, _, _ => False
  | N + 1, x3, x4, M => BR (8 ≤ bm x4) (E64 x3 M) (wX11_isIn x2 x4 M (fun r_9 M_8 => BR (bm r_9 = 0) (LET (x4 + 1) (fun x4_10 => wX10_namesTired_L23 Q E64 a0 x1 x2 N x3 x4_10 M_8)) (inb (((x1 + 1) * 8) + x4) 104 ∧ wJ9_max_7cf53 x3 (rd M_8 (a0 + 8) (((x1 + 1) * 8) + x4)) M_8 (fun r_15 M_14 => LET (x4 + 1) (fun x4_16 => wX10_namesTired_L23 Q E64 a0 x1 x2 N r_15 x4_16 M_14)))))
def wX10_namesTired (a0 : Nat) (x1 : Int) (M : Mem) (Q : Int → Mem → Prop) : Prop := inb x1 12 ∧ inb (rd M (a0 + 1) x1) 12 ∧ LET (M ((a0 - 89) + 9 + (bm (rd M (a0 + 1) x1)).toNat) 3) (fun x2_7 => ∃ N_22, wX10_namesTired_L23 Q (fun x3_18 M_19 => LET (wr M_19 (a0 + 10) 0 x3_18) (fun M_21 => Q 1 M_21)) a0 x1 x2_7 N_22 0 0 M)
def rmX10_worthAt : Room := { frames := 2, cells := 0, slots := 0, locals := 48 }
def wX10_worthAt_J124 (Q : Int → Mem → Prop)  (a0 : Nat) (a1 : Nat) (xs0 : Int) (M : Mem) : Prop := BR (bm (M a1 0) = 5) (Q (xs0 - (rd M (a0 + 10) 3)) M) (Q xs0 M)
def wX10_worthAt_J94 (Q : Int → Mem → Prop)  (a0 : Nat) (a1 : Nat) (x3 : Int) (x4 : Int) (M : Mem) : Prop := BR (bm x3 = 0) (Q 0 M) (wX1_hasText a1 M (fun r_4 M_3 => BR (bm r_4 = 0) (wX10_worthAt_J124 Q  a0 a1 x4 M_3) (wX1_comesTo a1 (a0 + 10) (a0 + 11) M_3 (fun r_9 M_8 => wX10_worthAt_J124 Q  a0 a1 r_9 M_8))))
def wX10_worthAt_J40 (Q : Int → Mem → Prop)  (a0 : Nat) (a1 : Nat) (x2 : Int) (x4 : Int) (M : Mem) : Prop := wX10_namesPair a0 x2 M (fun r_2 M_1 => wX10_worthAt_J94 Q  a0 a1 r_2 x4 M_1)
def wX10_worthAt (a0 : Nat) (a1 : Nat) (x2 : Int) (M : Mem) (Q : Int → Mem → Prop) : Prop := BR (bm (M a1 0) = 1) (wX10_worthAt_J40 Q  a0 a1 x2 0 M) (BR (bm (M a1 0) = 2) (wX10_namesSince a0 x2 M (fun r_11 M_10 => LET (rd M_10 (a0 + 10) 0) (fun x4_13 => wX10_worthAt_J94 Q  a0 a1 r_11 x4_13 M_10))) (BR (bm (M a1 0) = 3) (wX10_namesPlace a0 x2 M (fun r_15 M_14 => wX10_worthAt_J94 Q  a0 a1 r_15 0 M_14)) (BR (bm (M a1 0) = 4) (wX10_namesTired a0 x2 M (fun r_17 M_16 => LET (rd M_16 (a0 + 10) 0) (fun x4_19 => wX10_worthAt_J94 Q  a0 a1 r_17 x4_19 M_16))) (BR (bm (M a1 0) = 5) (wX10_worthAt_J40 Q  a0 a1 x2 0 M) (wX10_worthAt_J94 Q  a0 a1 0 0 M)))))
def rmX10_weigh : Room := { frames := 3, cells := 0, slots := 0, locals := 73 }
def wX10_weigh_L22 (Q : Mem → Prop)  (a0 : Nat) (x1 : Int) (x2 : Int) : Nat → Int → Mem → Prop
  | 0, _, _ => False
  | N + 1, x3, M => BR (bm (M ((a0 - 89)) 4) ≤ bm x3) (Q M) (wX11_isIn (M a0 3) x3 M (fun r_6 M_5 => BR (bm r_6 = 0) (LET (x3 + 1) (fun x3_7 => wX10_weigh_L22 Q  a0 x1 x2 N x3_7 M_5)) (inb (x2 + x3) 130 ∧ inb x3 10 ∧ wX10_worthAt a0 ((a0 - 89) + 21 + 2 * (bm x3).toNat) x1 M_5 (fun r_17 M_16 => inb ((x2 + 10) + x3) 130 ∧ LET (wr M_16 (a0 + 9) ((x2 + 10) + x3) ((rd M_5 (a0 + 9) (x2 + x3)) + r_17)) (fun M_19 => LET (x3 + 1) (fun x3_20 => wX10_weigh_L22 Q  a0 x1 x2 N x3_20 M_19))))))
def wX10_weigh (a0 : Nat) (x1 : Int) (M : Mem) (Q : Mem → Prop) : Prop := wX11_within x1 0 ((M a0 1) - 1) M (fun r_2 M_1 => BR (bm r_2 = 0) (Q M_1) (LET (x1 * 10) (fun x2_3 => ∃ N_22, wX10_weigh_L22 Q  a0 x1 x2_3 N_22 0 M_1)))
def rmX6_goOnGood (d : Nat) : Room := { frames := 4 + d, cells := 0, slots := 0, locals := 96 + 24 * d }
def wX6_goOnGood_L16 (Γ : Nat → List Int → Mem → (Int → Mem → Prop) → Prop) (Q : Mem → Prop)  (a0 : Nat) (x1 : Int) (x2 : Int) : Nat → Int → Mem → Prop
  | 0, _, _ => False
  | N + 1, x3, M => BR (bm (M a0 5) ≤ bm x3) (Q M) (inb x3 12 ∧ LET (rd M (a0 + 1) x3) (fun x4_3 => inb x1 13 ∧ wX11_isIn (rd M ((a0 - 12) + 5) x1) x4_3 M (fun r_8 M_7 => BR (bm r_8 = 0) (wX10_step ((a0 - 12)) x1 x4_3 M_7 (fun M_10 => wX10_isGood ((a0 - 12)) (x1 + 1) M_10 (fun r_13 M_12 => BR (bm r_13 = 0) (LET (x3 + 1) (fun x3_14 => wX6_goOnGood_L16 Γ Q  a0 x1 x2 N x3_14 M_12)) (wX10_weigh ((a0 - 12)) x1 M_12 (fun M_17 => Γ 0 [x1 + 1, x2] M_17 (fun _ M_18 => LET (x3 + 1) (fun x3_19 => wX6_goOnGood_L16 Γ Q  a0 x1 x2 N x3_19 M_18))))))) (LET (x3 + 1) (fun x3_21 => wX6_goOnGood_L16 Γ Q  a0 x1 x2 N x3_21 M_7)))))
def wbX6_goOnGood (Γ : Nat → List Int → Mem → (Int → Mem → Prop) → Prop) (a0 : Nat) (x1 : Int) (x2 : Int) (M : Mem) (Q : Mem → Prop) : Prop := BR (bm x1 < bm (M a0 5)) (∃ N_23, wX6_goOnGood_L16 Γ Q  a0 x1 x2 N_23 0 M) (wX6_takeGood a0 x2 M (fun M_24 => Q M_24))
def wGX6_goOnGood (a0 : Nat) : Nat → Nat → List Int → Mem → (Int → Mem → Prop) → Prop
  | 0, _, _, _, _ => False
  | d + 1, k, xs, M, Q => match k with
    | _ => wbX6_goOnGood (wGX6_goOnGood a0 d) a0 (xs.getD 0 0) (xs.getD 1 0) M (Q 0)
def wX6_goOnGood  (a0 : Nat) (x1 : Int) (x2 : Int) (M : Mem) (Q : Mem → Prop) : Prop := wGX6_goOnGood a0 8 0 [x1, x2] M (fun _ => Q)
def rmX6_find : Room := { frames := 13, cells := 0, slots := 0, locals := 312 }
def wX6_find_L31 (Q : Mem → Prop) (E64 : Mem → Prop) (a0 : Nat) (x2 : Int) : Nat → Int → Mem → Prop
  | 0, _, _ => False
  | N + 1, x3, M => BR (bm (M a0 5) ≤ bm x3) (E64  M) (wX10_start ((a0 - 12)) (M a0 5) x3 x2 M (fun M_6 => wX6_goOnGood a0 0 x3 M_6 (fun M_7 => LET (x3 + 1) (fun x3_8 => wX6_find_L31 Q E64 a0 x2 N x3_8 M_7))))
def wX6_find_J16 (Q : Mem → Prop)  (a0 : Nat) (x1 : Int) (M : Mem) : Prop := wX6_gather a0 x1 M (fun M_1 => wX0_likingsOn ((a0 - 101)) M_1 (fun r_4 M_3 => ∃ N_12, wX6_find_L31 Q (fun M_10 => LET (up M_10 a0 3 1) (fun M_11 => Q M_11)) a0 r_4 N_12 0 M_3))
def wX6_find (a0 : Nat) (x1 : Int) (M : Mem) (Q : Mem → Prop) : Prop := BR (bm (M a0 3) = 0) (wX6_find_J16 Q  a0 x1 M) (BR (bm (M a0 4) = bm x1) (Q M) (wX6_find_J16 Q  a0 x1 M))
def rmX6_breakingsBegun : Room := { frames := 0, cells := 1, slots := 1024, locals := 0 }
def wX6_breakingsBegun_L18 (Q : Nat → Mem → Prop)  (a0 : Nat) : Nat → Int → Mem → Prop
  | 0, _, _ => False
  | N + 1, x1, M => (0 < (M a0 13).toNat ∧ M 0 (M a0 13).toNat = kA 2 1024) ∧ BR (1024 ≤ bm x1) ((0 < (M a0 13).toNat ∧ M 0 (M a0 13).toNat = kA 2 1024) ∧ Q ((M a0 13).toNat) M) ((0 < (M a0 13).toNat ∧ M 0 (M a0 13).toNat = kA 2 1024) ∧ inb x1 1024 ∧ LET (wr M ((M a0 13).toNat) x1 0) (fun M_5 => LET (x1 + 1) (fun x1_6 => wX6_breakingsBegun_L18 Q  a0 N x1_6 M_5)))
def wX6_breakingsBegun_J16 (Q : Nat → Mem → Prop)  (a0 : Nat) (M : Mem) : Prop := ∃ N_8, wX6_breakingsBegun_L18 Q  a0 N_8 0 M
def wX6_breakingsBegun (a0 : Nat) (M : Mem) (Q : Nat → Mem → Prop) : Prop := BR (M a0 13 = 0) (LET (al M (kA 2 1024)) (fun M_9 => (0 < nx M ∧ M_9 0 (nx M) = kA 2 1024) ∧ LET (up M_9 a0 13 (((nx M) : Nat) : Int)) (fun M_12 => wX6_breakingsBegun_J16 Q  a0 M_12))) (wX6_breakingsBegun_J16 Q  a0 M)
def rmX6_goOnAny (d : Nat) : Room := { frames := 3 + d, cells := 0, slots := 0, locals := 77 + 24 * d }
def wX6_goOnAny_L40 (Γ : Nat → List Int → Mem → (Int → Mem → Prop) → Prop) (Q : Mem → Prop)  (a0 : Nat) (x1 : Int) (a2 : Nat) : Nat → Int → Mem → Prop
  | 0, _, _ => False
  | N + 1, x3, M => BR (bm (M a0 5) ≤ bm x3) (Q M) (inb x3 12 ∧ LET (rd M (a0 + 1) x3) (fun x4_3 => inb x1 13 ∧ wX11_isIn (rd M ((a0 - 12) + 5) x1) x4_3 M (fun r_8 M_7 => BR (bm r_8 = 0) (wX10_step ((a0 - 12)) x1 x4_3 M_7 (fun M_10 => wX10_isNoneTooTired ((a0 - 12)) (x1 + 1) M_10 (fun r_13 M_12 => BR (bm r_13 = 0) (LET (x3 + 1) (fun x3_14 => wX6_goOnAny_L40 Γ Q  a0 x1 a2 N x3_14 M_12)) (Γ 0 [x1 + 1] M_12 (fun _ M_16 => LET (x3 + 1) (fun x3_17 => wX6_goOnAny_L40 Γ Q  a0 x1 a2 N x3_17 M_16)))))) (LET (x3 + 1) (fun x3_19 => wX6_goOnAny_L40 Γ Q  a0 x1 a2 N x3_19 M_7)))))
def wbX6_goOnAny (Γ : Nat → List Int → Mem → (Int → Mem → Prop) → Prop) (a0 : Nat) (x1 : Int) (a2 : Nat) (M : Mem) (Q : Mem → Prop) : Prop := BR (bm x1 < bm (M a0 5)) (∃ N_21, wX6_goOnAny_L40 Γ Q  a0 x1 a2 N_21 0 M) (inb (M a0 5) 13 ∧ LET (rd M ((a0 - 12) + 6) (M a0 5)) (fun x3_25 => wX11_within x3_25 0 (1024 - 1) M (fun r_27 M_26 => BR (bm r_27 = 0) (Q M_26) (inb x3_25 1024 ∧ LET (wr M_26 a2 x3_25 1) (fun M_29 => Q M_29)))))
def wGX6_goOnAny (a0 : Nat) (a2 : Nat) : Nat → Nat → List Int → Mem → (Int → Mem → Prop) → Prop
  | 0, _, _, _, _ => False
  | d + 1, k, xs, M, Q => match k with
    | _ => wbX6_goOnAny (wGX6_goOnAny a0 a2 d) a0 (xs.getD 0 0) a2 M (Q 0)
def wX6_goOnAny  (a0 : Nat) (x1 : Int) (a2 : Nat) (M : Mem) (Q : Mem → Prop) : Prop := wGX6_goOnAny a0 a2 8 0 [x1] M (fun _ => Q)
def rmX6_spread : Room := { frames := 1, cells := 0, slots := 0, locals := 21 }
def wX6_spread_L15 (Q : Mem → Prop) (E51 : Mem → Prop) (a0 : Nat) (a1 : Nat) (x2 : Int) : Nat → Int → Mem → Prop
  | 0, _, _ => False
  | N + 1, x3, M => BR (1024 ≤ bm x3) (E51  M) (wX11_isIn x3 x2 M (fun r_3 M_2 => BR (bm r_3 = 0) (LET (x3 + 1) (fun x3_4 => wX6_spread_L15 Q E51 a0 a1 x2 N x3_4 M_2)) (inb (iAnd x3 (iXor (iShl 1 x2) ((-1)))) 1024 ∧ BR (bm (rd M_2 a1 (iAnd x3 (iXor (iShl 1 x2) ((-1))))) = 0) (LET (x3 + 1) (fun x3_7 => wX6_spread_L15 Q E51 a0 a1 x2 N x3_7 M_2)) (inb x3 1024 ∧ LET (wr M_2 a1 x3 1) (fun M_10 => LET (x3 + 1) (fun x3_11 => wX6_spread_L15 Q E51 a0 a1 x2 N x3_11 M_10))))))
def wX6_spread_L2 (Q : Mem → Prop)  (a0 : Nat) (a1 : Nat) : Nat → Int → Mem → Prop
  | 0, _, _ => False
  | N + 1, x2, M => BR (bm (M ((a0 - 101)) 6) ≤ bm x2) (Q M) (∃ N_16, wX6_spread_L15 Q (fun M_13 => LET (x2 + 1) (fun x2_14 => wX6_spread_L2 Q  a0 a1 N x2_14 M_13)) a0 a1 x2 N_16 0 M)
def wX6_spread (a0 : Nat) (a1 : Nat) (M : Mem) (Q : Mem → Prop) : Prop := ∃ N_17, wX6_spread_L2 Q  a0 a1 N_17 0 M
def rmX6_barring : Room := { frames := 12, cells := 1, slots := 1024, locals := 293 }
def wX6_barring_L7 (Q : Int → Mem → Prop) (E40 : Mem → Prop) (a0 : Nat) (a1 : Nat) : Nat → Int → Mem → Prop
  | 0, _, _ => False
  | N + 1, x2, M => BR (bm (M a0 5) ≤ bm x2) (E40  M) (wX10_start ((a0 - 12)) (M a0 5) x2 0 M (fun M_5 => wX6_goOnAny a0 0 a1 M_5 (fun M_6 => LET (x2 + 1) (fun x2_7 => wX6_barring_L7 Q E40 a0 a1 N x2_7 M_6))))
def wX6_barring_L62 (Q : Int → Mem → Prop)  (a1 : Nat) (x2 : Int) : Nat → Int → Int → Mem → Prop
  | 0, _, _, _ => False
  | N + 1, x3, x4, M => BR (bm x2 < bm x4) (Q x3 M) (inb (iAnd x2 (iXor x4 ((-1)))) 1024 ∧ BR (bm (rd M a1 (iAnd x2 (iXor x4 ((-1))))) = 0) (wJ6_bitCount_0f7a4 x4 M (fun r_17 M_16 => wJ6_bitCount_0f7a4 x3 M_16 (fun r_19 M_18 => BR (bm r_19 ≤ bm r_17) (LET (x4 + 1) (fun x4_20 => wX6_barring_L62 Q  a1 x2 N x3 x4_20 M_18)) (LET (x4 + 1) (fun x4_22 => wX6_barring_L62 Q  a1 x2 N x4 x4_22 M_18))))) (LET (x4 + 1) (fun x4_14 => wX6_barring_L62 Q  a1 x2 N x3 x4_14 M)))
def wX6_barring (a0 : Nat) (M : Mem) (Q : Int → Mem → Prop) : Prop := wX6_breakingsBegun a0 M (fun r_2 M_1 => (0 < r_2 ∧ M_1 0 r_2 = kA 2 1024) ∧ ∃ N_25, wX6_barring_L7 Q (fun M_9 => wX6_spread a0 r_2 M_9 (fun M_10 => LET ((iShl 1 (M_10 ((a0 - 101)) 6)) - 1) (fun x2_12 => ∃ N_24, wX6_barring_L62 Q  r_2 x2_12 N_24 x2_12 0 M_10))) a0 r_2 N_25 0 M_1)
def rmX10_along : Room := { frames := 4, cells := 0, slots := 0, locals := 96 }
def wX10_along_L15 (Q : Mem → Prop)  (a0 : Nat) (a1 : Nat) : Nat → Int → Mem → Prop
  | 0, _, _ => False
  | N + 1, x3, M => BR (bm (M a0 1) ≤ bm x3) (Q M) (inb x3 12 ∧ wX10_step a0 x3 (rd M (a1 + 1) x3) M (fun M_4 => wX10_weigh a0 x3 M_4 (fun M_5 => LET (x3 + 1) (fun x3_6 => wX10_along_L15 Q  a0 a1 N x3_6 M_5))))
def wX10_along (a0 : Nat) (a1 : Nat) (x2 : Int) (M : Mem) (Q : Mem → Prop) : Prop := wX10_start a0 (M a1 1) (M a1 2) x2 M (fun M_1 => ∃ N_8, wX10_along_L15 Q  a0 a1 N_8 0 M_1)
def rmX10_isGoodFrom : Room := { frames := 4, cells := 0, slots := 0, locals := 96 }
def wX10_isGoodFrom_L2 (Q : Int → Mem → Prop)  (a0 : Nat) (a1 : Nat) : Nat → Int → Mem → Prop
  | 0, _, _ => False
  | N + 1, x3, M => BR (bm (M a0 1) ≤ bm x3) (Q 1 M) (inb x3 12 ∧ wX10_step a0 x3 (rd M (a1 + 1) x3) M (fun M_3 => wX10_isGood a0 (x3 + 1) M_3 (fun r_5 M_4 => BR (bm r_5 = 0) (Q 0 M_4) (wX10_weigh a0 x3 M_4 (fun M_6 => LET (x3 + 1) (fun x3_7 => wX10_isGoodFrom_L2 Q  a0 a1 N x3_7 M_6))))))
def wX10_isGoodFrom (a0 : Nat) (a1 : Nat) (x2 : Int) (M : Mem) (Q : Int → Mem → Prop) : Prop := ∃ N_9, wX10_isGoodFrom_L2 Q  a0 a1 N_9 x2 M
def rmX6_changeOfTwo : Room := { frames := 5, cells := 0, slots := 0, locals := 119 }
def wX6_changeOfTwo_J106 (Q : Int → Mem → Prop) (C46 : Int → Int → Int → Mem → Prop) (a0 : Nat) (a1 : Nat) (l2 : Int) (x4 : Int) (x5 : Int) (x6 : Int) (M : Mem) : Prop := wX5_swap a1 x5 x6 M (fun M_15 => LET (x6 + 1) (fun x6_16 => C46 l2 x4 x6_16 M_15))
def wX6_changeOfTwo_L46 (Q : Int → Mem → Prop) (E120 : Int → Int → Mem → Prop) (a0 : Nat) (a1 : Nat) (x5 : Int) : Nat → Int → Int → Int → Mem → Prop
  | 0, _, _, _, _ => False
  | N + 1, l2, x4, x6, M => BR (bm (M a1 1) ≤ bm x6) (E120 l2 x4 M) (wX5_swap a1 x5 x6 M (fun M_11 => wX10_isGoodFrom ((a0 - 12)) a1 x5 M_11 (fun r_14 M_13 => BR (bm r_14 = 0) (wX6_changeOfTwo_J106 Q (fun l2' x4' x6' M' => wX6_changeOfTwo_L46 Q E120 a0 a1 x5 N l2' x4' x6' M') a0 a1 l2 x4 x5 x6 M_13) (wX10_total ((a0 - 12)) M_13 (fun r_20 M_19 => BR (bm (lCmp r_20 l2) ≤ 0) (wX6_changeOfTwo_J106 Q (fun l2' x4' x6' M' => wX6_changeOfTwo_L46 Q E120 a0 a1 x5 N l2' x4' x6' M') a0 a1 l2 x4 x5 x6 M_19) (wX10_total ((a0 - 12)) M_19 (fun r_23 M_22 => LET ((100 * x5) + x6) (fun x4_24 => wX6_changeOfTwo_J106 Q (fun l2' x4' x6' M' => wX6_changeOfTwo_L46 Q E120 a0 a1 x5 N l2' x4' x6' M') a0 a1 r_23 x4_24 x5 x6 M_22))))))))
def wX6_changeOfTwo_L29 (Q : Int → Mem → Prop)  (a0 : Nat) (a1 : Nat) : Nat → Int → Int → Int → Mem → Prop
  | 0, _, _, _, _ => False
  | N + 1, l2, x4, x5, M => BR (bm (M a1 1) ≤ bm (x5 + 1)) (Q x4 M) (LET (x5 + 1) (fun x6_10 => ∃ N_36, wX6_changeOfTwo_L46 Q (fun l2_25 x4_26 M_27 => inb x5 12 ∧ wX10_step ((a0 - 12)) x5 (rd M_27 (a1 + 1) x5) M_27 (fun M_31 => wX10_weigh ((a0 - 12)) x5 M_31 (fun M_33 => LET (x5 + 1) (fun x5_34 => wX6_changeOfTwo_L29 Q  a0 a1 N l2_25 x4_26 x5_34 M_33)))) a0 a1 x5 N_36 l2 x4 x6_10 M))
def wX6_changeOfTwo (a0 : Nat) (a1 : Nat) (M : Mem) (Q : Int → Mem → Prop) : Prop := wX0_likingsOn ((a0 - 101)) M (fun r_4 M_3 => wX10_along ((a0 - 12)) a1 r_4 M_3 (fun M_5 => wX10_total ((a0 - 12)) M_5 (fun r_8 M_7 => LET ((-1)) (fun x4_9 => ∃ N_37, wX6_changeOfTwo_L29 Q  a0 a1 N_37 r_8 x4_9 0 M_7))))
def rmX6_takeMoved : Room := { frames := 3, cells := 0, slots := 0, locals := 67 }
def wX6_takeMoved_J40 (Q : Mem → Prop)  (a0 : Nat) (x1 : Int) (x2 : Int) (l3 : Int) (M : Mem) : Prop := LET (up M a0 6 1) (fun M_4 => LET (up M_4 a0 10 x2) (fun M_5 => LET (up M_5 a0 9 l3) (fun M_6 => wX6_keepFound a0 x1 M_6 (fun M_7 => Q M_7))))
def wX6_takeMoved (a0 : Nat) (x1 : Int) (x2 : Int) (M : Mem) (Q : Mem → Prop) : Prop := wX10_total ((a0 - 12)) M (fun r_3 M_2 => BR (bm (M_2 a0 6) = 0) (wX6_takeMoved_J40 Q  a0 x1 x2 r_3 M_2) (BR (bm x2 < bm (M_2 a0 10)) (wX6_takeMoved_J40 Q  a0 x1 x2 r_3 M_2) (BR (bm x2 = bm (M_2 a0 10)) (BR (bm (lCmp r_3 (M_2 a0 9)) ≤ 0) (Q M_2) (wX6_takeMoved_J40 Q  a0 x1 x2 r_3 M_2)) (Q M_2))))
def rmX6_passedBy : Room := { frames := 0, cells := 0, slots := 0, locals := 0 }
def wX6_passedBy_L5 (Q : Int → Mem → Prop)  (a0 : Nat) (x1 : Int) (x2 : Int) : Nat → Int → Int → Mem → Prop
  | 0, _, _, _ => False
  | N + 1, x3, x4, M => BR (bm x2 ≤ bm x4) (Q x3 M) (inb x4 12 ∧ inb (rd M ((a0 - 12) + 1) x4) 12 ∧ inb x1 12 ∧ BR (bm (rd M (a0 + 4) (rd M ((a0 - 12) + 1) x4)) ≤ bm (rd M (a0 + 4) x1)) (LET (x4 + 1) (fun x4_8 => wX6_passedBy_L5 Q  a0 x1 x2 N x3 x4_8 M)) (LET (x3 + 1) (fun x3_10 => LET (x4 + 1) (fun x4_12 => wX6_passedBy_L5 Q  a0 x1 x2 N x3_10 x4_12 M))))
def wX6_passedBy (a0 : Nat) (x1 : Int) (x2 : Int) (M : Mem) (Q : Int → Mem → Prop) : Prop := ∃ N_14, wX6_passedBy_L5 Q  a0 x1 x2 N_14 0 0 M
def rmX6_goOnMoving (d : Nat) : Room := { frames := 4 + d, cells := 0, slots := 0, locals := 96 + 26 * d }
def wX6_goOnMoving_J83 (Γ : Nat → List Int → Mem → (Int → Mem → Prop) → Prop) (Q : Mem → Prop) (C18 : Int → Mem → Prop) (a0 : Nat) (x1 : Int) (x2 : Int) (x3 : Int) (x4 : Int) (x5 : Int) (x6 : Int) (M : Mem) : Prop := wX10_step ((a0 - 12)) x1 x5 M (fun M_15 => wX10_isGood ((a0 - 12)) (x1 + 1) M_15 (fun r_18 M_17 => BR (bm r_18 = 0) (LET (x4 + 1) (fun x4_19 => C18 x4_19 M_17)) (wX10_weigh ((a0 - 12)) x1 M_17 (fun M_22 => Γ 0 [x1 + 1, x2, x6] M_22 (fun _ M_23 => LET (x4 + 1) (fun x4_24 => C18 x4_24 M_23))))))
def wX6_goOnMoving_L18 (Γ : Nat → List Int → Mem → (Int → Mem → Prop) → Prop) (Q : Mem → Prop)  (a0 : Nat) (x1 : Int) (x2 : Int) (x3 : Int) : Nat → Int → Mem → Prop
  | 0, _, _ => False
  | N + 1, x4, M => BR (bm (M a0 5) ≤ bm x4) (Q M) (inb x4 12 ∧ LET (rd M (a0 + 1) x4) (fun x5_3 => wX6_passedBy a0 x5_3 x1 M (fun r_5 M_4 => LET (x3 + r_5) (fun x6_6 => inb x1 13 ∧ wX11_isIn (rd M_4 ((a0 - 12) + 5) x1) x5_3 M_4 (fun r_11 M_10 => BR (bm r_11 = 0) (BR (bm (M_10 a0 6) ≤ 0) (wX6_goOnMoving_J83 Γ Q (fun x4' M' => wX6_goOnMoving_L18 Γ Q  a0 x1 x2 x3 N x4' M') a0 x1 x2 x3 x4 x5_3 x6_6 M_10) (BR (bm x6_6 ≤ bm (M_10 a0 10)) (wX6_goOnMoving_J83 Γ Q (fun x4' M' => wX6_goOnMoving_L18 Γ Q  a0 x1 x2 x3 N x4' M') a0 x1 x2 x3 x4 x5_3 x6_6 M_10) (LET (x4 + 1) (fun x4_26 => wX6_goOnMoving_L18 Γ Q  a0 x1 x2 x3 N x4_26 M_10)))) (LET (x4 + 1) (fun x4_12 => wX6_goOnMoving_L18 Γ Q  a0 x1 x2 x3 N x4_12 M_10)))))))
def wbX6_goOnMoving (Γ : Nat → List Int → Mem → (Int → Mem → Prop) → Prop) (a0 : Nat) (x1 : Int) (x2 : Int) (x3 : Int) (M : Mem) (Q : Mem → Prop) : Prop := BR (bm x1 < bm (M a0 5)) (∃ N_28, wX6_goOnMoving_L18 Γ Q  a0 x1 x2 x3 N_28 0 M) (wX6_takeMoved a0 x2 x3 M (fun M_29 => Q M_29))
def wGX6_goOnMoving (a0 : Nat) : Nat → Nat → List Int → Mem → (Int → Mem → Prop) → Prop
  | 0, _, _, _, _ => False
  | d + 1, k, xs, M, Q => match k with
    | _ => wbX6_goOnMoving (wGX6_goOnMoving a0 d) a0 (xs.getD 0 0) (xs.getD 1 0) (xs.getD 2 0) M (Q 0)
def wX6_goOnMoving  (a0 : Nat) (x1 : Int) (x2 : Int) (x3 : Int) (M : Mem) (Q : Mem → Prop) : Prop := wGX6_goOnMoving a0 8 0 [x1, x2, x3] M (fun _ => Q)
def rmX6_moveLeast : Room := { frames := 13, cells := 0, slots := 0, locals := 330 }
def wX6_moveLeast_L5 (Q : Mem → Prop) (E51 : Int → Mem → Prop) (a0 : Nat) (a1 : Nat) (x2 : Int) : Nat → Int → Int → Mem → Prop
  | 0, _, _, _ => False
  | N + 1, x3, x4, M => BR (bm (M a1 1) ≤ bm x4) (E51 x3 M) (inb x4 12 ∧ LET (rd M (a1 + 1) x4) (fun x5_3 => inb x5_3 12 ∧ LET (wr M (a0 + 4) x5_3 x4) (fun M_6 => BR (bm x4 = bm x2) (LET (x4 + 1) (fun x4_7 => wX6_moveLeast_L5 Q E51 a0 a1 x2 N x3 x4_7 M_6)) (LET (iOr x3 (iShl 1 x5_3)) (fun x3_9 => LET (x4 + 1) (fun x4_10 => wX6_moveLeast_L5 Q E51 a0 a1 x2 N x3_9 x4_10 M_6))))))
def wX6_moveLeast_J96 (Q : Mem → Prop)  (a0 : Nat) (x4 : Int) (M : Mem) : Prop := wX0_likingsOn ((a0 - 101)) M (fun r_19 M_18 => wX10_start ((a0 - 12)) (M a0 5) x4 r_19 M_18 (fun M_20 => wX6_goOnMoving a0 0 x4 0 M_20 (fun M_21 => Q M_21)))
def wX6_moveLeast_J82 (Q : Mem → Prop)  (a0 : Nat) (xs0 : Int) (M : Mem) : Prop := BR (bm xs0 < bm (M a0 5)) (wX6_moveLeast_J96 Q  a0 xs0 M) (wX6_moveLeast_J96 Q  a0 0 M)
def wX6_moveLeast (a0 : Nat) (a1 : Nat) (x2 : Int) (M : Mem) (Q : Mem → Prop) : Prop := ∃ N_22, wX6_moveLeast_L5 Q (fun x3_12 M_13 => LET (up M_13 a0 3 0) (fun M_14 => wX6_gather a0 x3_12 M_14 (fun M_15 => BR (bm (M_15 a1 2) ≤ bm x2) (wX6_moveLeast_J82 Q  a0 (M_15 a1 2) M_15) (wX6_moveLeast_J82 Q  a0 ((M_15 a1 2) - 1) M_15)))) a0 a1 x2 N_22 0 0 M
def rmX7_leastBy : Room := { frames := 2, cells := 0, slots := 0, locals := 41 }
def wX7_leastBy (a0 : Nat) (a1 : Nat) (x2 : Int) (x3 : Int) (x4 : Int) (M : Mem) (Q : Int → Mem → Prop) : Prop := LET (iAnd x2 (iXor (iShl 1 x3) ((-1)))) (fun x5_1 => inb x3 12 ∧ inb (rd M (a0 + 2) x3) 12 ∧ inb x4 12 ∧ inb (rd M (a0 + 2) x4) 12 ∧ wX3_carriedTo ((a0 - 106) + 9 + (bm (rd M (a0 + 2) x3)).toNat) ((a0 - 106) + 9 + (bm (rd M (a0 + 2) x4)).toNat) M (fun r_15 M_14 => inb ((x5_1 * 10) + x4) 10240 ∧ Q (r_15 + (rd M_14 a1 ((x5_1 * 10) + x4))) M_14))
def rmX7_nextOf : Room := { frames := 3, cells := 0, slots := 0, locals := 67 }
def wX7_nextOf_J63 (Q : Int → Mem → Prop) (C18 : Int → Int → Int → Mem → Prop) (a0 : Nat) (a1 : Nat) (x2 : Int) (x3 : Int) (x4 : Int) (x7 : Int) (x8 : Int) (M : Mem) : Prop := LET (x7 + 1) (fun x7_7 => C18 x7 x8 x7_7 M)
def wX7_nextOf_L18 (Q : Int → Mem → Prop)  (a0 : Nat) (a1 : Nat) (x2 : Int) (x3 : Int) (x4 : Int) : Nat → Int → Int → Int → Mem → Prop
  | 0, _, _, _, _ => False
  | N + 1, x5, x6, x7, M => BR (bm (M a0 3) ≤ bm x7) (Q x5 M) (wX11_isIn x4 x7 M (fun r_4 M_3 => BR (bm r_4 = 0) (LET (x7 + 1) (fun x7_11 => wX7_nextOf_L18 Q  a0 a1 x2 x3 x4 N x5 x6 x7_11 M_3)) (wX7_leastBy a0 a1 x2 x3 x7 M_3 (fun r_6 M_5 => BR (bm x5 < 0) (wX7_nextOf_J63 Q (fun x5' x6' x7' M' => wX7_nextOf_L18 Q  a0 a1 x2 x3 x4 N x5' x6' x7' M') a0 a1 x2 x3 x4 x7 r_6 M_5) (BR (bm x6 ≤ bm r_6) (LET (x7 + 1) (fun x7_9 => wX7_nextOf_L18 Q  a0 a1 x2 x3 x4 N x5 x6 x7_9 M_5)) (wX7_nextOf_J63 Q (fun x5' x6' x7' M' => wX7_nextOf_L18 Q  a0 a1 x2 x3 x4 N x5' x6' x7' M') a0 a1 x2 x3 x4 x7 r_6 M_5))))))
def wX7_nextOf (a0 : Nat) (a1 : Nat) (x2 : Int) (x3 : Int) (M : Mem) (Q : Int → Mem → Prop) : Prop := LET (iAnd x2 (iXor (iShl 1 x3) ((-1)))) (fun x4_1 => LET ((-1)) (fun x5_2 => ∃ N_13, wX7_nextOf_L18 Q  a0 a1 x2 x3 x4_1 N_13 x5_2 0 0 M))
def rmX7_fillLeast : Room := { frames := 4, cells := 0, slots := 0, locals := 95 }
def wX7_fillLeast_J57 (Q : Mem → Prop) (C14 : Int → Mem → Prop) (a0 : Nat) (a1 : Nat) (x2 : Int) (x3 : Int) (xs0 : Int) (M : Mem) : Prop := inb ((x2 * 10) + x3) 10240 ∧ LET (wr M a1 ((x2 * 10) + x3) (iB (iB xs0))) (fun M_10 => LET (x3 + 1) (fun x3_11 => C14 x3_11 M_10))
def wX7_fillLeast_L14 (Q : Mem → Prop) (E76 : Mem → Prop) (a0 : Nat) (a1 : Nat) (x2 : Int) : Nat → Int → Mem → Prop
  | 0, _, _ => False
  | N + 1, x3, M => BR (bm (M a0 3) ≤ bm x3) (E76  M) (wX11_isIn x2 x3 M (fun r_2 M_1 => BR (bm r_2 = 0) (LET (x3 + 1) (fun x3_3 => wX7_fillLeast_L14 Q E76 a0 a1 x2 N x3_3 M_1)) (wX7_nextOf a0 a1 x2 x3 M_1 (fun r_6 M_5 => BR (0 ≤ bm r_6) (wX7_leastBy a0 a1 x2 x3 r_6 M_5 (fun r_8 M_7 => wX7_fillLeast_J57 Q (fun x3' M' => wX7_fillLeast_L14 Q E76 a0 a1 x2 N x3' M') a0 a1 x2 x3 r_8 M_7)) (wX7_fillLeast_J57 Q (fun x3' M' => wX7_fillLeast_L14 Q E76 a0 a1 x2 N x3' M') a0 a1 x2 x3 0 M_5)))))
def wX7_fillLeast_L2 (Q : Mem → Prop)  (a0 : Nat) (a1 : Nat) : Nat → Int → Mem → Prop
  | 0, _, _ => False
  | N + 1, x2, M => BR (bm (iShl 1 (M a0 3)) ≤ bm x2) (Q M) (∃ N_16, wX7_fillLeast_L14 Q (fun M_13 => LET (x2 + 1) (fun x2_14 => wX7_fillLeast_L2 Q  a0 a1 N x2_14 M_13)) a0 a1 x2 N_16 0 M)
def wX7_fillLeast (a0 : Nat) (a1 : Nat) (M : Mem) (Q : Mem → Prop) : Prop := ∃ N_17, wX7_fillLeast_L2 Q  a0 a1 N_17 1 M
def rmX7_readOrder : Room := { frames := 4, cells := 0, slots := 0, locals := 95 }
def wX7_readOrder_L14 (Q : Mem → Prop) (E52 : Int → Mem → Prop) (a0 : Nat) (a1 : Nat) (x2 : Int) : Nat → Int → Int → Mem → Prop
  | 0, _, _, _ => False
  | N + 1, x3, x4, M => BR (bm (M a0 3) ≤ bm x4) (E52 x3 M) (inb ((x2 * 10) + x4) 10240 ∧ inb ((x2 * 10) + x3) 10240 ∧ BR (bm (rd M a1 ((x2 * 10) + x3)) ≤ bm (rd M a1 ((x2 * 10) + x4))) (LET (x4 + 1) (fun x4_4 => wX7_readOrder_L14 Q E52 a0 a1 x2 N x3 x4_4 M)) (LET (x4 + 1) (fun x4_6 => wX7_readOrder_L14 Q E52 a0 a1 x2 N x4 x4_6 M)))
def wX7_readOrder_L67 (Q : Mem → Prop)  (a0 : Nat) (a1 : Nat) : Nat → Int → Int → Int → Mem → Prop
  | 0, _, _, _, _ => False
  | N + 1, x2, x3, x4, M => BR (bm (M a0 3) ≤ bm x4) (Q M) (BR (bm x3 < 0) (Q M) (inb x3 12 ∧ inb x4 12 ∧ LET (wr M (a0 + 1) x4 (rd M (a0 + 2) x3)) (fun M_16 => wX7_nextOf a0 a1 x2 x3 M_16 (fun r_18 M_17 => LET (iAnd x2 (iXor (iShl 1 x3) ((-1)))) (fun x2_19 => LET (x4 + 1) (fun x4_20 => wX7_readOrder_L67 Q  a0 a1 N x2_19 r_18 x4_20 M_17))))))
def wX7_readOrder (a0 : Nat) (a1 : Nat) (M : Mem) (Q : Mem → Prop) : Prop := LET ((iShl 1 (M a0 3)) - 1) (fun x2_1 => ∃ N_23, wX7_readOrder_L14 Q (fun x3_8 M_9 => inb ((x2_1 * 10) + x3_8) 10240 ∧ LET (up M_9 a0 4 (rd M_9 a1 ((x2_1 * 10) + x3_8))) (fun M_11 => ∃ N_22, wX7_readOrder_L67 Q  a0 a1 N_22 x2_1 x3_8 0 M_11)) a0 a1 x2_1 N_23 0 1 M)
def rmX7_orderFewest : Room := { frames := 5, cells := 1, slots := 10240, locals := 120 }
def wX7_orderFewest_L28 (Q : Mem → Prop) (E85 : Mem → Prop) (a0 : Nat) : Nat → Int → Mem → Prop
  | 0, _, _ => False
  | N + 1, x2, M => BR (bm (M ((a0 - 106)) 1) ≤ bm x2) (E85  M) (BR (10 ≤ bm (M a0 3)) (E85  M) (wX11_isIn (M a0 2) x2 M (fun r_5 M_4 => BR (bm r_5 = 0) (LET (x2 + 1) (fun x2_6 => wX7_orderFewest_L28 Q E85 a0 N x2_6 M_4)) (inb (M_4 a0 3) 12 ∧ LET (wr M_4 (a0 + 2) (M_4 a0 3) x2) (fun M_10 => LET (up M_10 a0 3 ((M_10 a0 3) + 1)) (fun M_11 => LET (x2 + 1) (fun x2_12 => wX7_orderFewest_L28 Q E85 a0 N x2_12 M_11)))))))
def wX7_orderFewest_J101 (Q : Mem → Prop)  (a0 : Nat) (M : Mem) : Prop := (0 < (M a0 7).toNat ∧ M 0 (M a0 7).toNat = kA 1 10240) ∧ wX7_fillLeast a0 ((M a0 7).toNat) M (fun M_16 => (0 < (M_16 a0 7).toNat ∧ M_16 0 (M_16 a0 7).toNat = kA 1 10240) ∧ wX7_readOrder a0 ((M_16 a0 7).toNat) M_16 (fun M_18 => LET (up M_18 a0 1 1) (fun M_19 => Q M_19)))
def wX7_orderFewest_J85 (Q : Mem → Prop)  (a0 : Nat) (M : Mem) : Prop := BR (M a0 7 = 0) (LET (al M (kA 1 10240)) (fun M_20 => (0 < nx M ∧ M_20 0 (nx M) = kA 1 10240) ∧ LET (up M_20 a0 7 (((nx M) : Nat) : Int)) (fun M_23 => wX7_orderFewest_J101 Q  a0 M_23))) (wX7_orderFewest_J101 Q  a0 M)
def wX7_orderFewest_J16 (Q : Mem → Prop)  (a0 : Nat) (x1 : Int) (M : Mem) : Prop := LET (up M a0 2 x1) (fun M_1 => LET (up M_1 a0 3 0) (fun M_2 => ∃ N_24, wX7_orderFewest_L28 Q (fun M_14 => wX7_orderFewest_J85 Q  a0 M_14) a0 N_24 0 M_2))
def wX7_orderFewest (a0 : Nat) (x1 : Int) (M : Mem) (Q : Mem → Prop) : Prop := BR (bm (M a0 1) = 0) (wX7_orderFewest_J16 Q  a0 x1 M) (BR (bm (M a0 2) = bm x1) (Q M) (wX7_orderFewest_J16 Q  a0 x1 M))
def rmJ9_abs_0f7a4 : Room := { frames := 0, cells := 0, slots := 0, locals := 0 }
def wJ9_abs_0f7a4 (x0 : Int) (M : Mem) (Q : Int → Mem → Prop) : Prop := BR (0 ≤ bm x0) (Q x0 M) (Q (-x0) M)
def rmX7_firstEvening : Room := { frames := 1, cells := 0, slots := 0, locals := 21 }
def wX7_firstEvening_J77 (Q : Int → Mem → Prop) (C38 : Int → Int → Int → Int → Mem → Prop) (a0 : Nat) (x1 : Int) (x2 : Int) (x3 : Int) (x4 : Int) (x5 : Int) (x6 : Int) (x7 : Int) (x8 : Int) (x9 : Int) (a10 : Nat) (xs0 : Int) (M : Mem) : Prop := LET (x7 + (M a10 0)) (fun x7_11 => LET (x6 + (xs0 * (M a10 0))) (fun x6_12 => LET (x8 + (xs0 * (M a10 2))) (fun x8_13 => LET (x9 + 1) (fun x9_14 => C38 x6_12 x7_11 x8_13 x9_14 M))))
def wX7_firstEvening_L38 (Q : Int → Mem → Prop) (E121 : Int → Int → Int → Mem → Prop) (a0 : Nat) (x1 : Int) (x2 : Int) (x3 : Int) (x4 : Int) (x5 : Int) : Nat → Int → Int → Int → Int → Mem → Prop
  | 0, _, _, _, _, _ => False
  | N + 1, x6, x7, x8, x9, M => BR (bm (M ((a0 - 106)) 1) ≤ bm x9) (E121 x6 x7 x8 M) (inb x9 12 ∧ wX11_isIn x5 x9 M (fun r_10 M_9 => BR (bm r_10 = 0) (wX7_firstEvening_J77 Q (fun x6' x7' x8' x9' M' => wX7_firstEvening_L38 Q E121 a0 x1 x2 x3 x4 x5 N x6' x7' x8' x9' M') a0 x1 x2 x3 x4 x5 x6 x7 x8 x9 ((a0 - 106) + 9 + (bm x9).toNat) ((-1)) M_9) (wX7_firstEvening_J77 Q (fun x6' x7' x8' x9' M' => wX7_firstEvening_L38 Q E121 a0 x1 x2 x3 x4 x5 N x6' x7' x8' x9' M') a0 x1 x2 x3 x4 x5 x6 x7 x8 x9 ((a0 - 106) + 9 + (bm x9).toNat) 1 M_9)))
def wX7_firstEvening_J157 (Q : Int → Mem → Prop) (C20 : Int → Int → Int → Mem → Prop) (a0 : Nat) (x1 : Int) (x2 : Int) (x5 : Int) (x10 : Int) (M : Mem) : Prop := LET (x5 + 1) (fun x5_27 => C20 x5 x10 x5_27 M)
def wX7_firstEvening_L20 (Q : Int → Mem → Prop)  (a0 : Nat) (x1 : Int) (x2 : Int) : Nat → Int → Int → Int → Mem → Prop
  | 0, _, _, _, _ => False
  | N + 1, x3, x4, x5, M => BR (bm x2 < bm x5) (Q x3 M) (∃ N_31, wX7_firstEvening_L38 Q (fun x6_16 x7_17 x8_18 M_19 => wJ9_abs_0f7a4 x6_16 M_19 (fun r_21 M_20 => LET (iDiv (x7_17 + r_21) 2) (fun x9_22 => wJ9_abs_0f7a4 x8_18 M_20 (fun r_24 M_23 => BR (bm x1 < bm x9_22) (LET (x5 + 1) (fun x5_25 => wX7_firstEvening_L20 Q  a0 x1 x2 N x3 x4 x5_25 M_23)) (BR (bm x3 < 0) (wX7_firstEvening_J157 Q (fun x3' x4' x5' M' => wX7_firstEvening_L20 Q  a0 x1 x2 N x3' x4' x5' M') a0 x1 x2 x5 r_24 M_23) (BR (bm x4 ≤ bm r_24) (LET (x5 + 1) (fun x5_29 => wX7_firstEvening_L20 Q  a0 x1 x2 N x3 x4 x5_29 M_23)) (wX7_firstEvening_J157 Q (fun x3' x4' x5' M' => wX7_firstEvening_L20 Q  a0 x1 x2 N x3' x4' x5' M') a0 x1 x2 x5 r_24 M_23))))))) a0 x1 x2 x3 x4 x5 N_31 0 0 0 0 M)
def wX7_firstEvening (a0 : Nat) (x1 : Int) (M : Mem) (Q : Int → Mem → Prop) : Prop := LET ((iShl 1 (M ((a0 - 106)) 1)) - 1) (fun x2_2 => LET ((-1)) (fun x3_3 => ∃ N_32, wX7_firstEvening_L20 Q  a0 x1 x2_2 N_32 x3_3 0 0 M))
def rmX8_become : Room := { frames := 0, cells := 0, slots := 0, locals := 0 }
def wX8_become_L12 (Q : Mem → Prop)  (a0 : Nat) : Nat → Int → Mem → Prop
  | 0, _, _ => False
  | N + 1, x3, M => BR (24 ≤ bm x3) (Q M) (inb x3 24 ∧ LET (wr M (a0 + 1) x3 0) (fun M_5 => LET (x3 + 1) (fun x3_6 => wX8_become_L12 Q  a0 N x3_6 M_5)))
def wX8_become (a0 : Nat) (x1 : Int) (x2 : Int) (M : Mem) (Q : Mem → Prop) : Prop := LET (up M a0 1 x1) (fun M_1 => LET (up M_1 a0 2 x2) (fun M_2 => ∃ N_8, wX8_become_L12 Q  a0 N_8 0 M_2))
def rmX8_holds : Room := { frames := 0, cells := 0, slots := 0, locals := 0 }
def wX8_holds (a0 : Nat) (x1 : Int) (x2 : Int) (M : Mem) (Q : Int → Mem → Prop) : Prop := BR (bm x1 < 0) (Q 0 M) (BR (bm x2 < 0) (Q 0 M) (BR (bm (M a0 2) < bm x2) (Q 0 M) (BR (bm ((M a0 2) - x2) < bm x1) (Q 0 M) (Q 1 M))))
def rmX8_write : Room := { frames := 1, cells := 0, slots := 0, locals := 22 }
def wX8_write (a0 : Nat) (x1 : Int) (x2 : Int) (M : Mem) (Q : Mem → Prop) : Prop := wX8_holds a0 x1 1 M (fun r_2 M_1 => BR (bm r_2 = 0) (Q M_1) (LET (32 - (M_1 a0 1)) (fun x3_3 => inb x1 24 ∧ LET (wr M_1 (a0 + 1) x1 (iShr (iShl x2 x3_3) x3_3)) (fun M_6 => Q M_6))))
def rmX8_takePieces : Room := { frames := 2, cells := 0, slots := 0, locals := 45 }
def wX8_takePieces_L2 (Q : Mem → Prop)  (a0 : Nat) (a1 : Nat) : Nat → Int → Mem → Prop
  | 0, _, _ => False
  | N + 1, x2, M => BR (bm (M a1 1) ≤ bm x2) (Q M) (inb x2 12 ∧ wX8_write a0 x2 (rd M (a1 + 1) x2) M (fun M_3 => LET (x2 + 1) (fun x2_4 => wX8_takePieces_L2 Q  a0 a1 N x2_4 M_3)))
def wX8_takePieces (a0 : Nat) (a1 : Nat) (M : Mem) (Q : Mem → Prop) : Prop := ∃ N_6, wX8_takePieces_L2 Q  a0 a1 N_6 0 M
def rmX9_partedBy : Room := { frames := 0, cells := 0, slots := 0, locals := 0 }
def wX9_partedBy (a0 : Nat) (x1 : Int) (x2 : Int) (M : Mem) (Q : Int → Mem → Prop) : Prop := BR (bm x2 = 0) (LET (up M a0 2 1) (fun M_2 => Q 0 M_2)) ((¬ bm x2 = 0) ∧ (Q (iDiv x1 x2) M))
def rmX9_spoken (d : Nat) : Room := { frames := 1 + d, cells := 0, slots := 0, locals := 22 + 27 * d }
def rmX9_bodyOf (d : Nat) : Room := { frames := 1 + d, cells := 0, slots := 0, locals := 22 + 27 * d }
def wX9_spoken_L34 (Γ : Nat → List Int → Mem → (Int → Mem → Prop) → Prop) (Q : Int → Mem → Prop) (E85 : Int → Mem → Prop) (a0 : Nat) (x2 : Int) (x3 : Int) (x4 : Int) : Nat → Int → Int → Int → Mem → Prop
  | 0, _, _, _, _ => False
  | N + 1, x5, x6, x7, M => BR (7 ≤ bm x7) (E85 x5 M) (BR (bm x5 = 0) (wX11_within x6 0 6 M (fun r_4 M_3 => BR (bm r_4 = 0) (E85 x5 M_3) (inb ((x6 * 4) + x2) 28 ∧ LET (tabV 2 ((x6 * 4) + x2)) (fun x5_6 => inb x6 7 ∧ LET (tabV 1 x6) (fun x6_8 => LET (x7 + 1) (fun x7_9 => wX9_spoken_L34 Γ Q E85 a0 x2 x3 x4 N x5_6 x6_8 x7_9 M_3)))))) (E85 x5 M))
def wX9_spoken_J115 (Γ : Nat → List Int → Mem → (Int → Mem → Prop) → Prop) (Q : Int → Mem → Prop)  (a0 : Nat) (x3 : Int) (x4 : Int) (x5 : Int) (M : Mem) : Prop := Γ 1 [x5, x3, x4 + 1] M (fun r_14 M_13 => Q r_14 M_13)
def wX9_spoken_J85 (Γ : Nat → List Int → Mem → (Int → Mem → Prop) → Prop) (Q : Int → Mem → Prop)  (a0 : Nat) (x3 : Int) (x4 : Int) (x5 : Int) (M : Mem) : Prop := BR (30 ≤ bm (M a0 1)) (wX9_spoken_J115 Γ Q  a0 x3 x4 x5 M) (inb (M a0 1) 30 ∧ LET (wr M (a0 + 1) (M a0 1) x5) (fun M_17 => LET (up M_17 a0 1 ((M_17 a0 1) + 1)) (fun M_18 => wX9_spoken_J115 Γ Q  a0 x3 x4 x5 M_18)))
def wbX9_spoken (Γ : Nat → List Int → Mem → (Int → Mem → Prop) → Prop) (a0 : Nat) (x1 : Int) (x2 : Int) (x3 : Int) (x4 : Int) (M : Mem) (Q : Int → Mem → Prop) : Prop := BR (bm (M a0 2) = 0) (BR (40 < bm x4) (Q 0 M) (wX11_within x2 0 3 M (fun r_2 M_1 => BR (bm r_2 = 0) (Q 0 M_1) (∃ N_19, wX9_spoken_L34 Γ Q (fun x5_11 M_12 => wX9_spoken_J85 Γ Q  a0 x3 x4 x5_11 M_12) a0 x2 x3 x4 N_19 0 x1 0 M_1)))) (Q 0 M)
def wbX9_bodyOf (Γ : Nat → List Int → Mem → (Int → Mem → Prop) → Prop) (a0 : Nat) (x1 : Int) (x2 : Int) (x3 : Int) (M : Mem) (Q : Int → Mem → Prop) : Prop := BR (bm x1 = 10) (Q (x2 + (M a0 4)) M) (BR (bm x1 = 11) (Γ 0 [M a0 3, 0, x2, x3] M (fun r_2 M_1 => Q (r_2 * 2) M_1)) (BR (bm x1 = 12) (Γ 0 [M a0 3, 1, x2, x3] M (fun r_4 M_3 => Q (r_4 - (M_3 a0 6)) M_3)) (BR (bm x1 = 13) (wX9_partedBy a0 x2 ((M a0 5) - (M a0 6)) M (fun r_6 M_5 => Q r_6 M_5)) (BR (bm x1 = 20) (Γ 0 [0, 1, x2, x3] M (fun r_8 M_7 => Q (r_8 + (M_7 a0 5)) M_7)) (BR (bm x1 = 21) (Γ 0 [0, 3, x2, x3] M (fun r_10 M_9 => Γ 0 [M_9 a0 3, 2, 1, x3] M_9 (fun r_12 M_11 => Q (r_10 + r_12) M_11))) (BR (bm x1 = 30) (Γ 0 [0, 0, x2, x3] M (fun r_14 M_13 => Q (iDiv r_14 2) M_13)) (BR (bm x1 = 40) (Γ 0 [0, 2, x2 + 1, x3] M (fun r_16 M_15 => Q r_16 M_15)) (BR (bm x1 = 50) (Γ 0 [0, 0, x2, x3] M (fun r_18 M_17 => Q (0 - r_18) M_17)) (BR (bm x1 = 51) (Γ 0 [0, 2, x2, x3] M (fun r_20 M_19 => Q (iXor r_20 (M_19 a0 6)) M_19)) (BR (bm x1 = 60) (Γ 0 [1, 0, x2, x3] M (fun r_22 M_21 => Q (r_22 * 3) M_21)) (BR (bm x1 = 61) (Γ 0 [1, 2, x2, x3] M (fun r_24 M_23 => Γ 0 [M_23 a0 3, 0, 2, x3] M_23 (fun r_26 M_25 => Q (r_24 - r_26) M_25))) (BR (bm x1 = 62) (Γ 0 [M a0 3, 1, x2, x3] M (fun r_28 M_27 => Γ 0 [1, 3, x2, x3] M_27 (fun r_30 M_29 => Q (r_28 - r_30) M_29))) (BR (bm x1 = 70) (Γ 0 [0, 1, x2 - 1, x3] M (fun r_32 M_31 => Q r_32 M_31)) (Q 0 M))))))))))))))
def wGX9_spoken (a0 : Nat) : Nat → Nat → List Int → Mem → (Int → Mem → Prop) → Prop
  | 0, _, _, _, _ => False
  | d + 1, k, xs, M, Q => match k with
    | 0 => wbX9_spoken (wGX9_spoken a0 d) a0 (xs.getD 0 0) (xs.getD 1 0) (xs.getD 2 0) (xs.getD 3 0) M Q
    | _ => wbX9_bodyOf (wGX9_spoken a0 d) a0 (xs.getD 0 0) (xs.getD 1 0) (xs.getD 2 0) M Q
def wX9_spoken  (a0 : Nat) (x1 : Int) (x2 : Int) (x3 : Int) (x4 : Int) (M : Mem) (Q : Int → Mem → Prop) : Prop := wGX9_spoken a0 60 0 [x1, x2, x3, x4] M Q
def wX9_bodyOf  (a0 : Nat) (x1 : Int) (x2 : Int) (x3 : Int) (M : Mem) (Q : Int → Mem → Prop) : Prop := wGX9_spoken a0 60 1 [x1, x2, x3] M Q
def rmX9_speak : Room := { frames := 62, cells := 0, slots := 0, locals := 1669 }
def wX9_speak (a0 : Nat) (a1 : Nat) (x2 : Int) (x3 : Int) (x4 : Int) (M : Mem) (Q : Int → Mem → Prop) : Prop := LET (up M a0 3 (M a1 0)) (fun M_1 => LET (up M_1 a0 4 (M_1 a1 1)) (fun M_2 => LET (up M_2 a0 5 (M_2 a1 2)) (fun M_3 => LET (up M_3 a0 6 x2) (fun M_4 => LET (up M_4 a0 1 0) (fun M_5 => LET (up M_5 a0 2 0) (fun M_6 => wX9_spoken a0 (M_6 a0 3) x3 x4 0 M_6 (fun r_8 M_7 => Q r_8 M_7)))))))
def rmX11_error : Room := { frames := 1, cells := 0, slots := 0, locals := 22 }
def wX11_error (a0 : Nat) (x1 : Int) (M : Mem) (Q : Int → Mem → Prop) : Prop := wX11_within x1 1 6 M (fun r_2 M_1 => BR (bm r_2 = 0) (Q (((-1000000)) - x1) M_1) (inb x1 7 ∧ inb x1 7 ∧ LET (wr M_1 (a0 + 85) x1 ((rd M_1 (a0 + 85) x1) + 1)) (fun M_6 => Q (((-1000000)) - x1) M_6)))
def rmX11_forget : Room := { frames := 0, cells := 0, slots := 0, locals := 0 }
def wX11_forget (a0 : Nat) (M : Mem) (Q : Mem → Prop) : Prop := LET (up M (a0 + 102) 3 0) (fun M_2 => LET (up M_2 (a0 + 107) 1 0) (fun M_4 => Q M_4))
def rmX11_piece : Room := { frames := 2, cells := 0, slots := 0, locals := 43 }
def wX11_piece_J84 (Q : Int → Mem → Prop)  (a0 : Nat) (M : Mem) : Prop := wX11_error a0 1 M (fun r_4 M_3 => Q r_4 M_3)
def wX11_piece_J44 (Q : Int → Mem → Prop)  (a0 : Nat) (x1 : Int) (x2 : Int) (x3 : Int) (x4 : Int) (x5 : Int) (x6 : Int) (xs0 : Int) (M : Mem) : Prop := BR (bm xs0 = 0) (wX11_piece_J84 Q  a0 M) (wX11_within x2 0 255 M (fun r_6 M_5 => BR (bm r_6 = 0) (wX11_piece_J84 Q  a0 M_5) (wX11_within x3 0 255 M_5 (fun r_8 M_7 => BR (bm r_8 = 0) (wX11_piece_J84 Q  a0 M_7) (wX11_within x4 0 99 M_7 (fun r_10 M_9 => BR (bm r_10 = 0) (wX11_piece_J84 Q  a0 M_9) (BR (bm (M_9 (a0 + 1) 1) < 12) (inb (M_9 (a0 + 1) 1) 12 ∧ LET (up M_9 (a0 + 10 + (bm (M_9 (a0 + 1) 1)).toNat) 0 x5) (fun M_17 => LET (up M_17 (a0 + 10 + (bm (M_9 (a0 + 1) 1)).toNat) 1 x6) (fun M_18 => LET (up M_18 (a0 + 10 + (bm (M_9 (a0 + 1) 1)).toNat) 2 (iRem x1 10)) (fun M_19 => LET (up M_19 (a0 + 10 + (bm (M_9 (a0 + 1) 1)).toNat) 3 x2) (fun M_20 => LET (up M_20 (a0 + 10 + (bm (M_9 (a0 + 1) 1)).toNat) 4 x3) (fun M_21 => LET (up M_21 (a0 + 10 + (bm (M_9 (a0 + 1) 1)).toNat) 5 x4) (fun M_22 => wX11_forget a0 M_22 (fun M_23 => LET (up M_23 (a0 + 1) 1 ((M_23 (a0 + 1) 1) + 1)) (fun M_25 => Q (M_23 (a0 + 1) 1) M_25))))))))) (wX11_error a0 4 M_9 (fun r_27 M_26 => Q r_27 M_26)))))))))
def wX11_piece_J43 (Q : Int → Mem → Prop)  (a0 : Nat) (x1 : Int) (x2 : Int) (x3 : Int) (x4 : Int) (x5 : Int) (x6 : Int) (M : Mem) : Prop := wX11_piece_J44 Q  a0 x1 x2 x3 x4 x5 x6 0 M
def wX11_piece (a0 : Nat) (x1 : Int) (x2 : Int) (x3 : Int) (x4 : Int) (M : Mem) (Q : Int → Mem → Prop) : Prop := LET (iDiv x1 1000) (fun x5_1 => LET (iDiv (iRem x1 1000) 10) (fun x6_2 => BR (bm x1 < 0) (wX11_piece_J43 Q  a0 x1 x2 x3 x4 x5_1 x6_2 M) (wX11_within x5_1 1 60 M (fun r_29 M_28 => BR (bm r_29 = 0) (wX11_piece_J43 Q  a0 x1 x2 x3 x4 x5_1 x6_2 M_28) (BR (11 < bm x6_2) (wX11_piece_J43 Q  a0 x1 x2 x3 x4 x5_1 x6_2 M_28) (wX11_piece_J44 Q  a0 x1 x2 x3 x4 x5_1 x6_2 1 M_28))))))
def rmX11_pieceIs : Room := { frames := 2, cells := 0, slots := 0, locals := 43 }
def wX11_pieceIs_J26 (Q : Int → Mem → Prop)  (a0 : Nat) (M : Mem) : Prop := wX11_error a0 1 M (fun r_5 M_4 => Q r_5 M_4)
def wX11_pieceIs (a0 : Nat) (x1 : Int) (x2 : Int) (M : Mem) (Q : Int → Mem → Prop) : Prop := wX11_within x1 0 ((M (a0 + 1) 1) - 1) M (fun r_3 M_2 => BR (bm r_3 = 0) (wX11_pieceIs_J26 Q  a0 M_2) (wX11_within x2 0 5 M_2 (fun r_7 M_6 => BR (bm r_7 = 0) (wX11_pieceIs_J26 Q  a0 M_6) (inb x1 12 ∧ BR (bm x2 = 0) (Q (M_6 (a0 + 10 + (bm x1).toNat) 0) M_6) (BR (bm x2 = 1) (Q (M_6 (a0 + 10 + (bm x1).toNat) 1) M_6) (BR (bm x2 = 2) (Q (M_6 (a0 + 10 + (bm x1).toNat) 2) M_6) (BR (bm x2 = 3) (Q (M_6 (a0 + 10 + (bm x1).toNat) 3) M_6) (BR (bm x2 = 4) (Q (M_6 (a0 + 10 + (bm x1).toNat) 4) M_6) (Q (M_6 (a0 + 10 + (bm x1).toNat) 5) M_6)))))))))
def rmX11_rule : Room := { frames := 2, cells := 0, slots := 0, locals := 43 }
def wX11_rule_J22 (Q : Int → Mem → Prop)  (a0 : Nat) (M : Mem) : Prop := wX11_error a0 1 M (fun r_4 M_3 => Q r_4 M_3)
def wX11_rule (a0 : Nat) (x1 : Int) (x2 : Int) (M : Mem) (Q : Int → Mem → Prop) : Prop := wX11_within x1 0 3 M (fun r_2 M_1 => BR (bm r_2 = 0) (wX11_rule_J22 Q  a0 M_1) (inb x1 4 ∧ wX11_within x2 0 (tabV 0 x1) M_1 (fun r_7 M_6 => BR (bm r_7 = 0) (wX11_rule_J22 Q  a0 M_6) (inb x1 4 ∧ LET (rd M_6 (a0 + 3) x1) (fun x3_11 => inb x1 4 ∧ LET (wr M_6 (a0 + 3) x1 x2) (fun M_15 => wX11_forget a0 M_15 (fun M_16 => Q x3_11 M_16)))))))
def rmX11_liking : Room := { frames := 2, cells := 0, slots := 0, locals := 43 }
def wX11_liking_J31 (Q : Int → Mem → Prop)  (a0 : Nat) (M : Mem) : Prop := wX11_error a0 1 M (fun r_4 M_3 => Q r_4 M_3)
def wX11_liking (a0 : Nat) (x1 : Int) (x2 : Int) (x3 : Int) (M : Mem) (Q : Int → Mem → Prop) : Prop := wX11_within x1 0 6 M (fun r_2 M_1 => BR (bm r_2 = 0) (wX11_liking_J31 Q  a0 M_1) (wX11_within x2 ((-9)) 9 M_1 (fun r_6 M_5 => BR (bm r_6 = 0) (wX11_liking_J31 Q  a0 M_5) (wX11_within x3 1 9 M_5 (fun r_8 M_7 => BR (bm r_8 = 0) (wX11_liking_J31 Q  a0 M_7) (BR (bm (M_7 (a0 + 1) 4) < 10) (inb (M_7 (a0 + 1) 4) 10 ∧ wX1_become (a0 + 22 + 2 * (bm (M_7 (a0 + 1) 4)).toNat) x1 x2 x3 M_7 (fun M_15 => wX11_forget a0 M_15 (fun M_16 => LET (up M_16 (a0 + 1) 4 ((M_16 (a0 + 1) 4) + 1)) (fun M_18 => Q (M_16 (a0 + 1) 4) M_18)))) (wX11_error a0 4 M_7 (fun r_20 M_19 => Q r_20 M_19))))))))
def rmX11_isNoLiking : Room := { frames := 1, cells := 0, slots := 0, locals := 22 }
def wX11_isNoLiking (a0 : Nat) (x1 : Int) (M : Mem) (Q : Int → Mem → Prop) : Prop := wX11_within x1 0 ((M (a0 + 1) 4) - 1) M (fun r_3 M_2 => BR (bm r_3 = 0) (Q 1 M_2) (Q 0 M_2))
def rmX11_turn : Room := { frames := 2, cells := 0, slots := 0, locals := 43 }
def wX11_turn_J37 (Q : Int → Mem → Prop)  (a0 : Nat) (x2 : Int) (a3 : Nat) (xs0 : Int) (M : Mem) : Prop := isB x2 ∧ LET (up M a3 4 x2) (fun M_7 => wX11_forget a0 M_7 (fun M_9 => BR (bm xs0 = 0) (Q 0 M_9) (Q 1 M_9)))
def wX11_turn (a0 : Nat) (x1 : Int) (x2 : Int) (M : Mem) (Q : Int → Mem → Prop) : Prop := wX11_isNoLiking a0 x1 M (fun r_2 M_1 => BR (bm r_2 = 0) (inb x1 10 ∧ BR (bm (M_1 (a0 + 22 + 2 * (bm x1).toNat) 4) = bm x2) (wX11_turn_J37 Q  a0 x2 (a0 + 22 + 2 * (bm x1).toNat) 0 M_1) (wX11_turn_J37 Q  a0 x2 (a0 + 22 + 2 * (bm x1).toNat) 1 M_1)) (wX11_error a0 1 M_1 (fun r_11 M_10 => Q r_11 M_10)))
def rmX11_as : Room := { frames := 2, cells := 0, slots := 0, locals := 43 }
def wX11_as_J18 (Q : Int → Mem → Prop)  (a0 : Nat) (M : Mem) : Prop := wX11_error a0 1 M (fun r_4 M_3 => Q r_4 M_3)
def wX11_as (a0 : Nat) (x1 : Int) (x2 : Int) (M : Mem) (Q : Int → Mem → Prop) : Prop := wX11_isNoLiking a0 x1 M (fun r_2 M_1 => BR (bm r_2 = 0) (wX11_within x2 0 6 M_1 (fun r_6 M_5 => BR (bm r_6 = 0) (wX11_as_J18 Q  a0 M_5) (inb x1 10 ∧ wX1_isOf (a0 + 22 + 2 * (bm x1).toNat) x2 M_5 (fun r_12 M_11 => BR (bm r_12 = 0) (wX11_error a0 5 M_11 (fun r_14 M_13 => Q r_14 M_13)) (Q ((100 * (M_11 (a0 + 22 + 2 * (bm x1).toNat) 1)) + (M_11 (a0 + 22 + 2 * (bm x1).toNat) 2)) M_11))))) (wX11_as_J18 Q  a0 M_1))
def rmX11_must : Room := { frames := 2, cells := 0, slots := 0, locals := 43 }
def wX11_must_J92 (Q : Int → Mem → Prop)  (a0 : Nat) (M : Mem) : Prop := wX11_error a0 1 M (fun r_6 M_5 => Q r_6 M_5)
def wX11_must_J80 (Q : Int → Mem → Prop)  (a0 : Nat) (x1 : Int) (x3 : Int) (x4 : Int) (x5 : Int) (x6 : Int) (xs0 : Int) (M : Mem) : Prop := BR (bm x6 = 0) (wX11_must_J92 Q  a0 M) (BR (bm xs0 = 0) (wX11_must_J92 Q  a0 M) (BR (bm (M (a0 + 1) 6) < 10) (inb (M (a0 + 1) 6) 10 ∧ LET (up M (a0 + 42 + (bm (M (a0 + 1) 6)).toNat) 0 x1) (fun M_13 => LET (up M_13 (a0 + 42 + (bm (M (a0 + 1) 6)).toNat) 1 x4) (fun M_14 => LET (up M_14 (a0 + 42 + (bm (M (a0 + 1) 6)).toNat) 2 x5) (fun M_15 => LET (up M_15 (a0 + 42 + (bm (M (a0 + 1) 6)).toNat) 3 x3) (fun M_16 => wX11_forget a0 M_16 (fun M_17 => LET (up M_17 (a0 + 1) 6 ((M_17 (a0 + 1) 6) + 1)) (fun M_19 => Q (M_17 (a0 + 1) 6) M_19))))))) (wX11_error a0 4 M (fun r_21 M_20 => Q r_21 M_20))))
def wX11_must_J79 (Q : Int → Mem → Prop)  (a0 : Nat) (x1 : Int) (x3 : Int) (x4 : Int) (x5 : Int) (x6 : Int) (M : Mem) : Prop := wX11_must_J80 Q  a0 x1 x3 x4 x5 x6 0 M
def wX11_must_J38 (Q : Int → Mem → Prop)  (a0 : Nat) (x1 : Int) (x2 : Int) (x3 : Int) (x4 : Int) (x5 : Int) (xs0 : Int) (M : Mem) : Prop := BR (bm x2 < 0) (wX11_must_J79 Q  a0 x1 x3 x4 x5 xs0 M) (BR (bm (M (a0 + 1) 1) ≤ bm x4) (wX11_must_J79 Q  a0 x1 x3 x4 x5 xs0 M) (BR (bm (M (a0 + 1) 1) ≤ bm x5) (wX11_must_J79 Q  a0 x1 x3 x4 x5 xs0 M) (BR (bm x4 = bm x5) (wX11_must_J79 Q  a0 x1 x3 x4 x5 xs0 M) (wX11_must_J80 Q  a0 x1 x3 x4 x5 xs0 1 M))))
def wX11_must_J37 (Q : Int → Mem → Prop)  (a0 : Nat) (x1 : Int) (x2 : Int) (x3 : Int) (x4 : Int) (x5 : Int) (M : Mem) : Prop := wX11_must_J38 Q  a0 x1 x2 x3 x4 x5 0 M
def wX11_must (a0 : Nat) (x1 : Int) (x2 : Int) (x3 : Int) (M : Mem) (Q : Int → Mem → Prop) : Prop := LET (iDiv x2 100) (fun x4_1 => LET (iRem x2 100) (fun x5_2 => wX11_within x1 0 7 M (fun r_4 M_3 => BR (bm r_4 = 0) (wX11_must_J37 Q  a0 x1 x2 x3 x4_1 x5_2 M_3) (wX11_within x3 0 999 M_3 (fun r_25 M_24 => BR (bm r_25 = 0) (wX11_must_J37 Q  a0 x1 x2 x3 x4_1 x5_2 M_24) (wX11_must_J38 Q  a0 x1 x2 x3 x4_1 x5_2 1 M_24))))))
def rmX11_feed : Room := { frames := 2, cells := 0, slots := 0, locals := 43 }
def wX11_feed_L39 (Q : Int → Mem → Prop) (E78 : Mem → Prop) (a0 : Nat) (l1 : Int) (x3 : Int) : Nat → Int → Mem → Prop
  | 0, _, _ => False
  | N + 1, x4, M => BR (bm x3 ≤ bm x4) (E78  M) (inb ((M (a0 + 1) 8) + x4) 50 ∧ LET (wr M (a0 + 6) ((M (a0 + 1) 8) + x4) (iB (iB (lShr l1 (8 * x4))))) (fun M_8 => LET (x4 + 1) (fun x4_9 => wX11_feed_L39 Q E78 a0 l1 x3 N x4_9 M_8)))
def wX11_feed (a0 : Nat) (l1 : Int) (x3 : Int) (M : Mem) (Q : Int → Mem → Prop) : Prop := wX11_within x3 1 8 M (fun r_2 M_1 => BR (bm r_2 = 0) (wX11_error a0 1 M_1 (fun r_19 M_18 => Q r_19 M_18)) (BR (bm ((M_1 (a0 + 1) 8) + x3) ≤ 50) (∃ N_15, wX11_feed_L39 Q (fun M_11 => LET (up M_11 (a0 + 1) 8 ((M_11 (a0 + 1) 8) + x3)) (fun M_13 => Q (M_13 (a0 + 1) 8) M_13)) a0 l1 x3 N_15 0 M_1) (wX11_error a0 4 M_1 (fun r_17 M_16 => Q r_17 M_16))))
def rmJ0_isEmpty_aae02 : Room := { frames := 0, cells := 0, slots := 0, locals := 0 }
def wJ0_isEmpty_aae02 (z0 : Int) (M : Mem) (Q : Int → Mem → Prop) : Prop := BR (bm (sLen z0) = 0) (Q 1 M) (Q 0 M)
def rmX11_text : Room := { frames := 46, cells := 0, slots := 0, locals := 1054 }
def wX11_text (a0 : Nat) (x1 : Int) (M : Mem) (Q : Int → Mem → Prop) : Prop := wX11_isNoLiking a0 x1 M (fun r_2 M_1 => BR (bm r_2 = 0) (inb x1 10 ∧ wX1_names (a0 + 22 + 2 * (bm x1).toNat) M_1 (fun r_8 M_7 => wJ0_isEmpty_aae02 r_8 M_7 (fun r_11 M_10 => BR (bm r_11 = 0) (wX1_names (a0 + 22 + 2 * (bm x1).toNat) M_10 (fun r_17 M_16 => wX4_readTape (a0 + 110) (a0 + 6) (M_10 (a0 + 1) 8) r_17 M_16 (fun r_20 M_19 => LET (up M_19 (a0 + 1) 8 0) (fun M_22 => BR (bm r_20 < 0) (Q r_20 M_22) (wX1_takeText (a0 + 22 + 2 * (bm x1).toNat) (a0 + 111) (M_22 (a0 + 110) 1) M_22 (fun M_26 => wX11_forget a0 M_26 (fun M_27 => Q r_20 M_27))))))) (wX11_error a0 5 M_10 (fun r_29 M_28 => Q r_29 M_28))))) (wX11_error a0 1 M_1 (fun r_31 M_30 => Q r_31 M_30)))
def rmX11_isNoSheet : Room := { frames := 1, cells := 0, slots := 0, locals := 22 }
def wX11_isNoSheet (x0 : Int) (M : Mem) (Q : Int → Mem → Prop) : Prop := wX11_within x0 0 3 M (fun r_2 M_1 => BR (bm r_2 = 0) (Q 1 M_1) (Q 0 M_1))
def rmX11_rowFault : Room := { frames := 2, cells := 0, slots := 0, locals := 48 }
def wX11_rowFault (a0 : Nat) (x1 : Int) (x2 : Int) (x3 : Int) (M : Mem) (Q : Int → Mem → Prop) : Prop := wX11_isNoSheet x1 M (fun r_2 M_1 => BR (bm r_2 = 0) (BR (bm x3 = 0) (Q 1 M_1) (inb x1 4 ∧ BR (bm (M_1 (a0 + 116 + 2 * (bm x1).toNat) 1) = 0) (Q 2 M_1) (inb x1 4 ∧ wX5_takesSheet (a0 + 86) (a0 + 116 + 2 * (bm x1).toNat) x2 (M_1 (a0 + 1) 1) M_1 (fun r_12 M_11 => BR (bm r_12 = 0) (Q 5 M_11) (Q 0 M_11))))) (Q 1 M_1))
def rmJ9_abs_067f4 : Room := { frames := 0, cells := 0, slots := 0, locals := 0 }
def wJ9_abs_067f4 (l0 : Int) (M : Mem) (Q : Int → Mem → Prop) : Prop := BR (0 ≤ bm (lCmp l0 0)) (Q l0 M) (Q (-l0) M)
def rmJ9_max_f86c9 : Room := { frames := 0, cells := 0, slots := 0, locals := 0 }
def wJ9_max_f86c9 (l0 : Int) (l2 : Int) (M : Mem) (Q : Int → Mem → Prop) : Prop := BR (bm (lCmp l0 l2) < 0) (Q l2 M) (Q l0 M)
def rmX11_partOf : Room := { frames := 1, cells := 0, slots := 0, locals := 23 }
def wX11_partOf_L13 (Q : Int → Mem → Prop) (E46 : Int → Mem → Prop) (l0 : Int) (x2 : Int) : Nat → Int → Int → Int → Mem → Prop
  | 0, _, _, _, _ => False
  | N + 1, l3, l5, x7, M => BR (100 ≤ bm x7) (E46 l3 M) (BR (bm (lCmp l5 0) = 0) (E46 l3 M) ((¬ bl l5 = 0) ∧ (LET (lRem l3 l5) (fun x8_4 => LET (x7 + 1) (fun x7_5 => wX11_partOf_L13 Q E46 l0 x2 N l5 x8_4 x7_5 M)))))
def wX11_partOf_J46 (Q : Int → Mem → Prop)  (l0 : Int) (x2 : Int) (l3 : Int) (M : Mem) : Prop := wJ9_max_f86c9 1 l3 M (fun r_10 M_9 => BR (bm x2 = 0) ((¬ bl r_10 = 0) ∧ (Q (lDiv l0 r_10) M_9)) ((¬ bl r_10 = 0) ∧ (Q (lDiv 2520 r_10) M_9)))
def wX11_partOf (l0 : Int) (x2 : Int) (M : Mem) (Q : Int → Mem → Prop) : Prop := wJ9_abs_067f4 l0 M (fun r_2 M_1 => ∃ N_13, wX11_partOf_L13 Q (fun l3_7 M_8 => wX11_partOf_J46 Q  l0 x2 l3_7 M_8) l0 x2 N_13 2520 r_2 0 M_1)
def rmX11_worth : Room := { frames := 5, cells := 0, slots := 0, locals := 119 }
def wX11_worth (a0 : Nat) (x1 : Int) (x2 : Int) (x3 : Int) (M : Mem) (Q : Int → Mem → Prop) : Prop := wX11_within x3 0 1 M (fun r_2 M_1 => wX11_rowFault a0 x1 x2 r_2 M_1 (fun r_4 M_3 => BR (bm r_4 = 0) (wX0_likingsOn (a0 + 1) M_3 (fun r_9 M_8 => wX10_along (a0 + 90) (a0 + 86) r_9 M_8 (fun M_10 => wX10_total (a0 + 90) M_10 (fun r_13 M_12 => wX11_partOf r_13 x3 M_12 (fun r_15 M_14 => Q r_15 M_14))))) (wX11_error a0 r_4 M_3 (fun r_17 M_16 => Q (bm r_17) M_16))))
def rmX11_worthBy : Room := { frames := 5, cells := 0, slots := 0, locals := 119 }
def wX11_worthBy_J16 (Q : Int → Mem → Prop)  (a0 : Nat) (x3 : Int) (xs0 : Int) (xs1 : Int) (xs2 : Int) (as3 : Nat) (M : Mem) : Prop := wX11_rowFault as3 xs2 xs1 xs0 M (fun r_4 M_3 => BR (bm r_4 = 0) (wX10_along (a0 + 90) (a0 + 86) (iShl 1 x3) M_3 (fun M_7 => wX10_totalBy (a0 + 90) x3 M_7 (fun r_10 M_9 => Q r_10 M_9))) (wX11_error a0 r_4 M_3 (fun r_12 M_11 => Q r_12 M_11)))
def wX11_worthBy (a0 : Nat) (x1 : Int) (x2 : Int) (x3 : Int) (M : Mem) (Q : Int → Mem → Prop) : Prop := wX11_isNoLiking a0 x3 M (fun r_2 M_1 => BR (bm r_2 = 0) (wX11_worthBy_J16 Q  a0 x3 1 x2 x1 a0 M_1) (wX11_worthBy_J16 Q  a0 x3 0 x2 x1 a0 M_1))
def rmX11_tired : Room := { frames := 5, cells := 0, slots := 0, locals := 119 }
def wX11_tired_J41 (Q : Int → Mem → Prop)  (a0 : Nat) (x3 : Int) (x4 : Int) (x5 : Int) (M : Mem) : Prop := BR (bm x5 = 0) (wX10_along (a0 + 90) (a0 + 86) 0 M (fun M_7 => inb (((x4 + 1) * 8) + x3) 104 ∧ Q (rd M_7 (a0 + 98) (((x4 + 1) * 8) + x3)) M_7)) (wX11_error a0 x5 M (fun r_12 M_11 => Q r_12 M_11))
def wX11_tired (a0 : Nat) (x1 : Int) (x2 : Int) (x3 : Int) (x4 : Int) (M : Mem) (Q : Int → Mem → Prop) : Prop := wX11_within x3 0 7 M (fun r_2 M_1 => wX11_rowFault a0 x1 x2 r_2 M_1 (fun r_4 M_3 => BR (bm r_4 = 0) (wX11_within x4 0 ((M_3 (a0 + 86) 1) - 1) M_3 (fun r_15 M_14 => BR (bm r_15 = 0) (wX11_tired_J41 Q  a0 x3 x4 1 M_14) (wX11_tired_J41 Q  a0 x3 x4 r_4 M_14))) (wX11_tired_J41 Q  a0 x3 x4 r_4 M_3)))
def rmX11_judge : Room := { frames := 5, cells := 0, slots := 0, locals := 119 }
def wX11_judge (a0 : Nat) (x1 : Int) (x2 : Int) (x3 : Int) (M : Mem) (Q : Int → Mem → Prop) : Prop := wX11_within x3 0 4 M (fun r_2 M_1 => wX11_rowFault a0 x1 x2 r_2 M_1 (fun r_4 M_3 => BR (bm r_4 = 0) (wX10_along (a0 + 90) (a0 + 86) 0 M_3 (fun M_7 => BR (bm x3 = 0) (inb (M_7 (a0 + 86) 1) 13 ∧ Q (rd M_7 (a0 + 93) (M_7 (a0 + 86) 1)) M_7) (BR (bm x3 = 1) (inb (M_7 (a0 + 86) 1) 13 ∧ Q (rd M_7 (a0 + 94) (M_7 (a0 + 86) 1)) M_7) (BR (bm x3 = 2) (inb (M_7 (a0 + 86) 1) 13 ∧ Q (rd M_7 (a0 + 97) (M_7 (a0 + 86) 1)) M_7) (BR (bm x3 = 3) (inb (M_7 (a0 + 86) 1) 13 ∧ Q (rd M_7 (a0 + 96) (M_7 (a0 + 86) 1)) M_7) (wX10_isGood (a0 + 90) (M_7 (a0 + 86) 1) M_7 (fun r_27 M_26 => BR (bm r_27 = 0) (Q 0 M_26) (Q 1 M_26)))))))) (wX11_error a0 r_4 M_3 (fun r_29 M_28 => Q r_29 M_28))))
def rmX11_begins : Room := { frames := 5, cells := 0, slots := 0, locals := 119 }
def wX11_begins_J34 (Q : Int → Mem → Prop)  (a0 : Nat) (x3 : Int) (x4 : Int) (M : Mem) : Prop := BR (bm x4 = 0) (wX10_along (a0 + 90) (a0 + 86) 0 M (fun M_5 => inb x3 12 ∧ Q (rd M_5 (a0 + 92) x3) M_5)) (wX11_error a0 x4 M (fun r_10 M_9 => Q r_10 M_9))
def wX11_begins (a0 : Nat) (x1 : Int) (x2 : Int) (x3 : Int) (M : Mem) (Q : Int → Mem → Prop) : Prop := wX11_rowFault a0 x1 x2 1 M (fun r_2 M_1 => BR (bm r_2 = 0) (wX11_within x3 0 ((M_1 (a0 + 86) 1) - 1) M_1 (fun r_13 M_12 => BR (bm r_13 = 0) (wX11_begins_J34 Q  a0 x3 1 M_12) (wX11_begins_J34 Q  a0 x3 r_2 M_12))) (wX11_begins_J34 Q  a0 x3 r_2 M_1))
def rmX11_setFault : Room := { frames := 1, cells := 0, slots := 0, locals := 20 }
def wX11_setFault (a0 : Nat) (x1 : Int) (x2 : Int) (M : Mem) (Q : Int → Mem → Prop) : Prop := BR (bm (iUshr x1 (M (a0 + 1) 1)) = 0) (BR (bm x1 = 0) (Q 5 M) (wJ6_bitCount_0f7a4 x1 M (fun r_3 M_2 => BR (bm r_3 ≤ bm x2) (Q 0 M_2) (Q 5 M_2)))) (Q 1 M)
def rmX11_searchFault : Room := { frames := 14, cells := 0, slots := 0, locals := 335 }
def wX11_searchFault_J15 (Q : Int → Mem → Prop)  (a0 : Nat) (x1 : Int) (xs0 : Int) (M : Mem) : Prop := BR (bm xs0 = 0) (wX6_find (a0 + 102) x1 M (fun M_2 => Q xs0 M_2)) (Q xs0 M)
def wX11_searchFault (a0 : Nat) (x1 : Int) (x2 : Int) (M : Mem) (Q : Int → Mem → Prop) : Prop := BR (bm x2 = 0) (wX11_searchFault_J15 Q  a0 x1 1 M) (wX11_setFault a0 x1 6 M (fun r_4 M_3 => wX11_searchFault_J15 Q  a0 x1 r_4 M_3))
def rmX11_best : Room := { frames := 15, cells := 0, slots := 0, locals := 358 }
def wX11_best_J43 (Q : Int → Mem → Prop)  (a0 : Nat) (x2 : Int) (x3 : Int) (M : Mem) : Prop := BR (bm x3 = 0) (BR (0 ≤ bm x2) (inb x2 12 ∧ Q (rd M (a0 + 105) x2) M) (Q (M (a0 + 104) 2) M)) (wX11_error a0 x3 M (fun r_10 M_9 => Q r_10 M_9))
def wX11_best_J41 (Q : Int → Mem → Prop)  (a0 : Nat) (x2 : Int) (M : Mem) : Prop := wX11_best_J43 Q  a0 x2 2 M
def wX11_best_J12 (Q : Int → Mem → Prop)  (a0 : Nat) (x2 : Int) (xs0 : Int) (xs1 : Int) (as2 : Nat) (M : Mem) : Prop := wX11_searchFault as2 xs1 xs0 M (fun r_2 M_1 => BR (bm r_2 = 0) (BR (bm (M_1 (a0 + 102) 6) = 0) (wX11_best_J41 Q  a0 x2 M_1) (BR (bm x2 < bm (M_1 (a0 + 102) 5)) (wX11_best_J43 Q  a0 x2 r_2 M_1) (wX11_best_J41 Q  a0 x2 M_1))) (wX11_best_J43 Q  a0 x2 r_2 M_1))
def wX11_best (a0 : Nat) (x1 : Int) (x2 : Int) (M : Mem) (Q : Int → Mem → Prop) : Prop := BR (bm x2 < (-1)) (wX11_best_J12 Q  a0 x2 0 x1 a0 M) (wX11_best_J12 Q  a0 x2 1 x1 a0 M)
def rmX11_most : Room := { frames := 15, cells := 0, slots := 0, locals := 358 }
def wX11_most_J28 (Q : Int → Mem → Prop)  (a0 : Nat) (x2 : Int) (x3 : Int) (M : Mem) : Prop := BR (bm x3 = 0) (wX11_partOf (M (a0 + 102) 9) x2 M (fun r_7 M_6 => Q r_7 M_6)) (wX11_error a0 x3 M (fun r_9 M_8 => Q (bm r_9) M_8))
def wX11_most (a0 : Nat) (x1 : Int) (x2 : Int) (M : Mem) (Q : Int → Mem → Prop) : Prop := wX11_within x2 0 1 M (fun r_2 M_1 => wX11_searchFault a0 x1 r_2 M_1 (fun r_4 M_3 => BR (bm r_4 = 0) (BR (bm (M_3 (a0 + 102) 6) = 0) (wX11_most_J28 Q  a0 x2 2 M_3) (wX11_most_J28 Q  a0 x2 r_4 M_3)) (wX11_most_J28 Q  a0 x2 r_4 M_3)))
def rmX11_equals : Room := { frames := 15, cells := 0, slots := 0, locals := 358 }
def wX11_equals (a0 : Nat) (x1 : Int) (x2 : Int) (M : Mem) (Q : Int → Mem → Prop) : Prop := wX11_within x2 0 2 M (fun r_2 M_1 => wX11_searchFault a0 x1 r_2 M_1 (fun r_4 M_3 => BR (bm r_4 = 0) (BR (bm x2 = 0) (Q (M_3 (a0 + 102) 6) M_3) (BR (bm x2 = 1) (Q (M_3 (a0 + 102) 7) M_3) (Q (M_3 (a0 + 102) 8) M_3))) (wX11_error a0 r_4 M_3 (fun r_9 M_8 => Q r_9 M_8))))
def rmX11_bars : Room := { frames := 15, cells := 1, slots := 1024, locals := 358 }
def wX11_bars_J23 (Q : Int → Mem → Prop)  (a0 : Nat) (x2 : Int) (M : Mem) : Prop := BR (bm x2 = 0) (wX6_barring (a0 + 102) M (fun r_5 M_4 => Q r_5 M_4)) (wX11_error a0 x2 M (fun r_7 M_6 => Q r_7 M_6))
def wX11_bars (a0 : Nat) (x1 : Int) (M : Mem) (Q : Int → Mem → Prop) : Prop := wX11_searchFault a0 x1 1 M (fun r_2 M_1 => BR (bm r_2 = 0) (BR (bm (M_1 (a0 + 102) 6) ≤ 0) (wX11_bars_J23 Q  a0 r_2 M_1) (wX11_bars_J23 Q  a0 3 M_1)) (wX11_bars_J23 Q  a0 r_2 M_1))
def rmX11_fewest : Room := { frames := 6, cells := 1, slots := 10240, locals := 142 }
def wX11_fewest_J31 (Q : Int → Mem → Prop)  (a0 : Nat) (x1 : Int) (x2 : Int) (x3 : Int) (M : Mem) : Prop := BR (bm x3 = 0) (wX7_orderFewest (a0 + 107) x1 M (fun M_4 => BR (0 ≤ bm x2) (inb x2 12 ∧ Q (rd M_4 (a0 + 108) x2) M_4) (Q (M_4 (a0 + 107) 4) M_4))) (wX11_error a0 x3 M (fun r_10 M_9 => Q r_10 M_9))
def wX11_fewest_J16 (Q : Int → Mem → Prop)  (a0 : Nat) (x1 : Int) (x2 : Int) (xs0 : Int) (M : Mem) : Prop := BR (bm xs0 = 0) (wJ6_bitCount_0f7a4 x1 M (fun r_12 M_11 => BR (bm x2 < bm r_12) (wX11_fewest_J31 Q  a0 x1 x2 xs0 M_11) (wX11_fewest_J31 Q  a0 x1 x2 2 M_11))) (wX11_fewest_J31 Q  a0 x1 x2 xs0 M)
def wX11_fewest (a0 : Nat) (x1 : Int) (x2 : Int) (M : Mem) (Q : Int → Mem → Prop) : Prop := BR ((-1) ≤ bm x2) (wX11_setFault a0 x1 10 M (fun r_2 M_1 => wX11_fewest_J16 Q  a0 x1 x2 r_2 M_1)) (wX11_fewest_J16 Q  a0 x1 x2 1 M)
def rmX11_better : Room := { frames := 6, cells := 0, slots := 0, locals := 145 }
def wX11_better (a0 : Nat) (x1 : Int) (x2 : Int) (M : Mem) (Q : Int → Mem → Prop) : Prop := wX11_rowFault a0 x1 x2 1 M (fun r_2 M_1 => BR (bm r_2 = 0) (wX6_changeOfTwo (a0 + 102) (a0 + 86) M_1 (fun r_6 M_5 => BR (0 ≤ bm r_6) (Q r_6 M_5) (wX11_error a0 3 M_5 (fun r_8 M_7 => Q r_8 M_7)))) (wX11_error a0 r_2 M_1 (fun r_10 M_9 => Q r_10 M_9)))
def rmX11_slides : Room := { frames := 6, cells := 0, slots := 0, locals := 145 }
def wX11_slides_L33 (Q : Int → Mem → Prop) (E57 : Int → Mem → Prop) (E86 : Int → Mem → Prop) (a0 : Nat) (x1 : Int) (x3 : Int) : Nat → Int → Int → Mem → Prop
  | 0, _, _, _ => False
  | N + 1, x5, x6, M => BR (bm x3 ≤ bm x6) (E86 x5 M) (wX6_changeOfTwo (a0 + 102) (a0 + 86) M (fun r_8 M_7 => BR (0 ≤ bm r_8) (wX5_swap (a0 + 86) (iDiv r_8 100) (iRem r_8 100) M_7 (fun M_10 => LET (x5 + 1) (fun x5_11 => LET (x6 + 1) (fun x6_13 => wX11_slides_L33 Q E57 E86 a0 x1 x3 N x5_11 x6_13 M_10)))) (E57 x5 M_7)))
def wX11_slides_J86 (Q : Int → Mem → Prop)  (a0 : Nat) (x1 : Int) (x5 : Int) (M : Mem) : Prop := inb x1 4 ∧ wX8_takePieces (a0 + 116 + 2 * (bm x1).toNat) (a0 + 86) M (fun M_21 => Q x5 M_21)
def wX11_slides (a0 : Nat) (x1 : Int) (x2 : Int) (x3 : Int) (M : Mem) (Q : Int → Mem → Prop) : Prop := wX11_within x3 1 20 M (fun r_2 M_1 => wX11_rowFault a0 x1 x2 r_2 M_1 (fun r_4 M_3 => BR (bm r_4 = 0) (∃ N_24, wX11_slides_L33 Q (fun x5_15 M_16 => wX11_slides_J86 Q  a0 x1 x5_15 M_16) (fun x5_22 M_23 => wX11_slides_J86 Q  a0 x1 x5_22 M_23) a0 x1 x3 N_24 0 0 M_3) (wX11_error a0 r_4 M_3 (fun r_26 M_25 => Q r_26 M_25))))
def rmX11_ill : Room := { frames := 14, cells := 0, slots := 0, locals := 355 }
def wX11_ill_J111 (Q : Int → Mem → Prop)  (a0 : Nat) (x4 : Int) (x5 : Int) (M : Mem) : Prop := BR (bm x5 = 0) (BR (bm x4 = (-1)) (Q (M (a0 + 102) 10) M) (BR (bm x4 = (-2)) (Q (M (a0 + 104) 2) M) (inb x4 12 ∧ Q (rd M (a0 + 105) x4) M))) (wX11_error a0 x5 M (fun r_11 M_10 => Q r_11 M_10))
def wX11_ill_J108 (Q : Int → Mem → Prop)  (a0 : Nat) (x4 : Int) (M : Mem) : Prop := wX11_ill_J111 Q  a0 x4 2 M
def wX11_ill_J69 (Q : Int → Mem → Prop)  (a0 : Nat) (x3 : Int) (x4 : Int) (x5 : Int) (M : Mem) : Prop := BR (bm x5 = 0) (wX6_moveLeast (a0 + 102) (a0 + 86) x3 M (fun M_14 => BR (bm (M_14 (a0 + 102) 6) = 0) (wX11_ill_J108 Q  a0 x4 M_14) (BR (bm x4 < bm (M_14 (a0 + 102) 5)) (wX11_ill_J111 Q  a0 x4 x5 M_14) (wX11_ill_J108 Q  a0 x4 M_14)))) (wX11_ill_J111 Q  a0 x4 x5 M)
def wX11_ill_J44 (Q : Int → Mem → Prop)  (a0 : Nat) (x3 : Int) (x4 : Int) (x5 : Int) (M : Mem) : Prop := BR (bm x5 = 0) (wX11_within x3 0 ((M (a0 + 86) 1) - 1) M (fun r_19 M_18 => BR (bm r_19 = 0) (wX11_ill_J69 Q  a0 x3 x4 1 M_18) (wX11_ill_J69 Q  a0 x3 x4 x5 M_18))) (wX11_ill_J69 Q  a0 x3 x4 x5 M)
def wX11_ill_J15 (Q : Int → Mem → Prop)  (a0 : Nat) (x3 : Int) (x4 : Int) (xs0 : Int) (xs1 : Int) (xs2 : Int) (as3 : Nat) (M : Mem) : Prop := wX11_rowFault as3 xs2 xs1 xs0 M (fun r_2 M_1 => BR (bm r_2 = 0) (wX11_within (M_1 (a0 + 86) 1) 2 7 M_1 (fun r_22 M_21 => BR (bm r_22 = 0) (wX11_ill_J44 Q  a0 x3 x4 5 M_21) (wX11_ill_J44 Q  a0 x3 x4 r_2 M_21))) (wX11_ill_J44 Q  a0 x3 x4 r_2 M_1))
def wX11_ill (a0 : Nat) (x1 : Int) (x2 : Int) (x3 : Int) (x4 : Int) (M : Mem) (Q : Int → Mem → Prop) : Prop := BR (bm x4 < (-2)) (wX11_ill_J15 Q  a0 x3 x4 0 x2 x1 a0 M) (wX11_ill_J15 Q  a0 x3 x4 1 x2 x1 a0 M)
def rmX11_two : Room := { frames := 2, cells := 0, slots := 0, locals := 52 }
def wX11_two (a0 : Nat) (x1 : Int) (M : Mem) (Q : Int → Mem → Prop) : Prop := wX11_within x1 1 999 M (fun r_2 M_1 => BR (bm r_2 = 0) (wX11_error a0 1 M_1 (fun r_9 M_8 => Q r_9 M_8)) (wX7_firstEvening (a0 + 107) x1 M_1 (fun r_5 M_4 => BR (0 ≤ bm r_5) (Q r_5 M_4) (wX11_error a0 2 M_4 (fun r_7 M_6 => Q r_7 M_6)))))
def rmX11_past : Room := { frames := 2, cells := 0, slots := 0, locals := 48 }
def wX11_past_J14 (Q : Int → Mem → Prop)  (a0 : Nat) (M : Mem) : Prop := wX11_error a0 1 M (fun r_4 M_3 => Q r_4 M_3)
def wX11_past_J44 (Q : Int → Mem → Prop)  (a0 : Nat) (M : Mem) : Prop := wX11_error a0 2 M (fun r_11 M_10 => Q r_11 M_10)
def wX11_past_J103 (Q : Int → Mem → Prop)  (a0 : Nat) (xs0 : Int) (M : Mem) : Prop := BR (bm xs0 = 0) (wX11_error a0 5 M (fun r_43 M_42 => Q r_43 M_42)) (BR (bm (M (a0 + 1) 11) < 8) (inb (M (a0 + 1) 11) 8 ∧ wX5_copyFrom (a0 + 52 + 4 * (bm (M (a0 + 1) 11)).toNat) (a0 + 86) M (fun M_29 => inb (M_29 (a0 + 1) 11) 8 ∧ wX5_copyFrom (a0 + 54 + 4 * (bm (M_29 (a0 + 1) 11)).toNat) (a0 + 88) M_29 (fun M_36 => LET (up M_36 (a0 + 1) 11 ((M_36 (a0 + 1) 11) + 1)) (fun M_38 => Q (M_38 (a0 + 1) 11) M_38)))) (wX11_error a0 4 M (fun r_41 M_40 => Q r_41 M_40)))
def wX11_past_J102 (Q : Int → Mem → Prop)  (a0 : Nat) (M : Mem) : Prop := wX11_past_J103 Q  a0 0 M
def wX11_past (a0 : Nat) (x1 : Int) (x2 : Int) (x3 : Int) (M : Mem) (Q : Int → Mem → Prop) : Prop := wX11_isNoSheet x1 M (fun r_2 M_1 => BR (bm r_2 = 0) (wX11_isNoSheet x2 M_1 (fun r_6 M_5 => BR (bm r_6 = 0) (inb x1 4 ∧ BR (bm (M_5 (a0 + 116 + 2 * (bm x1).toNat) 1) = 0) (wX11_past_J44 Q  a0 M_5) (inb x2 4 ∧ BR (bm (M_5 (a0 + 116 + 2 * (bm x2).toNat) 1) = 0) (wX11_past_J44 Q  a0 M_5) (inb x1 4 ∧ wX5_takesSheet (a0 + 86) (a0 + 116 + 2 * (bm x1).toNat) x3 (M_5 (a0 + 1) 1) M_5 (fun r_21 M_20 => BR (bm r_21 = 0) (wX11_past_J102 Q  a0 M_20) (inb x2 4 ∧ wX5_takesSheet (a0 + 88) (a0 + 116 + 2 * (bm x2).toNat) x3 (M_20 (a0 + 1) 1) M_20 (fun r_50 M_49 => BR (bm r_50 = 0) (wX11_past_J102 Q  a0 M_49) (wX11_past_J103 Q  a0 1 M_49))))))) (wX11_past_J14 Q  a0 M_5))) (wX11_past_J14 Q  a0 M_1))
def rmX11_weighPasts : Room := { frames := 5, cells := 0, slots := 0, locals := 119 }
def wX11_weighPasts_L44 (Q : Mem → Prop) (E81 : Mem → Prop) (a0 : Nat) (x1 : Int) (x2 : Int) : Nat → Int → Mem → Prop
  | 0, _, _ => False
  | N + 1, x3, M => BR (bm (M (a0 + 1) 4) ≤ bm x3) (E81  M) (wX10_totalBy (a0 + 90) x3 M (fun r_14 M_13 => inb ((x2 * 10) + x3) 80 ∧ LET (wr M_13 (a0 + 115) ((x2 * 10) + x3) (bm r_14)) (fun M_16 => LET (x3 + 1) (fun x3_17 => wX11_weighPasts_L44 Q E81 a0 x1 x2 N x3_17 M_16))))
def wX11_weighPasts_L100 (Q : Mem → Prop) (E167 : Mem → Prop) (a0 : Nat) (x1 : Int) (x2 : Int) : Nat → Int → Mem → Prop
  | 0, _, _ => False
  | N + 1, x3, M => BR (bm (M (a0 + 1) 4) ≤ bm x3) (E167  M) (inb ((x2 * 10) + x3) 80 ∧ wX10_totalBy (a0 + 90) x3 M (fun r_31 M_30 => LET ((rd M (a0 + 115) ((x2 * 10) + x3)) - (bm r_31)) (fun x4_32 => inb x3 10 ∧ inb ((x2 * 10) + x3) 80 ∧ LET (wr M_30 (a0 + 115) ((x2 * 10) + x3) (x4_32 * (bm (M_30 (a0 + 22 + 2 * (bm x3).toNat) 3)))) (fun M_39 => LET (x3 + 1) (fun x3_40 => wX11_weighPasts_L100 Q E167 a0 x1 x2 N x3_40 M_39)))))
def wX11_weighPasts_L14 (Q : Mem → Prop)  (a0 : Nat) (x1 : Int) : Nat → Int → Mem → Prop
  | 0, _, _ => False
  | N + 1, x2, M => BR (bm (M (a0 + 1) 11) ≤ bm x2) (Q M) (inb x2 8 ∧ wX10_along (a0 + 90) (a0 + 52 + 4 * (bm x2).toNat) x1 M (fun M_9 => ∃ N_46, wX11_weighPasts_L44 Q (fun M_19 => inb x2 8 ∧ wX10_along (a0 + 90) (a0 + 54 + 4 * (bm x2).toNat) x1 M_19 (fun M_25 => ∃ N_45, wX11_weighPasts_L100 Q (fun M_42 => LET (x2 + 1) (fun x2_43 => wX11_weighPasts_L14 Q  a0 x1 N x2_43 M_42)) a0 x1 x2 N_45 0 M_25)) a0 x1 x2 N_46 0 M_9))
def wX11_weighPasts (a0 : Nat) (M : Mem) (Q : Mem → Prop) : Prop := LET ((iShl 1 (M (a0 + 1) 4)) - 1) (fun x1_2 => ∃ N_47, wX11_weighPasts_L14 Q  a0 x1_2 N_47 0 M)
def rmX11_tellsPasts : Room := { frames := 1, cells := 0, slots := 0, locals := 21 }
def wX11_tellsPasts_L18 (Q : Int → Mem → Prop) (E60 : Int → Mem → Prop) (a0 : Nat) (x1 : Int) (x2 : Int) : Nat → Int → Int → Mem → Prop
  | 0, _, _, _ => False
  | N + 1, l3, x5, M => BR (bm (M (a0 + 1) 4) ≤ bm x5) (E60 l3 M) (wX11_isIn x1 x5 M (fun r_4 M_3 => BR (bm r_4 = 0) (LET (x5 + 1) (fun x5_5 => wX11_tellsPasts_L18 Q E60 a0 x1 x2 N l3 x5_5 M_3)) (inb ((x2 * 10) + x5) 80 ∧ LET (l3 + (rd M_3 (a0 + 115) ((x2 * 10) + x5))) (fun x3_9 => LET (x5 + 1) (fun x5_10 => wX11_tellsPasts_L18 Q E60 a0 x1 x2 N x3_9 x5_10 M_3)))))
def wX11_tellsPasts_L2 (Q : Int → Mem → Prop)  (a0 : Nat) (x1 : Int) : Nat → Int → Mem → Prop
  | 0, _, _ => False
  | N + 1, x2, M => BR (bm (M (a0 + 1) 11) ≤ bm x2) (Q 1 M) (∃ N_16, wX11_tellsPasts_L18 Q (fun l3_12 M_13 => BR (0 < bm (lCmp l3_12 0)) (LET (x2 + 1) (fun x2_14 => wX11_tellsPasts_L2 Q  a0 x1 N x2_14 M_13)) (Q 0 M_13)) a0 x1 x2 N_16 0 0 M)
def wX11_tellsPasts (a0 : Nat) (x1 : Int) (M : Mem) (Q : Int → Mem → Prop) : Prop := ∃ N_17, wX11_tellsPasts_L2 Q  a0 x1 N_17 0 M
def rmX11_plain : Room := { frames := 6, cells := 0, slots := 0, locals := 144 }
def wX11_plain_J71 (Q : Int → Mem → Prop) (C26 : Int → Int → Int → Mem → Prop) (a0 : Nat) (x1 : Int) (x2 : Int) (x4 : Int) (M : Mem) : Prop := LET (x4 + 1) (fun x4_10 => C26 x2 x4 x4_10 M)
def wX11_plain_L26 (Q : Int → Mem → Prop) (E80 : Int → Int → Mem → Prop) (a0 : Nat) (x1 : Int) : Nat → Int → Int → Int → Mem → Prop
  | 0, _, _, _, _ => False
  | N + 1, x2, x3, x4, M => BR (bm (iShl 1 (M (a0 + 1) 4)) ≤ bm x4) (E80 x2 x3 M) (wX11_tellsPasts a0 x4 M (fun r_7 M_6 => BR (bm r_7 = 0) (LET (x4 + 1) (fun x4_18 => wX11_plain_L26 Q E80 a0 x1 N x2 x3 x4_18 M_6)) (LET (x2 + 1) (fun x2_8 => BR (bm x3 < 0) (wX11_plain_J71 Q (fun x2' x3' x4' M' => wX11_plain_L26 Q E80 a0 x1 N x2' x3' x4' M') a0 x1 x2_8 x4 M_6) (wJ6_bitCount_0f7a4 x4 M_6 (fun r_13 M_12 => wJ6_bitCount_0f7a4 x3 M_12 (fun r_15 M_14 => BR (bm r_15 ≤ bm r_13) (LET (x4 + 1) (fun x4_16 => wX11_plain_L26 Q E80 a0 x1 N x2_8 x3 x4_16 M_14)) (wX11_plain_J71 Q (fun x2' x3' x4' M' => wX11_plain_L26 Q E80 a0 x1 N x2' x3' x4' M') a0 x1 x2_8 x4 M_14))))))))
def wX11_plain (a0 : Nat) (x1 : Int) (M : Mem) (Q : Int → Mem → Prop) : Prop := wX11_within x1 ((-1)) 0 M (fun r_2 M_1 => BR (bm r_2 = 0) (wX11_error a0 1 M_1 (fun r_27 M_26 => Q r_27 M_26)) (wX11_weighPasts a0 M_1 (fun M_3 => LET ((-1)) (fun x3_4 => ∃ N_25, wX11_plain_L26 Q (fun x2_20 x3_21 M_22 => BR (0 ≤ bm x1) (BR (0 ≤ bm x3_21) (Q x3_21 M_22) (wX11_error a0 2 M_22 (fun r_24 M_23 => Q r_24 M_23))) (Q x2_20 M_22)) a0 x1 N_25 0 x3_4 0 M_3))))
def rmX11_voice : Room := { frames := 63, cells := 0, slots := 0, locals := 1693 }
def wX11_voice_J17 (Q : Int → Mem → Prop)  (a0 : Nat) (M : Mem) : Prop := wX11_error a0 1 M (fun r_4 M_3 => Q r_4 M_3)
def wX11_voice (a0 : Nat) (x1 : Int) (x2 : Int) (x3 : Int) (M : Mem) (Q : Int → Mem → Prop) : Prop := wX11_isNoLiking a0 x1 M (fun r_2 M_1 => BR (bm r_2 = 0) (wX11_within x2 0 3 M_1 (fun r_6 M_5 => BR (bm r_6 = 0) (wX11_voice_J17 Q  a0 M_5) (inb x1 10 ∧ wX9_speak (a0 + 113) (a0 + 22 + 2 * (bm x1).toNat) x1 x2 x3 M_5 (fun r_13 M_12 => BR (bm (M_12 (a0 + 113) 2) = 0) (Q r_13 M_12) (wX11_error a0 6 M_12 (fun r_16 M_15 => Q r_16 M_15)))))) (wX11_voice_J17 Q  a0 M_1))
def rmX11_trace : Room := { frames := 2, cells := 0, slots := 0, locals := 43 }
def wX11_trace (a0 : Nat) (x1 : Int) (M : Mem) (Q : Int → Mem → Prop) : Prop := wX11_within x1 0 ((M (a0 + 113) 1) - 1) M (fun r_3 M_2 => BR (bm r_3 = 0) (wX11_error a0 2 M_2 (fun r_5 M_4 => Q r_5 M_4)) (inb x1 30 ∧ Q (rd M_2 (a0 + 114) x1) M_2))
def rmX11_sheet : Room := { frames := 2, cells := 0, slots := 0, locals := 43 }
def wX11_sheet_J41 (Q : Int → Mem → Prop)  (a0 : Nat) (M : Mem) : Prop := wX11_error a0 1 M (fun r_4 M_3 => Q r_4 M_3)
def wX11_sheet_J93 (Q : Int → Mem → Prop)  (xs0 : Int) (xs1 : Int) (as2 : Nat) (M : Mem) : Prop := wX8_become as2 xs1 xs0 M (fun M_8 => Q 1 M_8)
def wX11_sheet_J77 (Q : Int → Mem → Prop)  (a0 : Nat) (x1 : Int) (x2 : Int) (x3 : Int) (M : Mem) : Prop := inb x1 4 ∧ BR (bm x2 = 0) (wX11_sheet_J93 Q  0 x2 (a0 + 116 + 2 * (bm x1).toNat) M) (wX11_sheet_J93 Q  x3 x2 (a0 + 116 + 2 * (bm x1).toNat) M)
def wX11_sheet_J61 (Q : Int → Mem → Prop)  (a0 : Nat) (x1 : Int) (x2 : Int) (x3 : Int) (M : Mem) : Prop := BR (bm x2 = 0) (wX11_sheet_J77 Q  a0 x1 x2 x3 M) (BR (bm x3 ≤ 24) (wX11_sheet_J77 Q  a0 x1 x2 x3 M) (wX11_error a0 1 M (fun r_10 M_9 => Q r_10 M_9)))
def wX11_sheet_J27 (Q : Int → Mem → Prop)  (a0 : Nat) (x1 : Int) (x2 : Int) (x3 : Int) (xs0 : Int) (M : Mem) : Prop := wX11_isNoSheet x1 M (fun r_2 M_1 => BR (bm r_2 = 0) (BR (bm xs0 = 0) (wX11_sheet_J41 Q  a0 M_1) (BR (bm x2 = 0) (wX11_sheet_J61 Q  a0 x1 x2 x3 M_1) (BR (0 ≤ bm x3) (wX11_sheet_J61 Q  a0 x1 x2 x3 M_1) (wX11_error a0 3 M_1 (fun r_12 M_11 => Q r_12 M_11))))) (wX11_sheet_J41 Q  a0 M_1))
def wX11_sheet_J22 (Q : Int → Mem → Prop)  (a0 : Nat) (x1 : Int) (x2 : Int) (x3 : Int) (M : Mem) : Prop := wX11_sheet_J27 Q  a0 x1 x2 x3 1 M
def wX11_sheet (a0 : Nat) (x1 : Int) (x2 : Int) (x3 : Int) (M : Mem) (Q : Int → Mem → Prop) : Prop := BR (bm x2 = 0) (wX11_sheet_J22 Q  a0 x1 x2 x3 M) (BR (bm x2 = 8) (wX11_sheet_J22 Q  a0 x1 x2 x3 M) (BR (bm x2 = 16) (wX11_sheet_J22 Q  a0 x1 x2 x3 M) (BR (bm x2 = 32) (wX11_sheet_J22 Q  a0 x1 x2 x3 M) (wX11_sheet_J27 Q  a0 x1 x2 x3 0 M))))
def rmX11_numberFault : Room := { frames := 2, cells := 0, slots := 0, locals := 42 }
def wX11_numberFault (a0 : Nat) (x1 : Int) (x2 : Int) (M : Mem) (Q : Int → Mem → Prop) : Prop := wX11_isNoSheet x1 M (fun r_2 M_1 => BR (bm r_2 = 0) (inb x1 4 ∧ BR (bm (M_1 (a0 + 116 + 2 * (bm x1).toNat) 1) = 0) (Q 2 M_1) (inb x1 4 ∧ wX8_holds (a0 + 116 + 2 * (bm x1).toNat) x2 1 M_1 (fun r_10 M_9 => BR (bm r_10 = 0) (Q 1 M_9) (Q 0 M_9)))) (Q 1 M_1))
def rmX11_put : Room := { frames := 3, cells := 0, slots := 0, locals := 64 }
def wX11_put (a0 : Nat) (x1 : Int) (x2 : Int) (x3 : Int) (M : Mem) (Q : Int → Mem → Prop) : Prop := wX11_numberFault a0 x1 x2 M (fun r_2 M_1 => BR (bm r_2 = 0) (inb x1 4 ∧ wX8_write (a0 + 116 + 2 * (bm x1).toNat) x2 x3 M_1 (fun M_6 => Q 1 M_6)) (wX11_error a0 r_2 M_1 (fun r_8 M_7 => Q r_8 M_7)))
def rmX11_get : Room := { frames := 3, cells := 0, slots := 0, locals := 64 }
def wX11_get (a0 : Nat) (x1 : Int) (x2 : Int) (M : Mem) (Q : Int → Mem → Prop) : Prop := wX11_numberFault a0 x1 x2 M (fun r_2 M_1 => BR (bm r_2 = 0) (inb x1 4 ∧ inb x2 24 ∧ Q (rd M_1 (a0 + 116 + 2 * (bm x1).toNat + 1) x2) M_1) (wX11_error a0 r_2 M_1 (fun r_9 M_8 => Q r_9 M_8)))
def rmX11_move : Room := { frames := 2, cells := 0, slots := 0, locals := 43 }
def wX11_move_J14 (Q : Int → Mem → Prop)  (a0 : Nat) (M : Mem) : Prop := wX11_error a0 1 M (fun r_4 M_3 => Q r_4 M_3)
def wX11_move_J52 (Q : Int → Mem → Prop)  (a0 : Nat) (M : Mem) : Prop := wX11_error a0 2 M (fun r_14 M_13 => Q r_14 M_13)
def wX11_move_J100 (Q : Int → Mem → Prop)  (a0 : Nat) (M : Mem) : Prop := wX11_error a0 1 M (fun r_18 M_17 => Q r_18 M_17)
def wX11_move (a0 : Nat) (x1 : Int) (x2 : Int) (x3 : Int) (x4 : Int) (x5 : Int) (M : Mem) (Q : Int → Mem → Prop) : Prop := wX11_isNoSheet x1 M (fun r_2 M_1 => BR (bm r_2 = 0) (wX11_isNoSheet x3 M_1 (fun r_6 M_5 => BR (bm r_6 = 0) (inb x1 4 ∧ inb x3 4 ∧ BR (bm (M_5 (a0 + 116 + 2 * (bm x1).toNat) 1) = 0) (wX11_move_J52 Q  a0 M_5) (BR (bm (M_5 (a0 + 116 + 2 * (bm x3).toNat) 1) = 0) (wX11_move_J52 Q  a0 M_5) (BR (bm (M_5 (a0 + 116 + 2 * (bm x1).toNat) 1) = bm (M_5 (a0 + 116 + 2 * (bm x3).toNat) 1)) (wX8_holds (a0 + 116 + 2 * (bm x1).toNat) x2 x5 M_5 (fun r_16 M_15 => BR (bm r_16 = 0) (wX11_move_J100 Q  a0 M_15) (wX8_holds (a0 + 116 + 2 * (bm x3).toNat) x4 x5 M_15 (fun r_20 M_19 => BR (bm r_20 = 0) (wX11_move_J100 Q  a0 M_19) ((0 ≤ bm x2 ∧ 0 ≤ bm x4 ∧ 0 ≤ bm x5 ∧ bm x2 + bm x5 ≤ ((24 : Nat) : Int) ∧ bm x4 + bm x5 ≤ ((24 : Nat) : Int)) ∧ LET (cpy M_19 (a0 + 116 + 2 * (bm x1).toNat + 1) (a0 + 116 + 2 * (bm x3).toNat + 1) x2 x4 x5) (fun M_25 => Q x5 M_25)))))) (wX11_error a0 5 M_5 (fun r_27 M_26 => Q r_27 M_26))))) (wX11_move_J14 Q  a0 M_5))) (wX11_move_J14 Q  a0 M_1))
def rmX11_restore : Room := { frames := 4, cells := 0, slots := 0, locals := 91 }
def wX11_restore (a0 : Nat) (M : Mem) (Q : Int → Mem → Prop) : Prop := BR (M a0 1 = 0) (wX11_error a0 2 M (fun r_7 M_6 => Q r_7 M_6)) ((0 < (M a0 1).toNat ∧ M 0 (M a0 1).toNat = kO 0) ∧ wX0_copyFrom (a0 + 1) ((M a0 1).toNat) M (fun M_3 => wX11_forget a0 M_3 (fun M_4 => Q (M_4 (a0 + 1) 1) M_4)))
def rmX11_tell : Room := { frames := 2, cells := 0, slots := 0, locals := 43 }
def wX11_tell (a0 : Nat) (x1 : Int) (M : Mem) (Q : Int → Mem → Prop) : Prop := BR (bm (M (a0 + 1) 13) < 12) (inb (M (a0 + 1) 13) 12 ∧ LET (wr M (a0 + 9) (M (a0 + 1) 13) x1) (fun M_6 => LET (up M_6 (a0 + 1) 13 ((M_6 (a0 + 1) 13) + 1)) (fun M_8 => Q (M_8 (a0 + 1) 13) M_8))) (wX11_error a0 4 M (fun r_11 M_10 => Q r_11 M_10))
def rmX11_firstUnlike : Room := { frames := 0, cells := 0, slots := 0, locals := 0 }
def wX11_firstUnlike_J63 (Q : Int → Mem → Prop) (C2 : Int → Mem → Prop) (a0 : Nat) (x1 : Int) (x2 : Int) (xs0 : Int) (M : Mem) : Prop := BR (bm xs0 = 0) (Q x2 M) (LET (x2 + 1) (fun x2_1 => C2 x2_1 M))
def wX11_firstUnlike_J62 (Q : Int → Mem → Prop) (C2 : Int → Mem → Prop) (a0 : Nat) (x1 : Int) (x2 : Int) (M : Mem) : Prop := wX11_firstUnlike_J63 Q C2 a0 x1 x2 0 M
def wX11_firstUnlike_J18 (Q : Int → Mem → Prop) (C2 : Int → Mem → Prop) (a0 : Nat) (x1 : Int) (x2 : Int) (M : Mem) : Prop := BR (bm x1 ≤ bm x2) (wX11_firstUnlike_J62 Q C2 a0 x1 x2 M) (BR (bm (M (a0 + 102) 5) ≤ bm x2) (wX11_firstUnlike_J62 Q C2 a0 x1 x2 M) (inb x2 12 ∧ inb x2 12 ∧ BR (bm (rd M (a0 + 9) x2) = bm (rd M (a0 + 105) x2)) (wX11_firstUnlike_J63 Q C2 a0 x1 x2 1 M) (wX11_firstUnlike_J62 Q C2 a0 x1 x2 M)))
def wX11_firstUnlike_L2 (Q : Int → Mem → Prop)  (a0 : Nat) (x1 : Int) : Nat → Int → Mem → Prop
  | 0, _, _ => False
  | N + 1, x2, M => BR (bm x2 < bm x1) (wX11_firstUnlike_J18 Q (fun x2' M' => wX11_firstUnlike_L2 Q  a0 x1 N x2' M') a0 x1 x2 M) (BR (bm (M (a0 + 102) 5) ≤ bm x2) (Q ((-1)) M) (wX11_firstUnlike_J18 Q (fun x2' M' => wX11_firstUnlike_L2 Q  a0 x1 N x2' M') a0 x1 x2 M))
def wX11_firstUnlike (a0 : Nat) (x1 : Int) (M : Mem) (Q : Int → Mem → Prop) : Prop := ∃ N_12, wX11_firstUnlike_L2 Q  a0 x1 N_12 0 M
def rmX11_check : Room := { frames := 15, cells := 0, slots := 0, locals := 358 }
def wX11_check_J39 (Q : Int → Mem → Prop)  (a0 : Nat) (x2 : Int) (x3 : Int) (M : Mem) : Prop := BR (bm x3 = 0) (wX11_firstUnlike a0 x2 M (fun r_8 M_7 => Q (1 + r_8) M_7)) (wX11_error a0 x3 M (fun r_10 M_9 => Q r_10 M_9))
def wX11_check (a0 : Nat) (x1 : Int) (M : Mem) (Q : Int → Mem → Prop) : Prop := LET (M (a0 + 1) 13) (fun x2_2 => LET (up M (a0 + 1) 13 0) (fun M_4 => wX11_searchFault a0 x1 1 M_4 (fun r_6 M_5 => BR (bm r_6 = 0) (BR (bm (M_5 (a0 + 102) 6) = 0) (wX11_check_J39 Q  a0 x2_2 2 M_5) (wX11_check_J39 Q  a0 x2_2 r_6 M_5)) (wX11_check_J39 Q  a0 x2_2 r_6 M_5))))
def rmX11_count : Room := { frames := 2, cells := 0, slots := 0, locals := 43 }
def wX11_count (a0 : Nat) (x1 : Int) (M : Mem) (Q : Int → Mem → Prop) : Prop := BR (bm x1 = 0) (Q (M (a0 + 1) 1) M) (BR (bm x1 = 1) (Q (M (a0 + 1) 4) M) (BR (bm x1 = 2) (wX0_likingsOn (a0 + 1) M (fun r_5 M_4 => wJ6_bitCount_0f7a4 r_5 M_4 (fun r_7 M_6 => Q r_7 M_6))) (BR (bm x1 = 3) (Q (M (a0 + 1) 6) M) (BR (bm x1 = 4) (Q (M (a0 + 1) 11) M) (BR (bm x1 = 5) (Q (M (a0 + 1) 8) M) (BR (bm x1 = 6) (Q (M (a0 + 1) 13) M) (BR (bm x1 = 7) (Q (M (a0 + 113) 1) M) (wX11_error a0 1 M (fun r_14 M_13 => Q r_14 M_13)))))))))
def rmX11_told : Room := { frames := 2, cells := 0, slots := 0, locals := 43 }
def wX11_told (a0 : Nat) (x1 : Int) (M : Mem) (Q : Int → Mem → Prop) : Prop := wX11_within x1 1 6 M (fun r_2 M_1 => BR (bm r_2 = 0) (wX11_error a0 1 M_1 (fun r_4 M_3 => Q r_4 M_3)) (inb x1 7 ∧ Q (rd M_1 (a0 + 85) x1) M_1))
def rmX12_error : Room := { frames := 0, cells := 0, slots := 0, locals := 0 }
def wX12_error (a0 : Nat) (x1 : Int) (M : Mem) (Q : Int → Mem → Prop) : Prop := inb x1 7 ∧ inb x1 7 ∧ LET (wr M (a0 + 3) x1 ((rd M (a0 + 3) x1) + 1)) (fun M_4 => Q (((-1000000)) - x1) M_4)
def rmX12_in : Room := { frames := 0, cells := 0, slots := 0, locals := 0 }
def wX12_in (x0 : Int) (x1 : Int) (x2 : Int) (M : Mem) (Q : Int → Mem → Prop) : Prop := BR (bm x0 < bm x1) (Q 0 M) (BR (bm x2 < bm x0) (Q 0 M) (Q 1 M))
def rmX12_ones : Room := { frames := 0, cells := 0, slots := 0, locals := 0 }
def wX12_ones_L4 (Q : Int → Mem → Prop)  (x0 : Int) : Nat → Int → Int → Mem → Prop
  | 0, _, _, _ => False
  | N + 1, x1, x2, M => BR (12 ≤ bm x2) (Q x1 M) (LET (x1 + (iAnd (iShr x0 x2) 1)) (fun x1_1 => LET (x2 + 1) (fun x2_2 => wX12_ones_L4 Q  x0 N x1_1 x2_2 M)))
def wX12_ones (x0 : Int) (M : Mem) (Q : Int → Mem → Prop) : Prop := ∃ N_4, wX12_ones_L4 Q  x0 N_4 0 0 M
def rmX12_become : Room := { frames := 0, cells := 0, slots := 0, locals := 0 }
def wX12_become (a0 : Nat) (x1 : Int) (x2 : Int) (M : Mem) (Q : Int → Mem → Prop) : Prop := inb x1 1522 ∧ LET (rd M (a0 + 1) x1) (fun x3_3 => inb x1 1522 ∧ LET (wr M (a0 + 1) x1 x2) (fun M_6 => Q x3_3 M_6))
def rmX12_isPiece : Room := { frames := 1, cells := 0, slots := 0, locals := 22 }
def wX12_isPiece (a0 : Nat) (x1 : Int) (M : Mem) (Q : Int → Mem → Prop) : Prop := wX12_in x1 0 ((rd M (a0 + 1) 0) - 1) M (fun r_3 M_2 => isB r_3 ∧ Q r_3 M_2)
def rmX12_isLiking : Room := { frames := 1, cells := 0, slots := 0, locals := 22 }
def wX12_isLiking (a0 : Nat) (x1 : Int) (M : Mem) (Q : Int → Mem → Prop) : Prop := wX12_in x1 0 ((rd M (a0 + 1) 1) - 1) M (fun r_3 M_2 => isB r_3 ∧ Q r_3 M_2)
def rmX12_of : Room := { frames := 0, cells := 0, slots := 0, locals := 0 }
def wX12_of (a0 : Nat) (x1 : Int) (x2 : Int) (M : Mem) (Q : Int → Mem → Prop) : Prop := inb ((20 + (6 * x1)) + x2) 1522 ∧ Q (rd M (a0 + 1) ((20 + (6 * x1)) + x2)) M
def rmX12_likingIs : Room := { frames := 0, cells := 0, slots := 0, locals := 0 }
def wX12_likingIs (a0 : Nat) (x1 : Int) (x2 : Int) (M : Mem) (Q : Int → Mem → Prop) : Prop := inb ((100 + (4 * x1)) + x2) 1522 ∧ Q (rd M (a0 + 1) ((100 + (4 * x1)) + x2)) M
def rmX12_piece : Room := { frames := 1, cells := 0, slots := 0, locals := 22 }
def wX12_piece_J76 (Q : Int → Mem → Prop)  (a0 : Nat) (M : Mem) : Prop := wX12_error a0 1 M (fun r_4 M_3 => Q r_4 M_3)
def wX12_piece_J65 (Q : Int → Mem → Prop)  (a0 : Nat) (x1 : Int) (x2 : Int) (x3 : Int) (x4 : Int) (xs0 : Int) (M : Mem) : Prop := BR (bm x1 < 0) (wX12_piece_J76 Q  a0 M) (BR (bm xs0 = 0) (wX12_piece_J76 Q  a0 M) (BR (bm (rd M (a0 + 1) 0) = 12) (wX12_error a0 4 M (fun r_30 M_29 => Q r_30 M_29)) (LET (20 + (6 * (rd M (a0 + 1) 0))) (fun x6_7 => inb (x6_7 + 0) 1522 ∧ LET (wr M (a0 + 1) (x6_7 + 0) (iDiv x1 1000)) (fun M_10 => inb (x6_7 + 1) 1522 ∧ LET (wr M_10 (a0 + 1) (x6_7 + 1) (iDiv (iRem x1 1000) 10)) (fun M_13 => inb (x6_7 + 2) 1522 ∧ LET (wr M_13 (a0 + 1) (x6_7 + 2) (iRem x1 10)) (fun M_16 => inb (x6_7 + 3) 1522 ∧ LET (wr M_16 (a0 + 1) (x6_7 + 3) x2) (fun M_19 => inb (x6_7 + 4) 1522 ∧ LET (wr M_19 (a0 + 1) (x6_7 + 4) x3) (fun M_22 => inb (x6_7 + 5) 1522 ∧ LET (wr M_22 (a0 + 1) (x6_7 + 5) x4) (fun M_25 => LET (wr M_25 (a0 + 1) 0 ((rd M_25 (a0 + 1) 0) + 1)) (fun M_27 => Q ((rd M_27 (a0 + 1) 0) - 1) M_27)))))))))))
def wX12_piece_J64 (Q : Int → Mem → Prop)  (a0 : Nat) (x1 : Int) (x2 : Int) (x3 : Int) (x4 : Int) (M : Mem) : Prop := wX12_piece_J65 Q  a0 x1 x2 x3 x4 0 M
def wX12_piece (a0 : Nat) (x1 : Int) (x2 : Int) (x3 : Int) (x4 : Int) (M : Mem) (Q : Int → Mem → Prop) : Prop := wX12_in (iDiv x1 1000) 1 60 M (fun r_2 M_1 => BR (bm r_2 = 0) (wX12_piece_J64 Q  a0 x1 x2 x3 x4 M_1) (BR (11 < bm (iDiv (iRem x1 1000) 10)) (wX12_piece_J64 Q  a0 x1 x2 x3 x4 M_1) (wX12_in x2 0 255 M_1 (fun r_32 M_31 => BR (bm r_32 = 0) (wX12_piece_J64 Q  a0 x1 x2 x3 x4 M_31) (wX12_in x3 0 255 M_31 (fun r_34 M_33 => BR (bm r_34 = 0) (wX12_piece_J64 Q  a0 x1 x2 x3 x4 M_33) (wX12_in x4 0 99 M_33 (fun r_36 M_35 => BR (bm r_36 = 0) (wX12_piece_J64 Q  a0 x1 x2 x3 x4 M_35) (wX12_piece_J65 Q  a0 x1 x2 x3 x4 1 M_35)))))))))
def rmX12_pieceIs : Room := { frames := 2, cells := 0, slots := 0, locals := 43 }
def wX12_pieceIs_J26 (Q : Int → Mem → Prop)  (a0 : Nat) (M : Mem) : Prop := wX12_error a0 1 M (fun r_4 M_3 => Q r_4 M_3)
def wX12_pieceIs (a0 : Nat) (x1 : Int) (x2 : Int) (M : Mem) (Q : Int → Mem → Prop) : Prop := wX12_isPiece a0 x1 M (fun r_2 M_1 => BR (bm r_2 = 0) (wX12_pieceIs_J26 Q  a0 M_1) (wX12_in x2 0 5 M_1 (fun r_6 M_5 => BR (bm r_6 = 0) (wX12_pieceIs_J26 Q  a0 M_5) (wX12_of a0 x1 x2 M_5 (fun r_8 M_7 => Q r_8 M_7)))))
def rmX12_rule : Room := { frames := 1, cells := 0, slots := 0, locals := 23 }
def wX12_rule_J54 (Q : Int → Mem → Prop)  (a0 : Nat) (M : Mem) : Prop := wX12_error a0 1 M (fun r_4 M_3 => Q r_4 M_3)
def wX12_rule_J23 (Q : Int → Mem → Prop)  (a0 : Nat) (x1 : Int) (x2 : Int) (xs0 : Int) (M : Mem) : Prop := wX12_in x1 0 3 M (fun r_2 M_1 => BR (bm r_2 = 0) (wX12_rule_J54 Q  a0 M_1) (wX12_in x2 0 xs0 M_1 (fun r_6 M_5 => BR (bm r_6 = 0) (wX12_rule_J54 Q  a0 M_5) (wX12_become a0 (6 + x1) x2 M_5 (fun r_8 M_7 => Q r_8 M_7)))))
def wX12_rule (a0 : Nat) (x1 : Int) (x2 : Int) (M : Mem) (Q : Int → Mem → Prop) : Prop := BR (bm x1 = 2) (wX12_rule_J23 Q  a0 x1 x2 60 M) (BR (bm x1 = 3) (wX12_rule_J23 Q  a0 x1 x2 999 M) (wX12_rule_J23 Q  a0 x1 x2 9 M))
def rmX12_liking : Room := { frames := 1, cells := 0, slots := 0, locals := 22 }
def wX12_liking_J31 (Q : Int → Mem → Prop)  (a0 : Nat) (M : Mem) : Prop := wX12_error a0 1 M (fun r_4 M_3 => Q r_4 M_3)
def wX12_liking (a0 : Nat) (x1 : Int) (x2 : Int) (x3 : Int) (M : Mem) (Q : Int → Mem → Prop) : Prop := wX12_in x1 0 6 M (fun r_2 M_1 => BR (bm r_2 = 0) (wX12_liking_J31 Q  a0 M_1) (wX12_in x2 ((-9)) 9 M_1 (fun r_6 M_5 => BR (bm r_6 = 0) (wX12_liking_J31 Q  a0 M_5) (wX12_in x3 1 9 M_5 (fun r_8 M_7 => BR (bm r_8 = 0) (wX12_liking_J31 Q  a0 M_7) (BR (bm (rd M_7 (a0 + 1) 1) = 10) (wX12_error a0 4 M_7 (fun r_32 M_31 => Q r_32 M_31)) (LET (100 + (4 * (rd M_7 (a0 + 1) 1))) (fun x4_11 => inb (x4_11 + 0) 1522 ∧ LET (wr M_7 (a0 + 1) (x4_11 + 0) x1) (fun M_14 => inb (x4_11 + 1) 1522 ∧ LET (wr M_14 (a0 + 1) (x4_11 + 1) x2) (fun M_17 => inb (x4_11 + 2) 1522 ∧ LET (wr M_17 (a0 + 1) (x4_11 + 2) x3) (fun M_20 => inb (x4_11 + 3) 1522 ∧ LET (wr M_20 (a0 + 1) (x4_11 + 3) 1) (fun M_23 => inb (150 + (105 * (rd M_23 (a0 + 1) 1))) 1522 ∧ LET (wr M_23 (a0 + 1) (150 + (105 * (rd M_23 (a0 + 1) 1))) 0) (fun M_27 => LET (wr M_27 (a0 + 1) 1 ((rd M_27 (a0 + 1) 1) + 1)) (fun M_29 => Q ((rd M_29 (a0 + 1) 1) - 1) M_29))))))))))))))
def rmX12_turn : Room := { frames := 2, cells := 0, slots := 0, locals := 43 }
def wX12_turn_J23 (Q : Int → Mem → Prop)  (a0 : Nat) (x1 : Int) (xs0 : Int) (M : Mem) : Prop := wX12_become a0 ((100 + (4 * x1)) + 3) xs0 M (fun r_4 M_3 => BR (bm r_4 = bm xs0) (Q 0 M_3) (Q 1 M_3))
def wX12_turn (a0 : Nat) (x1 : Int) (x2 : Int) (M : Mem) (Q : Int → Mem → Prop) : Prop := wX12_isLiking a0 x1 M (fun r_2 M_1 => BR (bm r_2 = 0) (wX12_error a0 1 M_1 (fun r_6 M_5 => Q r_6 M_5)) (BR (bm x2 = 0) (wX12_turn_J23 Q  a0 x1 0 M_1) (wX12_turn_J23 Q  a0 x1 1 M_1)))
def rmX12_as : Room := { frames := 2, cells := 0, slots := 0, locals := 43 }
def wX12_as_J18 (Q : Int → Mem → Prop)  (a0 : Nat) (M : Mem) : Prop := wX12_error a0 1 M (fun r_4 M_3 => Q r_4 M_3)
def wX12_as_J55 (Q : Int → Mem → Prop)  (a0 : Nat) (x1 : Int) (xs0 : Int) (M : Mem) : Prop := BR (bm xs0 = 0) (wX12_error a0 5 M (fun r_10 M_9 => Q r_10 M_9)) (wX12_likingIs a0 x1 1 M (fun r_12 M_11 => wX12_likingIs a0 x1 2 M_11 (fun r_14 M_13 => Q ((100 * r_12) + r_14) M_13)))
def wX12_as_J50 (Q : Int → Mem → Prop)  (a0 : Nat) (x1 : Int) (M : Mem) : Prop := wX12_as_J55 Q  a0 x1 1 M
def wX12_as_J54 (Q : Int → Mem → Prop)  (a0 : Nat) (x1 : Int) (M : Mem) : Prop := wX12_as_J55 Q  a0 x1 0 M
def wX12_as (a0 : Nat) (x1 : Int) (x2 : Int) (M : Mem) (Q : Int → Mem → Prop) : Prop := wX12_isLiking a0 x1 M (fun r_2 M_1 => BR (bm r_2 = 0) (wX12_as_J18 Q  a0 M_1) (wX12_in x2 0 6 M_1 (fun r_6 M_5 => BR (bm r_6 = 0) (wX12_as_J18 Q  a0 M_5) (wX12_likingIs a0 x1 0 M_5 (fun r_8 M_7 => BR (bm x2 = 0) (wX12_as_J50 Q  a0 x1 M_7) (BR (bm x2 = bm r_8) (wX12_as_J50 Q  a0 x1 M_7) (BR (bm x2 = 1) (BR (bm r_8 = 5) (wX12_as_J50 Q  a0 x1 M_7) (wX12_as_J54 Q  a0 x1 M_7)) (wX12_as_J54 Q  a0 x1 M_7))))))))
def rmX12_must : Room := { frames := 2, cells := 0, slots := 0, locals := 43 }
def wX12_must_J58 (Q : Int → Mem → Prop)  (a0 : Nat) (M : Mem) : Prop := wX12_error a0 1 M (fun r_4 M_3 => Q r_4 M_3)
def wX12_must (a0 : Nat) (x1 : Int) (x2 : Int) (x3 : Int) (M : Mem) (Q : Int → Mem → Prop) : Prop := wX12_in x1 0 7 M (fun r_2 M_1 => BR (bm r_2 = 0) (wX12_must_J58 Q  a0 M_1) (BR (bm x2 < 0) (wX12_must_J58 Q  a0 M_1) (wX12_isPiece a0 (iDiv x2 100) M_1 (fun r_6 M_5 => BR (bm r_6 = 0) (wX12_must_J58 Q  a0 M_5) (wX12_isPiece a0 (iRem x2 100) M_5 (fun r_8 M_7 => BR (bm r_8 = 0) (wX12_must_J58 Q  a0 M_7) (BR (bm (iDiv x2 100) = bm (iRem x2 100)) (wX12_must_J58 Q  a0 M_7) (wX12_in x3 0 999 M_7 (fun r_10 M_9 => BR (bm r_10 = 0) (wX12_must_J58 Q  a0 M_9) (BR (bm (rd M_9 (a0 + 1) 2) = 10) (wX12_error a0 4 M_9 (fun r_30 M_29 => Q r_30 M_29)) (LET (1200 + (4 * (rd M_9 (a0 + 1) 2))) (fun x4_13 => inb x4_13 1522 ∧ LET (wr M_9 (a0 + 1) x4_13 x1) (fun M_16 => inb (x4_13 + 1) 1522 ∧ LET (wr M_16 (a0 + 1) (x4_13 + 1) (iDiv x2 100)) (fun M_19 => inb (x4_13 + 2) 1522 ∧ LET (wr M_19 (a0 + 1) (x4_13 + 2) (iRem x2 100)) (fun M_22 => inb (x4_13 + 3) 1522 ∧ LET (wr M_22 (a0 + 1) (x4_13 + 3) x3) (fun M_25 => LET (wr M_25 (a0 + 1) 2 ((rd M_25 (a0 + 1) 2) + 1)) (fun M_27 => Q ((rd M_27 (a0 + 1) 2) - 1) M_27)))))))))))))))))
def rmX12_feed : Room := { frames := 1, cells := 0, slots := 0, locals := 22 }
def wX12_feed_L38 (Q : Int → Mem → Prop)  (a0 : Nat) (l1 : Int) (x3 : Int) : Nat → Int → Mem → Prop
  | 0, _, _ => False
  | N + 1, x4, M => BR (bm x3 ≤ bm x4) (Q (rd M (a0 + 1) 4) M) (inb (1460 + (rd M (a0 + 1) 4)) 1522 ∧ LET (wr M (a0 + 1) (1460 + (rd M (a0 + 1) 4)) (lAnd (lShr l1 (8 * x4)) 255)) (fun M_8 => LET (wr M_8 (a0 + 1) 4 ((rd M_8 (a0 + 1) 4) + 1)) (fun M_10 => LET (x4 + 1) (fun x4_11 => wX12_feed_L38 Q  a0 l1 x3 N x4_11 M_10))))
def wX12_feed (a0 : Nat) (l1 : Int) (x3 : Int) (M : Mem) (Q : Int → Mem → Prop) : Prop := wX12_in x3 1 8 M (fun r_2 M_1 => BR (bm r_2 = 0) (wX12_error a0 1 M_1 (fun r_17 M_16 => Q r_17 M_16)) (BR (bm ((rd M_1 (a0 + 1) 4) + x3) ≤ 50) (∃ N_13, wX12_feed_L38 Q  a0 l1 x3 N_13 0 M_1) (wX12_error a0 4 M_1 (fun r_15 M_14 => Q r_15 M_14))))
def rmX12_look : Room := { frames := 0, cells := 0, slots := 0, locals := 0 }
def wX12_look (a0 : Nat) (M : Mem) (Q : Int → Mem → Prop) : Prop := BR (bm (rd M (a0 + 1) 4) ≤ bm (M a0 4)) (Q ((-1)) M) (inb (1460 + (M a0 4)) 1522 ∧ Q (rd M (a0 + 1) (1460 + (M a0 4))) M)
def rmX12_isName : Room := { frames := 0, cells := 0, slots := 0, locals := 0 }
def wX12_isName_J40 (Q : Int → Mem → Prop)  (x1 : Int) (M : Mem) : Prop := BR (bm x1 = 97) (Q 1 M) (BR (bm x1 = 98) (Q 1 M) (BR (bm x1 = 107) (Q 1 M) (BR (bm x1 = 115) (Q 1 M) (Q 0 M))))
def wX12_isName_J118 (Q : Int → Mem → Prop)  (x1 : Int) (M : Mem) : Prop := BR (bm x1 = 116) (Q 1 M) (Q 0 M)
def wX12_isName (a0 : Nat) (x1 : Int) (M : Mem) (Q : Int → Mem → Prop) : Prop := BR (bm (M a0 8) = 1) (wX12_isName_J40 Q  x1 M) (BR (bm (M a0 8) = 2) (BR (bm x1 = 109) (Q 1 M) (Q 0 M)) (BR (bm (M a0 8) = 3) (BR (bm x1 = 112) (Q 1 M) (BR (bm x1 = 110) (Q 1 M) (BR (bm x1 = 108) (Q 1 M) (BR (bm x1 = 105) (Q 1 M) (BR (bm x1 = 106) (Q 1 M) (Q 0 M)))))) (BR (bm (M a0 8) = 4) (wX12_isName_J118 Q  x1 M) (BR (bm (M a0 8) = 5) (wX12_isName_J40 Q  x1 M) (wX12_isName_J118 Q  x1 M)))))
def rmX12_lay : Room := { frames := 0, cells := 0, slots := 0, locals := 0 }
def wX12_lay (a0 : Nat) (x1 : Int) (x2 : Int) (M : Mem) (Q : Mem → Prop) : Prop := inb (2 * (M a0 7)) 104 ∧ LET (wr M (a0 + 4) (2 * (M a0 7)) x1) (fun M_3 => inb ((2 * (M_3 a0 7)) + 1) 104 ∧ LET (wr M_3 (a0 + 4) ((2 * (M_3 a0 7)) + 1) x2) (fun M_6 => LET (up M_6 a0 7 ((M_6 a0 7) + 1)) (fun M_7 => Q M_7)))
def rmX12_opens : Room := { frames := 0, cells := 0, slots := 0, locals := 0 }
def wX12_opens (a0 : Nat) (M : Mem) (Q : Int → Mem → Prop) : Prop := BR (bm (M a0 5) = 5) (Q 0 M) (LET (up M a0 5 ((M a0 5) + 1)) (fun M_1 => LET (up M_1 a0 4 ((M_1 a0 4) + 1)) (fun M_2 => Q 1 M_2)))
def rmX12_passes : Room := { frames := 1, cells := 0, slots := 0, locals := 20 }
def wX12_passes (a0 : Nat) (x1 : Int) (M : Mem) (Q : Int → Mem → Prop) : Prop := wX12_look a0 M (fun r_2 M_1 => BR (bm r_2 = bm x1) (LET (up M_1 a0 4 ((M_1 a0 4) + 1)) (fun M_3 => Q 1 M_3)) (Q 0 M_1))
def rmX12_whole (d : Nat) : Room := { frames := 2 + d, cells := 0, slots := 0, locals := 41 + 22 * d }
def rmX12_sum (d : Nat) : Room := { frames := 2 + d, cells := 0, slots := 0, locals := 41 + 22 * d }
def rmX12_product (d : Nat) : Room := { frames := 2 + d, cells := 0, slots := 0, locals := 41 + 22 * d }
def rmX12_one (d : Nat) : Room := { frames := 2 + d, cells := 0, slots := 0, locals := 41 + 22 * d }
def wbX12_whole (Γ : Nat → List Int → Mem → (Int → Mem → Prop) → Prop) (a0 : Nat) (M : Mem) (Q : Int → Mem → Prop) : Prop := Γ 1 [] M (fun r_2 M_1 => BR (bm r_2 = 0) (Q 0 M_1) (wX12_look a0 M_1 (fun r_4 M_3 => BR (bm r_4 = 63) (wX12_opens a0 M_3 (fun r_6 M_5 => BR (bm r_6 = 0) (Q 0 M_5) (LET (up M_5 a0 6 ((M_5 a0 6) + 1)) (fun M_7 => Γ 0 [] M_7 (fun r_9 M_8 => BR (bm r_9 = 0) (Q 0 M_8) (wX12_passes a0 58 M_8 (fun r_11 M_10 => BR (bm r_11 = 0) (Q 0 M_10) (Γ 0 [] M_10 (fun r_13 M_12 => BR (bm r_13 = 0) (Q 0 M_12) (LET (up M_12 a0 5 ((M_12 a0 5) - 1)) (fun M_14 => wX12_lay a0 4 0 M_14 (fun M_15 => Q 1 M_15)))))))))))) (Q 1 M_3))))
def wX12_sum_J27 (Γ : Nat → List Int → Mem → (Int → Mem → Prop) → Prop) (Q : Int → Mem → Prop) (C9 : Mem → Prop) (a0 : Nat) (M : Mem) : Prop := wX12_look a0 M (fun r_6 M_5 => LET (up M_5 a0 4 ((M_5 a0 4) + 1)) (fun M_7 => LET (up M_7 a0 6 ((M_7 a0 6) + 1)) (fun M_8 => Γ 2 [] M_8 (fun r_10 M_9 => BR (bm r_10 = 0) (Q 0 M_9) (wX12_lay a0 3 r_6 M_9 (fun M_11 => C9  M_11))))))
def wX12_sum_L9 (Γ : Nat → List Int → Mem → (Int → Mem → Prop) → Prop) (Q : Int → Mem → Prop)  (a0 : Nat) : Nat → Mem → Prop
  | 0, _ => False
  | N + 1, M => wX12_look a0 M (fun r_4 M_3 => BR (bm r_4 = 43) (wX12_sum_J27 Γ Q (fun  M' => wX12_sum_L9 Γ Q  a0 N  M') a0 M_3) (wX12_look a0 M_3 (fun r_13 M_12 => BR (bm r_13 = 45) (wX12_sum_J27 Γ Q (fun  M' => wX12_sum_L9 Γ Q  a0 N  M') a0 M_12) (Q 1 M_12))))
def wbX12_sum (Γ : Nat → List Int → Mem → (Int → Mem → Prop) → Prop) (a0 : Nat) (M : Mem) (Q : Int → Mem → Prop) : Prop := Γ 2 [] M (fun r_2 M_1 => BR (bm r_2 = 0) (Q 0 M_1) (∃ N_14, wX12_sum_L9 Γ Q  a0 N_14  M_1))
def wX12_product_J45 (Γ : Nat → List Int → Mem → (Int → Mem → Prop) → Prop) (Q : Int → Mem → Prop) (C9 : Mem → Prop) (a0 : Nat) (M : Mem) : Prop := wX12_look a0 M (fun r_6 M_5 => LET (up M_5 a0 4 ((M_5 a0 4) + 1)) (fun M_7 => LET (up M_7 a0 6 ((M_7 a0 6) + 1)) (fun M_8 => Γ 3 [] M_8 (fun r_10 M_9 => BR (bm r_10 = 0) (Q 0 M_9) (wX12_lay a0 3 r_6 M_9 (fun M_11 => C9  M_11))))))
def wX12_product_L9 (Γ : Nat → List Int → Mem → (Int → Mem → Prop) → Prop) (Q : Int → Mem → Prop)  (a0 : Nat) : Nat → Mem → Prop
  | 0, _ => False
  | N + 1, M => wX12_look a0 M (fun r_4 M_3 => BR (bm r_4 = 42) (wX12_product_J45 Γ Q (fun  M' => wX12_product_L9 Γ Q  a0 N  M') a0 M_3) (wX12_look a0 M_3 (fun r_13 M_12 => BR (bm r_13 = 47) (wX12_product_J45 Γ Q (fun  M' => wX12_product_L9 Γ Q  a0 N  M') a0 M_12) (wX12_look a0 M_12 (fun r_15 M_14 => BR (bm r_15 = 60) (wX12_product_J45 Γ Q (fun  M' => wX12_product_L9 Γ Q  a0 N  M') a0 M_14) (wX12_look a0 M_14 (fun r_17 M_16 => BR (bm r_17 = 61) (wX12_product_J45 Γ Q (fun  M' => wX12_product_L9 Γ Q  a0 N  M') a0 M_16) (Q 1 M_16))))))))
def wbX12_product (Γ : Nat → List Int → Mem → (Int → Mem → Prop) → Prop) (a0 : Nat) (M : Mem) (Q : Int → Mem → Prop) : Prop := Γ 3 [] M (fun r_2 M_1 => BR (bm r_2 = 0) (Q 0 M_1) (∃ N_18, wX12_product_L9 Γ Q  a0 N_18  M_1))
def wX12_one_J94 (Γ : Nat → List Int → Mem → (Int → Mem → Prop) → Prop) (Q : Int → Mem → Prop)  (a0 : Nat) (x2 : Int) (M : Mem) : Prop := wX12_lay a0 0 x2 M (fun M_27 => Q 1 M_27)
def wbX12_one (Γ : Nat → List Int → Mem → (Int → Mem → Prop) → Prop) (a0 : Nat) (M : Mem) (Q : Int → Mem → Prop) : Prop := wX12_look a0 M (fun r_2 M_1 => wX12_isName a0 r_2 M_1 (fun r_4 M_3 => BR (bm r_4 = 0) (wX12_in r_2 48 57 M_3 (fun r_6 M_5 => BR (bm r_6 = 0) (BR (bm r_2 = 45) (wX12_opens a0 M_5 (fun r_15 M_14 => BR (bm r_15 = 0) (Q 0 M_14) (LET (up M_14 a0 6 ((M_14 a0 6) + 1)) (fun M_16 => Γ 3 [] M_16 (fun r_18 M_17 => BR (bm r_18 = 0) (Q 0 M_17) (LET (up M_17 a0 5 ((M_17 a0 5) - 1)) (fun M_19 => wX12_lay a0 2 0 M_19 (fun M_20 => Q 1 M_20)))))))) (BR (bm r_2 = 40) (wX12_opens a0 M_5 (fun r_8 M_7 => BR (bm r_8 = 0) (Q 0 M_7) (Γ 0 [] M_7 (fun r_10 M_9 => BR (bm r_10 = 0) (Q 0 M_9) (wX12_passes a0 41 M_9 (fun r_12 M_11 => BR (bm r_12 = 0) (Q 0 M_11) (LET (up M_11 a0 5 ((M_11 a0 5) - 1)) (fun M_13 => Q 1 M_13)))))))) (Q 0 M_5))) (LET (r_2 - 48) (fun x2_21 => LET (up M_5 a0 4 ((M_5 a0 4) + 1)) (fun M_22 => wX12_look a0 M_22 (fun r_24 M_23 => wX12_in r_24 48 57 M_23 (fun r_26 M_25 => BR (bm r_26 = 0) (wX12_one_J94 Γ Q  a0 x2_21 M_25) (wX12_look a0 M_25 (fun r_29 M_28 => LET (((10 * x2_21) + r_29) - 48) (fun x2_30 => LET (up M_28 a0 4 ((M_28 a0 4) + 1)) (fun M_31 => wX12_one_J94 Γ Q  a0 x2_30 M_31))))))))))) (LET (up M_3 a0 4 ((M_3 a0 4) + 1)) (fun M_32 => wX12_lay a0 1 r_2 M_32 (fun M_33 => Q 1 M_33)))))
def wGX12_whole (a0 : Nat) : Nat → Nat → List Int → Mem → (Int → Mem → Prop) → Prop
  | 0, _, _, _, _ => False
  | d + 1, k, xs, M, Q => match k with
    | 0 => wbX12_whole (wGX12_whole a0 d) a0 M Q
    | 1 => wbX12_sum (wGX12_whole a0 d) a0 M Q
    | 2 => wbX12_product (wGX12_whole a0 d) a0 M Q
    | _ => wbX12_one (wGX12_whole a0 d) a0 M Q
def wX12_whole  (a0 : Nat) (M : Mem) (Q : Int → Mem → Prop) : Prop := wGX12_whole a0 40 0 [] M Q
def wX12_sum  (a0 : Nat) (M : Mem) (Q : Int → Mem → Prop) : Prop := wGX12_whole a0 40 1 [] M Q
def wX12_product  (a0 : Nat) (M : Mem) (Q : Int → Mem → Prop) : Prop := wGX12_whole a0 40 2 [] M Q
def wX12_one  (a0 : Nat) (M : Mem) (Q : Int → Mem → Prop) : Prop := wGX12_whole a0 40 3 [] M Q
def rmX12_text : Room := { frames := 43, cells := 0, slots := 0, locals := 941 }
def wX12_text_J40 (Q : Int → Mem → Prop)  (a0 : Nat) (M : Mem) : Prop := wX12_error a0 5 M (fun r_7 M_6 => Q r_7 M_6)
def wX12_text_L133 (Q : Int → Mem → Prop)  (a0 : Nat) (x3 : Int) : Nat → Int → Mem → Prop
  | 0, _, _ => False
  | N + 1, x4, M => BR (bm (2 * (M a0 7)) ≤ bm x4) (Q (M a0 6) M) (inb x4 104 ∧ inb ((x3 + 1) + x4) 1522 ∧ LET (wr M (a0 + 1) ((x3 + 1) + x4) (rd M (a0 + 4) x4)) (fun M_24 => LET (x4 + 1) (fun x4_25 => wX12_text_L133 Q  a0 x3 N x4_25 M_24)))
def wX12_text_J91 (Q : Int → Mem → Prop)  (a0 : Nat) (x1 : Int) (xs0 : Int) (M : Mem) : Prop := LET (wr M (a0 + 1) 4 0) (fun M_15 => BR (bm xs0 = 0) (Q (((-10)) - (M_15 a0 4)) M_15) (LET (150 + (105 * x1)) (fun x3_16 => inb x3_16 1522 ∧ LET (wr M_15 (a0 + 1) x3_16 (M_15 a0 7)) (fun M_19 => ∃ N_27, wX12_text_L133 Q  a0 x3_16 N_27 0 M_19))))
def wX12_text_J90 (Q : Int → Mem → Prop)  (a0 : Nat) (x1 : Int) (M : Mem) : Prop := wX12_text_J91 Q  a0 x1 0 M
def wX12_text (a0 : Nat) (x1 : Int) (M : Mem) (Q : Int → Mem → Prop) : Prop := wX12_isLiking a0 x1 M (fun r_2 M_1 => BR (bm r_2 = 0) (wX12_error a0 1 M_1 (fun r_30 M_29 => Q r_30 M_29)) (wX12_likingIs a0 x1 0 M_1 (fun r_4 M_3 => LET (up M_3 a0 8 r_4) (fun M_5 => BR (bm (M_5 a0 8) = 0) (wX12_text_J40 Q  a0 M_5) (BR (bm (M_5 a0 8) = 6) (wX12_text_J40 Q  a0 M_5) (LET (up M_5 a0 4 0) (fun M_8 => LET (up M_8 a0 5 0) (fun M_9 => LET (up M_9 a0 6 0) (fun M_10 => LET (up M_10 a0 7 0) (fun M_11 => wX12_whole a0 M_11 (fun r_13 M_12 => BR (bm r_13 = 0) (wX12_text_J90 Q  a0 x1 M_12) (BR (bm (M_12 a0 4) = bm (rd M_12 (a0 + 1) 4)) (wX12_text_J91 Q  a0 x1 1 M_12) (wX12_text_J90 Q  a0 x1 M_12)))))))))))))
def rmX12_joined : Room := { frames := 0, cells := 0, slots := 0, locals := 0 }
def wX12_joined (x0 : Int) (x1 : Int) (x2 : Int) (M : Mem) (Q : Int → Mem → Prop) : Prop := BR (bm x0 = 42) (Q (x1 * x2) M) (BR (bm x0 = 43) (Q (x1 + x2) M) (BR (bm x0 = 45) (Q (x1 - x2) M) (BR (bm x0 = 47) (BR (bm x2 = 0) (Q 0 M) (BR (bm x2 = (-1)) (Q (-x1) M) ((¬ bm x2 = 0) ∧ (Q (iDiv x1 x2) M)))) (BR (bm x0 = 60) (BR (bm x2 ≤ bm x1) (Q 0 M) (Q 1 M)) (BR (bm x1 = bm x2) (Q 1 M) (Q 0 M))))))
def rmX12_worked : Room := { frames := 1, cells := 0, slots := 0, locals := 22 }
def wX12_worked_J101 (Q : Int → Mem → Prop) (C26 : Int → Int → Mem → Prop) (a0 : Nat) (x3 : Int) (x4 : Int) (x5 : Int) (xs0 : Int) (xs1 : Int) (as2 : Nat) (M : Mem) : Prop := inb xs1 60 ∧ LET (wr M as2 xs1 xs0) (fun M_17 => LET (x4 + 1) (fun x4_18 => LET (x5 + 1) (fun x5_20 => C26 x4_18 x5_20 M_17)))
def wX12_worked_J78 (Q : Int → Mem → Prop) (C26 : Int → Int → Mem → Prop) (a0 : Nat) (x3 : Int) (x4 : Int) (x5 : Int) (x6 : Int) (x7 : Int) (M : Mem) : Prop := BR (bm x6 = 0) (wX12_worked_J101 Q C26 a0 x3 x4 x5 x7 x4 (a0 + 6) M) (inb x7 128 ∧ wX12_worked_J101 Q C26 a0 x3 x4 x5 (rd M (a0 + 5) x7) x4 (a0 + 6) M)
def wX12_worked_J220 (Q : Int → Mem → Prop) (C26 : Int → Int → Mem → Prop) (a0 : Nat) (x3 : Int) (x4 : Int) (x5 : Int) (xs0 : Int) (xs1 : Int) (as2 : Nat) (M : Mem) : Prop := inb xs1 60 ∧ LET (wr M as2 xs1 xs0) (fun M_30 => LET (x5 + 1) (fun x5_31 => C26 x4 x5_31 M_30))
def wX12_worked_L26 (Q : Int → Mem → Prop)  (a0 : Nat) (x3 : Int) : Nat → Int → Int → Mem → Prop
  | 0, _, _, _ => False
  | N + 1, x4, x5, M => inb x3 1522 ∧ BR (bm (rd M (a0 + 1) x3) ≤ bm x5) (Q (rd M (a0 + 6) 0) M) (inb ((x3 + 1) + (2 * x5)) 1522 ∧ LET (rd M (a0 + 1) ((x3 + 1) + (2 * x5))) (fun x6_9 => inb ((x3 + 2) + (2 * x5)) 1522 ∧ LET (rd M (a0 + 1) ((x3 + 2) + (2 * x5))) (fun x7_12 => BR (bm x6_9 = 0) (wX12_worked_J78 Q (fun x4' x5' M' => wX12_worked_L26 Q  a0 x3 N x4' x5' M') a0 x3 x4 x5 x6_9 x7_12 M) (BR (bm x6_9 = 1) (wX12_worked_J78 Q (fun x4' x5' M' => wX12_worked_L26 Q  a0 x3 N x4' x5' M') a0 x3 x4 x5 x6_9 x7_12 M) (BR (bm x6_9 = 2) (inb (x4 - 1) 60 ∧ inb (x4 - 1) 60 ∧ LET (wr M (a0 + 6) (x4 - 1) (-(rd M (a0 + 6) (x4 - 1)))) (fun M_52 => LET (x5 + 1) (fun x5_53 => wX12_worked_L26 Q  a0 x3 N x4 x5_53 M_52))) (BR (bm x6_9 = 3) (LET (x4 + (-1)) (fun x4_35 => inb (x4_35 - 1) 60 ∧ inb x4_35 60 ∧ wX12_joined x7_12 (rd M (a0 + 6) (x4_35 - 1)) (rd M (a0 + 6) x4_35) M (fun r_43 M_42 => inb (x4_35 - 1) 60 ∧ LET (wr M_42 (a0 + 6) (x4_35 - 1) r_43) (fun M_45 => LET (x5 + 1) (fun x5_46 => wX12_worked_L26 Q  a0 x3 N x4_35 x5_46 M_45))))) (LET (x4 + (-2)) (fun x4_22 => inb (x4_22 - 1) 60 ∧ BR (bm (rd M (a0 + 6) (x4_22 - 1)) = 0) (inb (x4_22 + 1) 60 ∧ wX12_worked_J220 Q (fun x4' x5' M' => wX12_worked_L26 Q  a0 x3 N x4' x5' M') a0 x3 x4_22 x5 (rd M (a0 + 6) (x4_22 + 1)) (x4_22 - 1) (a0 + 6) M) (inb x4_22 60 ∧ wX12_worked_J220 Q (fun x4' x5' M' => wX12_worked_L26 Q  a0 x3 N x4' x5' M') a0 x3 x4_22 x5 (rd M (a0 + 6) x4_22) (x4_22 - 1) (a0 + 6) M)))))))))
def wX12_worked (a0 : Nat) (x1 : Int) (x2 : Int) (M : Mem) (Q : Int → Mem → Prop) : Prop := LET (150 + (105 * x1)) (fun x3_1 => inb x3_1 1522 ∧ BR (bm (rd M (a0 + 1) x3_1) = 0) (Q x2 M) (∃ N_55, wX12_worked_L26 Q  a0 x3_1 N_55 0 0 M))
def rmX12_carried : Room := { frames := 1, cells := 0, slots := 0, locals := 22 }
def wX12_carried (a0 : Nat) (x1 : Int) (x2 : Int) (M : Mem) (Q : Int → Mem → Prop) : Prop := wX12_of a0 x1 4 M (fun r_2 M_1 => wX12_of a0 x2 4 M_1 (fun r_4 M_3 => wX12_ones (iXor r_2 r_4) M_3 (fun r_6 M_5 => Q r_6 M_5)))
def rmX12_isApart : Room := { frames := 0, cells := 0, slots := 0, locals := 0 }
def wX12_isApart (a0 : Nat) (x1 : Int) (M : Mem) (Q : Int → Mem → Prop) : Prop := BR (bm (M a0 14) ≤ 0) (Q 0 M) (BR (bm x1 = bm (M a0 14)) (Q 1 M) (Q 0 M))
def rmX12_less : Room := { frames := 0, cells := 0, slots := 0, locals := 0 }
def wX12_less (a0 : Nat) (x1 : Int) (x2 : Int) (M : Mem) (Q : Int → Mem → Prop) : Prop := LET (x1 - (x2 * (rd M (a0 + 1) 7))) (fun x3_2 => BR (0 ≤ bm x3_2) (Q x3_2 M) (Q 0 M))
def rmX12_layRow : Room := { frames := 2, cells := 0, slots := 0, locals := 44 }
def wX12_layRow_J226 (Q : Mem → Prop) (C113 : Int → Mem → Prop) (a0 : Nat) (x1 : Int) (x2 : Int) (x3 : Int) (xs0 : Int) (xs1 : Int) (as2 : Nat) (M : Mem) : Prop := inb xs1 96 ∧ LET (wr M as2 xs1 xs0) (fun M_40 => LET (x3 + 1) (fun x3_41 => C113 x3_41 M_40))
def wX12_layRow_J175 (Q : Mem → Prop) (C113 : Int → Mem → Prop) (a0 : Nat) (x1 : Int) (x2 : Int) (x3 : Int) (x5 : Int) (xs0 : Int) (M : Mem) : Prop := BR (bm xs0 = 0) (inb x1 12 ∧ wX12_of a0 (rd M (a0 + 7) x1) 0 M (fun r_36 M_35 => wX12_less a0 x5 r_36 M_35 (fun r_38 M_37 => wX12_layRow_J226 Q C113 a0 x1 x2 x3 r_38 ((8 * x1) + x3) (a0 + 10) M_37))) (inb x1 12 ∧ wX12_of a0 (rd M (a0 + 7) x1) 5 M (fun r_46 M_45 => wX12_layRow_J226 Q C113 a0 x1 x2 x3 (x5 + r_46) ((8 * x1) + x3) (a0 + 10) M_45))
def wX12_layRow_J140 (Q : Mem → Prop) (C113 : Int → Mem → Prop) (a0 : Nat) (x1 : Int) (x2 : Int) (x3 : Int) (xs0 : Int) (M : Mem) : Prop := wX12_less a0 xs0 x2 M (fun r_27 M_26 => inb x1 12 ∧ wX12_of a0 (rd M_26 (a0 + 7) x1) 3 M_26 (fun r_31 M_30 => BR (bm (iAnd (iShr r_31 x3) 1) = 1) (wX12_layRow_J175 Q C113 a0 x1 x2 x3 r_27 1 M_30) (wX12_layRow_J175 Q C113 a0 x1 x2 x3 r_27 0 M_30)))
def wX12_layRow_L113 (Q : Mem → Prop) (E233 : Mem → Prop) (a0 : Nat) (x1 : Int) (x2 : Int) : Nat → Int → Mem → Prop
  | 0, _, _ => False
  | N + 1, x3, M => BR (8 ≤ bm x3) (E233  M) (BR (bm x1 = 0) (wX12_layRow_J140 Q (fun x3' M' => wX12_layRow_L113 Q E233 a0 x1 x2 N x3' M') a0 x1 x2 x3 0 M) (inb ((8 * (x1 - 1)) + x3) 96 ∧ wX12_layRow_J140 Q (fun x3' M' => wX12_layRow_L113 Q E233 a0 x1 x2 N x3' M') a0 x1 x2 x3 (rd M (a0 + 10) ((8 * (x1 - 1)) + x3)) M))
def wX12_layRow_J86 (Q : Mem → Prop) (C2 : Int → Mem → Prop) (a0 : Nat) (x1 : Int) (x2 : Int) (xs0 : Int) (xs1 : Int) (as2 : Nat) (M : Mem) : Prop := inb xs1 12 ∧ LET (wr M as2 xs1 xs0) (fun M_14 => inb x1 12 ∧ inb x1 12 ∧ wX12_of a0 (rd M_14 (a0 + 7) x1) 0 M_14 (fun r_21 M_20 => inb x1 12 ∧ LET (wr M_20 (a0 + 9) x1 ((rd M_14 (a0 + 8) x1) + r_21)) (fun M_23 => ∃ N_50, wX12_layRow_L113 Q (fun M_47 => LET (x1 + 1) (fun x1_48 => C2 x1_48 M_47)) a0 x1 x2 N_50 0 M_23)))
def wX12_layRow_J62 (Q : Mem → Prop) (C2 : Int → Mem → Prop) (a0 : Nat) (x1 : Int) (xs0 : Int) (M : Mem) : Prop := BR (bm x1 = 0) (wX12_layRow_J86 Q C2 a0 x1 xs0 0 x1 (a0 + 8) M) (inb (x1 - 1) 12 ∧ wX12_layRow_J86 Q C2 a0 x1 xs0 ((rd M (a0 + 9) (x1 - 1)) + xs0) x1 (a0 + 8) M)
def wX12_layRow_L2 (Q : Mem → Prop)  (a0 : Nat) : Nat → Int → Mem → Prop
  | 0, _, _ => False
  | N + 1, x1, M => BR (bm (M a0 13) ≤ bm x1) (Q M) (BR (bm x1 = 0) (wX12_layRow_J62 Q (fun x1' M' => wX12_layRow_L2 Q  a0 N x1' M') a0 x1 0 M) (wX12_isApart a0 x1 M (fun r_2 M_1 => BR (bm r_2 = 0) (inb (x1 - 1) 12 ∧ inb x1 12 ∧ wX12_carried a0 (rd M_1 (a0 + 7) (x1 - 1)) (rd M_1 (a0 + 7) x1) M_1 (fun r_8 M_7 => wX12_layRow_J62 Q (fun x1' M' => wX12_layRow_L2 Q  a0 N x1' M') a0 x1 (r_8 * (rd M_7 (a0 + 1) 6)) M_7)) (wX12_layRow_J62 Q (fun x1' M' => wX12_layRow_L2 Q  a0 N x1' M') a0 x1 (rd M_1 (a0 + 1) 8) M_1))))
def wX12_layRow (a0 : Nat) (M : Mem) (Q : Mem → Prop) : Prop := ∃ N_52, wX12_layRow_L2 Q  a0 N_52 0 M
def rmX12_greatestTired : Room := { frames := 0, cells := 0, slots := 0, locals := 0 }
def wX12_greatestTired_J35 (Q : Int → Mem → Prop) (C4 : Int → Int → Mem → Prop) (a0 : Nat) (x2 : Int) (xs0 : Int) (M : Mem) : Prop := LET (x2 + 1) (fun x2_3 => C4 xs0 x2_3 M)
def wX12_greatestTired_L4 (Q : Int → Mem → Prop)  (a0 : Nat) : Nat → Int → Int → Mem → Prop
  | 0, _, _, _ => False
  | N + 1, x1, x2, M => BR (bm (8 * (M a0 13)) ≤ bm x2) (Q x1 M) (inb x2 96 ∧ BR (bm (rd M (a0 + 10) x2) ≤ bm x1) (wX12_greatestTired_J35 Q (fun x1' x2' M' => wX12_greatestTired_L4 Q  a0 N x1' x2' M') a0 x2 x1 M) (inb x2 96 ∧ wX12_greatestTired_J35 Q (fun x1' x2' M' => wX12_greatestTired_L4 Q  a0 N x1' x2' M') a0 x2 (rd M (a0 + 10) x2) M))
def wX12_greatestTired (a0 : Nat) (M : Mem) (Q : Int → Mem → Prop) : Prop := ∃ N_7, wX12_greatestTired_L4 Q  a0 N_7 0 0 M
def rmX12_placeOf : Room := { frames := 0, cells := 0, slots := 0, locals := 0 }
def wX12_placeOf_J27 (Q : Int → Mem → Prop) (C4 : Int → Int → Mem → Prop) (a0 : Nat) (x1 : Int) (x3 : Int) (xs0 : Int) (M : Mem) : Prop := LET (x3 + 1) (fun x3_4 => C4 xs0 x3_4 M)
def wX12_placeOf_L4 (Q : Int → Mem → Prop)  (a0 : Nat) (x1 : Int) : Nat → Int → Int → Mem → Prop
  | 0, _, _, _ => False
  | N + 1, x2, x3, M => BR (bm (M a0 13) ≤ bm x3) (Q x2 M) (inb x3 12 ∧ BR (bm (rd M (a0 + 7) x3) = bm x1) (wX12_placeOf_J27 Q (fun x2' x3' M' => wX12_placeOf_L4 Q  a0 x1 N x2' x3' M') a0 x1 x3 x3 M) (wX12_placeOf_J27 Q (fun x2' x3' M' => wX12_placeOf_L4 Q  a0 x1 N x2' x3' M') a0 x1 x3 x2 M))
def wX12_placeOf (a0 : Nat) (x1 : Int) (M : Mem) (Q : Int → Mem → Prop) : Prop := LET ((-1)) (fun x2_1 => ∃ N_6, wX12_placeOf_L4 Q  a0 x1 N_6 x2_1 0 M)
def rmX12_isBroken : Room := { frames := 1, cells := 0, slots := 0, locals := 23 }
def wX12_isBroken_J157 (Q : Int → Mem → Prop)  (a0 : Nat) (x4 : Int) (x5 : Int) (M : Mem) : Prop := BR (bm x5 = bm (x4 + 1)) (wX12_isApart a0 x5 M (fun r_14 M_13 => BR (bm r_14 = 0) (Q 0 M_13) (Q 1 M_13))) (Q 1 M)
def wX12_isBroken_J81 (Q : Int → Mem → Prop)  (a0 : Nat) (x2 : Int) (x3 : Int) (x4 : Int) (x5 : Int) (M : Mem) : Prop := BR (bm x3 = 0) (BR (bm x4 = bm (x5 + 1)) (Q 1 M) (Q 0 M)) (BR (bm x3 = 1) (BR (bm x4 = bm (x5 + 1)) (wX12_isApart a0 x4 M (fun r_16 M_15 => BR (bm r_16 = 0) (Q 0 M_15) (wX12_isBroken_J157 Q  a0 x4 x5 M_15))) (wX12_isBroken_J157 Q  a0 x4 x5 M)) (BR (bm x3 = 2) (inb x4 12 ∧ inb (x2 + 3) 1522 ∧ BR (bm (rd M (a0 + 9) x4) ≤ bm (rd M (a0 + 1) (x2 + 3))) (Q 0 M) (Q 1 M)) (BR (bm x3 = 3) (BR (bm x4 = 0) (Q 1 M) (Q 0 M)) (BR (bm x3 = 4) (BR (bm x4 = bm ((M a0 13) - 1)) (Q 1 M) (Q 0 M)) (BR (bm x3 = 5) (BR (bm x4 ≤ bm x5) (Q 0 M) (Q 1 M)) (BR (bm x3 = 6) (wX12_isApart a0 x4 M (fun r_22 M_21 => isB r_22 ∧ Q r_22 M_21)) (BR (bm (M a0 14) ≤ 0) (Q 0 M) (BR (bm x4 < bm (M a0 14)) (Q 0 M) (Q 1 M)))))))))
def wX12_isBroken_J62 (Q : Int → Mem → Prop)  (a0 : Nat) (x2 : Int) (x3 : Int) (x4 : Int) (x5 : Int) (xs0 : Int) (M : Mem) : Prop := BR (bm x4 < 0) (Q 0 M) (BR (bm xs0 = 0) (wX12_isBroken_J81 Q  a0 x2 x3 x4 x5 M) (BR (0 ≤ bm x5) (wX12_isBroken_J81 Q  a0 x2 x3 x4 x5 M) (Q 0 M)))
def wX12_isBroken_J57 (Q : Int → Mem → Prop)  (a0 : Nat) (x2 : Int) (x3 : Int) (x4 : Int) (x5 : Int) (M : Mem) : Prop := wX12_isBroken_J62 Q  a0 x2 x3 x4 x5 1 M
def wX12_isBroken (a0 : Nat) (x1 : Int) (M : Mem) (Q : Int → Mem → Prop) : Prop := LET (1200 + (4 * x1)) (fun x2_1 => inb x2_1 1522 ∧ LET (rd M (a0 + 1) x2_1) (fun x3_4 => inb (x2_1 + 1) 1522 ∧ wX12_placeOf a0 (rd M (a0 + 1) (x2_1 + 1)) M (fun r_8 M_7 => inb (x2_1 + 2) 1522 ∧ wX12_placeOf a0 (rd M_7 (a0 + 1) (x2_1 + 2)) M_7 (fun r_12 M_11 => BR (bm x3_4 = 0) (wX12_isBroken_J57 Q  a0 x2_1 x3_4 r_8 r_12 M_11) (BR (bm x3_4 = 1) (wX12_isBroken_J57 Q  a0 x2_1 x3_4 r_8 r_12 M_11) (BR (bm x3_4 = 5) (wX12_isBroken_J57 Q  a0 x2_1 x3_4 r_8 r_12 M_11) (wX12_isBroken_J62 Q  a0 x2_1 x3_4 r_8 r_12 0 M_11)))))))
def rmX12_broken : Room := { frames := 2, cells := 0, slots := 0, locals := 49 }
def wX12_broken_J30 (Q : Int → Mem → Prop) (C4 : Int → Int → Mem → Prop) (a0 : Nat) (x2 : Int) (xs0 : Int) (xs1 : Int) (M : Mem) : Prop := LET (iOr xs1 xs0) (fun x1_4 => LET (x2 + 1) (fun x2_5 => C4 x1_4 x2_5 M))
def wX12_broken_L4 (Q : Int → Mem → Prop)  (a0 : Nat) : Nat → Int → Int → Mem → Prop
  | 0, _, _, _ => False
  | N + 1, x1, x2, M => BR (bm (rd M (a0 + 1) 2) ≤ bm x2) (Q x1 M) (wX12_isBroken a0 x2 M (fun r_3 M_2 => BR (bm r_3 = 0) (wX12_broken_J30 Q (fun x1' x2' M' => wX12_broken_L4 Q  a0 N x1' x2' M') a0 x2 0 x1 M_2) (wX12_broken_J30 Q (fun x1' x2' M' => wX12_broken_L4 Q  a0 N x1' x2' M') a0 x2 (iShl 1 x2) x1 M_2)))
def wX12_broken (a0 : Nat) (M : Mem) (Q : Int → Mem → Prop) : Prop := ∃ N_7, wX12_broken_L4 Q  a0 N_7 0 0 M
def rmX12_isGood : Room := { frames := 3, cells := 0, slots := 0, locals := 71 }
def wX12_isGood (a0 : Nat) (M : Mem) (Q : Int → Mem → Prop) : Prop := wX12_greatestTired a0 M (fun r_2 M_1 => BR (bm (rd M_1 (a0 + 1) 9) < bm r_2) (Q 0 M_1) (wX12_broken a0 M_1 (fun r_5 M_4 => BR (bm r_5 = 0) (Q 1 M_4) (Q 0 M_4))))
def rmX12_byNext : Room := { frames := 2, cells := 0, slots := 0, locals := 49 }
def wX12_byNext_J196 (Q : Int → Mem → Prop) (C5 : Int → Int → Mem → Prop) (a0 : Nat) (x1 : Int) (x2 : Int) (x4 : Int) (xs0 : Int) (xs1 : Int) (xs2 : Int) (M : Mem) : Prop := LET (xs2 + (xs1 - xs0)) (fun x3_37 => LET (x4 + 1) (fun x4_38 => C5 x3_37 x4_38 M))
def wX12_byNext_J133 (Q : Int → Mem → Prop) (C5 : Int → Int → Mem → Prop) (a0 : Nat) (x1 : Int) (x2 : Int) (x3 : Int) (x4 : Int) (xs0 : Int) (xs1 : Int) (as2 : Nat) (M : Mem) : Prop := inb xs1 128 ∧ LET (wr M as2 xs1 xs0) (fun M_26 => inb (x4 - 1) 12 ∧ inb x4 12 ∧ wX12_carried a0 (rd M_26 (a0 + 7) (x4 - 1)) (rd M_26 (a0 + 7) x4) M_26 (fun r_33 M_32 => LET (wr M_32 (a0 + 5) 115 r_33) (fun M_34 => wX12_worked a0 x1 0 M_34 (fun r_36 M_35 => BR (bm x2 = 0) (wX12_byNext_J196 Q C5 a0 x1 x2 x4 0 r_36 x3 M_35) (inb (x4 - 1) 12 ∧ inb x4 12 ∧ wX12_carried a0 (rd M_35 (a0 + 7) (x4 - 1)) (rd M_35 (a0 + 7) x4) M_35 (fun r_45 M_44 => wX12_byNext_J196 Q C5 a0 x1 x2 x4 r_45 r_36 x3 M_44))))))
def wX12_byNext_J68 (Q : Int → Mem → Prop) (C5 : Int → Int → Mem → Prop) (a0 : Nat) (x1 : Int) (x2 : Int) (x3 : Int) (x4 : Int) (xs0 : Int) (M : Mem) : Prop := inb (x4 - 1) 12 ∧ wX12_of a0 (rd M (a0 + 7) (x4 - 1)) 2 M (fun r_16 M_15 => LET (wr M_15 (a0 + 5) 97 r_16) (fun M_17 => inb x4 12 ∧ wX12_of a0 (rd M_17 (a0 + 7) x4) 2 M_17 (fun r_22 M_21 => LET (wr M_21 (a0 + 5) 98 r_22) (fun M_23 => BR (bm xs0 ≤ 6) (wX12_byNext_J133 Q C5 a0 x1 x2 x3 x4 xs0 107 (a0 + 5) M_23) (wX12_byNext_J133 Q C5 a0 x1 x2 x3 x4 (12 - xs0) 107 (a0 + 5) M_23)))))
def wX12_byNext_L5 (Q : Int → Mem → Prop)  (a0 : Nat) (x1 : Int) (x2 : Int) : Nat → Int → Int → Mem → Prop
  | 0, _, _, _ => False
  | N + 1, x3, x4, M => BR (bm (M a0 13) ≤ bm x4) (Q x3 M) (wX12_isApart a0 x4 M (fun r_2 M_1 => BR (bm r_2 = 0) (inb (x4 - 1) 12 ∧ wX12_of a0 (rd M_1 (a0 + 7) (x4 - 1)) 1 M_1 (fun r_6 M_5 => inb x4 12 ∧ wX12_of a0 (rd M_5 (a0 + 7) x4) 1 M_5 (fun r_10 M_9 => LET (r_6 - r_10) (fun x5_11 => BR (0 ≤ bm x5_11) (wX12_byNext_J68 Q (fun x3' x4' M' => wX12_byNext_L5 Q  a0 x1 x2 N x3' x4' M') a0 x1 x2 x3 x4 x5_11 M_9) (wX12_byNext_J68 Q (fun x3' x4' M' => wX12_byNext_L5 Q  a0 x1 x2 N x3' x4' M') a0 x1 x2 x3 x4 (-x5_11) M_9))))) (LET (x4 + 1) (fun x4_46 => wX12_byNext_L5 Q  a0 x1 x2 N x3 x4_46 M_1))))
def wX12_byNext (a0 : Nat) (x1 : Int) (x2 : Int) (M : Mem) (Q : Int → Mem → Prop) : Prop := ∃ N_48, wX12_byNext_L5 Q  a0 x1 x2 N_48 0 1 M
def rmX12_bySince : Room := { frames := 2, cells := 0, slots := 0, locals := 49 }
def wX12_bySince_L17 (Q : Int → Mem → Prop) (E54 : Int → Mem → Prop) (a0 : Nat) (x1 : Int) (x2 : Int) (x3 : Int) : Nat → Int → Mem → Prop
  | 0, _, _ => False
  | N + 1, x4, M => BR (bm x4 < 0) (E54 x4 M) (inb x4 12 ∧ wX12_of a0 (rd M (a0 + 7) x4) 1 M (fun r_5 M_4 => inb x3 12 ∧ wX12_of a0 (rd M_4 (a0 + 7) x3) 1 M_4 (fun r_9 M_8 => BR (bm r_5 = bm r_9) (E54 x4 M_8) (LET (x4 + (-1)) (fun x4_10 => wX12_bySince_L17 Q E54 a0 x1 x2 x3 N x4_10 M_8)))))
def wX12_bySince_J54 (Q : Int → Mem → Prop) (C4 : Int → Int → Mem → Prop) (a0 : Nat) (x1 : Int) (x2 : Int) (x3 : Int) (x4 : Int) (M : Mem) : Prop := BR (bm x4 < 0) (LET (x3 + 1) (fun x3_14 => C4 x2 x3_14 M)) (inb x3 12 ∧ inb x4 12 ∧ LET (wr M (a0 + 5) 109 ((rd M (a0 + 8) x3) - (rd M (a0 + 9) x4))) (fun M_21 => inb x3 12 ∧ inb x4 12 ∧ wX12_worked a0 x1 ((rd M_21 (a0 + 8) x3) - (rd M_21 (a0 + 9) x4)) M_21 (fun r_27 M_26 => LET (x2 + r_27) (fun x2_28 => LET (x3 + 1) (fun x3_29 => C4 x2_28 x3_29 M_26)))))
def wX12_bySince_L4 (Q : Int → Mem → Prop)  (a0 : Nat) (x1 : Int) : Nat → Int → Int → Mem → Prop
  | 0, _, _, _ => False
  | N + 1, x2, x3, M => BR (bm (M a0 13) ≤ bm x3) (Q x2 M) (LET (x3 - 1) (fun x4_1 => ∃ N_31, wX12_bySince_L17 Q (fun x4_12 M_13 => wX12_bySince_J54 Q (fun x2' x3' M' => wX12_bySince_L4 Q  a0 x1 N x2' x3' M') a0 x1 x2 x3 x4_12 M_13) a0 x1 x2 x3 N_31 x4_1 M))
def wX12_bySince (a0 : Nat) (x1 : Int) (M : Mem) (Q : Int → Mem → Prop) : Prop := ∃ N_32, wX12_bySince_L4 Q  a0 x1 N_32 0 1 M
def rmX12_byPlace : Room := { frames := 2, cells := 0, slots := 0, locals := 49 }
def wX12_byPlace_J104 (Q : Int → Mem → Prop) (C4 : Int → Int → Mem → Prop) (a0 : Nat) (x1 : Int) (x2 : Int) (x3 : Int) (xs0 : Int) (xs1 : Int) (as2 : Nat) (M : Mem) : Prop := inb xs1 128 ∧ LET (wr M as2 xs1 xs0) (fun M_16 => wX12_worked a0 x1 0 M_16 (fun r_18 M_17 => LET (x2 + r_18) (fun x2_19 => LET (x3 + 1) (fun x3_20 => C4 x2_19 x3_20 M_17))))
def wX12_byPlace_J99 (Q : Int → Mem → Prop) (C4 : Int → Int → Mem → Prop) (a0 : Nat) (x1 : Int) (x2 : Int) (x3 : Int) (xs0 : Int) (as1 : Nat) (M : Mem) : Prop := wX12_byPlace_J104 Q C4 a0 x1 x2 x3 1 xs0 as1 M
def wX12_byPlace_J80 (Q : Int → Mem → Prop) (C4 : Int → Int → Mem → Prop) (a0 : Nat) (x1 : Int) (x2 : Int) (x3 : Int) (xs0 : Int) (xs1 : Int) (as2 : Nat) (M : Mem) : Prop := inb xs1 128 ∧ LET (wr M as2 xs1 xs0) (fun M_13 => BR (bm x3 = 0) (wX12_byPlace_J99 Q C4 a0 x1 x2 x3 106 (a0 + 5) M_13) (wX12_isApart a0 x3 M_13 (fun r_23 M_22 => BR (bm r_23 = 0) (wX12_byPlace_J104 Q C4 a0 x1 x2 x3 0 106 (a0 + 5) M_22) (wX12_byPlace_J99 Q C4 a0 x1 x2 x3 106 (a0 + 5) M_22))))
def wX12_byPlace_J75 (Q : Int → Mem → Prop) (C4 : Int → Int → Mem → Prop) (a0 : Nat) (x1 : Int) (x2 : Int) (x3 : Int) (xs0 : Int) (as1 : Nat) (M : Mem) : Prop := wX12_byPlace_J80 Q C4 a0 x1 x2 x3 1 xs0 as1 M
def wX12_byPlace_L4 (Q : Int → Mem → Prop)  (a0 : Nat) (x1 : Int) : Nat → Int → Int → Mem → Prop
  | 0, _, _, _ => False
  | N + 1, x2, x3, M => BR (bm (M a0 13) ≤ bm x3) (Q x2 M) (LET (wr M (a0 + 5) 112 x3) (fun M_2 => LET (wr M_2 (a0 + 5) 110 (M_2 a0 13)) (fun M_4 => inb x3 12 ∧ wX12_of a0 (rd M_4 (a0 + 7) x3) 2 M_4 (fun r_9 M_8 => LET (wr M_8 (a0 + 5) 108 r_9) (fun M_10 => BR (bm x3 = bm ((M_10 a0 13) - 1)) (wX12_byPlace_J75 Q (fun x2' x3' M' => wX12_byPlace_L4 Q  a0 x1 N x2' x3' M') a0 x1 x2 x3 105 (a0 + 5) M_10) (wX12_isApart a0 (x3 + 1) M_10 (fun r_25 M_24 => BR (bm r_25 = 0) (wX12_byPlace_J80 Q (fun x2' x3' M' => wX12_byPlace_L4 Q  a0 x1 N x2' x3' M') a0 x1 x2 x3 0 105 (a0 + 5) M_24) (wX12_byPlace_J75 Q (fun x2' x3' M' => wX12_byPlace_L4 Q  a0 x1 N x2' x3' M') a0 x1 x2 x3 105 (a0 + 5) M_24))))))))
def wX12_byPlace (a0 : Nat) (x1 : Int) (M : Mem) (Q : Int → Mem → Prop) : Prop := ∃ N_26, wX12_byPlace_L4 Q  a0 x1 N_26 0 0 M
def rmX12_byTired : Room := { frames := 2, cells := 0, slots := 0, locals := 49 }
def wX12_byTired_J91 (Q : Int → Mem → Prop) (C18 : Int → Int → Mem → Prop) (a0 : Nat) (x1 : Int) (x2 : Int) (x3 : Int) (x5 : Int) (xs0 : Int) (M : Mem) : Prop := LET (x5 + 1) (fun x5_5 => C18 xs0 x5_5 M)
def wX12_byTired_J89 (Q : Int → Mem → Prop) (C18 : Int → Int → Mem → Prop) (a0 : Nat) (x1 : Int) (x2 : Int) (x3 : Int) (x4 : Int) (x5 : Int) (M : Mem) : Prop := wX12_byTired_J91 Q C18 a0 x1 x2 x3 x5 x4 M
def wX12_byTired_J50 (Q : Int → Mem → Prop) (C18 : Int → Int → Mem → Prop) (a0 : Nat) (x1 : Int) (x2 : Int) (x3 : Int) (x4 : Int) (x5 : Int) (xs0 : Int) (M : Mem) : Prop := BR (bm xs0 = 0) (wX12_byTired_J89 Q C18 a0 x1 x2 x3 x4 x5 M) (inb ((8 * x3) + x5) 96 ∧ BR (bm (rd M (a0 + 10) ((8 * x3) + x5)) ≤ bm x4) (wX12_byTired_J89 Q C18 a0 x1 x2 x3 x4 x5 M) (inb ((8 * x3) + x5) 96 ∧ wX12_byTired_J91 Q C18 a0 x1 x2 x3 x5 (rd M (a0 + 10) ((8 * x3) + x5)) M))
def wX12_byTired_L18 (Q : Int → Mem → Prop) (E99 : Int → Mem → Prop) (a0 : Nat) (x1 : Int) (x2 : Int) (x3 : Int) : Nat → Int → Int → Mem → Prop
  | 0, _, _, _ => False
  | N + 1, x4, x5, M => BR (8 ≤ bm x5) (E99 x4 M) (inb x3 12 ∧ wX12_of a0 (rd M (a0 + 7) x3) 3 M (fun r_4 M_3 => BR (bm (iAnd (iShr r_4 x5) 1) = 1) (wX12_byTired_J50 Q (fun x4' x5' M' => wX12_byTired_L18 Q E99 a0 x1 x2 x3 N x4' x5' M') a0 x1 x2 x3 x4 x5 1 M_3) (wX12_byTired_J50 Q (fun x4' x5' M' => wX12_byTired_L18 Q E99 a0 x1 x2 x3 N x4' x5' M') a0 x1 x2 x3 x4 x5 0 M_3)))
def wX12_byTired_L4 (Q : Int → Mem → Prop)  (a0 : Nat) (x1 : Int) : Nat → Int → Int → Mem → Prop
  | 0, _, _, _ => False
  | N + 1, x2, x3, M => BR (bm (M a0 13) ≤ bm x3) (Q x2 M) (∃ N_20, wX12_byTired_L18 Q (fun x4_11 M_12 => LET (wr M_12 (a0 + 5) 116 x4_11) (fun M_14 => wX12_worked a0 x1 x4_11 M_14 (fun r_16 M_15 => LET (x2 + r_16) (fun x2_17 => LET (x3 + 1) (fun x3_18 => wX12_byTired_L4 Q  a0 x1 N x2_17 x3_18 M_15))))) a0 x1 x2 x3 N_20 0 0 M)
def wX12_byTired (a0 : Nat) (x1 : Int) (M : Mem) (Q : Int → Mem → Prop) : Prop := ∃ N_21, wX12_byTired_L4 Q  a0 x1 N_21 0 0 M
def rmX12_by : Room := { frames := 3, cells := 0, slots := 0, locals := 75 }
def wX12_by (a0 : Nat) (x1 : Int) (M : Mem) (Q : Int → Mem → Prop) : Prop := wX12_likingIs a0 x1 0 M (fun r_2 M_1 => BR (bm r_2 = 1) (wX12_byNext a0 x1 0 M_1 (fun r_4 M_3 => Q r_4 M_3)) (BR (bm r_2 = 2) (wX12_bySince a0 x1 M_1 (fun r_6 M_5 => Q r_6 M_5)) (BR (bm r_2 = 3) (wX12_byPlace a0 x1 M_1 (fun r_8 M_7 => Q r_8 M_7)) (BR (bm r_2 = 4) (wX12_byTired a0 x1 M_1 (fun r_10 M_9 => Q r_10 M_9)) (BR (bm r_2 = 5) (wX12_byNext a0 x1 1 M_1 (fun r_12 M_11 => Q r_12 M_11)) (BR (bm r_2 = 6) (wX12_broken a0 M_1 (fun r_14 M_13 => wX12_ones r_14 M_13 (fun r_16 M_15 => Q (-r_16) M_15))) (Q 0 M_1)))))))
def rmX12_share : Room := { frames := 4, cells := 0, slots := 0, locals := 96 }
def wX12_share (a0 : Nat) (x1 : Int) (M : Mem) (Q : Int → Mem → Prop) : Prop := wX12_by a0 x1 M (fun r_2 M_1 => wX12_likingIs a0 x1 1 M_1 (fun r_4 M_3 => wX12_likingIs a0 x1 2 M_3 (fun r_6 M_5 => (¬ bm r_6 = 0) ∧ (Q (((bm r_2) * (bm r_4)) * (bm (iDiv 2520 r_6))) M_5))))
def rmX12_worthNow : Room := { frames := 5, cells := 0, slots := 0, locals := 117 }
def wX12_worthNow_J34 (Q : Int → Mem → Prop) (C4 : Int → Int → Mem → Prop) (a0 : Nat) (x3 : Int) (ls0 : Int) (ls1 : Int) (M : Mem) : Prop := LET (ls1 + ls0) (fun x1_4 => LET (x3 + 1) (fun x3_5 => C4 x1_4 x3_5 M))
def wX12_worthNow_L4 (Q : Int → Mem → Prop)  (a0 : Nat) : Nat → Int → Int → Mem → Prop
  | 0, _, _, _ => False
  | N + 1, l1, x3, M => BR (bm (rd M (a0 + 1) 1) ≤ bm x3) (Q l1 M) (wX12_likingIs a0 x3 3 M (fun r_3 M_2 => BR (bm r_3 = 1) (wX12_share a0 x3 M_2 (fun r_8 M_7 => wX12_worthNow_J34 Q (fun l1' x3' M' => wX12_worthNow_L4 Q  a0 N l1' x3' M') a0 x3 r_8 l1 M_7)) (wX12_worthNow_J34 Q (fun l1' x3' M' => wX12_worthNow_L4 Q  a0 N l1' x3' M') a0 x3 0 l1 M_2)))
def wX12_worthNow (a0 : Nat) (M : Mem) (Q : Int → Mem → Prop) : Prop := ∃ N_9, wX12_worthNow_L4 Q  a0 N_9 0 0 M
def rmX12_partOf : Room := { frames := 0, cells := 0, slots := 0, locals := 0 }
def wX12_partOf_L18 (Q : Int → Mem → Prop) (E41 : Int → Mem → Prop) (l0 : Int) (x2 : Int) : Nat → Int → Int → Mem → Prop
  | 0, _, _, _ => False
  | N + 1, l3, l5, M => BR (bm (lCmp l5 0) = 0) (E41 l3 M) ((¬ bl l5 = 0) ∧ (LET (lRem l3 l5) (fun x7_2 => wX12_partOf_L18 Q E41 l0 x2 N l5 x7_2 M)))
def wX12_partOf_J12 (Q : Int → Mem → Prop)  (l0 : Int) (x2 : Int) (ls0 : Int) (M : Mem) : Prop := ∃ N_7, wX12_partOf_L18 Q (fun l3_3 M_4 => BR (bm x2 = 0) ((¬ bl l3_3 = 0) ∧ (Q (lDiv l0 l3_3) M_4)) ((¬ bl l3_3 = 0) ∧ (Q (lDiv 2520 l3_3) M_4))) l0 x2 N_7 ls0 2520 M
def wX12_partOf (l0 : Int) (x2 : Int) (M : Mem) (Q : Int → Mem → Prop) : Prop := BR (0 ≤ bm (lCmp l0 0)) (wX12_partOf_J12 Q  l0 x2 l0 M) (wX12_partOf_J12 Q  l0 x2 (-l0) M)
def rmX12_take : Room := { frames := 3, cells := 0, slots := 0, locals := 70 }
def wX12_take_L63 (Q : Int → Mem → Prop) (E140 : Mem → Prop) (a0 : Nat) (x1 : Int) : Nat → Int → Int → Mem → Prop
  | 0, _, _, _ => False
  | N + 1, x3, x4, M => BR (bm (M a0 13) ≤ bm x4) (E140  M) (inb ((24 * x1) + x4) 96 ∧ inb x4 12 ∧ LET (wr M (a0 + 7) x4 (rd M (a0 + 21) ((24 * x1) + x4))) (fun M_13 => inb x4 12 ∧ wX12_isPiece a0 (rd M_13 (a0 + 7) x4) M_13 (fun r_17 M_16 => BR (bm r_17 = 0) (Q 5 M_16) (inb x4 12 ∧ BR (bm (iAnd (iShr x3 (rd M_16 (a0 + 7) x4)) 1) = 1) (Q 5 M_16) (inb x4 12 ∧ LET (iOr x3 (iShl 1 (rd M_16 (a0 + 7) x4))) (fun x3_22 => LET (x4 + 1) (fun x4_23 => wX12_take_L63 Q E140 a0 x1 N x3_22 x4_23 M_16)))))))
def wX12_take (a0 : Nat) (x1 : Int) (x2 : Int) (M : Mem) (Q : Int → Mem → Prop) : Prop := inb x1 4 ∧ BR (bm (rd M (a0 + 19) x1) = 0) (Q 2 M) (inb x1 4 ∧ LET (up M a0 13 (rd M (a0 + 20) x1)) (fun M_5 => LET (up M_5 a0 14 x2) (fun M_6 => BR (bm (M_6 a0 13) = 0) (Q 5 M_6) (BR (12 < bm (M_6 a0 13)) (Q 5 M_6) (wX12_in x2 0 ((M_6 a0 13) - 1) M_6 (fun r_8 M_7 => BR (bm r_8 = 0) (Q 5 M_7) (∃ N_27, wX12_take_L63 Q (fun M_25 => wX12_layRow a0 M_25 (fun M_26 => Q 0 M_26)) a0 x1 N_27 0 0 M_7)))))))
def rmX12_isSheet : Room := { frames := 1, cells := 0, slots := 0, locals := 22 }
def wX12_isSheet (x0 : Int) (M : Mem) (Q : Int → Mem → Prop) : Prop := wX12_in x0 0 3 M (fun r_2 M_1 => isB r_2 ∧ Q r_2 M_1)
def rmX12_worth : Room := { frames := 6, cells := 0, slots := 0, locals := 140 }
def wX12_worth_J16 (Q : Int → Mem → Prop)  (a0 : Nat) (M : Mem) : Prop := wX12_error a0 1 M (fun r_4 M_3 => Q (bm r_4) M_3)
def wX12_worth (a0 : Nat) (x1 : Int) (x2 : Int) (x3 : Int) (M : Mem) (Q : Int → Mem → Prop) : Prop := wX12_isSheet x1 M (fun r_2 M_1 => BR (bm r_2 = 0) (wX12_worth_J16 Q  a0 M_1) (wX12_in x3 0 1 M_1 (fun r_6 M_5 => BR (bm r_6 = 0) (wX12_worth_J16 Q  a0 M_5) (wX12_take a0 x1 x2 M_5 (fun r_8 M_7 => BR (bm r_8 ≤ 0) (wX12_worthNow a0 M_7 (fun r_10 M_9 => wX12_partOf r_10 x3 M_9 (fun r_12 M_11 => Q r_12 M_11))) (wX12_error a0 r_8 M_7 (fun r_14 M_13 => Q (bm r_14) M_13)))))))
def rmX12_worthBy : Room := { frames := 4, cells := 0, slots := 0, locals := 96 }
def wX12_worthBy_J15 (Q : Int → Mem → Prop)  (a0 : Nat) (M : Mem) : Prop := wX12_error a0 1 M (fun r_4 M_3 => Q r_4 M_3)
def wX12_worthBy (a0 : Nat) (x1 : Int) (x2 : Int) (x3 : Int) (M : Mem) (Q : Int → Mem → Prop) : Prop := wX12_isSheet x1 M (fun r_2 M_1 => BR (bm r_2 = 0) (wX12_worthBy_J15 Q  a0 M_1) (wX12_isLiking a0 x3 M_1 (fun r_6 M_5 => BR (bm r_6 = 0) (wX12_worthBy_J15 Q  a0 M_5) (wX12_take a0 x1 x2 M_5 (fun r_8 M_7 => BR (bm r_8 ≤ 0) (wX12_by a0 x3 M_7 (fun r_10 M_9 => Q r_10 M_9)) (wX12_error a0 r_8 M_7 (fun r_12 M_11 => Q r_12 M_11)))))))
def rmX12_tired : Room := { frames := 4, cells := 0, slots := 0, locals := 94 }
def wX12_tired_J17 (Q : Int → Mem → Prop)  (a0 : Nat) (M : Mem) : Prop := wX12_error a0 1 M (fun r_4 M_3 => Q r_4 M_3)
def wX12_tired (a0 : Nat) (x1 : Int) (x2 : Int) (x3 : Int) (x4 : Int) (M : Mem) (Q : Int → Mem → Prop) : Prop := wX12_isSheet x1 M (fun r_2 M_1 => BR (bm r_2 = 0) (wX12_tired_J17 Q  a0 M_1) (wX12_in x3 0 7 M_1 (fun r_6 M_5 => BR (bm r_6 = 0) (wX12_tired_J17 Q  a0 M_5) (wX12_take a0 x1 x2 M_5 (fun r_8 M_7 => BR (bm r_8 ≤ 0) (wX12_in x4 0 ((M_7 a0 13) - 1) M_7 (fun r_10 M_9 => BR (bm r_10 = 0) (wX12_error a0 1 M_9 (fun r_12 M_11 => Q r_12 M_11)) (inb ((8 * x4) + x3) 96 ∧ Q (rd M_9 (a0 + 10) ((8 * x4) + x3)) M_9))) (wX12_error a0 r_8 M_7 (fun r_16 M_15 => Q r_16 M_15)))))))
def rmX12_judge : Room := { frames := 4, cells := 0, slots := 0, locals := 94 }
def wX12_judge_J16 (Q : Int → Mem → Prop)  (a0 : Nat) (M : Mem) : Prop := wX12_error a0 1 M (fun r_4 M_3 => Q r_4 M_3)
def wX12_judge_L90 (Q : Int → Mem → Prop)  (a0 : Nat) : Nat → Int → Int → Mem → Prop
  | 0, _, _, _ => False
  | N + 1, x5, x6, M => BR (bm (M a0 13) ≤ bm x6) (Q x5 M) (inb (x6 - 1) 12 ∧ inb x6 12 ∧ wX12_carried a0 (rd M (a0 + 7) (x6 - 1)) (rd M (a0 + 7) x6) M (fun r_16 M_15 => LET (x5 + r_16) (fun x5_17 => LET (x6 + 1) (fun x6_18 => wX12_judge_L90 Q  a0 N x5_17 x6_18 M_15))))
def wX12_judge (a0 : Nat) (x1 : Int) (x2 : Int) (x3 : Int) (M : Mem) (Q : Int → Mem → Prop) : Prop := wX12_isSheet x1 M (fun r_2 M_1 => BR (bm r_2 = 0) (wX12_judge_J16 Q  a0 M_1) (wX12_in x3 0 4 M_1 (fun r_6 M_5 => BR (bm r_6 = 0) (wX12_judge_J16 Q  a0 M_5) (wX12_take a0 x1 x2 M_5 (fun r_8 M_7 => BR (bm r_8 ≤ 0) (BR (bm x3 = 0) (inb ((M_7 a0 13) - 1) 12 ∧ Q (rd M_7 (a0 + 9) ((M_7 a0 13) - 1)) M_7) (BR (bm x3 = 1) (∃ N_20, wX12_judge_L90 Q  a0 N_20 0 1 M_7) (BR (bm x3 = 2) (wX12_greatestTired a0 M_7 (fun r_22 M_21 => Q r_22 M_21)) (BR (bm x3 = 3) (wX12_broken a0 M_7 (fun r_24 M_23 => Q r_24 M_23)) (wX12_isGood a0 M_7 (fun r_26 M_25 => BR (bm r_26 = 0) (Q 0 M_25) (Q 1 M_25))))))) (wX12_error a0 r_8 M_7 (fun r_28 M_27 => Q r_28 M_27)))))))
def rmX12_begins : Room := { frames := 4, cells := 0, slots := 0, locals := 94 }
def wX12_begins (a0 : Nat) (x1 : Int) (x2 : Int) (x3 : Int) (M : Mem) (Q : Int → Mem → Prop) : Prop := wX12_isSheet x1 M (fun r_2 M_1 => BR (bm r_2 = 0) (wX12_error a0 1 M_1 (fun r_14 M_13 => Q r_14 M_13)) (wX12_take a0 x1 x2 M_1 (fun r_4 M_3 => BR (bm r_4 ≤ 0) (wX12_in x3 0 ((M_3 a0 13) - 1) M_3 (fun r_6 M_5 => BR (bm r_6 = 0) (wX12_error a0 1 M_5 (fun r_8 M_7 => Q r_8 M_7)) (inb x3 12 ∧ Q (rd M_5 (a0 + 8) x3) M_5))) (wX12_error a0 r_4 M_3 (fun r_12 M_11 => Q r_12 M_11)))))
def rmX12_firstOrder : Room := { frames := 0, cells := 0, slots := 0, locals := 0 }
def wX12_firstOrder_L7 (Q : Mem → Prop)  (a0 : Nat) (x1 : Int) : Nat → Int → Mem → Prop
  | 0, _, _ => False
  | N + 1, x2, M => BR (12 ≤ bm x2) (Q M) (BR (bm (iAnd (iShr x1 x2) 1) = 1) (inb (M a0 13) 12 ∧ LET (wr M (a0 + 7) (M a0 13) x2) (fun M_6 => LET (up M_6 a0 13 ((M_6 a0 13) + 1)) (fun M_7 => LET (x2 + 1) (fun x2_8 => wX12_firstOrder_L7 Q  a0 x1 N x2_8 M_7)))) (LET (x2 + 1) (fun x2_2 => wX12_firstOrder_L7 Q  a0 x1 N x2_2 M)))
def wX12_firstOrder (a0 : Nat) (x1 : Int) (M : Mem) (Q : Mem → Prop) : Prop := LET (up M a0 13 0) (fun M_1 => ∃ N_10, wX12_firstOrder_L7 Q  a0 x1 N_10 0 M_1)
def rmX12_swap : Room := { frames := 0, cells := 0, slots := 0, locals := 0 }
def wX12_swap (a0 : Nat) (x1 : Int) (x2 : Int) (M : Mem) (Q : Mem → Prop) : Prop := inb x1 12 ∧ LET (rd M (a0 + 7) x1) (fun x3_3 => inb x2 12 ∧ inb x1 12 ∧ LET (wr M (a0 + 7) x1 (rd M (a0 + 7) x2)) (fun M_8 => inb x2 12 ∧ LET (wr M_8 (a0 + 7) x2 x3_3) (fun M_11 => Q M_11)))
def rmX12_nextOrder : Room := { frames := 1, cells := 0, slots := 0, locals := 23 }
def wX12_nextOrder_L7 (Q : Int → Mem → Prop) (E34 : Int → Mem → Prop) (a0 : Nat) : Nat → Int → Mem → Prop
  | 0, _, _ => False
  | N + 1, x1, M => BR (bm x1 < 0) (E34 x1 M) (inb x1 12 ∧ inb (x1 + 1) 12 ∧ BR (bm (rd M (a0 + 7) x1) ≤ bm (rd M (a0 + 7) (x1 + 1))) (E34 x1 M) (LET (x1 + (-1)) (fun x1_6 => wX12_nextOrder_L7 Q E34 a0 N x1_6 M)))
def wX12_nextOrder_L47 (Q : Int → Mem → Prop) (E68 : Int → Mem → Prop) (a0 : Nat) (x1 : Int) : Nat → Int → Mem → Prop
  | 0, _, _ => False
  | N + 1, x2, M => inb x2 12 ∧ inb x1 12 ∧ BR (bm (rd M (a0 + 7) x1) ≤ bm (rd M (a0 + 7) x2)) (E68 x2 M) (LET (x2 + (-1)) (fun x2_15 => wX12_nextOrder_L47 Q E68 a0 x1 N x2_15 M))
def wX12_nextOrder_L86 (Q : Int → Mem → Prop)  (a0 : Nat) : Nat → Int → Int → Mem → Prop
  | 0, _, _, _ => False
  | N + 1, x3, x4, M => BR (bm x4 ≤ bm x3) (Q 1 M) (wX12_swap a0 x3 x4 M (fun M_22 => LET (x3 + 1) (fun x3_23 => LET (x4 + (-1)) (fun x4_25 => wX12_nextOrder_L86 Q  a0 N x3_23 x4_25 M_22))))
def wX12_nextOrder_J34 (Q : Int → Mem → Prop)  (a0 : Nat) (x1 : Int) (M : Mem) : Prop := BR (0 ≤ bm x1) (LET ((M a0 13) - 1) (fun x2_10 => ∃ N_28, wX12_nextOrder_L47 Q (fun x2_17 M_18 => wX12_swap a0 x1 x2_17 M_18 (fun M_19 => LET (x1 + 1) (fun x3_20 => LET ((M_19 a0 13) - 1) (fun x4_21 => ∃ N_27, wX12_nextOrder_L86 Q  a0 N_27 x3_20 x4_21 M_19)))) a0 x1 N_28 x2_10 M)) (Q 0 M)
def wX12_nextOrder (a0 : Nat) (M : Mem) (Q : Int → Mem → Prop) : Prop := LET ((M a0 13) - 2) (fun x1_1 => ∃ N_29, wX12_nextOrder_L7 Q (fun x1_8 M_9 => wX12_nextOrder_J34 Q  a0 x1_8 M_9) a0 N_29 x1_1 M)
def rmX12_isBest : Room := { frames := 0, cells := 0, slots := 0, locals := 0 }
def wX12_isBest_L2 (Q : Mem → Prop) (E35 : Mem → Prop) (a0 : Nat) (l1 : Int) : Nat → Int → Mem → Prop
  | 0, _, _ => False
  | N + 1, x3, M => BR (bm (M a0 13) ≤ bm x3) (E35  M) (inb x3 12 ∧ inb x3 12 ∧ LET (wr M (a0 + 11) x3 (rd M (a0 + 7) x3)) (fun M_5 => inb x3 12 ∧ LET (wr M_5 (a0 + 12) x3 1) (fun M_8 => LET (x3 + 1) (fun x3_9 => wX12_isBest_L2 Q E35 a0 l1 N x3_9 M_8))))
def wX12_isBest (a0 : Nat) (l1 : Int) (M : Mem) (Q : Mem → Prop) : Prop := ∃ N_16, wX12_isBest_L2 Q (fun M_11 => LET (up M_11 a0 19 (M_11 a0 13)) (fun M_12 => LET (up M_12 a0 20 (M_12 a0 14)) (fun M_13 => LET (up M_13 a0 21 l1) (fun M_14 => LET (up M_14 a0 23 1) (fun M_15 => Q M_15))))) a0 l1 N_16 0 M
def rmX12_seesOne : Room := { frames := 6, cells := 0, slots := 0, locals := 140 }
def wX12_seesOne_J68 (Q : Mem → Prop)  (a0 : Nat) (l2 : Int) (M : Mem) : Prop := wX12_isBest a0 l2 M (fun M_13 => Q M_13)
def wX12_seesOne_J145 (Q : Mem → Prop) (C98 : Int → Mem → Prop) (a0 : Nat) (x4 : Int) (xs0 : Int) (xs1 : Int) (as2 : Nat) (M : Mem) : Prop := inb xs1 12 ∧ isB xs0 ∧ LET (wr M as2 xs1 xs0) (fun M_20 => LET (x4 + 1) (fun x4_21 => C98 x4_21 M_20))
def wX12_seesOne_J144 (Q : Mem → Prop) (C98 : Int → Mem → Prop) (a0 : Nat) (x4 : Int) (xs0 : Int) (as1 : Nat) (M : Mem) : Prop := wX12_seesOne_J145 Q C98 a0 x4 0 xs0 as1 M
def wX12_seesOne_L98 (Q : Mem → Prop)  (a0 : Nat) : Nat → Int → Mem → Prop
  | 0, _, _ => False
  | N + 1, x4, M => BR (bm (M a0 13) ≤ bm x4) (Q M) (inb x4 12 ∧ BR (bm (rd M (a0 + 12) x4) = 0) (wX12_seesOne_J144 Q (fun x4' M' => wX12_seesOne_L98 Q  a0 N x4' M') a0 x4 x4 (a0 + 12) M) (inb x4 12 ∧ inb x4 12 ∧ BR (bm (rd M (a0 + 7) x4) = bm (rd M (a0 + 11) x4)) (wX12_seesOne_J145 Q (fun x4' M' => wX12_seesOne_L98 Q  a0 N x4' M') a0 x4 1 x4 (a0 + 12) M) (wX12_seesOne_J144 Q (fun x4' M' => wX12_seesOne_L98 Q  a0 N x4' M') a0 x4 x4 (a0 + 12) M)))
def wX12_seesOne (a0 : Nat) (M : Mem) (Q : Mem → Prop) : Prop := wX12_layRow a0 M (fun M_1 => wX12_greatestTired a0 M_1 (fun r_3 M_2 => BR (bm r_3 ≤ bm (rd M_2 (a0 + 1) 9)) (wX12_broken a0 M_2 (fun r_6 M_5 => inb r_6 1024 ∧ LET (wr M_5 (a0 + 13) r_6 1) (fun M_9 => BR (bm r_6 = 0) (LET (up M_9 a0 22 ((M_9 a0 22) + 1)) (fun M_10 => wX12_worthNow a0 M_10 (fun r_12 M_11 => BR (bm (M_11 a0 22) = 1) (wX12_seesOne_J68 Q  a0 r_12 M_11) (BR (bm (lCmp r_12 (M_11 a0 21)) ≤ 0) (BR (bm (lCmp r_12 (M_11 a0 21)) = 0) (LET (up M_11 a0 23 ((M_11 a0 23) + 1)) (fun M_14 => ∃ N_27, wX12_seesOne_L98 Q  a0 N_27 0 M_14)) (Q M_11)) (wX12_seesOne_J68 Q  a0 r_12 M_11))))) (Q M_9)))) (Q M_2)))
def rmX12_seesAll : Room := { frames := 7, cells := 0, slots := 0, locals := 164 }
def wX12_seesAll_L12 (Q : Mem → Prop) (E32 : Mem → Prop) (a0 : Nat) (x1 : Int) : Nat → Int → Mem → Prop
  | 0, _, _ => False
  | N + 1, x2, M => BR (1024 ≤ bm x2) (E32  M) (inb x2 1024 ∧ LET (wr M (a0 + 13) x2 0) (fun M_5 => LET (x2 + 1) (fun x2_6 => wX12_seesAll_L12 Q E32 a0 x1 N x2_6 M_5)))
def wX12_seesAll_L45 (Q : Mem → Prop) (E68 : Mem → Prop) (a0 : Nat) : Nat → Int → Mem → Prop
  | 0, _, _ => False
  | N + 1, x3, M => BR (bm (M a0 13) ≤ bm x3) (E68  M) (LET (up M a0 14 x3) (fun M_10 => wX12_seesOne a0 M_10 (fun M_11 => LET (x3 + 1) (fun x3_12 => wX12_seesAll_L45 Q E68 a0 N x3_12 M_11))))
def wX12_seesAll_L39 (Q : Mem → Prop)  (a0 : Nat) : Nat → Int → Mem → Prop
  | 0, _, _ => False
  | N + 1, x2, M => BR (bm x2 = 0) (Q M) (∃ N_17, wX12_seesAll_L45 Q (fun M_14 => wX12_nextOrder a0 M_14 (fun r_16 M_15 => wX12_seesAll_L39 Q  a0 N r_16 M_15)) a0 N_17 0 M)
def wX12_seesAll (a0 : Nat) (x1 : Int) (M : Mem) (Q : Mem → Prop) : Prop := LET (up M a0 22 0) (fun M_1 => LET (up M_1 a0 23 0) (fun M_2 => ∃ N_19, wX12_seesAll_L12 Q (fun M_8 => wX12_firstOrder a0 x1 M_8 (fun M_9 => ∃ N_18, wX12_seesAll_L39 Q  a0 N_18 1 M_9)) a0 x1 N_19 0 M_2))
def rmX12_isSet : Room := { frames := 1, cells := 0, slots := 0, locals := 22 }
def wX12_isSet (a0 : Nat) (x1 : Int) (M : Mem) (Q : Int → Mem → Prop) : Prop := wX12_in x1 0 ((iShl 1 (rd M (a0 + 1) 0)) - 1) M (fun r_3 M_2 => isB r_3 ∧ Q r_3 M_2)
def rmX12_isSmall : Room := { frames := 1, cells := 0, slots := 0, locals := 22 }
def wX12_isSmall (x0 : Int) (x1 : Int) (M : Mem) (Q : Int → Mem → Prop) : Prop := wX12_ones x0 M (fun r_2 M_1 => wX12_in r_2 1 x1 M_1 (fun r_4 M_3 => isB r_4 ∧ Q r_4 M_3))
def rmX12_best : Room := { frames := 8, cells := 0, slots := 0, locals := 187 }
def wX12_best_J13 (Q : Int → Mem → Prop)  (a0 : Nat) (M : Mem) : Prop := wX12_error a0 1 M (fun r_4 M_3 => Q r_4 M_3)
def wX12_best_J54 (Q : Int → Mem → Prop)  (a0 : Nat) (M : Mem) : Prop := wX12_error a0 2 M (fun r_9 M_8 => Q r_9 M_8)
def wX12_best (a0 : Nat) (x1 : Int) (x2 : Int) (M : Mem) (Q : Int → Mem → Prop) : Prop := wX12_isSet a0 x1 M (fun r_2 M_1 => BR (bm r_2 = 0) (wX12_best_J13 Q  a0 M_1) (BR ((-1) ≤ bm x2) (wX12_isSmall x1 6 M_1 (fun r_6 M_5 => BR (bm r_6 = 0) (wX12_error a0 5 M_5 (fun r_13 M_12 => Q r_13 M_12)) (wX12_seesAll a0 x1 M_5 (fun M_7 => BR (bm (M_7 a0 22) = 0) (wX12_best_J54 Q  a0 M_7) (BR (bm x2 < bm (M_7 a0 19)) (BR (0 ≤ bm x2) (inb x2 12 ∧ Q (rd M_7 (a0 + 11) x2) M_7) (Q (M_7 a0 20) M_7)) (wX12_best_J54 Q  a0 M_7)))))) (wX12_best_J13 Q  a0 M_1)))
def rmX12_most : Room := { frames := 8, cells := 0, slots := 0, locals := 187 }
def wX12_most_J17 (Q : Int → Mem → Prop)  (a0 : Nat) (M : Mem) : Prop := wX12_error a0 1 M (fun r_4 M_3 => Q (bm r_4) M_3)
def wX12_most (a0 : Nat) (x1 : Int) (x2 : Int) (M : Mem) (Q : Int → Mem → Prop) : Prop := wX12_isSet a0 x1 M (fun r_2 M_1 => BR (bm r_2 = 0) (wX12_most_J17 Q  a0 M_1) (wX12_in x2 0 1 M_1 (fun r_6 M_5 => BR (bm r_6 = 0) (wX12_most_J17 Q  a0 M_5) (wX12_isSmall x1 6 M_5 (fun r_8 M_7 => BR (bm r_8 = 0) (wX12_error a0 5 M_7 (fun r_15 M_14 => Q (bm r_15) M_14)) (wX12_seesAll a0 x1 M_7 (fun M_9 => BR (bm (M_9 a0 22) = 0) (wX12_error a0 2 M_9 (fun r_13 M_12 => Q (bm r_13) M_12)) (wX12_partOf (M_9 a0 21) x2 M_9 (fun r_11 M_10 => Q r_11 M_10)))))))))
def rmX12_equals : Room := { frames := 8, cells := 0, slots := 0, locals := 187 }
def wX12_equals_J17 (Q : Int → Mem → Prop)  (a0 : Nat) (M : Mem) : Prop := wX12_error a0 1 M (fun r_4 M_3 => Q r_4 M_3)
def wX12_equals_J88 (Q : Int → Mem → Prop) (C48 : Int → Int → Mem → Prop) (a0 : Nat) (x2 : Int) (x4 : Int) (xs0 : Int) (xs1 : Int) (M : Mem) : Prop := LET (iOr xs1 xs0) (fun x3_12 => LET (x4 + 1) (fun x4_13 => C48 x3_12 x4_13 M))
def wX12_equals_L48 (Q : Int → Mem → Prop) (E96 : Int → Mem → Prop) (a0 : Nat) (x2 : Int) : Nat → Int → Int → Mem → Prop
  | 0, _, _, _ => False
  | N + 1, x3, x4, M => BR (bm (M a0 13) ≤ bm x4) (E96 x3 M) (BR (bm (M a0 22) ≤ 0) (E96 x3 M) (inb x4 12 ∧ BR (bm (rd M (a0 + 12) x4) = 0) (wX12_equals_J88 Q (fun x3' x4' M' => wX12_equals_L48 Q E96 a0 x2 N x3' x4' M') a0 x2 x4 0 x3 M) (inb x4 12 ∧ wX12_equals_J88 Q (fun x3' x4' M' => wX12_equals_L48 Q E96 a0 x2 N x3' x4' M') a0 x2 x4 (iShl 1 (rd M (a0 + 11) x4)) x3 M)))
def wX12_equals_J96 (Q : Int → Mem → Prop)  (a0 : Nat) (x2 : Int) (x3 : Int) (M : Mem) : Prop := BR (bm x2 = 0) (Q (M a0 22) M) (BR (bm x2 = 1) (Q (M a0 23) M) (Q x3 M))
def wX12_equals (a0 : Nat) (x1 : Int) (x2 : Int) (M : Mem) (Q : Int → Mem → Prop) : Prop := wX12_isSet a0 x1 M (fun r_2 M_1 => BR (bm r_2 = 0) (wX12_equals_J17 Q  a0 M_1) (wX12_in x2 0 2 M_1 (fun r_6 M_5 => BR (bm r_6 = 0) (wX12_equals_J17 Q  a0 M_5) (wX12_isSmall x1 6 M_5 (fun r_8 M_7 => BR (bm r_8 = 0) (wX12_error a0 5 M_7 (fun r_21 M_20 => Q r_21 M_20)) (wX12_seesAll a0 x1 M_7 (fun M_9 => ∃ N_19, wX12_equals_L48 Q (fun x3_17 M_18 => wX12_equals_J96 Q  a0 x2 x3_17 M_18) a0 x2 N_19 0 0 M_9)))))))
def rmX12_bar : Room := { frames := 0, cells := 0, slots := 0, locals := 0 }
def wX12_bar_J40 (Q : Int → Mem → Prop) (C4 : Int → Int → Mem → Prop) (a0 : Nat) (x1 : Int) (x3 : Int) (xs0 : Int) (M : Mem) : Prop := LET (x3 + 1) (fun x3_4 => C4 xs0 x3_4 M)
def wX12_bar_J35 (Q : Int → Mem → Prop) (C4 : Int → Int → Mem → Prop) (a0 : Nat) (x1 : Int) (x3 : Int) (M : Mem) : Prop := wX12_bar_J40 Q C4 a0 x1 x3 1 M
def wX12_bar_L4 (Q : Int → Mem → Prop)  (a0 : Nat) (x1 : Int) : Nat → Int → Int → Mem → Prop
  | 0, _, _, _ => False
  | N + 1, x2, x3, M => BR (bm (iShl 1 (rd M (a0 + 1) 2)) ≤ bm x3) (isB x2 ∧ Q x2 M) (BR (bm x2 = 0) (isB x2 ∧ Q x2 M) (inb x3 1024 ∧ BR (bm (rd M (a0 + 13) x3) = 0) (wX12_bar_J35 Q (fun x2' x3' M' => wX12_bar_L4 Q  a0 x1 N x2' x3' M') a0 x1 x3 M) (BR (bm (iAnd x3 x1) = 0) (wX12_bar_J40 Q (fun x2' x3' M' => wX12_bar_L4 Q  a0 x1 N x2' x3' M') a0 x1 x3 0 M) (wX12_bar_J35 Q (fun x2' x3' M' => wX12_bar_L4 Q  a0 x1 N x2' x3' M') a0 x1 x3 M))))
def wX12_bar (a0 : Nat) (x1 : Int) (M : Mem) (Q : Int → Mem → Prop) : Prop := ∃ N_6, wX12_bar_L4 Q  a0 x1 N_6 1 0 M
def rmX12_bars : Room := { frames := 8, cells := 0, slots := 0, locals := 187 }
def wX12_bars_J91 (Q : Int → Mem → Prop) (C51 : Int → Int → Mem → Prop) (a0 : Nat) (x3 : Int) (xs0 : Int) (M : Mem) : Prop := LET (x3 + 1) (fun x3_10 => C51 xs0 x3_10 M)
def wX12_bars_J90 (Q : Int → Mem → Prop) (C51 : Int → Int → Mem → Prop) (a0 : Nat) (x2 : Int) (x3 : Int) (M : Mem) : Prop := wX12_bars_J91 Q C51 a0 x3 x2 M
def wX12_bars_J78 (Q : Int → Mem → Prop) (C51 : Int → Int → Mem → Prop) (a0 : Nat) (x2 : Int) (x3 : Int) (M : Mem) : Prop := wX12_bar a0 x3 M (fun r_9 M_8 => BR (bm r_9 = 0) (wX12_bars_J90 Q C51 a0 x2 x3 M_8) (wX12_bars_J91 Q C51 a0 x3 x3 M_8))
def wX12_bars_L51 (Q : Int → Mem → Prop)  (a0 : Nat) : Nat → Int → Int → Mem → Prop
  | 0, _, _, _ => False
  | N + 1, x2, x3, M => BR (bm (iShl 1 (rd M (a0 + 1) 2)) ≤ bm x3) (Q x2 M) (BR (bm x2 < 0) (wX12_bars_J78 Q (fun x2' x3' M' => wX12_bars_L51 Q  a0 N x2' x3' M') a0 x2 x3 M) (wX12_ones x3 M (fun r_13 M_12 => wX12_ones x2 M_12 (fun r_15 M_14 => BR (bm r_15 ≤ bm r_13) (wX12_bars_J90 Q (fun x2' x3' M' => wX12_bars_L51 Q  a0 N x2' x3' M') a0 x2 x3 M_14) (wX12_bars_J78 Q (fun x2' x3' M' => wX12_bars_L51 Q  a0 N x2' x3' M') a0 x2 x3 M_14)))))
def wX12_bars (a0 : Nat) (x1 : Int) (M : Mem) (Q : Int → Mem → Prop) : Prop := wX12_isSet a0 x1 M (fun r_2 M_1 => BR (bm r_2 = 0) (wX12_error a0 1 M_1 (fun r_22 M_21 => Q r_22 M_21)) (wX12_isSmall x1 6 M_1 (fun r_4 M_3 => BR (bm r_4 = 0) (wX12_error a0 5 M_3 (fun r_20 M_19 => Q r_20 M_19)) (wX12_seesAll a0 x1 M_3 (fun M_5 => BR (bm (M_5 a0 22) ≤ 0) (LET ((-1)) (fun x2_6 => ∃ N_16, wX12_bars_L51 Q  a0 N_16 x2_6 0 M_5)) (wX12_error a0 3 M_5 (fun r_18 M_17 => Q r_18 M_17)))))))
def rmX12_findLeast : Room := { frames := 2, cells := 0, slots := 0, locals := 44 }
def wX12_findLeast_J101 (Q : Mem → Prop) (C32 : Int → Int → Mem → Prop) (a0 : Nat) (x1 : Int) (x2 : Int) (x3 : Int) (x5 : Int) (xs0 : Int) (M : Mem) : Prop := LET (x5 + 1) (fun x5_12 => C32 xs0 x5_12 M)
def wX12_findLeast_L32 (Q : Mem → Prop) (E109 : Int → Mem → Prop) (a0 : Nat) (x1 : Int) (x2 : Int) (x3 : Int) : Nat → Int → Int → Mem → Prop
  | 0, _, _, _ => False
  | N + 1, x4, x5, M => BR (bm x1 ≤ bm x5) (E109 x4 M) (BR (bm (iAnd (iShr x2 x5) 1) = 1) (inb x3 10 ∧ inb x5 10 ∧ wX12_carried a0 (rd M (a0 + 15) x3) (rd M (a0 + 15) x5) M (fun r_8 M_7 => inb ((10 * (iAnd x2 (iXor (iShl 1 x5) ((-1))))) + x5) 10240 ∧ LET (r_8 + (rd M_7 (a0 + 14) ((10 * (iAnd x2 (iXor (iShl 1 x5) ((-1))))) + x5))) (fun x6_11 => BR (bm x4 ≤ bm x6_11) (wX12_findLeast_J101 Q (fun x4' x5' M' => wX12_findLeast_L32 Q E109 a0 x1 x2 x3 N x4' x5' M') a0 x1 x2 x3 x5 x4 M_7) (wX12_findLeast_J101 Q (fun x4' x5' M' => wX12_findLeast_L32 Q E109 a0 x1 x2 x3 N x4' x5' M') a0 x1 x2 x3 x5 x6_11 M_7)))) (LET (x5 + 1) (fun x5_1 => wX12_findLeast_L32 Q E109 a0 x1 x2 x3 N x4 x5_1 M)))
def wX12_findLeast_J27 (Q : Mem → Prop) (C11 : Int → Mem → Prop) (a0 : Nat) (x1 : Int) (x2 : Int) (x3 : Int) (xs0 : Int) (M : Mem) : Prop := ∃ N_21, wX12_findLeast_L32 Q (fun x4_14 M_15 => inb ((10 * x2) + x3) 10240 ∧ LET (wr M_15 (a0 + 14) ((10 * x2) + x3) x4_14) (fun M_18 => LET (x3 + 1) (fun x3_19 => C11 x3_19 M_18))) a0 x1 x2 x3 N_21 xs0 0 M
def wX12_findLeast_L11 (Q : Mem → Prop) (E128 : Mem → Prop) (a0 : Nat) (x1 : Int) (x2 : Int) : Nat → Int → Mem → Prop
  | 0, _, _ => False
  | N + 1, x3, M => BR (bm x1 ≤ bm x3) (E128  M) (BR (bm x2 = 0) (wX12_findLeast_J27 Q (fun x3' M' => wX12_findLeast_L11 Q E128 a0 x1 x2 N x3' M') a0 x1 x2 x3 0 M) (wX12_findLeast_J27 Q (fun x3' M' => wX12_findLeast_L11 Q E128 a0 x1 x2 N x3' M') a0 x1 x2 x3 1000000 M))
def wX12_findLeast_L2 (Q : Mem → Prop)  (a0 : Nat) (x1 : Int) : Nat → Int → Mem → Prop
  | 0, _, _ => False
  | N + 1, x2, M => BR (bm (iShl 1 x1) ≤ bm x2) (Q M) (∃ N_25, wX12_findLeast_L11 Q (fun M_22 => LET (x2 + 1) (fun x2_23 => wX12_findLeast_L2 Q  a0 x1 N x2_23 M_22)) a0 x1 x2 N_25 0 M)
def wX12_findLeast (a0 : Nat) (x1 : Int) (M : Mem) (Q : Mem → Prop) : Prop := ∃ N_26, wX12_findLeast_L2 Q  a0 x1 N_26 0 M
def rmX12_step : Room := { frames := 2, cells := 0, slots := 0, locals := 44 }
def wX12_step (a0 : Nat) (x1 : Int) (x2 : Int) (M : Mem) (Q : Int → Mem → Prop) : Prop := BR (0 ≤ bm x1) (inb x1 10 ∧ inb x2 10 ∧ wX12_carried a0 (rd M (a0 + 15) x1) (rd M (a0 + 15) x2) M (fun r_6 M_5 => Q r_6 M_5)) (Q 0 M)
def rmX12_fewest : Room := { frames := 3, cells := 0, slots := 0, locals := 70 }
def wX12_fewest_J13 (Q : Int → Mem → Prop)  (a0 : Nat) (M : Mem) : Prop := wX12_error a0 1 M (fun r_4 M_3 => Q r_4 M_3)
def wX12_fewest_L56 (Q : Int → Mem → Prop) (E91 : Mem → Prop) (a0 : Nat) (x1 : Int) (x2 : Int) (x3 : Int) : Nat → Int → Int → Mem → Prop
  | 0, _, _, _ => False
  | N + 1, x4, x5, M => BR (12 ≤ bm x5) (E91  M) (BR (bm (iAnd (iShr x1 x5) 1) = 1) (inb x4 10 ∧ LET (wr M (a0 + 15) x4 x5) (fun M_13 => LET (x4 + 1) (fun x4_14 => LET (x5 + 1) (fun x5_16 => wX12_fewest_L56 Q E91 a0 x1 x2 x3 N x4_14 x5_16 M_13)))) (LET (x5 + 1) (fun x5_9 => wX12_fewest_L56 Q E91 a0 x1 x2 x3 N x4 x5_9 M)))
def wX12_fewest_J153 (Q : Int → Mem → Prop) (C111 : Int → Int → Mem → Prop) (a0 : Nat) (x2 : Int) (x3 : Int) (x5 : Int) (x7 : Int) (xs0 : Int) (M : Mem) : Prop := LET (x7 + 1) (fun x7_24 => C111 xs0 x7_24 M)
def wX12_fewest_L111 (Q : Int → Mem → Prop) (E161 : Int → Mem → Prop) (a0 : Nat) (x2 : Int) (x3 : Int) (x5 : Int) : Nat → Int → Int → Mem → Prop
  | 0, _, _, _ => False
  | N + 1, x6, x7, M => BR (bm x3 ≤ bm x7) (E161 x6 M) (inb ((10 * (iAnd x5 (iXor (iShl 1 x7) ((-1))))) + x7) 10240 ∧ LET (rd M (a0 + 14) ((10 * (iAnd x5 (iXor (iShl 1 x7) ((-1))))) + x7)) (fun x8_23 => BR (bm x6 ≤ bm x8_23) (wX12_fewest_J153 Q (fun x6' x7' M' => wX12_fewest_L111 Q E161 a0 x2 x3 x5 N x6' x7' M') a0 x2 x3 x5 x7 x6 M) (wX12_fewest_J153 Q (fun x6' x7' M' => wX12_fewest_L111 Q E161 a0 x2 x3 x5 N x6' x7' M') a0 x2 x3 x5 x7 x8_23 M)))
def wX12_fewest_L187 (Q : Int → Mem → Prop) (E237 : Int → Mem → Prop) (a0 : Nat) (x2 : Int) (x5 : Int) (x7 : Int) (x8 : Int) (x9 : Int) : Nat → Int → Mem → Prop
  | 0, _, _ => False
  | N + 1, x10, M => BR (bm (iAnd (iShr x5 x10) 1) = 0) (LET (x10 + 1) (fun x10_31 => wX12_fewest_L187 Q E237 a0 x2 x5 x7 x8 x9 N x10_31 M)) (wX12_step a0 x7 x10 M (fun r_34 M_33 => inb ((10 * (iAnd x5 (iXor (iShl 1 x10) ((-1))))) + x10) 10240 ∧ BR (bm (r_34 + (rd M_33 (a0 + 14) ((10 * (iAnd x5 (iXor (iShl 1 x10) ((-1))))) + x10))) = bm x8) (E237 x10 M_33) (LET (x10 + 1) (fun x10_37 => wX12_fewest_L187 Q E237 a0 x2 x5 x7 x8 x9 N x10_37 M_33))))
def wX12_fewest_L178 (Q : Int → Mem → Prop)  (a0 : Nat) (x2 : Int) : Nat → Int → Int → Int → Int → Mem → Prop
  | 0, _, _, _, _, _ => False
  | N + 1, x5, x7, x8, x9, M => BR (bm x2 < bm x9) (inb x7 10 ∧ Q (rd M (a0 + 15) x7) M) (∃ N_47, wX12_fewest_L187 Q (fun x10_39 M_40 => wX12_step a0 x7 x10_39 M_40 (fun r_42 M_41 => LET (x8 - r_42) (fun x8_43 => LET (iAnd x5 (iXor (iShl 1 x10_39) ((-1)))) (fun x5_44 => LET (x9 + 1) (fun x9_45 => wX12_fewest_L178 Q  a0 x2 N x5_44 x10_39 x8_43 x9_45 M_41))))) a0 x2 x5 x7 x8 x9 N_47 0 M)
def wX12_fewest (a0 : Nat) (x1 : Int) (x2 : Int) (M : Mem) (Q : Int → Mem → Prop) : Prop := wX12_isSet a0 x1 M (fun r_2 M_1 => BR (bm r_2 = 0) (wX12_fewest_J13 Q  a0 M_1) (BR ((-1) ≤ bm x2) (wX12_isSmall x1 10 M_1 (fun r_6 M_5 => BR (bm r_6 = 0) (wX12_error a0 5 M_5 (fun r_54 M_53 => Q r_54 M_53)) (wX12_ones x1 M_5 (fun r_8 M_7 => BR (bm x2 < bm r_8) (∃ N_50, wX12_fewest_L56 Q (fun M_18 => wX12_findLeast a0 r_8 M_18 (fun M_19 => LET ((iShl 1 r_8) - 1) (fun x5_20 => ∃ N_49, wX12_fewest_L111 Q (fun x6_26 M_27 => BR (0 ≤ bm x2) (LET ((-1)) (fun x7_28 => ∃ N_48, wX12_fewest_L178 Q  a0 x2 N_48 x5_20 x7_28 x6_26 0 M_27)) (Q x6_26 M_27)) a0 x2 r_8 x5_20 N_49 1000000 0 M_19))) a0 x1 x2 r_8 N_50 0 0 M_7) (wX12_error a0 2 M_7 (fun r_52 M_51 => Q r_52 M_51)))))) (wX12_fewest_J13 Q  a0 M_1)))
def rmX12_findBetter : Room := { frames := 6, cells := 0, slots := 0, locals := 140 }
def wX12_findBetter_J103 (Q : Int → Mem → Prop) (C28 : Int → Int → Int → Mem → Prop) (a0 : Nat) (l1 : Int) (x3 : Int) (l4 : Int) (x6 : Int) (x7 : Int) (M : Mem) : Prop := wX12_swap a0 x6 x7 M (fun M_8 => LET (x7 + 1) (fun x7_9 => C28 x3 l4 x7_9 M_8))
def wX12_findBetter_J85 (Q : Int → Mem → Prop) (C28 : Int → Int → Int → Mem → Prop) (a0 : Nat) (l1 : Int) (x6 : Int) (x7 : Int) (l8 : Int) (M : Mem) : Prop := LET (up M a0 28 x6) (fun M_11 => LET (up M_11 a0 29 x7) (fun M_12 => wX12_findBetter_J103 Q C28 a0 l1 1 l8 x6 x7 M_12))
def wX12_findBetter_J64 (Q : Int → Mem → Prop) (C28 : Int → Int → Int → Mem → Prop) (a0 : Nat) (l1 : Int) (x3 : Int) (l4 : Int) (x6 : Int) (x7 : Int) (ls0 : Int) (M : Mem) : Prop := BR (bm (lCmp ls0 l1) ≤ 0) (wX12_findBetter_J103 Q C28 a0 l1 x3 l4 x6 x7 M) (BR (bm x3 = 0) (wX12_findBetter_J85 Q C28 a0 l1 x6 x7 ls0 M) (BR (bm (lCmp ls0 l4) ≤ 0) (wX12_findBetter_J103 Q C28 a0 l1 x3 l4 x6 x7 M) (wX12_findBetter_J85 Q C28 a0 l1 x6 x7 ls0 M)))
def wX12_findBetter_L28 (Q : Int → Mem → Prop) (E117 : Int → Int → Mem → Prop) (a0 : Nat) (l1 : Int) (x6 : Int) : Nat → Int → Int → Int → Mem → Prop
  | 0, _, _, _, _ => False
  | N + 1, x3, l4, x7, M => BR (bm (M a0 13) ≤ bm x7) (E117 x3 l4 M) (wX12_swap a0 x6 x7 M (fun M_4 => wX12_layRow a0 M_4 (fun M_5 => wX12_isGood a0 M_5 (fun r_7 M_6 => BR (bm r_7 = 0) (wX12_findBetter_J64 Q (fun x3' l4' x7' M' => wX12_findBetter_L28 Q E117 a0 l1 x6 N x3' l4' x7' M') a0 l1 x3 l4 x6 x7 l1 M_6) (wX12_worthNow a0 M_6 (fun r_14 M_13 => wX12_findBetter_J64 Q (fun x3' l4' x7' M' => wX12_findBetter_L28 Q E117 a0 l1 x6 N x3' l4' x7' M') a0 l1 x3 l4 x6 x7 r_14 M_13))))))
def wX12_findBetter_L13 (Q : Int → Mem → Prop) (E123 : Int → Mem → Prop) (a0 : Nat) (l1 : Int) : Nat → Int → Int → Int → Mem → Prop
  | 0, _, _, _, _ => False
  | N + 1, x3, l4, x6, M => BR (bm (M a0 13) ≤ bm x6) (E123 x3 M) (LET (x6 + 1) (fun x7_3 => ∃ N_20, wX12_findBetter_L28 Q (fun x3_15 l4_16 M_17 => LET (x6 + 1) (fun x6_18 => wX12_findBetter_L13 Q E123 a0 l1 N x3_15 l4_16 x6_18 M_17)) a0 l1 x6 N_20 x3 l4 x7_3 M))
def wX12_findBetter (a0 : Nat) (M : Mem) (Q : Int → Mem → Prop) : Prop := wX12_worthNow a0 M (fun r_2 M_1 => ∃ N_24, wX12_findBetter_L13 Q (fun x3_21 M_22 => wX12_layRow a0 M_22 (fun M_23 => isB x3_21 ∧ Q x3_21 M_23)) a0 r_2 N_24 0 0 0 M_1)
def rmX12_better : Room := { frames := 7, cells := 0, slots := 0, locals := 169 }
def wX12_better (a0 : Nat) (x1 : Int) (x2 : Int) (M : Mem) (Q : Int → Mem → Prop) : Prop := wX12_isSheet x1 M (fun r_2 M_1 => BR (bm r_2 = 0) (wX12_error a0 1 M_1 (fun r_12 M_11 => Q r_12 M_11)) (wX12_take a0 x1 x2 M_1 (fun r_4 M_3 => BR (bm r_4 ≤ 0) (wX12_findBetter a0 M_3 (fun r_6 M_5 => BR (bm r_6 = 0) (wX12_error a0 3 M_5 (fun r_8 M_7 => Q r_8 M_7)) (Q ((100 * (M_5 a0 28)) + (M_5 a0 29)) M_5))) (wX12_error a0 r_4 M_3 (fun r_10 M_9 => Q r_10 M_9)))))
def rmX12_slides : Room := { frames := 7, cells := 0, slots := 0, locals := 169 }
def wX12_slides_J17 (Q : Int → Mem → Prop)  (a0 : Nat) (M : Mem) : Prop := wX12_error a0 1 M (fun r_4 M_3 => Q r_4 M_3)
def wX12_slides_L46 (Q : Int → Mem → Prop) (E81 : Int → Mem → Prop) (a0 : Nat) (x1 : Int) (x3 : Int) : Nat → Int → Mem → Prop
  | 0, _, _ => False
  | N + 1, x5, M => BR (bm x3 ≤ bm x5) (E81 x5 M) (wX12_findBetter a0 M (fun r_10 M_9 => BR (bm r_10 = 0) (E81 x5 M_9) (wX12_swap a0 (M_9 a0 28) (M_9 a0 29) M_9 (fun M_11 => wX12_layRow a0 M_11 (fun M_12 => LET (x5 + 1) (fun x5_13 => wX12_slides_L46 Q E81 a0 x1 x3 N x5_13 M_12))))))
def wX12_slides_L84 (Q : Int → Mem → Prop)  (a0 : Nat) (x1 : Int) (x5 : Int) : Nat → Int → Mem → Prop
  | 0, _, _ => False
  | N + 1, x6, M => BR (bm (M a0 13) ≤ bm x6) (Q x5 M) (inb x6 12 ∧ inb ((24 * x1) + x6) 96 ∧ LET (wr M (a0 + 21) ((24 * x1) + x6) (rd M (a0 + 7) x6)) (fun M_21 => LET (x6 + 1) (fun x6_22 => wX12_slides_L84 Q  a0 x1 x5 N x6_22 M_21)))
def wX12_slides_J81 (Q : Int → Mem → Prop)  (a0 : Nat) (x1 : Int) (x5 : Int) (M : Mem) : Prop := ∃ N_24, wX12_slides_L84 Q  a0 x1 x5 N_24 0 M
def wX12_slides (a0 : Nat) (x1 : Int) (x2 : Int) (x3 : Int) (M : Mem) (Q : Int → Mem → Prop) : Prop := wX12_isSheet x1 M (fun r_2 M_1 => BR (bm r_2 = 0) (wX12_slides_J17 Q  a0 M_1) (wX12_in x3 1 20 M_1 (fun r_6 M_5 => BR (bm r_6 = 0) (wX12_slides_J17 Q  a0 M_5) (wX12_take a0 x1 x2 M_5 (fun r_8 M_7 => BR (bm r_8 ≤ 0) (∃ N_25, wX12_slides_L46 Q (fun x5_15 M_16 => wX12_slides_J81 Q  a0 x1 x5_15 M_16) a0 x1 x3 N_25 0 M_7) (wX12_error a0 r_8 M_7 (fun r_27 M_26 => Q r_27 M_26)))))))
def rmX12_moved : Room := { frames := 1, cells := 0, slots := 0, locals := 23 }
def wX12_moved_J50 (Q : Int → Mem → Prop) (C14 : Int → Int → Mem → Prop) (a0 : Nat) (x1 : Int) (x3 : Int) (x4 : Int) (xs0 : Int) (xs1 : Int) (M : Mem) : Prop := LET (xs1 + xs0) (fun x2_10 => LET (x4 + 1) (fun x4_11 => C14 x2_10 x4_11 M))
def wX12_moved_L14 (Q : Int → Mem → Prop) (E58 : Int → Mem → Prop) (a0 : Nat) (x1 : Int) (x3 : Int) : Nat → Int → Int → Mem → Prop
  | 0, _, _, _ => False
  | N + 1, x2, x4, M => BR (bm x1 ≤ bm x4) (E58 x2 M) (inb x3 12 ∧ wX12_placeOf a0 (rd M (a0 + 16) x3) M (fun r_5 M_4 => inb x4 12 ∧ wX12_placeOf a0 (rd M_4 (a0 + 16) x4) M_4 (fun r_9 M_8 => BR (bm r_5 ≤ bm r_9) (wX12_moved_J50 Q (fun x2' x4' M' => wX12_moved_L14 Q E58 a0 x1 x3 N x2' x4' M') a0 x1 x3 x4 0 x2 M_8) (wX12_moved_J50 Q (fun x2' x4' M' => wX12_moved_L14 Q E58 a0 x1 x3 N x2' x4' M') a0 x1 x3 x4 1 x2 M_8))))
def wX12_moved_L4 (Q : Int → Mem → Prop)  (a0 : Nat) (x1 : Int) : Nat → Int → Int → Mem → Prop
  | 0, _, _, _ => False
  | N + 1, x2, x3, M => BR (bm x1 ≤ bm x3) (Q x2 M) (LET (x3 + 1) (fun x4_1 => ∃ N_17, wX12_moved_L14 Q (fun x2_13 M_14 => LET (x3 + 1) (fun x3_15 => wX12_moved_L4 Q  a0 x1 N x2_13 x3_15 M_14)) a0 x1 x3 N_17 x2 x4_1 M))
def wX12_moved (a0 : Nat) (x1 : Int) (M : Mem) (Q : Int → Mem → Prop) : Prop := ∃ N_18, wX12_moved_L4 Q  a0 x1 N_18 0 0 M
def rmX12_ill : Room := { frames := 6, cells := 0, slots := 0, locals := 140 }
def wX12_ill_J14 (Q : Int → Mem → Prop)  (a0 : Nat) (M : Mem) : Prop := wX12_error a0 1 M (fun r_4 M_3 => Q r_4 M_3)
def wX12_ill_L88 (Q : Int → Mem → Prop) (E140 : Int → Int → Mem → Prop) (a0 : Nat) (x2 : Int) (x3 : Int) (x4 : Int) : Nat → Int → Int → Int → Mem → Prop
  | 0, _, _, _, _ => False
  | N + 1, x6, x7, x8, M => BR (bm (M a0 13) ≤ bm x8) (E140 x6 x7 M) (BR (bm x8 = bm x3) (LET (x8 + 1) (fun x8_11 => wX12_ill_L88 Q E140 a0 x2 x3 x4 N x6 x7 x8_11 M)) (inb x8 12 ∧ inb x6 12 ∧ LET (wr M (a0 + 16) x6 (rd M (a0 + 7) x8)) (fun M_17 => inb x8 12 ∧ LET (iOr x7 (iShl 1 (rd M_17 (a0 + 7) x8))) (fun x7_20 => LET (x6 + 1) (fun x6_21 => LET (x8 + 1) (fun x8_23 => wX12_ill_L88 Q E140 a0 x2 x3 x4 N x6_21 x7_20 x8_23 M_17))))))
def wX12_ill_J265 (Q : Int → Mem → Prop) (C196 : Int → Int → Mem → Prop) (a0 : Nat) (x4 : Int) (x6 : Int) (x9 : Int) (x10 : Int) (M : Mem) : Prop := wX12_nextOrder a0 M (fun r_36 M_35 => C196 x10 r_36 M_35)
def wX12_ill_J255 (Q : Int → Mem → Prop) (C196 : Int → Int → Mem → Prop) (a0 : Nat) (x4 : Int) (x6 : Int) (x9 : Int) (x12 : Int) (l13 : Int) (M : Mem) : Prop := wX12_isBest a0 l13 M (fun M_41 => wX12_ill_J265 Q C196 a0 x4 x6 x9 x12 M_41)
def wX12_ill_L196 (Q : Int → Mem → Prop) (E274 : Int → Mem → Prop) (a0 : Nat) (x4 : Int) (x6 : Int) (x9 : Int) : Nat → Int → Int → Mem → Prop
  | 0, _, _, _ => False
  | N + 1, x10, x11, M => BR (bm x11 = 0) (E274 x10 M) (wX12_layRow a0 M (fun M_32 => wX12_isGood a0 M_32 (fun r_34 M_33 => BR (bm r_34 = 0) (wX12_ill_J265 Q (fun x10' x11' M' => wX12_ill_L196 Q E274 a0 x4 x6 x9 N x10' x11' M') a0 x4 x6 x9 x10 M_33) (wX12_moved a0 x6 M_33 (fun r_38 M_37 => wX12_worthNow a0 M_37 (fun r_40 M_39 => BR (bm x10 < 0) (wX12_ill_J255 Q (fun x10' x11' M' => wX12_ill_L196 Q E274 a0 x4 x6 x9 N x10' x11' M') a0 x4 x6 x9 r_38 r_40 M_39) (BR (bm r_38 < bm x10) (wX12_ill_J255 Q (fun x10' x11' M' => wX12_ill_L196 Q E274 a0 x4 x6 x9 N x10' x11' M') a0 x4 x6 x9 r_38 r_40 M_39) (BR (bm r_38 = bm x10) (BR (bm (lCmp r_40 (M_39 a0 21)) ≤ 0) (wX12_ill_J265 Q (fun x10' x11' M' => wX12_ill_L196 Q E274 a0 x4 x6 x9 N x10' x11' M') a0 x4 x6 x9 x10 M_39) (wX12_ill_J255 Q (fun x10' x11' M' => wX12_ill_L196 Q E274 a0 x4 x6 x9 N x10' x11' M') a0 x4 x6 x9 r_38 r_40 M_39)) (wX12_ill_J265 Q (fun x10' x11' M' => wX12_ill_L196 Q E274 a0 x4 x6 x9 N x10' x11' M') a0 x4 x6 x9 x10 M_39)))))))))
def wX12_ill_J286 (Q : Int → Mem → Prop)  (a0 : Nat) (M : Mem) : Prop := wX12_error a0 2 M (fun r_45 M_44 => Q r_45 M_44)
def wX12_ill_J176 (Q : Int → Mem → Prop)  (a0 : Nat) (x4 : Int) (x6 : Int) (x7 : Int) (xs0 : Int) (M : Mem) : Prop := LET ((-1)) (fun x10_29 => wX12_firstOrder a0 x7 M (fun M_30 => LET (up M_30 a0 14 xs0) (fun M_31 => ∃ N_48, wX12_ill_L196 Q (fun x10_42 M_43 => BR (bm x10_42 < 0) (wX12_ill_J286 Q  a0 M_43) (BR (bm x4 < bm x6) (BR (bm x4 = (-1)) (Q x10_42 M_43) (BR (bm x4 = (-2)) (Q xs0 M_43) (inb x4 12 ∧ Q (rd M_43 (a0 + 11) x4) M_43))) (wX12_ill_J286 Q  a0 M_43))) a0 x4 x6 xs0 N_48 x10_29 1 M_31)))
def wX12_ill_J175 (Q : Int → Mem → Prop)  (a0 : Nat) (x4 : Int) (x6 : Int) (x7 : Int) (M : Mem) : Prop := wX12_ill_J176 Q  a0 x4 x6 x7 0 M
def wX12_ill_J151 (Q : Int → Mem → Prop)  (a0 : Nat) (x2 : Int) (x4 : Int) (x6 : Int) (x7 : Int) (xs0 : Int) (xs1 : Int) (M : Mem) : Prop := LET (xs1 - xs0) (fun x8_28 => BR (bm x2 ≤ 0) (wX12_ill_J175 Q  a0 x4 x6 x7 M) (BR (bm x8_28 ≤ 0) (wX12_ill_J175 Q  a0 x4 x6 x7 M) (BR (bm x6 ≤ bm x8_28) (wX12_ill_J175 Q  a0 x4 x6 x7 M) (wX12_ill_J176 Q  a0 x4 x6 x7 x8_28 M))))
def wX12_ill (a0 : Nat) (x1 : Int) (x2 : Int) (x3 : Int) (x4 : Int) (M : Mem) (Q : Int → Mem → Prop) : Prop := wX12_isSheet x1 M (fun r_2 M_1 => BR (bm r_2 = 0) (wX12_ill_J14 Q  a0 M_1) (BR ((-2) ≤ bm x4) (wX12_take a0 x1 x2 M_1 (fun r_6 M_5 => BR (bm r_6 ≤ 0) (wX12_in (M_5 a0 13) 2 7 M_5 (fun r_8 M_7 => BR (bm r_8 = 0) (wX12_error a0 5 M_7 (fun r_53 M_52 => Q r_53 M_52)) (wX12_in x3 0 ((M_7 a0 13) - 1) M_7 (fun r_10 M_9 => BR (bm r_10 = 0) (wX12_error a0 1 M_9 (fun r_51 M_50 => Q r_51 M_50)) (∃ N_49, wX12_ill_L88 Q (fun x6_25 x7_26 M_27 => BR (bm x2 ≤ bm x3) (wX12_ill_J151 Q  a0 x2 x4 x6_25 x7_26 0 x2 M_27) (wX12_ill_J151 Q  a0 x2 x4 x6_25 x7_26 1 x2 M_27)) a0 x2 x3 x4 N_49 0 0 0 M_9))))) (wX12_error a0 r_6 M_5 (fun r_55 M_54 => Q r_55 M_54)))) (wX12_ill_J14 Q  a0 M_1)))
def rmX12_two : Room := { frames := 1, cells := 0, slots := 0, locals := 22 }
def wX12_two_J145 (Q : Int → Mem → Prop) (C49 : Int → Int → Int → Int → Mem → Prop) (a0 : Nat) (x1 : Int) (x2 : Int) (x3 : Int) (x4 : Int) (x5 : Int) (x6 : Int) (x8 : Int) (xs0 : Int) (xs1 : Int) (M : Mem) : Prop := LET (xs1 + xs0) (fun x7_12 => LET (x8 + 1) (fun x8_13 => C49 x5 x6 x7_12 x8_13 M))
def wX12_two_J117 (Q : Int → Mem → Prop) (C49 : Int → Int → Int → Int → Mem → Prop) (a0 : Nat) (x1 : Int) (x2 : Int) (x3 : Int) (x4 : Int) (x5 : Int) (x7 : Int) (x8 : Int) (x9 : Int) (xs0 : Int) (xs1 : Int) (M : Mem) : Prop := LET (xs1 + xs0) (fun x6_9 => BR (bm x9 = 0) (wX12_of a0 x8 2 M (fun r_11 M_10 => wX12_two_J145 Q C49 a0 x1 x2 x3 x4 x5 x6_9 x8 (-r_11) x7 M_10)) (wX12_of a0 x8 2 M (fun r_16 M_15 => wX12_two_J145 Q C49 a0 x1 x2 x3 x4 x5 x6_9 x8 r_16 x7 M_15)))
def wX12_two_J96 (Q : Int → Mem → Prop) (C49 : Int → Int → Int → Int → Mem → Prop) (a0 : Nat) (x1 : Int) (x2 : Int) (x3 : Int) (x4 : Int) (x6 : Int) (x7 : Int) (x8 : Int) (x9 : Int) (xs0 : Int) (xs1 : Int) (M : Mem) : Prop := LET (xs1 + xs0) (fun x5_6 => BR (bm x9 = 0) (wX12_of a0 x8 0 M (fun r_8 M_7 => wX12_two_J117 Q C49 a0 x1 x2 x3 x4 x5_6 x7 x8 x9 r_8 x6 M_7)) (wX12_two_J117 Q C49 a0 x1 x2 x3 x4 x5_6 x7 x8 x9 0 x6 M))
def wX12_two_J76 (Q : Int → Mem → Prop) (C49 : Int → Int → Int → Int → Mem → Prop) (a0 : Nat) (x1 : Int) (x2 : Int) (x3 : Int) (x4 : Int) (x5 : Int) (x6 : Int) (x7 : Int) (x8 : Int) (xs0 : Int) (M : Mem) : Prop := BR (bm xs0 = 0) (wX12_two_J96 Q C49 a0 x1 x2 x3 x4 x6 x7 x8 xs0 0 x5 M) (wX12_of a0 x8 0 M (fun r_18 M_17 => wX12_two_J96 Q C49 a0 x1 x2 x3 x4 x6 x7 x8 xs0 r_18 x5 M_17))
def wX12_two_L49 (Q : Int → Mem → Prop) (E154 : Int → Int → Int → Mem → Prop) (a0 : Nat) (x1 : Int) (x2 : Int) (x3 : Int) (x4 : Int) : Nat → Int → Int → Int → Int → Mem → Prop
  | 0, _, _, _, _, _ => False
  | N + 1, x5, x6, x7, x8, M => BR (bm (rd M (a0 + 1) 0) ≤ bm x8) (E154 x5 x6 x7 M) (BR (bm (iAnd (iShr x4 x8) 1) = 1) (wX12_two_J76 Q (fun x5' x6' x7' x8' M' => wX12_two_L49 Q E154 a0 x1 x2 x3 x4 N x5' x6' x7' x8' M') a0 x1 x2 x3 x4 x5 x6 x7 x8 1 M) (wX12_two_J76 Q (fun x5' x6' x7' x8' M' => wX12_two_L49 Q E154 a0 x1 x2 x3 x4 N x5' x6' x7' x8' M') a0 x1 x2 x3 x4 x5 x6 x7 x8 0 M))
def wX12_two_J191 (Q : Int → Mem → Prop) (C24 : Int → Int → Int → Mem → Prop) (a0 : Nat) (x1 : Int) (x4 : Int) (x7 : Int) (M : Mem) : Prop := LET (x4 + 1) (fun x4_27 => C24 x4 x7 x4_27 M)
def wX12_two_J167 (Q : Int → Mem → Prop) (C24 : Int → Int → Int → Mem → Prop) (a0 : Nat) (x1 : Int) (x2 : Int) (x3 : Int) (x4 : Int) (x5 : Int) (x6 : Int) (xs0 : Int) (M : Mem) : Prop := BR (bm x1 < bm x5) (LET (x4 + 1) (fun x4_23 => C24 x2 x3 x4_23 M)) (BR (bm x1 < bm x6) (LET (x4 + 1) (fun x4_25 => C24 x2 x3 x4_25 M)) (BR (bm x2 < 0) (wX12_two_J191 Q C24 a0 x1 x4 xs0 M) (BR (bm x3 ≤ bm xs0) (LET (x4 + 1) (fun x4_29 => C24 x2 x3 x4_29 M)) (wX12_two_J191 Q C24 a0 x1 x4 xs0 M))))
def wX12_two_L24 (Q : Int → Mem → Prop) (E203 : Int → Mem → Prop) (a0 : Nat) (x1 : Int) : Nat → Int → Int → Int → Mem → Prop
  | 0, _, _, _, _ => False
  | N + 1, x2, x3, x4, M => BR (bm (iShl 1 (rd M (a0 + 1) 0)) ≤ bm x4) (E203 x2 M) (∃ N_31, wX12_two_L49 Q (fun x5_19 x6_20 x7_21 M_22 => BR (0 ≤ bm x7_21) (wX12_two_J167 Q (fun x2' x3' x4' M' => wX12_two_L24 Q E203 a0 x1 N x2' x3' x4' M') a0 x1 x2 x3 x4 x5_19 x6_20 x7_21 M_22) (wX12_two_J167 Q (fun x2' x3' x4' M' => wX12_two_L24 Q E203 a0 x1 N x2' x3' x4' M') a0 x1 x2 x3 x4 x5_19 x6_20 (-x7_21) M_22)) a0 x1 x2 x3 x4 N_31 0 0 0 0 M)
def wX12_two (a0 : Nat) (x1 : Int) (M : Mem) (Q : Int → Mem → Prop) : Prop := wX12_in x1 1 999 M (fun r_2 M_1 => BR (bm r_2 = 0) (wX12_error a0 1 M_1 (fun r_38 M_37 => Q r_38 M_37)) (LET ((-1)) (fun x2_3 => ∃ N_36, wX12_two_L24 Q (fun x2_32 M_33 => BR (0 ≤ bm x2_32) (Q x2_32 M_33) (wX12_error a0 2 M_33 (fun r_35 M_34 => Q r_35 M_34))) a0 x1 N_36 x2_3 0 0 M_1)))
def rmX12_keepRow : Room := { frames := 0, cells := 0, slots := 0, locals := 0 }
def wX12_keepRow_L12 (Q : Mem → Prop)  (a0 : Nat) (x1 : Int) : Nat → Int → Mem → Prop
  | 0, _, _ => False
  | N + 1, x2, M => BR (bm (M a0 13) ≤ bm x2) (Q M) (inb x2 12 ∧ inb ((x1 + 1) + x2) 1522 ∧ LET (wr M (a0 + 1) ((x1 + 1) + x2) (rd M (a0 + 7) x2)) (fun M_8 => LET (x2 + 1) (fun x2_9 => wX12_keepRow_L12 Q  a0 x1 N x2_9 M_8)))
def wX12_keepRow (a0 : Nat) (x1 : Int) (M : Mem) (Q : Mem → Prop) : Prop := inb x1 1522 ∧ LET (wr M (a0 + 1) x1 (M a0 13)) (fun M_3 => ∃ N_11, wX12_keepRow_L12 Q  a0 x1 N_11 0 M_3)
def rmX12_past : Room := { frames := 4, cells := 0, slots := 0, locals := 94 }
def wX12_past_J14 (Q : Int → Mem → Prop)  (a0 : Nat) (M : Mem) : Prop := wX12_error a0 1 M (fun r_4 M_3 => Q r_4 M_3)
def wX12_past_J38 (Q : Int → Mem → Prop)  (a0 : Nat) (M : Mem) : Prop := wX12_error a0 2 M (fun r_10 M_9 => Q r_10 M_9)
def wX12_past_J62 (Q : Int → Mem → Prop)  (a0 : Nat) (M : Mem) : Prop := wX12_error a0 5 M (fun r_16 M_15 => Q r_16 M_15)
def wX12_past (a0 : Nat) (x1 : Int) (x2 : Int) (x3 : Int) (M : Mem) (Q : Int → Mem → Prop) : Prop := wX12_isSheet x1 M (fun r_2 M_1 => BR (bm r_2 = 0) (wX12_past_J14 Q  a0 M_1) (wX12_isSheet x2 M_1 (fun r_6 M_5 => BR (bm r_6 = 0) (wX12_past_J14 Q  a0 M_5) (inb x1 4 ∧ BR (bm (rd M_5 (a0 + 19) x1) = 0) (wX12_past_J38 Q  a0 M_5) (inb x2 4 ∧ BR (bm (rd M_5 (a0 + 19) x2) = 0) (wX12_past_J38 Q  a0 M_5) (wX12_take a0 x1 x3 M_5 (fun r_14 M_13 => BR (0 < bm r_14) (wX12_past_J62 Q  a0 M_13) (wX12_take a0 x2 x3 M_13 (fun r_18 M_17 => BR (bm r_18 ≤ 0) (BR (bm (rd M_17 (a0 + 1) 3) = 8) (wX12_error a0 4 M_17 (fun r_33 M_32 => Q r_33 M_32)) (LET (1240 + (27 * (rd M_17 (a0 + 1) 3))) (fun x4_21 => inb x4_21 1522 ∧ LET (wr M_17 (a0 + 1) x4_21 x3) (fun M_24 => wX12_keepRow a0 (x4_21 + 14) M_24 (fun M_25 => wX12_take a0 x1 x3 M_25 (fun r_27 M_26 => wX12_keepRow a0 (x4_21 + 1) M_26 (fun M_28 => LET (wr M_28 (a0 + 1) 3 ((rd M_28 (a0 + 1) 3) + 1)) (fun M_30 => Q (rd M_30 (a0 + 1) 3) M_30)))))))) (wX12_past_J62 Q  a0 M_17))))))))))
def rmX12_adds : Room := { frames := 5, cells := 0, slots := 0, locals := 117 }
def wX12_adds_L30 (Q : Mem → Prop) (E63 : Mem → Prop) (a0 : Nat) (x1 : Int) (x2 : Int) (x3 : Int) : Nat → Int → Mem → Prop
  | 0, _, _ => False
  | N + 1, x4, M => BR (bm (M a0 13) ≤ bm x4) (E63  M) (inb ((x2 + 1) + x4) 1522 ∧ inb x4 12 ∧ LET (wr M (a0 + 7) x4 (rd M (a0 + 1) ((x2 + 1) + x4))) (fun M_11 => LET (x4 + 1) (fun x4_12 => wX12_adds_L30 Q E63 a0 x1 x2 x3 N x4_12 M_11)))
def wX12_adds_L70 (Q : Mem → Prop)  (a0 : Nat) (x1 : Int) (x3 : Int) : Nat → Int → Mem → Prop
  | 0, _, _ => False
  | N + 1, x4, M => BR (bm (rd M (a0 + 1) 1) ≤ bm x4) (Q M) (inb ((10 * x1) + x4) 80 ∧ wX12_share a0 x4 M (fun r_20 M_19 => inb ((10 * x1) + x4) 80 ∧ LET (wr M_19 (a0 + 17) ((10 * x1) + x4) ((rd M (a0 + 17) ((10 * x1) + x4)) + ((bm x3) * r_20))) (fun M_22 => LET (x4 + 1) (fun x4_23 => wX12_adds_L70 Q  a0 x1 x3 N x4_23 M_22))))
def wX12_adds (a0 : Nat) (x1 : Int) (x2 : Int) (x3 : Int) (M : Mem) (Q : Mem → Prop) : Prop := inb (1240 + (27 * x1)) 1522 ∧ LET (up M a0 14 (rd M (a0 + 1) (1240 + (27 * x1)))) (fun M_3 => inb x2 1522 ∧ LET (up M_3 a0 13 (rd M_3 (a0 + 1) x2)) (fun M_6 => ∃ N_26, wX12_adds_L30 Q (fun M_14 => wX12_layRow a0 M_14 (fun M_15 => ∃ N_25, wX12_adds_L70 Q  a0 x1 x3 N_25 0 M_15)) a0 x1 x2 x3 N_26 0 M_6))
def rmX12_tells : Room := { frames := 0, cells := 0, slots := 0, locals := 0 }
def wX12_tells_J63 (Q : Int → Mem → Prop) (C24 : Int → Int → Mem → Prop) (a0 : Nat) (x1 : Int) (x3 : Int) (x6 : Int) (ls0 : Int) (ls1 : Int) (M : Mem) : Prop := LET (ls1 + ls0) (fun x4_3 => LET (x6 + 1) (fun x6_4 => C24 x4_3 x6_4 M))
def wX12_tells_L24 (Q : Int → Mem → Prop) (E72 : Int → Mem → Prop) (a0 : Nat) (x1 : Int) (x3 : Int) : Nat → Int → Int → Mem → Prop
  | 0, _, _, _ => False
  | N + 1, l4, x6, M => BR (bm (rd M (a0 + 1) 1) ≤ bm x6) (E72 l4 M) (BR (bm (iAnd (iShr x1 x6) 1) = 1) (inb ((10 * x3) + x6) 80 ∧ wX12_tells_J63 Q (fun l4' x6' M' => wX12_tells_L24 Q E72 a0 x1 x3 N l4' x6' M') a0 x1 x3 x6 (rd M (a0 + 17) ((10 * x3) + x6)) l4 M) (wX12_tells_J63 Q (fun l4' x6' M' => wX12_tells_L24 Q E72 a0 x1 x3 N l4' x6' M') a0 x1 x3 x6 0 l4 M))
def wX12_tells_J84 (Q : Int → Mem → Prop) (C4 : Int → Int → Mem → Prop) (a0 : Nat) (x1 : Int) (x3 : Int) (xs0 : Int) (M : Mem) : Prop := LET (x3 + 1) (fun x3_10 => C4 xs0 x3_10 M)
def wX12_tells_L4 (Q : Int → Mem → Prop)  (a0 : Nat) (x1 : Int) : Nat → Int → Int → Mem → Prop
  | 0, _, _, _ => False
  | N + 1, x2, x3, M => BR (bm (rd M (a0 + 1) 3) ≤ bm x3) (isB x2 ∧ Q x2 M) (BR (bm x2 = 0) (isB x2 ∧ Q x2 M) (∃ N_12, wX12_tells_L24 Q (fun l4_8 M_9 => BR (bm (lCmp l4_8 0) ≤ 0) (wX12_tells_J84 Q (fun x2' x3' M' => wX12_tells_L4 Q  a0 x1 N x2' x3' M') a0 x1 x3 0 M_9) (wX12_tells_J84 Q (fun x2' x3' M' => wX12_tells_L4 Q  a0 x1 N x2' x3' M') a0 x1 x3 1 M_9)) a0 x1 x3 N_12 0 0 M))
def wX12_tells (a0 : Nat) (x1 : Int) (M : Mem) (Q : Int → Mem → Prop) : Prop := ∃ N_13, wX12_tells_L4 Q  a0 x1 N_13 1 0 M
def rmX12_plain : Room := { frames := 6, cells := 0, slots := 0, locals := 141 }
def wX12_plain_L17 (Q : Int → Mem → Prop) (E36 : Mem → Prop) (a0 : Nat) (x1 : Int) : Nat → Int → Mem → Prop
  | 0, _, _ => False
  | N + 1, x2, M => BR (80 ≤ bm x2) (E36  M) (inb x2 80 ∧ LET (wr M (a0 + 17) x2 0) (fun M_5 => LET (x2 + 1) (fun x2_6 => wX12_plain_L17 Q E36 a0 x1 N x2_6 M_5)))
def wX12_plain_L38 (Q : Int → Mem → Prop) (E87 : Mem → Prop) (a0 : Nat) (x1 : Int) : Nat → Int → Mem → Prop
  | 0, _, _ => False
  | N + 1, x2, M => BR (bm (rd M (a0 + 1) 3) ≤ bm x2) (E87  M) (wX12_adds a0 x2 ((1240 + (27 * x2)) + 1) 1 M (fun M_10 => wX12_adds a0 x2 ((1240 + (27 * x2)) + 14) ((-1)) M_10 (fun M_11 => LET (x2 + 1) (fun x2_12 => wX12_plain_L38 Q E87 a0 x1 N x2_12 M_11))))
def wX12_plain_J141 (Q : Int → Mem → Prop) (C94 : Int → Int → Int → Mem → Prop) (a0 : Nat) (x1 : Int) (x2 : Int) (x4 : Int) (xs0 : Int) (M : Mem) : Prop := LET (x4 + 1) (fun x4_23 => C94 x2 xs0 x4_23 M)
def wX12_plain_J135 (Q : Int → Mem → Prop) (C94 : Int → Int → Int → Mem → Prop) (a0 : Nat) (x1 : Int) (x2 : Int) (x4 : Int) (M : Mem) : Prop := wX12_plain_J141 Q C94 a0 x1 x2 x4 x4 M
def wX12_plain_L94 (Q : Int → Mem → Prop) (E148 : Int → Int → Mem → Prop) (a0 : Nat) (x1 : Int) : Nat → Int → Int → Int → Mem → Prop
  | 0, _, _, _, _ => False
  | N + 1, x2, x3, x4, M => BR (bm (iShl 1 (rd M (a0 + 1) 1)) ≤ bm x4) (E148 x2 x3 M) (wX12_tells a0 x4 M (fun r_18 M_17 => BR (bm r_18 = 0) (LET (x4 + 1) (fun x4_19 => wX12_plain_L94 Q E148 a0 x1 N x2 x3 x4_19 M_17)) (LET (x2 + 1) (fun x2_21 => BR (bm x3 < 0) (wX12_plain_J135 Q (fun x2' x3' x4' M' => wX12_plain_L94 Q E148 a0 x1 N x2' x3' x4' M') a0 x1 x2_21 x4 M_17) (wX12_ones x4 M_17 (fun r_26 M_25 => wX12_ones x3 M_25 (fun r_28 M_27 => BR (bm r_28 ≤ bm r_26) (wX12_plain_J141 Q (fun x2' x3' x4' M' => wX12_plain_L94 Q E148 a0 x1 N x2' x3' x4' M') a0 x1 x2_21 x4 x3 M_27) (wX12_plain_J135 Q (fun x2' x3' x4' M' => wX12_plain_L94 Q E148 a0 x1 N x2' x3' x4' M') a0 x1 x2_21 x4 M_27))))))))
def wX12_plain (a0 : Nat) (x1 : Int) (M : Mem) (Q : Int → Mem → Prop) : Prop := wX12_in x1 ((-1)) 0 M (fun r_2 M_1 => BR (bm r_2 = 0) (wX12_error a0 1 M_1 (fun r_38 M_37 => Q r_38 M_37)) (∃ N_36, wX12_plain_L17 Q (fun M_8 => ∃ N_35, wX12_plain_L38 Q (fun M_14 => LET ((-1)) (fun x3_15 => ∃ N_34, wX12_plain_L94 Q (fun x2_29 x3_30 M_31 => BR (0 ≤ bm x1) (BR (0 ≤ bm x3_30) (Q x3_30 M_31) (wX12_error a0 2 M_31 (fun r_33 M_32 => Q r_33 M_32))) (Q x2_29 M_31)) a0 x1 N_34 0 x3_15 0 M_14)) a0 x1 N_35 0 M_8) a0 x1 N_36 0 M_1))
def rmX12_body : Room := { frames := 0, cells := 0, slots := 0, locals := 0 }
def wX12_body (a0 : Nat) (x1 : Int) (M : Mem) (Q : Mem → Prop) : Prop := BR (30 ≤ bm (M a0 33)) (Q M) (inb (M a0 33) 30 ∧ LET (wr M (a0 + 18) (M a0 33) x1) (fun M_3 => LET (up M_3 a0 33 ((M_3 a0 33) + 1)) (fun M_4 => Q M_4)))
def rmX12_above : Room := { frames := 0, cells := 0, slots := 0, locals := 0 }
def wX12_above (x0 : Int) (M : Mem) (Q : Int → Mem → Prop) : Prop := BR (bm x0 = 5) (Q 1 M) (Q 0 M)
def rmX12_kindNow : Room := { frames := 1, cells := 0, slots := 0, locals := 22 }
def wX12_kindNow (a0 : Nat) (M : Mem) (Q : Int → Mem → Prop) : Prop := wX12_likingIs a0 (M a0 34) 0 M (fun r_2 M_1 => Q r_2 M_1)
def rmX12_says (d : Nat) : Room := { frames := 1 + d, cells := 0, slots := 0, locals := 22 + 22 * d }
def wX12_says_J112 (Γ : Nat → List Int → Mem → (Int → Mem → Prop) → Prop) (Q : Int → Mem → Prop)  (a0 : Nat) (x1 : Int) (x2 : Int) (M : Mem) : Prop := wX12_above x1 M (fun r_5 M_4 => Γ 0 [r_5, x2] M_4 (fun r_7 M_6 => Q r_7 M_6))
def wbX12_says (Γ : Nat → List Int → Mem → (Int → Mem → Prop) → Prop) (a0 : Nat) (x1 : Int) (x2 : Int) (M : Mem) (Q : Int → Mem → Prop) : Prop := BR (bm x1 = 0) (wX12_body a0 10 M (fun M_1 => wX12_likingIs a0 (M_1 a0 34) 1 M_1 (fun r_3 M_2 => Q (x2 + r_3) M_2))) (BR (bm x1 = 1) (wX12_says_J112 Γ Q  a0 x1 x2 M) (BR (bm x1 = 2) (wX12_body a0 30 M (fun M_8 => wX12_above 2 M_8 (fun r_10 M_9 => Γ 0 [r_10, x2] M_9 (fun r_12 M_11 => Q (iDiv r_12 2) M_11)))) (BR (bm x1 = 3) (wX12_says_J112 Γ Q  a0 x1 x2 M) (BR (bm x1 = 4) (wX12_body a0 50 M (fun M_13 => wX12_above 4 M_13 (fun r_15 M_14 => Γ 0 [r_15, x2] M_14 (fun r_17 M_16 => Q (0 - r_17) M_16)))) (BR (bm x1 = 5) (wX12_body a0 60 M (fun M_18 => wX12_above 5 M_18 (fun r_20 M_19 => Γ 0 [r_20, x2] M_19 (fun r_22 M_21 => Q (r_22 * 3) M_21)))) (wX12_says_J112 Γ Q  a0 x1 x2 M))))))
def wGX12_says (a0 : Nat) : Nat → Nat → List Int → Mem → (Int → Mem → Prop) → Prop
  | 0, _, _, _, _ => False
  | d + 1, k, xs, M, Q => match k with
    | _ => wbX12_says (wGX12_says a0 d) a0 (xs.getD 0 0) (xs.getD 1 0) M Q
def wX12_says  (a0 : Nat) (x1 : Int) (x2 : Int) (M : Mem) (Q : Int → Mem → Prop) : Prop := wGX12_says a0 8 0 [x1, x2] M Q
def rmX12_hears (d : Nat) : Room := { frames := 10 + d, cells := 0, slots := 0, locals := 220 + 22 * d }
def wbX12_hears (Γ : Nat → List Int → Mem → (Int → Mem → Prop) → Prop) (a0 : Nat) (x1 : Int) (x2 : Int) (M : Mem) (Q : Int → Mem → Prop) : Prop := BR (bm x1 = 0) (wX12_body a0 11 M (fun M_1 => wX12_kindNow a0 M_1 (fun r_3 M_2 => wX12_says a0 r_3 x2 M_2 (fun r_5 M_4 => Q (r_5 * 2) M_4)))) (BR (bm x1 = 1) (wX12_body a0 20 M (fun M_6 => wX12_above 1 M_6 (fun r_8 M_7 => Γ 0 [r_8, x2] M_7 (fun r_10 M_9 => wX12_likingIs a0 (M_9 a0 34) 2 M_9 (fun r_12 M_11 => Q (r_10 + r_12) M_11))))) (BR (bm x1 = 6) (wX12_body a0 70 M (fun M_13 => wX12_above 6 M_13 (fun r_15 M_14 => Γ 0 [r_15, x2 - 1] M_14 (fun r_17 M_16 => Q r_17 M_16)))) (wX12_above x1 M (fun r_19 M_18 => Γ 0 [r_19, x2] M_18 (fun r_21 M_20 => Q r_21 M_20)))))
def wGX12_hears (a0 : Nat) : Nat → Nat → List Int → Mem → (Int → Mem → Prop) → Prop
  | 0, _, _, _, _ => False
  | d + 1, k, xs, M, Q => match k with
    | _ => wbX12_hears (wGX12_hears a0 d) a0 (xs.getD 0 0) (xs.getD 1 0) M Q
def wX12_hears  (a0 : Nat) (x1 : Int) (x2 : Int) (M : Mem) (Q : Int → Mem → Prop) : Prop := wGX12_hears a0 8 0 [x1, x2] M Q
def rmX12_asks (d : Nat) : Room := { frames := 19 + d, cells := 0, slots := 0, locals := 418 + 23 * d }
def wX12_asks_J128 (Γ : Nat → List Int → Mem → (Int → Mem → Prop) → Prop) (Q : Int → Mem → Prop)  (a0 : Nat) (x1 : Int) (x2 : Int) (M : Mem) : Prop := wX12_above x1 M (fun r_7 M_6 => Γ 0 [r_7, x2] M_6 (fun r_9 M_8 => Q r_9 M_8))
def wbX12_asks (Γ : Nat → List Int → Mem → (Int → Mem → Prop) → Prop) (a0 : Nat) (x1 : Int) (x2 : Int) (M : Mem) (Q : Int → Mem → Prop) : Prop := BR (bm x1 = 0) (wX12_body a0 12 M (fun M_1 => wX12_kindNow a0 M_1 (fun r_3 M_2 => wX12_hears a0 r_3 x2 M_2 (fun r_5 M_4 => Q (r_5 - (M_4 a0 34)) M_4)))) (BR (bm x1 = 1) (wX12_asks_J128 Γ Q  a0 x1 x2 M) (BR (bm x1 = 2) (wX12_asks_J128 Γ Q  a0 x1 x2 M) (BR (bm x1 = 3) (wX12_body a0 40 M (fun M_10 => wX12_above 3 M_10 (fun r_12 M_11 => Γ 0 [r_12, x2 + 1] M_11 (fun r_14 M_13 => Q r_14 M_13)))) (BR (bm x1 = 4) (wX12_body a0 51 M (fun M_15 => wX12_above 4 M_15 (fun r_17 M_16 => Γ 0 [r_17, x2] M_16 (fun r_19 M_18 => Q (iXor r_19 (M_18 a0 34)) M_18)))) (BR (bm x1 = 5) (wX12_body a0 61 M (fun M_20 => wX12_above 5 M_20 (fun r_22 M_21 => Γ 0 [r_22, x2] M_21 (fun r_24 M_23 => wX12_kindNow a0 M_23 (fun r_26 M_25 => wX12_says a0 r_26 2 M_25 (fun r_28 M_27 => Q (r_24 - r_28) M_27)))))) (wX12_asks_J128 Γ Q  a0 x1 x2 M))))))
def wGX12_asks (a0 : Nat) : Nat → Nat → List Int → Mem → (Int → Mem → Prop) → Prop
  | 0, _, _, _, _ => False
  | d + 1, k, xs, M, Q => match k with
    | _ => wbX12_asks (wGX12_asks a0 d) a0 (xs.getD 0 0) (xs.getD 1 0) M Q
def wX12_asks  (a0 : Nat) (x1 : Int) (x2 : Int) (M : Mem) (Q : Int → Mem → Prop) : Prop := wGX12_asks a0 8 0 [x1, x2] M Q
def rmX12_parts (d : Nat) : Room := { frames := 28 + d, cells := 0, slots := 0, locals := 625 + 24 * d }
def wX12_parts_J69 (Γ : Nat → List Int → Mem → (Int → Mem → Prop) → Prop) (Q : Int → Mem → Prop)  (x2 : Int) (x4 : Int) (xs0 : Int) (as1 : Nat) (M : Mem) : Prop := isB xs0 ∧ LET (up M as1 35 xs0) (fun M_5 => BR (bm x4 = 0) (Q 0 M_5) (BR (bm x4 = (-1)) (Q (-x2) M_5) ((¬ bm x4 = 0) ∧ (Q (iDiv x2 x4) M_5))))
def wbX12_parts (Γ : Nat → List Int → Mem → (Int → Mem → Prop) → Prop) (a0 : Nat) (x1 : Int) (x2 : Int) (M : Mem) (Q : Int → Mem → Prop) : Prop := BR (bm x1 = 0) (wX12_body a0 13 M (fun M_1 => wX12_likingIs a0 (M_1 a0 34) 2 M_1 (fun r_3 M_2 => LET (r_3 - (M_2 a0 34)) (fun x4_4 => BR (bm x4_4 = 0) (wX12_parts_J69 Γ Q  x2 x4_4 1 a0 M_2) (wX12_parts_J69 Γ Q  x2 x4_4 0 a0 M_2))))) (BR (bm x1 = 1) (wX12_body a0 21 M (fun M_8 => wX12_above 1 M_8 (fun r_10 M_9 => Γ 0 [r_10, x2] M_9 (fun r_12 M_11 => BR (bm (M_11 a0 35) = 0) (wX12_kindNow a0 M_11 (fun r_14 M_13 => wX12_asks a0 r_14 1 M_13 (fun r_16 M_15 => Q (r_12 + r_16) M_15))) (Q 0 M_11))))) (BR (bm x1 = 5) (wX12_body a0 62 M (fun M_17 => wX12_kindNow a0 M_17 (fun r_19 M_18 => wX12_hears a0 r_19 x2 M_18 (fun r_21 M_20 => wX12_above 5 M_20 (fun r_23 M_22 => Γ 0 [r_23, x2] M_22 (fun r_25 M_24 => Q (r_21 - r_25) M_24)))))) (wX12_above x1 M (fun r_27 M_26 => Γ 0 [r_27, x2] M_26 (fun r_29 M_28 => Q r_29 M_28)))))
def wGX12_parts (a0 : Nat) : Nat → Nat → List Int → Mem → (Int → Mem → Prop) → Prop
  | 0, _, _, _, _ => False
  | d + 1, k, xs, M, Q => match k with
    | _ => wbX12_parts (wGX12_parts a0 d) a0 (xs.getD 0 0) (xs.getD 1 0) M Q
def wX12_parts  (a0 : Nat) (x1 : Int) (x2 : Int) (M : Mem) (Q : Int → Mem → Prop) : Prop := wGX12_parts a0 8 0 [x1, x2] M Q
def rmX12_voice : Room := { frames := 37, cells := 0, slots := 0, locals := 841 }
def wX12_voice_J17 (Q : Int → Mem → Prop)  (a0 : Nat) (M : Mem) : Prop := wX12_error a0 1 M (fun r_4 M_3 => Q r_4 M_3)
def wX12_voice_J95 (Q : Int → Mem → Prop)  (a0 : Nat) (xs0 : Int) (M : Mem) : Prop := BR (bm (M a0 35) = 0) (Q xs0 M) (wX12_error a0 6 M (fun r_15 M_14 => Q r_15 M_14))
def wX12_voice (a0 : Nat) (x1 : Int) (x2 : Int) (x3 : Int) (M : Mem) (Q : Int → Mem → Prop) : Prop := wX12_isLiking a0 x1 M (fun r_2 M_1 => BR (bm r_2 = 0) (wX12_voice_J17 Q  a0 M_1) (wX12_in x2 0 3 M_1 (fun r_6 M_5 => BR (bm r_6 = 0) (wX12_voice_J17 Q  a0 M_5) (LET (up M_5 a0 33 0) (fun M_7 => LET (up M_7 a0 34 x1) (fun M_8 => LET (up M_8 a0 35 0) (fun M_9 => wX12_kindNow a0 M_9 (fun r_11 M_10 => BR (bm x2 = 0) (wX12_says a0 r_11 x3 M_10 (fun r_21 M_20 => wX12_voice_J95 Q  a0 r_21 M_20)) (BR (bm x2 = 1) (wX12_hears a0 r_11 x3 M_10 (fun r_19 M_18 => wX12_voice_J95 Q  a0 r_19 M_18)) (BR (bm x2 = 2) (wX12_asks a0 r_11 x3 M_10 (fun r_17 M_16 => wX12_voice_J95 Q  a0 r_17 M_16)) (wX12_parts a0 r_11 x3 M_10 (fun r_13 M_12 => wX12_voice_J95 Q  a0 r_13 M_12))))))))))))
def rmX12_trace : Room := { frames := 1, cells := 0, slots := 0, locals := 22 }
def wX12_trace (a0 : Nat) (x1 : Int) (M : Mem) (Q : Int → Mem → Prop) : Prop := wX12_in x1 0 ((M a0 33) - 1) M (fun r_2 M_1 => BR (bm r_2 = 0) (wX12_error a0 2 M_1 (fun r_4 M_3 => Q r_4 M_3)) (inb x1 30 ∧ Q (rd M_1 (a0 + 18) x1) M_1))
def rmX12_sheet : Room := { frames := 2, cells := 0, slots := 0, locals := 42 }
def wX12_sheet_J29 (Q : Int → Mem → Prop)  (a0 : Nat) (M : Mem) : Prop := wX12_error a0 1 M (fun r_4 M_3 => Q r_4 M_3)
def wX12_sheet_L90 (Q : Int → Mem → Prop)  (a0 : Nat) (x1 : Int) : Nat → Int → Mem → Prop
  | 0, _, _ => False
  | N + 1, x4, M => BR (24 ≤ bm x4) (Q 1 M) (inb ((24 * x1) + x4) 96 ∧ LET (wr M (a0 + 21) ((24 * x1) + x4) 0) (fun M_13 => LET (x4 + 1) (fun x4_14 => wX12_sheet_L90 Q  a0 x1 N x4_14 M_13)))
def wX12_sheet_J86 (Q : Int → Mem → Prop)  (a0 : Nat) (x1 : Int) (xs0 : Int) (xs1 : Int) (as2 : Nat) (M : Mem) : Prop := inb xs1 4 ∧ LET (wr M as2 xs1 xs0) (fun M_10 => ∃ N_16, wX12_sheet_L90 Q  a0 x1 N_16 0 M_10)
def wX12_sheet_J65 (Q : Int → Mem → Prop)  (a0 : Nat) (x1 : Int) (x2 : Int) (x3 : Int) (M : Mem) : Prop := inb x1 4 ∧ LET (wr M (a0 + 19) x1 x2) (fun M_7 => BR (bm x2 = 0) (wX12_sheet_J86 Q  a0 x1 0 x1 (a0 + 20) M_7) (wX12_sheet_J86 Q  a0 x1 x3 x1 (a0 + 20) M_7))
def wX12_sheet_J49 (Q : Int → Mem → Prop)  (a0 : Nat) (x1 : Int) (x2 : Int) (x3 : Int) (M : Mem) : Prop := BR (bm x2 = 0) (wX12_sheet_J65 Q  a0 x1 x2 x3 M) (BR (bm x3 ≤ 24) (wX12_sheet_J65 Q  a0 x1 x2 x3 M) (wX12_error a0 1 M (fun r_18 M_17 => Q r_18 M_17)))
def wX12_sheet_J35 (Q : Int → Mem → Prop)  (a0 : Nat) (x1 : Int) (x2 : Int) (x3 : Int) (M : Mem) : Prop := BR (bm x2 = 0) (wX12_sheet_J49 Q  a0 x1 x2 x3 M) (BR (0 ≤ bm x3) (wX12_sheet_J49 Q  a0 x1 x2 x3 M) (wX12_error a0 3 M (fun r_20 M_19 => Q r_20 M_19)))
def wX12_sheet (a0 : Nat) (x1 : Int) (x2 : Int) (x3 : Int) (M : Mem) (Q : Int → Mem → Prop) : Prop := wX12_isSheet x1 M (fun r_2 M_1 => BR (bm r_2 = 0) (wX12_sheet_J29 Q  a0 M_1) (BR (bm x2 = 0) (wX12_sheet_J35 Q  a0 x1 x2 x3 M_1) (BR (bm x2 = 8) (wX12_sheet_J35 Q  a0 x1 x2 x3 M_1) (BR (bm x2 = 16) (wX12_sheet_J35 Q  a0 x1 x2 x3 M_1) (BR (bm x2 = 32) (wX12_sheet_J35 Q  a0 x1 x2 x3 M_1) (wX12_sheet_J29 Q  a0 M_1))))))
def rmX12_refused : Room := { frames := 2, cells := 0, slots := 0, locals := 42 }
def wX12_refused (a0 : Nat) (x1 : Int) (x2 : Int) (M : Mem) (Q : Int → Mem → Prop) : Prop := wX12_isSheet x1 M (fun r_2 M_1 => BR (bm r_2 = 0) (Q 1 M_1) (inb x1 4 ∧ BR (bm (rd M_1 (a0 + 19) x1) = 0) (Q 2 M_1) (inb x1 4 ∧ wX12_in x2 0 ((rd M_1 (a0 + 20) x1) - 1) M_1 (fun r_8 M_7 => BR (bm r_8 = 0) (Q 1 M_7) (Q 0 M_7)))))
def rmX12_put : Room := { frames := 3, cells := 0, slots := 0, locals := 64 }
def wX12_put (a0 : Nat) (x1 : Int) (x2 : Int) (x3 : Int) (M : Mem) (Q : Int → Mem → Prop) : Prop := wX12_refused a0 x1 x2 M (fun r_2 M_1 => BR (bm r_2 ≤ 0) (inb x1 4 ∧ LET (32 - (rd M_1 (a0 + 19) x1)) (fun x5_5 => inb ((24 * x1) + x2) 96 ∧ LET (wr M_1 (a0 + 21) ((24 * x1) + x2) (iShr (iShl x3 x5_5) x5_5)) (fun M_8 => Q 1 M_8))) (wX12_error a0 r_2 M_1 (fun r_10 M_9 => Q r_10 M_9)))
def rmX12_get : Room := { frames := 3, cells := 0, slots := 0, locals := 64 }
def wX12_get (a0 : Nat) (x1 : Int) (x2 : Int) (M : Mem) (Q : Int → Mem → Prop) : Prop := wX12_refused a0 x1 x2 M (fun r_2 M_1 => BR (bm r_2 ≤ 0) (inb ((24 * x1) + x2) 96 ∧ Q (rd M_1 (a0 + 21) ((24 * x1) + x2)) M_1) (wX12_error a0 r_2 M_1 (fun r_6 M_5 => Q r_6 M_5)))
def rmX12_move : Room := { frames := 2, cells := 0, slots := 0, locals := 42 }
def wX12_move_J14 (Q : Int → Mem → Prop)  (a0 : Nat) (M : Mem) : Prop := wX12_error a0 1 M (fun r_4 M_3 => Q r_4 M_3)
def wX12_move_J38 (Q : Int → Mem → Prop)  (a0 : Nat) (M : Mem) : Prop := wX12_error a0 2 M (fun r_10 M_9 => Q r_10 M_9)
def wX12_move_J106 (Q : Int → Mem → Prop)  (a0 : Nat) (M : Mem) : Prop := wX12_error a0 1 M (fun r_18 M_17 => Q r_18 M_17)
def wX12_move_L115 (Q : Int → Mem → Prop) (E149 : Mem → Prop) (a0 : Nat) (x1 : Int) (x2 : Int) (x3 : Int) (x4 : Int) (x5 : Int) : Nat → Int → Mem → Prop
  | 0, _, _ => False
  | N + 1, x6, M => BR (bm x5 ≤ bm x6) (E149  M) (inb (((24 * x1) + x2) + x6) 96 ∧ inb x6 24 ∧ LET (wr M (a0 + 22) x6 (rd M (a0 + 21) (((24 * x1) + x2) + x6))) (fun M_27 => LET (x6 + 1) (fun x6_28 => wX12_move_L115 Q E149 a0 x1 x2 x3 x4 x5 N x6_28 M_27)))
def wX12_move_L152 (Q : Int → Mem → Prop)  (a0 : Nat) (x3 : Int) (x4 : Int) (x5 : Int) : Nat → Int → Mem → Prop
  | 0, _, _ => False
  | N + 1, x6, M => BR (bm x5 ≤ bm x6) (Q x5 M) (inb x6 24 ∧ inb (((24 * x3) + x4) + x6) 96 ∧ LET (wr M (a0 + 21) (((24 * x3) + x4) + x6) (rd M (a0 + 22) x6)) (fun M_35 => LET (x6 + 1) (fun x6_36 => wX12_move_L152 Q  a0 x3 x4 x5 N x6_36 M_35)))
def wX12_move (a0 : Nat) (x1 : Int) (x2 : Int) (x3 : Int) (x4 : Int) (x5 : Int) (M : Mem) (Q : Int → Mem → Prop) : Prop := wX12_isSheet x1 M (fun r_2 M_1 => BR (bm r_2 = 0) (wX12_move_J14 Q  a0 M_1) (wX12_isSheet x3 M_1 (fun r_6 M_5 => BR (bm r_6 = 0) (wX12_move_J14 Q  a0 M_5) (inb x1 4 ∧ BR (bm (rd M_5 (a0 + 19) x1) = 0) (wX12_move_J38 Q  a0 M_5) (inb x3 4 ∧ BR (bm (rd M_5 (a0 + 19) x3) = 0) (wX12_move_J38 Q  a0 M_5) (inb x1 4 ∧ inb x3 4 ∧ BR (bm (rd M_5 (a0 + 19) x1) = bm (rd M_5 (a0 + 19) x3)) (BR (bm x5 < 0) (wX12_move_J106 Q  a0 M_5) (BR (bm x2 < 0) (wX12_move_J106 Q  a0 M_5) (BR (bm x4 < 0) (wX12_move_J106 Q  a0 M_5) (inb x1 4 ∧ BR (bm ((rd M_5 (a0 + 20) x1) - x5) < bm x2) (wX12_move_J106 Q  a0 M_5) (inb x3 4 ∧ BR (bm x4 ≤ bm ((rd M_5 (a0 + 20) x3) - x5)) (∃ N_39, wX12_move_L115 Q (fun M_30 => ∃ N_38, wX12_move_L152 Q  a0 x3 x4 x5 N_38 0 M_30) a0 x1 x2 x3 x4 x5 N_39 0 M_5) (wX12_move_J106 Q  a0 M_5)))))) (wX12_error a0 5 M_5 (fun r_41 M_40 => Q r_41 M_40))))))))
def rmX12_image : Room := { frames := 0, cells := 0, slots := 0, locals := 0 }
def wX12_image_L2 (Q : Int → Mem → Prop) (E27 : Mem → Prop) (a0 : Nat) : Nat → Int → Mem → Prop
  | 0, _, _ => False
  | N + 1, x1, M => BR (1522 ≤ bm x1) (E27  M) (inb x1 1522 ∧ inb x1 1522 ∧ LET (wr M (a0 + 2) x1 (rd M (a0 + 1) x1)) (fun M_5 => LET (x1 + 1) (fun x1_6 => wX12_image_L2 Q E27 a0 N x1_6 M_5)))
def wX12_image (a0 : Nat) (M : Mem) (Q : Int → Mem → Prop) : Prop := ∃ N_10, wX12_image_L2 Q (fun M_8 => LET (up M_8 a0 2 ((M_8 a0 2) + 1)) (fun M_9 => Q (M_9 a0 2) M_9)) a0 N_10 0 M
def rmX12_restore : Room := { frames := 1, cells := 0, slots := 0, locals := 21 }
def wX12_restore_L15 (Q : Int → Mem → Prop)  (a0 : Nat) : Nat → Int → Mem → Prop
  | 0, _, _ => False
  | N + 1, x1, M => BR (1522 ≤ bm x1) (Q (rd M (a0 + 1) 0) M) (inb x1 1522 ∧ inb x1 1522 ∧ LET (wr M (a0 + 1) x1 (rd M (a0 + 2) x1)) (fun M_6 => LET (x1 + 1) (fun x1_7 => wX12_restore_L15 Q  a0 N x1_7 M_6)))
def wX12_restore (a0 : Nat) (M : Mem) (Q : Int → Mem → Prop) : Prop := BR (bm (M a0 2) = 0) (wX12_error a0 2 M (fun r_11 M_10 => Q r_11 M_10)) (∃ N_9, wX12_restore_L15 Q  a0 N_9 0 M)
def rmX12_tell : Room := { frames := 1, cells := 0, slots := 0, locals := 21 }
def wX12_tell (a0 : Nat) (x1 : Int) (M : Mem) (Q : Int → Mem → Prop) : Prop := BR (bm (rd M (a0 + 1) 5) = 12) (wX12_error a0 4 M (fun r_10 M_9 => Q r_10 M_9)) (inb (1510 + (rd M (a0 + 1) 5)) 1522 ∧ LET (wr M (a0 + 1) (1510 + (rd M (a0 + 1) 5)) x1) (fun M_5 => LET (wr M_5 (a0 + 1) 5 ((rd M_5 (a0 + 1) 5) + 1)) (fun M_7 => Q (rd M_7 (a0 + 1) 5) M_7)))
def rmX12_check : Room := { frames := 8, cells := 0, slots := 0, locals := 187 }
def wX12_check_L63 (Q : Int → Mem → Prop) (E101 : Int → Mem → Prop) (a0 : Nat) (x2 : Int) : Nat → Int → Mem → Prop
  | 0, _, _ => False
  | N + 1, x3, M => BR (bm x2 ≤ bm x3) (E101 x3 M) (BR (bm (M a0 19) ≤ bm x3) (E101 x3 M) (inb (1510 + x3) 1522 ∧ inb x3 12 ∧ BR (bm (rd M (a0 + 1) (1510 + x3)) = bm (rd M (a0 + 11) x3)) (LET (x3 + 1) (fun x3_14 => wX12_check_L63 Q E101 a0 x2 N x3_14 M)) (E101 x3 M)))
def wX12_check_J101 (Q : Int → Mem → Prop)  (a0 : Nat) (x2 : Int) (x3 : Int) (M : Mem) : Prop := BR (bm x3 = bm x2) (BR (bm x3 = bm (M a0 19)) (Q 0 M) (Q (1 + x3) M)) (Q (1 + x3) M)
def wX12_check (a0 : Nat) (x1 : Int) (M : Mem) (Q : Int → Mem → Prop) : Prop := LET (rd M (a0 + 1) 5) (fun x2_2 => LET (wr M (a0 + 1) 5 0) (fun M_4 => wX12_isSet a0 x1 M_4 (fun r_6 M_5 => BR (bm r_6 = 0) (wX12_error a0 1 M_5 (fun r_24 M_23 => Q r_24 M_23)) (wX12_isSmall x1 6 M_5 (fun r_8 M_7 => BR (bm r_8 = 0) (wX12_error a0 5 M_7 (fun r_22 M_21 => Q r_22 M_21)) (wX12_seesAll a0 x1 M_7 (fun M_9 => BR (bm (M_9 a0 22) = 0) (wX12_error a0 2 M_9 (fun r_20 M_19 => Q r_20 M_19)) (∃ N_18, wX12_check_L63 Q (fun x3_16 M_17 => wX12_check_J101 Q  a0 x2_2 x3_16 M_17) a0 x2_2 N_18 0 M_9))))))))
def rmX12_count : Room := { frames := 1, cells := 0, slots := 0, locals := 22 }
def wX12_count_L66 (Q : Int → Mem → Prop)  (a0 : Nat) : Nat → Int → Int → Mem → Prop
  | 0, _, _, _ => False
  | N + 1, x2, x3, M => BR (bm (rd M (a0 + 1) 1) ≤ bm x3) (Q x2 M) (wX12_likingIs a0 x3 3 M (fun r_5 M_4 => LET (x2 + r_5) (fun x2_6 => LET (x3 + 1) (fun x3_7 => wX12_count_L66 Q  a0 N x2_6 x3_7 M_4))))
def wX12_count (a0 : Nat) (x1 : Int) (M : Mem) (Q : Int → Mem → Prop) : Prop := BR (bm x1 = 0) (Q (rd M (a0 + 1) 0) M) (BR (bm x1 = 1) (Q (rd M (a0 + 1) 1) M) (BR (bm x1 = 2) (∃ N_9, wX12_count_L66 Q  a0 N_9 0 0 M) (BR (bm x1 = 3) (Q (rd M (a0 + 1) 2) M) (BR (bm x1 = 4) (Q (rd M (a0 + 1) 3) M) (BR (bm x1 = 5) (Q (rd M (a0 + 1) 4) M) (BR (bm x1 = 6) (Q (rd M (a0 + 1) 5) M) (BR (bm x1 = 7) (Q (M a0 33) M) (wX12_error a0 1 M (fun r_15 M_14 => Q r_15 M_14)))))))))
def rmX12_told : Room := { frames := 1, cells := 0, slots := 0, locals := 22 }
def wX12_told (a0 : Nat) (x1 : Int) (M : Mem) (Q : Int → Mem → Prop) : Prop := wX12_in x1 1 6 M (fun r_2 M_1 => BR (bm r_2 = 0) (wX12_error a0 1 M_1 (fun r_4 M_3 => Q r_4 M_3)) (inb x1 7 ∧ Q (rd M_1 (a0 + 3) x1) M_1))
