def rmX12_error : Room := { frames := 0, cells := 0, slots := 0, locals := 0 }
def wX12_error (a0 : Nat) (x1 : Int) (M : Mem) (Q : Int → Mem → Prop) : Prop := inb x1 7 ∧ inb x1 7 ∧ LET (wr M (a0 + 3) x1 ((rd M (a0 + 3) x1) + 1)) (fun M_4 => Q (((-1000000)) - x1) M_4)
def rmX12_in : Room := { frames := 0, cells := 0, slots := 0, locals := 0 }
def wX12_in (x0 : Int) (x1 : Int) (x2 : Int) (M : Mem) (Q : Int → Mem → Prop) : Prop := BR (bm x0 < bm x1) (Q 0 M) (BR (bm x2 < bm x0) (Q 0 M) (Q 1 M))
def rmX12_ones : Room := { frames := 0, cells := 0, slots := 0, locals := 0 }
def wX12_ones_L4 (Q : Int → Mem → Prop)  (x0 : Int) : Nat → Int → Int → Mem → Prop
  | 0, _, _, _ => False
  | N + 1, x1, x2, M => BR (12 ≤ bm x2) (Q x1 M) (LET (x1 + (iAnd (iShr x0 x2) 1)) (fun x1_1 => LET (x2 + 1) (fun x2_2 => wX12_ones_L4 Q  x0 N x1_1 x2_2 M)))
def wX12_ones (x0 : Int) (M : Mem) (Q : Int → Mem → Prop) : Prop := ∃ N_4, wX12_ones_L4 Q  x0 N_4 0 0 M
def rmX12_of : Room := { frames := 0, cells := 0, slots := 0, locals := 0 }
def wX12_of (a0 : Nat) (x1 : Int) (x2 : Int) (M : Mem) (Q : Int → Mem → Prop) : Prop := inb ((20 + (6 * x1)) + x2) 1522 ∧ Q (rd M (a0 + 1) ((20 + (6 * x1)) + x2)) M
def rmX12_carried : Room := { frames := 1, cells := 0, slots := 0, locals := 22 }
def wX12_carried (a0 : Nat) (x1 : Int) (x2 : Int) (M : Mem) (Q : Int → Mem → Prop) : Prop := wX12_of a0 x1 4 M (fun r_2 M_1 => wX12_of a0 x2 4 M_1 (fun r_4 M_3 => wX12_ones (iXor r_2 r_4) M_3 (fun r_6 M_5 => Q r_6 M_5)))
def rmX12_isApart : Room := { frames := 0, cells := 0, slots := 0, locals := 0 }
def wX12_isApart (a0 : Nat) (x1 : Int) (M : Mem) (Q : Int → Mem → Prop) : Prop := BR (bm (M a0 14) ≤ 0) (Q 0 M) (BR (bm x1 = bm (M a0 14)) (Q 1 M) (Q 0 M))
def rmX12_less : Room := { frames := 0, cells := 0, slots := 0, locals := 0 }
def wX12_less (a0 : Nat) (x1 : Int) (x2 : Int) (M : Mem) (Q : Int → Mem → Prop) : Prop := LET (x1 - (x2 * (rd M (a0 + 1) 7))) (fun x3_2 => BR (0 ≤ bm x3_2) (Q x3_2 M) (Q 0 M))
def rmX12_layRow : Room := { frames := 2, cells := 0, slots := 0, locals := 44 }
def wX12_layRow_J226 (Q : Mem → Prop) (C113 : Int → Mem → Prop) (a0 : Nat) (x1 : Int) (x2 : Int) (x3 : Int) (xs0 : Int) (xs1 : Int) (as2 : Nat) (M : Mem) : Prop := inb xs1 96 ∧ LET (wr M as2 xs1 xs0) (fun M_40 => LET (x3 + 1) (fun x3_41 => C113 x3_41 M_40))
def wX12_layRow_J175 (Q : Mem → Prop) (C113 : Int → Mem → Prop) (a0 : Nat) (x1 : Int) (x2 : Int) (x3 : Int) (x5 : Int) (xs0 : Int) (M : Mem) : Prop := BR (bm xs0 = 0) (inb x1 12 ∧ wX12_of a0 (rd M (a0 + 7) x1) 0 M (fun r_36 M_35 => wX12_less a0 x5 r_36 M_35 (fun r_38 M_37 => wX12_layRow_J226 Q C113 a0 x1 x2 x3 r_38 ((8 * x1) + x3) (a0 + 10) M_37))) (inb x1 12 ∧ wX12_of a0 (rd M (a0 + 7) x1) 5 M (fun r_46 M_45 => wX12_layRow_J226 Q C113 a0 x1 x2 x3 (x5 + r_46) ((8 * x1) + x3) (a0 + 10) M_45))
def wX12_layRow_J140 (Q : Mem → Prop) (C113 : Int → Mem → Prop) (a0 : Nat) (x1 : Int) (x2 : Int) (x3 : Int) (xs0 : Int) (M : Mem) : Prop := wX12_less a0 xs0 x2 M (fun r_27 M_26 => inb x1 12 ∧ wX12_of a0 (rd M_26 (a0 + 7) x1) 3 M_26 (fun r_31 M_30 => BR (bm (iAnd (iShr r_31 x3) 1) = 1) (wX12_layRow_J175 Q C113 a0 x1 x2 x3 r_27 1 M_30) (wX12_layRow_J175 Q C113 a0 x1 x2 x3 r_27 0 M_30)))
def wX12_layRow_L113 (Q : Mem → Prop) (E233 : Mem → Prop) (a0 : Nat) (x1 : Int) (x2 : Int) : Nat → Int → Mem → Prop
  | 0, _, _ => False
  | N + 1, x3, M => BR (8 ≤ bm x3) (E233  M) (BR (bm x1 = 0) (wX12_layRow_J140 Q (fun x3' M' => wX12_layRow_L113 Q E233 a0 x1 x2 N x3' M') a0 x1 x2 x3 0 M) (inb ((8 * (x1 - 1)) + x3) 96 ∧ wX12_layRow_J140 Q (fun x3' M' => wX12_layRow_L113 Q E233 a0 x1 x2 N x3' M') a0 x1 x2 x3 (rd M (a0 + 10) ((8 * (x1 - 1)) + x3)) M))
def wX12_layRow_J86 (Q : Mem → Prop) (C2 : Int → Mem → Prop) (a0 : Nat) (x1 : Int) (x2 : Int) (xs0 : Int) (xs1 : Int) (as2 : Nat) (M : Mem) : Prop := inb xs1 12 ∧ LET (wr M as2 xs1 xs0) (fun M_14 => inb x1 12 ∧ inb x1 12 ∧ wX12_of a0 (rd M_14 (a0 + 7) x1) 0 M_14 (fun r_21 M_20 => inb x1 12 ∧ LET (wr M_20 (a0 + 9) x1 ((rd M_14 (a0 + 8) x1) + r_21)) (fun M_23 => ∃ N_50, wX12_layRow_L113 Q (fun M_47 => LET (x1 + 1) (fun x1_48 => C2 x1_48 M_47)) a0 x1 x2 N_50 0 M_23)))
def wX12_layRow_J62 (Q : Mem → Prop) (C2 : Int → Mem → Prop) (a0 : Nat) (x1 : Int) (xs0 : Int) (M : Mem) : Prop := BR (bm x1 = 0) (wX12_layRow_J86 Q C2 a0 x1 xs0 0 x1 (a0 + 8) M) (inb (x1 - 1) 12 ∧ wX12_layRow_J86 Q C2 a0 x1 xs0 ((rd M (a0 + 9) (x1 - 1)) + xs0) x1 (a0 + 8) M)
def wX12_layRow_L2 (Q : Mem → Prop)  (a0 : Nat) : Nat → Int → Mem → Prop
  | 0, _, _ => False
  | N + 1, x1, M => BR (bm (M a0 13) ≤ bm x1) (Q M) (BR (bm x1 = 0) (wX12_layRow_J62 Q (fun x1' M' => wX12_layRow_L2 Q  a0 N x1' M') a0 x1 0 M) (wX12_isApart a0 x1 M (fun r_2 M_1 => BR (bm r_2 = 0) (inb (x1 - 1) 12 ∧ inb x1 12 ∧ wX12_carried a0 (rd M_1 (a0 + 7) (x1 - 1)) (rd M_1 (a0 + 7) x1) M_1 (fun r_8 M_7 => wX12_layRow_J62 Q (fun x1' M' => wX12_layRow_L2 Q  a0 N x1' M') a0 x1 (r_8 * (rd M_7 (a0 + 1) 6)) M_7)) (wX12_layRow_J62 Q (fun x1' M' => wX12_layRow_L2 Q  a0 N x1' M') a0 x1 (rd M_1 (a0 + 1) 8) M_1))))
def wX12_layRow (a0 : Nat) (M : Mem) (Q : Mem → Prop) : Prop := ∃ N_52, wX12_layRow_L2 Q  a0 N_52 0 M
