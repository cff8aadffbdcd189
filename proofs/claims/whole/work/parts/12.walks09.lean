theorem dX7_firstEvening_0 : dec cX7_firstEvening 0 1 1 (.iconst 1) := ⟨by decide +kernel, rfl⟩
theorem dX7_firstEvening_1 : dec cX7_firstEvening 1 1 2 (.aload_n 0) := ⟨by decide +kernel, rfl⟩
theorem dX7_firstEvening_2 : dec cX7_firstEvening 2 3 5 (.getfield 22) := ⟨by decide +kernel, rfl⟩
theorem dX7_firstEvening_5 : dec cX7_firstEvening 5 3 8 (.getfield 37) := ⟨by decide +kernel, rfl⟩
theorem dX7_firstEvening_8 : dec cX7_firstEvening 8 1 9 (.ishl) := ⟨by decide +kernel, rfl⟩
theorem dX7_firstEvening_9 : dec cX7_firstEvening 9 1 10 (.iconst 1) := ⟨by decide +kernel, rfl⟩
theorem dX7_firstEvening_10 : dec cX7_firstEvening 10 1 11 (.isub) := ⟨by decide +kernel, rfl⟩
theorem dX7_firstEvening_11 : dec cX7_firstEvening 11 1 12 (.istore_n 2) := ⟨by decide +kernel, rfl⟩
theorem dX7_firstEvening_12 : dec cX7_firstEvening 12 1 13 (.iconst (-1)) := ⟨by decide +kernel, rfl⟩
theorem dX7_firstEvening_13 : dec cX7_firstEvening 13 1 14 (.istore_n 3) := ⟨by decide +kernel, rfl⟩
theorem dX7_firstEvening_14 : dec cX7_firstEvening 14 1 15 (.iconst 0) := ⟨by decide +kernel, rfl⟩
theorem dX7_firstEvening_15 : dec cX7_firstEvening 15 2 17 (.istore 4) := ⟨by decide +kernel, rfl⟩
theorem dX7_firstEvening_17 : dec cX7_firstEvening 17 1 18 (.iconst 0) := ⟨by decide +kernel, rfl⟩
theorem dX7_firstEvening_18 : dec cX7_firstEvening 18 2 20 (.istore 5) := ⟨by decide +kernel, rfl⟩
theorem dX7_firstEvening_20 : dec cX7_firstEvening 20 2 22 (.iload 5) := ⟨by decide +kernel, rfl⟩
theorem dX7_firstEvening_22 : dec cX7_firstEvening 22 1 23 (.iload_n 2) := ⟨by decide +kernel, rfl⟩
theorem dX7_firstEvening_23 : dec cX7_firstEvening 23 3 26 (.if_icmp .gt 147) := ⟨by decide +kernel, rfl⟩
theorem dX7_firstEvening_26 : dec cX7_firstEvening 26 1 27 (.iconst 0) := ⟨by decide +kernel, rfl⟩
theorem dX7_firstEvening_27 : dec cX7_firstEvening 27 2 29 (.istore 6) := ⟨by decide +kernel, rfl⟩
theorem dX7_firstEvening_29 : dec cX7_firstEvening 29 1 30 (.iconst 0) := ⟨by decide +kernel, rfl⟩
theorem dX7_firstEvening_30 : dec cX7_firstEvening 30 2 32 (.istore 7) := ⟨by decide +kernel, rfl⟩
theorem dX7_firstEvening_32 : dec cX7_firstEvening 32 1 33 (.iconst 0) := ⟨by decide +kernel, rfl⟩
theorem dX7_firstEvening_33 : dec cX7_firstEvening 33 2 35 (.istore 8) := ⟨by decide +kernel, rfl⟩
theorem dX7_firstEvening_35 : dec cX7_firstEvening 35 1 36 (.iconst 0) := ⟨by decide +kernel, rfl⟩
theorem dX7_firstEvening_36 : dec cX7_firstEvening 36 2 38 (.istore 9) := ⟨by decide +kernel, rfl⟩
theorem dX7_firstEvening_38 : dec cX7_firstEvening 38 2 40 (.iload 9) := ⟨by decide +kernel, rfl⟩
theorem dX7_firstEvening_40 : dec cX7_firstEvening 40 1 41 (.aload_n 0) := ⟨by decide +kernel, rfl⟩
theorem dX7_firstEvening_41 : dec cX7_firstEvening 41 3 44 (.getfield 22) := ⟨by decide +kernel, rfl⟩
theorem dX7_firstEvening_44 : dec cX7_firstEvening 44 3 47 (.getfield 37) := ⟨by decide +kernel, rfl⟩
theorem dX7_firstEvening_47 : dec cX7_firstEvening 47 3 50 (.if_icmp .ge 74) := ⟨by decide +kernel, rfl⟩
theorem dX7_firstEvening_50 : dec cX7_firstEvening 50 1 51 (.aload_n 0) := ⟨by decide +kernel, rfl⟩
theorem dX7_firstEvening_51 : dec cX7_firstEvening 51 3 54 (.getfield 22) := ⟨by decide +kernel, rfl⟩
theorem dX7_firstEvening_54 : dec cX7_firstEvening 54 3 57 (.getfield 61) := ⟨by decide +kernel, rfl⟩
theorem dX7_firstEvening_57 : dec cX7_firstEvening 57 2 59 (.iload 9) := ⟨by decide +kernel, rfl⟩
theorem dX7_firstEvening_59 : dec cX7_firstEvening 59 1 60 (.aaload) := ⟨by decide +kernel, rfl⟩
theorem dX7_firstEvening_60 : dec cX7_firstEvening 60 2 62 (.astore 10) := ⟨by decide +kernel, rfl⟩
theorem dX7_firstEvening_62 : dec cX7_firstEvening 62 2 64 (.iload 5) := ⟨by decide +kernel, rfl⟩
theorem dX7_firstEvening_64 : dec cX7_firstEvening 64 2 66 (.iload 9) := ⟨by decide +kernel, rfl⟩
theorem dX7_firstEvening_66 : dec cX7_firstEvening 66 3 69 (.invokestatic 42) := ⟨by decide +kernel, rfl⟩
theorem dX7_firstEvening_69 : dec cX7_firstEvening 69 3 72 (.ifCond .eq 7) := ⟨by decide +kernel, rfl⟩
theorem dX7_firstEvening_72 : dec cX7_firstEvening 72 1 73 (.iconst 1) := ⟨by decide +kernel, rfl⟩
theorem dX7_firstEvening_73 : dec cX7_firstEvening 73 3 76 (.goto 4) := ⟨by decide +kernel, rfl⟩
theorem dX7_firstEvening_76 : dec cX7_firstEvening 76 1 77 (.iconst (-1)) := ⟨by decide +kernel, rfl⟩
theorem dX7_firstEvening_77 : dec cX7_firstEvening 77 2 79 (.istore 11) := ⟨by decide +kernel, rfl⟩
theorem dX7_firstEvening_79 : dec cX7_firstEvening 79 2 81 (.iload 7) := ⟨by decide +kernel, rfl⟩
theorem dX7_firstEvening_81 : dec cX7_firstEvening 81 2 83 (.aload 10) := ⟨by decide +kernel, rfl⟩
theorem dX7_firstEvening_83 : dec cX7_firstEvening 83 3 86 (.getfield 74) := ⟨by decide +kernel, rfl⟩
theorem dX7_firstEvening_86 : dec cX7_firstEvening 86 1 87 (.iadd) := ⟨by decide +kernel, rfl⟩
theorem dX7_firstEvening_87 : dec cX7_firstEvening 87 2 89 (.istore 7) := ⟨by decide +kernel, rfl⟩
theorem dX7_firstEvening_89 : dec cX7_firstEvening 89 2 91 (.iload 6) := ⟨by decide +kernel, rfl⟩
theorem dX7_firstEvening_91 : dec cX7_firstEvening 91 2 93 (.iload 11) := ⟨by decide +kernel, rfl⟩
theorem dX7_firstEvening_93 : dec cX7_firstEvening 93 2 95 (.aload 10) := ⟨by decide +kernel, rfl⟩
theorem dX7_firstEvening_95 : dec cX7_firstEvening 95 3 98 (.getfield 74) := ⟨by decide +kernel, rfl⟩
theorem dX7_firstEvening_98 : dec cX7_firstEvening 98 1 99 (.imul) := ⟨by decide +kernel, rfl⟩
theorem dX7_firstEvening_99 : dec cX7_firstEvening 99 1 100 (.iadd) := ⟨by decide +kernel, rfl⟩
theorem dX7_firstEvening_100 : dec cX7_firstEvening 100 2 102 (.istore 6) := ⟨by decide +kernel, rfl⟩
theorem dX7_firstEvening_102 : dec cX7_firstEvening 102 2 104 (.iload 8) := ⟨by decide +kernel, rfl⟩
theorem dX7_firstEvening_104 : dec cX7_firstEvening 104 2 106 (.iload 11) := ⟨by decide +kernel, rfl⟩
theorem dX7_firstEvening_106 : dec cX7_firstEvening 106 2 108 (.aload 10) := ⟨by decide +kernel, rfl⟩
theorem dX7_firstEvening_108 : dec cX7_firstEvening 108 3 111 (.getfield 77) := ⟨by decide +kernel, rfl⟩
theorem dX7_firstEvening_111 : dec cX7_firstEvening 111 1 112 (.imul) := ⟨by decide +kernel, rfl⟩
theorem dX7_firstEvening_112 : dec cX7_firstEvening 112 1 113 (.iadd) := ⟨by decide +kernel, rfl⟩
theorem dX7_firstEvening_113 : dec cX7_firstEvening 113 2 115 (.istore 8) := ⟨by decide +kernel, rfl⟩
theorem dX7_firstEvening_115 : dec cX7_firstEvening 115 3 118 (.iinc 9 1) := ⟨by decide +kernel, rfl⟩
theorem dX7_firstEvening_118 : dec cX7_firstEvening 118 3 121 (.goto (-80)) := ⟨by decide +kernel, rfl⟩
theorem dX7_firstEvening_121 : dec cX7_firstEvening 121 2 123 (.iload 7) := ⟨by decide +kernel, rfl⟩
theorem dX7_firstEvening_123 : dec cX7_firstEvening 123 2 125 (.iload 6) := ⟨by decide +kernel, rfl⟩
theorem dX7_firstEvening_125 : dec cX7_firstEvening 125 3 128 (.invokestatic 80) := ⟨by decide +kernel, rfl⟩
theorem dX7_firstEvening_128 : dec cX7_firstEvening 128 1 129 (.iadd) := ⟨by decide +kernel, rfl⟩
theorem dX7_firstEvening_129 : dec cX7_firstEvening 129 1 130 (.iconst 2) := ⟨by decide +kernel, rfl⟩
theorem dX7_firstEvening_130 : dec cX7_firstEvening 130 1 131 (.idiv) := ⟨by decide +kernel, rfl⟩
theorem dX7_firstEvening_131 : dec cX7_firstEvening 131 2 133 (.istore 9) := ⟨by decide +kernel, rfl⟩
theorem dX7_firstEvening_133 : dec cX7_firstEvening 133 2 135 (.iload 8) := ⟨by decide +kernel, rfl⟩
theorem dX7_firstEvening_135 : dec cX7_firstEvening 135 3 138 (.invokestatic 80) := ⟨by decide +kernel, rfl⟩
theorem dX7_firstEvening_138 : dec cX7_firstEvening 138 2 140 (.istore 10) := ⟨by decide +kernel, rfl⟩
theorem dX7_firstEvening_140 : dec cX7_firstEvening 140 2 142 (.iload 9) := ⟨by decide +kernel, rfl⟩
theorem dX7_firstEvening_142 : dec cX7_firstEvening 142 1 143 (.iload_n 1) := ⟨by decide +kernel, rfl⟩
theorem dX7_firstEvening_143 : dec cX7_firstEvening 143 3 146 (.if_icmp .gt 21) := ⟨by decide +kernel, rfl⟩
theorem dX7_firstEvening_146 : dec cX7_firstEvening 146 1 147 (.iload_n 3) := ⟨by decide +kernel, rfl⟩
theorem dX7_firstEvening_147 : dec cX7_firstEvening 147 3 150 (.ifCond .lt 10) := ⟨by decide +kernel, rfl⟩
theorem dX7_firstEvening_150 : dec cX7_firstEvening 150 2 152 (.iload 10) := ⟨by decide +kernel, rfl⟩
theorem dX7_firstEvening_152 : dec cX7_firstEvening 152 2 154 (.iload 4) := ⟨by decide +kernel, rfl⟩
theorem dX7_firstEvening_154 : dec cX7_firstEvening 154 3 157 (.if_icmp .ge 10) := ⟨by decide +kernel, rfl⟩
theorem dX7_firstEvening_157 : dec cX7_firstEvening 157 2 159 (.iload 5) := ⟨by decide +kernel, rfl⟩
theorem dX7_firstEvening_159 : dec cX7_firstEvening 159 1 160 (.istore_n 3) := ⟨by decide +kernel, rfl⟩
theorem dX7_firstEvening_160 : dec cX7_firstEvening 160 2 162 (.iload 10) := ⟨by decide +kernel, rfl⟩
theorem dX7_firstEvening_162 : dec cX7_firstEvening 162 2 164 (.istore 4) := ⟨by decide +kernel, rfl⟩
theorem dX7_firstEvening_164 : dec cX7_firstEvening 164 3 167 (.iinc 5 1) := ⟨by decide +kernel, rfl⟩
theorem dX7_firstEvening_167 : dec cX7_firstEvening 167 3 170 (.goto (-147)) := ⟨by decide +kernel, rfl⟩
theorem dX7_firstEvening_170 : dec cX7_firstEvening 170 1 171 (.iload_n 3) := ⟨by decide +kernel, rfl⟩
theorem dX7_firstEvening_171 : dec cX7_firstEvening 171 1 172 (.ireturn) := ⟨by decide +kernel, rfl⟩
set_option maxHeartbeats 4000000 in
set_option maxRecDepth 100000 in
theorem tX7_firstEvening_J77 {X : Cx} {Y : Yx} {M0 : Mem} (hC : OKX X Y RX7 cX7_firstEvening 12 (some .int) rmX7_firstEvening) (hF : Y.2.2.2.2 = true) (hL : Lay M0) (Q : Int → Mem → Prop) (C38 : Int → Int → Int → Int → Mem → Prop)  (a0 : Nat) (x1 : Int) (x2 : Int) (x3 : Int) (x4 : Int) (x5 : Int) (x6 : Int) (x7 : Int) (x8 : Int) (x9 : Int) (a10 : Nat) (xs0 : Int) (qa0 : 0 < a0 ∧ M0 0 a0 = kO 7) (qa10 : 0 < a10 ∧ M0 0 a10 = kO 3) (hC38 : ∀ (x6 : Int) (x7 : Int) (x8 : Int) (x9 : Int) (M : Mem), C38 x6 x7 x8 x9 M → WW X Y 12 rmX7_firstEvening (QI Q) M0 0 0 38 [(0, vR Y.1 a0), (1, vI x1), (2, vI x2), (3, vI x3), (4, vI x4), (5, vI x5), (6, vI x6), (7, vI x7), (8, vI x8), (9, vI x9)] [] M) (M : Mem) (h : wX7_firstEvening_J77 Q C38 a0 x1 x2 x3 x4 x5 x6 x7 x8 x9 a10 xs0 M) : WW X Y 12 rmX7_firstEvening (QI Q) M0 0 0 77 [(0, vR Y.1 a0), (1, vI x1), (2, vI x2), (3, vI x3), (4, vI x4), (5, vI x5), (6, vI x6), (7, vI x7), (8, vI x8), (9, vI x9), (10, vR Y.1 a10)] [vI xs0] M := by
  unfold wX7_firstEvening_J77 at h
  refine r_istore (lv' := [(11, vI xs0), (0, vR Y.1 a0), (1, vI x1), (2, vI x2), (3, vI x3), (4, vI x4), (5, vI x5), (6, vI x6), (7, vI x7), (8, vI x8), (9, vI x9), (10, vR Y.1 a10)]) hC dX7_firstEvening_77 (by decide) rfl ?_
  refine r_iload hC 8 dX7_firstEvening_79 rfl ?_
  refine r_aload hC 11 dX7_firstEvening_81 rfl ?_
  refine r_getI hC fg_X7_74 rfl qa10.1 qa10.2 dX7_firstEvening_83 ?_
  refine r_iadd hC dX7_firstEvening_86 ?_
  refine r_nameI h (fun x7_11 h => ?_)
  refine r_istore (lv' := [(7, vI x7_11), (11, vI xs0), (0, vR Y.1 a0), (1, vI x1), (2, vI x2), (3, vI x3), (4, vI x4), (5, vI x5), (6, vI x6), (8, vI x8), (9, vI x9), (10, vR Y.1 a10)]) hC dX7_firstEvening_87 (by decide) rfl ?_
  refine r_iload hC 8 dX7_firstEvening_89 rfl ?_
  refine r_iload hC 1 dX7_firstEvening_91 rfl ?_
  refine r_aload hC 11 dX7_firstEvening_93 rfl ?_
  refine r_getI hC fg_X7_74 rfl qa10.1 qa10.2 dX7_firstEvening_95 ?_
  refine r_imul hC dX7_firstEvening_98 ?_
  refine r_iadd hC dX7_firstEvening_99 ?_
  refine r_nameI h (fun x6_12 h => ?_)
  refine r_istore (lv' := [(6, vI x6_12), (7, vI x7_11), (11, vI xs0), (0, vR Y.1 a0), (1, vI x1), (2, vI x2), (3, vI x3), (4, vI x4), (5, vI x5), (8, vI x8), (9, vI x9), (10, vR Y.1 a10)]) hC dX7_firstEvening_100 (by decide) rfl ?_
  refine r_iload hC 9 dX7_firstEvening_102 rfl ?_
  refine r_iload hC 2 dX7_firstEvening_104 rfl ?_
  refine r_aload hC 11 dX7_firstEvening_106 rfl ?_
  refine r_getI hC fg_X7_77 rfl qa10.1 qa10.2 dX7_firstEvening_108 ?_
  refine r_imul hC dX7_firstEvening_111 ?_
  refine r_iadd hC dX7_firstEvening_112 ?_
  refine r_nameI h (fun x8_13 h => ?_)
  refine r_istore (lv' := [(8, vI x8_13), (6, vI x6_12), (7, vI x7_11), (11, vI xs0), (0, vR Y.1 a0), (1, vI x1), (2, vI x2), (3, vI x3), (4, vI x4), (5, vI x5), (9, vI x9), (10, vR Y.1 a10)]) hC dX7_firstEvening_113 (by decide) rfl ?_
  refine let_elim h (fun x9_14 e_15 h => ?_)
  refine r_iinc (lv' := [(9, vI x9_14), (8, vI x8_13), (6, vI x6_12), (7, vI x7_11), (11, vI xs0), (0, vR Y.1 a0), (1, vI x1), (2, vI x2), (3, vI x3), (4, vI x4), (5, vI x5), (10, vR Y.1 a10)]) hC 10 dX7_firstEvening_115 rfl (by decide) e_15 rfl ?_
  refine r_goto hC 38 dX7_firstEvening_118 (by decide) ?_
  refine r_sub [5, 6, 7, 8, 9, 10, 2, 3, 1, 0] rfl ?_
  exact hC38 _ _ _ _ _ h
set_option maxHeartbeats 4000000 in
set_option maxRecDepth 100000 in
theorem tX7_firstEvening_L38 {X : Cx} {Y : Yx} {M0 : Mem} (hC : OKX X Y RX7 cX7_firstEvening 12 (some .int) rmX7_firstEvening) (hF : Y.2.2.2.2 = true) (hL : Lay M0) (Q : Int → Mem → Prop) (E121 : Int → Int → Int → Mem → Prop) (a0 : Nat) (x1 : Int) (x2 : Int) (x3 : Int) (x4 : Int) (x5 : Int) (qa0 : 0 < a0 ∧ M0 0 a0 = kO 7) (hE121 : ∀ (x6 : Int) (x7 : Int) (x8 : Int) (M : Mem), E121 x6 x7 x8 M → WW X Y 12 rmX7_firstEvening (QI Q) M0 0 0 121 [(0, vR Y.1 a0), (1, vI x1), (2, vI x2), (3, vI x3), (4, vI x4), (5, vI x5), (6, vI x6), (7, vI x7), (8, vI x8)] [] M) : ∀ (N : Nat) (x6 : Int) (x7 : Int) (x8 : Int) (x9 : Int) (M : Mem) (_ : wX7_firstEvening_L38 Q E121 a0 x1 x2 x3 x4 x5 N x6 x7 x8 x9 M), WW X Y 12 rmX7_firstEvening (QI Q) M0 0 0 38 [(0, vR Y.1 a0), (1, vI x1), (2, vI x2), (3, vI x3), (4, vI x4), (5, vI x5), (6, vI x6), (7, vI x7), (8, vI x8), (9, vI x9)] [] M := by
  intro N
  induction N with
  | zero =>
    intro x6 x7 x8 x9 M h
    exact h.elim
  | succ N ih =>
    intro x6 x7 x8 x9 M h
    unfold wX7_firstEvening_L38 at h
    refine r_iload hC 9 dX7_firstEvening_38 rfl ?_
    refine r_aload_n hC 0 dX7_firstEvening_40 rfl rfl ?_
    have q_4 : 0 < (a0 - 106) ∧ M0 0 ((a0 - 106)) = kO 0 := lay_fs (a := a0) hL qa0 fm_7_0
    refine r_getRs (a' := (a0 - 106)) hC fg_X7_22 rfl hF fm_7_0 qa0.1 qa0.2 rfl dX7_firstEvening_41 ?_
    refine r_getI hC fg_X7_37 rfl q_4.1 q_4.2 dX7_firstEvening_44 ?_
    refine r_icmp_ge hC 121 rfl rfl dX7_firstEvening_47 (by decide) (fun cq => ?_) (fun cq => ?_)
    · replace h := h.1 cq
      refine r_sub [0, 1, 2, 3, 4, 5, 6, 7, 8] rfl ?_
      exact hE121 _ _ _ _ h
    · replace h := h.2 cq
      refine r_aload_n hC 0 dX7_firstEvening_50 rfl rfl ?_
      have q_5 : 0 < (a0 - 106) ∧ M0 0 ((a0 - 106)) = kO 0 := lay_fs (a := a0) hL qa0 fm_7_0
      refine r_getRs (a' := (a0 - 106)) hC fg_X7_22 rfl hF fm_7_0 qa0.1 qa0.2 rfl dX7_firstEvening_51 ?_
      have q_6 : 0 < (a0 - 106) + 1 ∧ M0 0 ((a0 - 106) + 1) = kA 4 12 := lay_f0 (a := (a0 - 106)) hL q_5 fm_0_0
      refine r_getR0 (a' := (a0 - 106) + 1) hC fg_X7_61 rfl hF fm_0_0 q_5.1 q_5.2 rfl dX7_firstEvening_54 ?_
      refine r_iload hC 9 dX7_firstEvening_57 rfl ?_
      obtain ⟨i_7, h⟩ := h
      have q_8 : 0 < (a0 - 106) + 9 + (bm x9).toNat ∧ M0 0 ((a0 - 106) + 9 + (bm x9).toNat) = kO 3 := lay_a4 (a := (a0 - 106) + 1) hL q_6 (inb_nat i_7)
      refine r_aald4 hC hF i_7 q_6.1 q_6.2 dX7_firstEvening_59 ?_
      refine r_astore (lv' := [(10, vR Y.1 ((a0 - 106) + 9 + (bm x9).toNat)), (0, vR Y.1 a0), (1, vI x1), (2, vI x2), (3, vI x3), (4, vI x4), (5, vI x5), (6, vI x6), (7, vI x7), (8, vI x8), (9, vI x9)]) hC dX7_firstEvening_60 (by decide) rfl ?_
      refine r_iload hC 6 dX7_firstEvening_62 rfl ?_
      refine r_iload hC 10 dX7_firstEvening_64 rfl ?_
      refine r_callN (As := [vI x5, vI x9]) (st := []) hC cw_X7_42 rfl rfl (Nat.le_of_ble_eq_true rfl) ⟨Nat.le_of_ble_eq_true rfl, Nat.le_of_ble_eq_true rfl⟩ ⟨Nat.le_of_ble_eq_true rfl, Nat.le_of_ble_eq_true rfl⟩ dX7_firstEvening_66 (fun hk => mX11_isIn Y hF _ _ _ _ _  h) (fun v M_9 h => ?_)
      obtain ⟨r_10, rfl, h⟩ := h
      refine r_if_eq hC 76 rfl dX7_firstEvening_69 (by decide) (fun cq => ?_) (fun cq => ?_)
      · replace h := h.1 cq
        refine r_iconst hC dX7_firstEvening_76 ?_
        refine r_sub [1, 2, 3, 4, 5, 6, 7, 8, 9, 10, 0] rfl ?_
        exact tX7_firstEvening_J77 hC hF hL Q _  _ _ _ _ _ _ _ _ _ _ _ _ qa0 q_8 ih _ h
      · replace h := h.2 cq
        refine r_iconst hC dX7_firstEvening_72 ?_
        refine r_goto hC 77 dX7_firstEvening_73 (by decide) ?_
        refine r_sub [1, 2, 3, 4, 5, 6, 7, 8, 9, 10, 0] rfl ?_
        exact tX7_firstEvening_J77 hC hF hL Q _  _ _ _ _ _ _ _ _ _ _ _ _ qa0 q_8 ih _ h
set_option maxHeartbeats 4000000 in
set_option maxRecDepth 100000 in
theorem tX7_firstEvening_J157 {X : Cx} {Y : Yx} {M0 : Mem} (hC : OKX X Y RX7 cX7_firstEvening 12 (some .int) rmX7_firstEvening) (hF : Y.2.2.2.2 = true) (hL : Lay M0) (Q : Int → Mem → Prop) (C20 : Int → Int → Int → Mem → Prop)  (a0 : Nat) (x1 : Int) (x2 : Int) (x5 : Int) (x10 : Int) (qa0 : 0 < a0 ∧ M0 0 a0 = kO 7) (hC20 : ∀ (x3 : Int) (x4 : Int) (x5 : Int) (M : Mem), C20 x3 x4 x5 M → WW X Y 12 rmX7_firstEvening (QI Q) M0 0 0 20 [(0, vR Y.1 a0), (1, vI x1), (2, vI x2), (3, vI x3), (4, vI x4), (5, vI x5)] [] M) (M : Mem) (h : wX7_firstEvening_J157 Q C20 a0 x1 x2 x5 x10 M) : WW X Y 12 rmX7_firstEvening (QI Q) M0 0 0 157 [(0, vR Y.1 a0), (1, vI x1), (2, vI x2), (5, vI x5), (10, vI x10)] [] M := by
  unfold wX7_firstEvening_J157 at h
  refine r_iload hC 3 dX7_firstEvening_157 rfl ?_
  refine r_istore_n (lv' := [(3, vI x5), (0, vR Y.1 a0), (1, vI x1), (2, vI x2), (5, vI x5), (10, vI x10)]) hC dX7_firstEvening_159 rfl (by decide) rfl ?_
  refine r_iload hC 5 dX7_firstEvening_160 rfl ?_
  refine r_istore (lv' := [(4, vI x10), (3, vI x5), (0, vR Y.1 a0), (1, vI x1), (2, vI x2), (5, vI x5), (10, vI x10)]) hC dX7_firstEvening_162 (by decide) rfl ?_
  refine let_elim h (fun x5_27 e_28 h => ?_)
  refine r_iinc (lv' := [(5, vI x5_27), (4, vI x10), (3, vI x5), (0, vR Y.1 a0), (1, vI x1), (2, vI x2), (10, vI x10)]) hC 5 dX7_firstEvening_164 rfl (by decide) e_28 rfl ?_
  refine r_goto hC 20 dX7_firstEvening_167 (by decide) ?_
  refine r_sub [3, 4, 5, 2, 1, 0] rfl ?_
  exact hC20 _ _ _ _ h
set_option maxHeartbeats 4000000 in
set_option maxRecDepth 100000 in
theorem tX7_firstEvening_L20 {X : Cx} {Y : Yx} {M0 : Mem} (hC : OKX X Y RX7 cX7_firstEvening 12 (some .int) rmX7_firstEvening) (hF : Y.2.2.2.2 = true) (hL : Lay M0) (Q : Int → Mem → Prop)  (a0 : Nat) (x1 : Int) (x2 : Int) (qa0 : 0 < a0 ∧ M0 0 a0 = kO 7)  : ∀ (N : Nat) (x3 : Int) (x4 : Int) (x5 : Int) (M : Mem) (_ : wX7_firstEvening_L20 Q  a0 x1 x2 N x3 x4 x5 M), WW X Y 12 rmX7_firstEvening (QI Q) M0 0 0 20 [(0, vR Y.1 a0), (1, vI x1), (2, vI x2), (3, vI x3), (4, vI x4), (5, vI x5)] [] M := by
  intro N
  induction N with
  | zero =>
    intro x3 x4 x5 M h
    exact h.elim
  | succ N ih =>
    intro x3 x4 x5 M h
    unfold wX7_firstEvening_L20 at h
    refine r_iload hC 5 dX7_firstEvening_20 rfl ?_
    refine r_iload_n hC 2 dX7_firstEvening_22 rfl rfl ?_
    refine r_icmp_gt hC 170 rfl rfl dX7_firstEvening_23 (by decide) (fun cq => ?_) (fun cq => ?_)
    · replace h := h.1 cq
      refine r_iload_n hC 3 dX7_firstEvening_170 rfl rfl ?_
      exact r_iret hC (Nat.zero_le _) (Nat.zero_le _) dX7_firstEvening_171 ⟨_, rfl, h⟩
    · replace h := h.2 cq
      refine r_iconst hC dX7_firstEvening_26 ?_
      refine r_istore (lv' := [(6, vI 0), (0, vR Y.1 a0), (1, vI x1), (2, vI x2), (3, vI x3), (4, vI x4), (5, vI x5)]) hC dX7_firstEvening_27 (by decide) rfl ?_
      refine r_iconst hC dX7_firstEvening_29 ?_
      refine r_istore (lv' := [(7, vI 0), (6, vI 0), (0, vR Y.1 a0), (1, vI x1), (2, vI x2), (3, vI x3), (4, vI x4), (5, vI x5)]) hC dX7_firstEvening_30 (by decide) rfl ?_
      refine r_iconst hC dX7_firstEvening_32 ?_
      refine r_istore (lv' := [(8, vI 0), (7, vI 0), (6, vI 0), (0, vR Y.1 a0), (1, vI x1), (2, vI x2), (3, vI x3), (4, vI x4), (5, vI x5)]) hC dX7_firstEvening_33 (by decide) rfl ?_
      refine r_iconst hC dX7_firstEvening_35 ?_
      refine r_istore (lv' := [(9, vI 0), (8, vI 0), (7, vI 0), (6, vI 0), (0, vR Y.1 a0), (1, vI x1), (2, vI x2), (3, vI x3), (4, vI x4), (5, vI x5)]) hC dX7_firstEvening_36 (by decide) rfl ?_
      refine r_sub [4, 5, 6, 7, 8, 9, 3, 2, 1, 0] rfl ?_
      obtain ⟨N_31, h⟩ := h
      refine tX7_firstEvening_L38 hC hF hL Q _ _ _ _ _ _ _ qa0 ?_ N_31 _ _ _ _ _ h
      · intro x6_16 x7_17 x8_18 M_19 h
        refine r_iload hC 7 dX7_firstEvening_121 rfl ?_
        refine r_iload hC 6 dX7_firstEvening_123 rfl ?_
        refine r_callS (As := [vI x6_16]) (st := [vI x7_17]) hC cw_X7_80 rfl rfl (Nat.le_of_ble_eq_true rfl) ⟨Nat.le_of_ble_eq_true rfl, Nat.le_of_ble_eq_true rfl⟩ ⟨Nat.le_of_ble_eq_true rfl, Nat.le_of_ble_eq_true rfl⟩ dX7_firstEvening_125 (fun hk => mJ9_abs_0f7a4 Y hF _ _ _ _  h) (fun v M_20 h => ?_)
        obtain ⟨r_21, rfl, h⟩ := h
        refine r_iadd hC dX7_firstEvening_128 ?_
        refine r_iconst hC dX7_firstEvening_129 ?_
        refine r_idiv hC (by decide +kernel) dX7_firstEvening_130 ?_
        refine r_nameI h (fun x9_22 h => ?_)
        refine r_istore (lv' := [(9, vI x9_22), (0, vR Y.1 a0), (1, vI x1), (2, vI x2), (3, vI x3), (4, vI x4), (5, vI x5), (6, vI x6_16), (7, vI x7_17), (8, vI x8_18)]) hC dX7_firstEvening_131 (by decide) rfl ?_
        refine r_iload hC 9 dX7_firstEvening_133 rfl ?_
        refine r_callS (As := [vI x8_18]) (st := []) hC cw_X7_80 rfl rfl (Nat.le_of_ble_eq_true rfl) ⟨Nat.le_of_ble_eq_true rfl, Nat.le_of_ble_eq_true rfl⟩ ⟨Nat.le_of_ble_eq_true rfl, Nat.le_of_ble_eq_true rfl⟩ dX7_firstEvening_135 (fun hk => mJ9_abs_0f7a4 Y hF _ _ _ _  h) (fun v M_23 h => ?_)
        obtain ⟨r_24, rfl, h⟩ := h
        refine r_istore (lv' := [(10, vI r_24), (9, vI x9_22), (0, vR Y.1 a0), (1, vI x1), (2, vI x2), (3, vI x3), (4, vI x4), (5, vI x5), (6, vI x6_16), (7, vI x7_17), (8, vI x8_18)]) hC dX7_firstEvening_138 (by decide) rfl ?_
        refine r_iload hC 1 dX7_firstEvening_140 rfl ?_
        refine r_iload_n hC 3 dX7_firstEvening_142 rfl rfl ?_
        refine r_icmp_gt hC 164 rfl rfl dX7_firstEvening_143 (by decide) (fun cq => ?_) (fun cq => ?_)
        · replace h := h.1 cq
          refine let_elim h (fun x5_25 e_26 h => ?_)
          refine r_iinc (lv' := [(5, vI x5_25), (10, vI r_24), (9, vI x9_22), (0, vR Y.1 a0), (1, vI x1), (2, vI x2), (3, vI x3), (4, vI x4), (6, vI x6_16), (7, vI x7_17), (8, vI x8_18)]) hC 7 dX7_firstEvening_164 rfl (by decide) e_26 rfl ?_
          refine r_goto hC 20 dX7_firstEvening_167 (by decide) ?_
          refine r_sub [3, 4, 5, 6, 7, 0] rfl ?_
          exact ih _ _ _ _ h
        · replace h := h.2 cq
          refine r_iload_n hC 5 dX7_firstEvening_146 rfl rfl ?_
          refine r_if_lt hC 157 rfl dX7_firstEvening_147 (by decide) (fun cq => ?_) (fun cq => ?_)
          · replace h := h.1 cq
            refine r_sub [2, 3, 4, 7, 0] rfl ?_
            exact tX7_firstEvening_J157 hC hF hL Q _  _ _ _ _ _ qa0 ih _ h
          · replace h := h.2 cq
            refine r_iload hC 0 dX7_firstEvening_150 rfl ?_
            refine r_iload hC 6 dX7_firstEvening_152 rfl ?_
            refine r_icmp_ge hC 164 rfl rfl dX7_firstEvening_154 (by decide) (fun cq => ?_) (fun cq => ?_)
            · replace h := h.1 cq
              refine let_elim h (fun x5_29 e_30 h => ?_)
              refine r_iinc (lv' := [(5, vI x5_29), (10, vI r_24), (9, vI x9_22), (0, vR Y.1 a0), (1, vI x1), (2, vI x2), (3, vI x3), (4, vI x4), (6, vI x6_16), (7, vI x7_17), (8, vI x8_18)]) hC 7 dX7_firstEvening_164 rfl (by decide) e_30 rfl ?_
              refine r_goto hC 20 dX7_firstEvening_167 (by decide) ?_
              refine r_sub [3, 4, 5, 6, 7, 0] rfl ?_
              exact ih _ _ _ _ h
            · replace h := h.2 cq
              refine r_sub [2, 3, 4, 7, 0] rfl ?_
              exact tX7_firstEvening_J157 hC hF hL Q _  _ _ _ _ _ qa0 ih _ h
set_option maxHeartbeats 4000000 in
set_option maxRecDepth 100000 in
theorem mX7_firstEvening (Y : Yx) (hF : Y.2.2.2.2 = true) (l : Launch) (a0 : Nat) (x1 : Int) (M0 : Mem) (Q : Int → Mem → Prop) (qa0 : 0 < a0 ∧ M0 0 a0 = kO 7) (h : wX7_firstEvening a0 x1 M0 Q) : CT Y l yX7_firstEvening cX7_firstEvening 12 (some .int) rmX7_firstEvening [vR Y.1 a0, vI x1] M0 (QI Q) := by
  unfold wX7_firstEvening at h
  refine ct_intro (by decide) (Nat.le_of_ble_eq_true rfl) ?_
  intro X hXl hC hL0
  have hL := hL0 hF
  change OKX X Y RX7 cX7_firstEvening 12 (some .int) rmX7_firstEvening at hC
  change WW X Y 12 rmX7_firstEvening (QI Q) M0 0 0 0 [(0, vR Y.1 a0), (1, vI x1)] [] M0
  refine r_iconst hC dX7_firstEvening_0 ?_
  refine r_aload_n hC 0 dX7_firstEvening_1 rfl rfl ?_
  have q_1 : 0 < (a0 - 106) ∧ M0 0 ((a0 - 106)) = kO 0 := lay_fs (a := a0) hL qa0 fm_7_0
  refine r_getRs (a' := (a0 - 106)) hC fg_X7_22 rfl hF fm_7_0 qa0.1 qa0.2 rfl dX7_firstEvening_2 ?_
  refine r_getI hC fg_X7_37 rfl q_1.1 q_1.2 dX7_firstEvening_5 ?_
  refine r_ishl hC dX7_firstEvening_8 ?_
  refine r_iconst hC dX7_firstEvening_9 ?_
  refine r_isub hC dX7_firstEvening_10 ?_
  refine r_nameI h (fun x2_2 h => ?_)
  refine r_istore_n (lv' := [(2, vI x2_2), (0, vR Y.1 a0), (1, vI x1)]) hC dX7_firstEvening_11 rfl (by decide) rfl ?_
  refine r_iconst hC dX7_firstEvening_12 ?_
  refine r_nameI h (fun x3_3 h => ?_)
  refine r_istore_n (lv' := [(3, vI x3_3), (2, vI x2_2), (0, vR Y.1 a0), (1, vI x1)]) hC dX7_firstEvening_13 rfl (by decide) rfl ?_
  refine r_iconst hC dX7_firstEvening_14 ?_
  refine r_istore (lv' := [(4, vI 0), (3, vI x3_3), (2, vI x2_2), (0, vR Y.1 a0), (1, vI x1)]) hC dX7_firstEvening_15 (by decide) rfl ?_
  refine r_iconst hC dX7_firstEvening_17 ?_
  refine r_istore (lv' := [(5, vI 0), (4, vI 0), (3, vI x3_3), (2, vI x2_2), (0, vR Y.1 a0), (1, vI x1)]) hC dX7_firstEvening_18 (by decide) rfl ?_
  refine r_sub [4, 5, 3, 2, 1, 0] rfl ?_
  obtain ⟨N_32, h⟩ := h
  refine tX7_firstEvening_L20 hC hF hL Q  _ _ _ qa0  N_32 _ _ _ _ h
theorem dX8_init_0 : dec cX8_init 0 1 1 (.aload_n 0) := ⟨by decide +kernel, rfl⟩
theorem dX8_init_1 : dec cX8_init 1 3 4 (.invokespecial 3) := ⟨by decide +kernel, rfl⟩
theorem dX8_init_4 : dec cX8_init 4 1 5 (.aload_n 0) := ⟨by decide +kernel, rfl⟩
theorem dX8_init_5 : dec cX8_init 5 2 7 (.bipush 24) := ⟨by decide +kernel, rfl⟩
theorem dX8_init_7 : dec cX8_init 7 2 9 (.newarray .int) := ⟨by decide +kernel, rfl⟩
theorem dX8_init_9 : dec cX8_init 9 3 12 (.putfield 9) := ⟨by decide +kernel, rfl⟩
theorem dX8_init_12 : dec cX8_init 12 1 13 (.return_) := ⟨by decide +kernel, rfl⟩
set_option maxHeartbeats 4000000 in
set_option maxRecDepth 100000 in
theorem mX8_init (Y : Yx) (hF0 : Y.2.2.2.2 = false) (l : Launch) (a0 : Nat) (M0 : Mem) (Q : Mem → Prop) (qa0 : 0 < a0 ∧ M0 0 a0 = kO 8) (h : wX8_init a0 M0 Q) : CT Y l yX8_init cX8_init 1 none rmX8_init [vR Y.1 a0] M0 (QV Q) := by
  unfold wX8_init at h
  refine ct_introI (by decide) (Nat.le_of_ble_eq_true rfl) ?_
  intro X hXl hC hN
  change OKX X Y RX8 cX8_init 1 none rmX8_init at hC
  change nameX X = "<init>" at hN
  change WW X Y 1 rmX8_init (QV Q) M0 0 0 0 [(0, vR Y.1 a0)] [] M0
  refine r_aload_n hC 0 dX8_init_0 rfl rfl ?_
  refine r_objInit hC ob_X8_3 (Nat.le_of_ble_eq_true rfl) (Nat.le_of_ble_eq_true rfl) (Nat.le_of_ble_eq_true rfl) dX8_init_1 ?_
  refine r_aload_n hC 0 dX8_init_4 rfl rfl ?_
  refine r_bipush hC (by decide +kernel) dX8_init_5 ?_
  refine r_newarr (t := 0) (len := 24) hC (by decide) rfl ac_0 rfl (by decide) (by decide +kernel) ⟨Nat.le_of_ble_eq_true rfl, Nat.le_of_ble_eq_true rfl⟩ dX8_init_7 ?_
  refine r_widen (n' := 1) (k' := 24 * 1) (by omega) (by omega) ?_
  refine r_nameM h (fun M_2 h => ?_)
  obtain ⟨q_1, h⟩ := h
  refine r_base (fun hk hL0 => ?_)
  have qa0 := kqO hk qa0
  refine r_putF hC hN hF0 q_1.1 ff_X8_9 rfl (by first | exact Or.inl ⟨_, rfl⟩ | exact Or.inr ⟨_, rfl⟩) qa0.1 qa0.2 dX8_init_9 ?_
  refine r_nameM h (fun M_3 h => ?_)
  exact r_vret hC (by first | exact Nat.le_of_ble_eq_true rfl | (simp only [rmX8_init]; omega)) (by first | exact Nat.le_of_ble_eq_true rfl | (simp only [rmX8_init]; omega)) dX8_init_12 ⟨rfl, h⟩
theorem dX8_become_0 : dec cX8_become 0 1 1 (.aload_n 0) := ⟨by decide +kernel, rfl⟩
theorem dX8_become_1 : dec cX8_become 1 1 2 (.iload_n 1) := ⟨by decide +kernel, rfl⟩
theorem dX8_become_2 : dec cX8_become 2 3 5 (.putfield 15) := ⟨by decide +kernel, rfl⟩
theorem dX8_become_5 : dec cX8_become 5 1 6 (.aload_n 0) := ⟨by decide +kernel, rfl⟩
theorem dX8_become_6 : dec cX8_become 6 1 7 (.iload_n 2) := ⟨by decide +kernel, rfl⟩
theorem dX8_become_7 : dec cX8_become 7 3 10 (.putfield 19) := ⟨by decide +kernel, rfl⟩
theorem dX8_become_10 : dec cX8_become 10 1 11 (.iconst 0) := ⟨by decide +kernel, rfl⟩
theorem dX8_become_11 : dec cX8_become 11 1 12 (.istore_n 3) := ⟨by decide +kernel, rfl⟩
theorem dX8_become_12 : dec cX8_become 12 1 13 (.iload_n 3) := ⟨by decide +kernel, rfl⟩
theorem dX8_become_13 : dec cX8_become 13 2 15 (.bipush 24) := ⟨by decide +kernel, rfl⟩
theorem dX8_become_15 : dec cX8_become 15 3 18 (.if_icmp .ge 16) := ⟨by decide +kernel, rfl⟩
theorem dX8_become_18 : dec cX8_become 18 1 19 (.aload_n 0) := ⟨by decide +kernel, rfl⟩
theorem dX8_become_19 : dec cX8_become 19 3 22 (.getfield 9) := ⟨by decide +kernel, rfl⟩
theorem dX8_become_22 : dec cX8_become 22 1 23 (.iload_n 3) := ⟨by decide +kernel, rfl⟩
theorem dX8_become_23 : dec cX8_become 23 1 24 (.iconst 0) := ⟨by decide +kernel, rfl⟩
theorem dX8_become_24 : dec cX8_become 24 1 25 (.iastore) := ⟨by decide +kernel, rfl⟩
theorem dX8_become_25 : dec cX8_become 25 3 28 (.iinc 3 1) := ⟨by decide +kernel, rfl⟩
theorem dX8_become_28 : dec cX8_become 28 3 31 (.goto (-16)) := ⟨by decide +kernel, rfl⟩
theorem dX8_become_31 : dec cX8_become 31 1 32 (.return_) := ⟨by decide +kernel, rfl⟩
set_option maxHeartbeats 4000000 in
set_option maxRecDepth 100000 in
theorem tX8_become_L12 {X : Cx} {Y : Yx} {M0 : Mem} (hC : OKX X Y RX8 cX8_become 4 none rmX8_become) (hF : Y.2.2.2.2 = true) (hL : Lay M0) (Q : Mem → Prop)  (a0 : Nat) (qa0 : 0 < a0 ∧ M0 0 a0 = kO 8)  : ∀ (N : Nat) (x3 : Int) (M : Mem) (_ : wX8_become_L12 Q  a0 N x3 M), WW X Y 4 rmX8_become (QV Q) M0 0 0 12 [(0, vR Y.1 a0), (3, vI x3)] [] M := by
  intro N
  induction N with
  | zero =>
    intro x3 M h
    exact h.elim
  | succ N ih =>
    intro x3 M h
    unfold wX8_become_L12 at h
    refine r_iload_n hC 1 dX8_become_12 rfl rfl ?_
    refine r_bipush hC (by decide +kernel) dX8_become_13 ?_
    refine r_icmp_ge hC 31 rfl bmL_24 dX8_become_15 (by decide) (fun cq => ?_) (fun cq => ?_)
    · replace h := h.1 cq
      exact r_vret hC (Nat.zero_le _) (Nat.zero_le _) dX8_become_31 ⟨rfl, h⟩
    · replace h := h.2 cq
      refine r_aload_n hC 0 dX8_become_18 rfl rfl ?_
      have q_3 : 0 < a0 + 1 ∧ M0 0 (a0 + 1) = kA 0 24 := lay_f0 (a := a0) hL qa0 fm_8_0
      refine r_getR0 (a' := a0 + 1) hC fg_X8_9 rfl hF fm_8_0 qa0.1 qa0.2 rfl dX8_become_19 ?_
      refine r_iload_n hC 1 dX8_become_22 rfl rfl ?_
      refine r_iconst hC dX8_become_23 ?_
      obtain ⟨i_4, h⟩ := h
      refine r_iast hC i_4 q_3.1 q_3.2 (by decide) dX8_become_24 ?_
      refine r_nameM h (fun M_5 h => ?_)
      refine let_elim h (fun x3_6 e_7 h => ?_)
      refine r_iinc (lv' := [(3, vI x3_6), (0, vR Y.1 a0)]) hC 1 dX8_become_25 rfl (by decide) e_7 rfl ?_
      refine r_goto hC 12 dX8_become_28 (by decide) ?_
      refine r_sub [1, 0] rfl ?_
      exact ih _ _ h
set_option maxHeartbeats 4000000 in
set_option maxRecDepth 100000 in
theorem mX8_become (Y : Yx) (hF : Y.2.2.2.2 = true) (l : Launch) (a0 : Nat) (x1 : Int) (x2 : Int) (M0 : Mem) (Q : Mem → Prop) (qa0 : 0 < a0 ∧ M0 0 a0 = kO 8) (h : wX8_become a0 x1 x2 M0 Q) : CT Y l yX8_become cX8_become 4 none rmX8_become [vR Y.1 a0, vI x1, vI x2] M0 (QV Q) := by
  unfold wX8_become at h
  refine ct_intro (by decide) (Nat.le_of_ble_eq_true rfl) ?_
  intro X hXl hC hL0
  have hL := hL0 hF
  change OKX X Y RX8 cX8_become 4 none rmX8_become at hC
  change WW X Y 4 rmX8_become (QV Q) M0 0 0 0 [(0, vR Y.1 a0), (1, vI x1), (2, vI x2)] [] M0
  refine r_aload_n hC 0 dX8_become_0 rfl rfl ?_
  refine r_iload_n hC 1 dX8_become_1 rfl rfl ?_
  refine r_putI hC fp_X8_15 rfl qa0.1 qa0.2 dX8_become_2 ?_
  refine r_nameM h (fun M_1 h => ?_)
  refine r_aload_n hC 0 dX8_become_5 rfl rfl ?_
  refine r_iload_n hC 2 dX8_become_6 rfl rfl ?_
  refine r_putI hC fp_X8_19 rfl qa0.1 qa0.2 dX8_become_7 ?_
  refine r_nameM h (fun M_2 h => ?_)
  refine r_iconst hC dX8_become_10 ?_
  refine r_istore_n (lv' := [(3, vI 0), (0, vR Y.1 a0), (1, vI x1), (2, vI x2)]) hC dX8_become_11 rfl (by decide) rfl ?_
  refine r_sub [1, 0] rfl ?_
  obtain ⟨N_8, h⟩ := h
  refine tX8_become_L12 hC hF hL Q  _ qa0  N_8 _ _ h
theorem dX8_holds_0 : dec cX8_holds 0 1 1 (.iload_n 1) := ⟨by decide +kernel, rfl⟩
theorem dX8_holds_1 : dec cX8_holds 1 3 4 (.ifCond .lt 29) := ⟨by decide +kernel, rfl⟩
theorem dX8_holds_4 : dec cX8_holds 4 1 5 (.iload_n 2) := ⟨by decide +kernel, rfl⟩
theorem dX8_holds_5 : dec cX8_holds 5 3 8 (.ifCond .lt 25) := ⟨by decide +kernel, rfl⟩
theorem dX8_holds_8 : dec cX8_holds 8 1 9 (.iload_n 2) := ⟨by decide +kernel, rfl⟩
theorem dX8_holds_9 : dec cX8_holds 9 1 10 (.aload_n 0) := ⟨by decide +kernel, rfl⟩
theorem dX8_holds_10 : dec cX8_holds 10 3 13 (.getfield 19) := ⟨by decide +kernel, rfl⟩
theorem dX8_holds_13 : dec cX8_holds 13 3 16 (.if_icmp .gt 17) := ⟨by decide +kernel, rfl⟩
theorem dX8_holds_16 : dec cX8_holds 16 1 17 (.iload_n 1) := ⟨by decide +kernel, rfl⟩
theorem dX8_holds_17 : dec cX8_holds 17 1 18 (.aload_n 0) := ⟨by decide +kernel, rfl⟩
theorem dX8_holds_18 : dec cX8_holds 18 3 21 (.getfield 19) := ⟨by decide +kernel, rfl⟩
theorem dX8_holds_21 : dec cX8_holds 21 1 22 (.iload_n 2) := ⟨by decide +kernel, rfl⟩
theorem dX8_holds_22 : dec cX8_holds 22 1 23 (.isub) := ⟨by decide +kernel, rfl⟩
theorem dX8_holds_23 : dec cX8_holds 23 3 26 (.if_icmp .gt 7) := ⟨by decide +kernel, rfl⟩
theorem dX8_holds_26 : dec cX8_holds 26 1 27 (.iconst 1) := ⟨by decide +kernel, rfl⟩
theorem dX8_holds_27 : dec cX8_holds 27 3 30 (.goto 4) := ⟨by decide +kernel, rfl⟩
theorem dX8_holds_30 : dec cX8_holds 30 1 31 (.iconst 0) := ⟨by decide +kernel, rfl⟩
theorem dX8_holds_31 : dec cX8_holds 31 1 32 (.ireturn) := ⟨by decide +kernel, rfl⟩
set_option maxHeartbeats 4000000 in
set_option maxRecDepth 100000 in
theorem mX8_holds (Y : Yx) (hF : Y.2.2.2.2 = true) (l : Launch) (a0 : Nat) (x1 : Int) (x2 : Int) (M0 : Mem) (Q : Int → Mem → Prop) (qa0 : 0 < a0 ∧ M0 0 a0 = kO 8) (h : wX8_holds a0 x1 x2 M0 Q) : CT Y l yX8_holds cX8_holds 3 (some .boolean) rmX8_holds [vR Y.1 a0, vI x1, vI x2] M0 (QI Q) := by
  unfold wX8_holds at h
  refine ct_intro (by decide) (Nat.le_of_ble_eq_true rfl) ?_
  intro X hXl hC hL0
  have hL := hL0 hF
  change OKX X Y RX8 cX8_holds 3 (some .boolean) rmX8_holds at hC
  change WW X Y 3 rmX8_holds (QI Q) M0 0 0 0 [(0, vR Y.1 a0), (1, vI x1), (2, vI x2)] [] M0
  refine r_iload_n hC 1 dX8_holds_0 rfl rfl ?_
  refine r_if_lt hC 30 rfl dX8_holds_1 (by decide) (fun cq => ?_) (fun cq => ?_)
  · replace h := h.1 cq
    refine r_iconst hC dX8_holds_30 ?_
    exact r_zret hC (Or.inl rfl) (Nat.zero_le _) (Nat.zero_le _) dX8_holds_31 ⟨_, rfl, h⟩
  · replace h := h.2 cq
    refine r_iload_n hC 2 dX8_holds_4 rfl rfl ?_
    refine r_if_lt hC 30 rfl dX8_holds_5 (by decide) (fun cq => ?_) (fun cq => ?_)
    · replace h := h.1 cq
      refine r_iconst hC dX8_holds_30 ?_
      exact r_zret hC (Or.inl rfl) (Nat.zero_le _) (Nat.zero_le _) dX8_holds_31 ⟨_, rfl, h⟩
    · replace h := h.2 cq
      refine r_iload_n hC 2 dX8_holds_8 rfl rfl ?_
      refine r_aload_n hC 0 dX8_holds_9 rfl rfl ?_
      refine r_getI hC fg_X8_19 rfl qa0.1 qa0.2 dX8_holds_10 ?_
      refine r_icmp_gt hC 30 rfl rfl dX8_holds_13 (by decide) (fun cq => ?_) (fun cq => ?_)
      · replace h := h.1 cq
        refine r_iconst hC dX8_holds_30 ?_
        exact r_zret hC (Or.inl rfl) (Nat.zero_le _) (Nat.zero_le _) dX8_holds_31 ⟨_, rfl, h⟩
      · replace h := h.2 cq
        refine r_iload_n hC 1 dX8_holds_16 rfl rfl ?_
        refine r_aload_n hC 0 dX8_holds_17 rfl rfl ?_
        refine r_getI hC fg_X8_19 rfl qa0.1 qa0.2 dX8_holds_18 ?_
        refine r_iload_n hC 2 dX8_holds_21 rfl rfl ?_
        refine r_isub hC dX8_holds_22 ?_
        refine r_icmp_gt hC 30 rfl rfl dX8_holds_23 (by decide) (fun cq => ?_) (fun cq => ?_)
        · replace h := h.1 cq
          refine r_iconst hC dX8_holds_30 ?_
          exact r_zret hC (Or.inl rfl) (Nat.zero_le _) (Nat.zero_le _) dX8_holds_31 ⟨_, rfl, h⟩
        · replace h := h.2 cq
          refine r_iconst hC dX8_holds_26 ?_
          refine r_goto hC 31 dX8_holds_27 (by decide) ?_
          exact r_zret hC (Or.inr rfl) (Nat.zero_le _) (Nat.zero_le _) dX8_holds_31 ⟨_, rfl, h⟩
theorem dX8_write_0 : dec cX8_write 0 1 1 (.aload_n 0) := ⟨by decide +kernel, rfl⟩
theorem dX8_write_1 : dec cX8_write 1 1 2 (.iload_n 1) := ⟨by decide +kernel, rfl⟩
theorem dX8_write_2 : dec cX8_write 2 1 3 (.iconst 1) := ⟨by decide +kernel, rfl⟩
theorem dX8_write_3 : dec cX8_write 3 3 6 (.invokevirtual 22) := ⟨by decide +kernel, rfl⟩
theorem dX8_write_6 : dec cX8_write 6 3 9 (.ifCond .eq 22) := ⟨by decide +kernel, rfl⟩
theorem dX8_write_9 : dec cX8_write 9 2 11 (.bipush 32) := ⟨by decide +kernel, rfl⟩
theorem dX8_write_11 : dec cX8_write 11 1 12 (.aload_n 0) := ⟨by decide +kernel, rfl⟩
theorem dX8_write_12 : dec cX8_write 12 3 15 (.getfield 15) := ⟨by decide +kernel, rfl⟩
theorem dX8_write_15 : dec cX8_write 15 1 16 (.isub) := ⟨by decide +kernel, rfl⟩
theorem dX8_write_16 : dec cX8_write 16 1 17 (.istore_n 3) := ⟨by decide +kernel, rfl⟩
theorem dX8_write_17 : dec cX8_write 17 1 18 (.aload_n 0) := ⟨by decide +kernel, rfl⟩
theorem dX8_write_18 : dec cX8_write 18 3 21 (.getfield 9) := ⟨by decide +kernel, rfl⟩
theorem dX8_write_21 : dec cX8_write 21 1 22 (.iload_n 1) := ⟨by decide +kernel, rfl⟩
theorem dX8_write_22 : dec cX8_write 22 1 23 (.iload_n 2) := ⟨by decide +kernel, rfl⟩
theorem dX8_write_23 : dec cX8_write 23 1 24 (.iload_n 3) := ⟨by decide +kernel, rfl⟩
theorem dX8_write_24 : dec cX8_write 24 1 25 (.ishl) := ⟨by decide +kernel, rfl⟩
theorem dX8_write_25 : dec cX8_write 25 1 26 (.iload_n 3) := ⟨by decide +kernel, rfl⟩
theorem dX8_write_26 : dec cX8_write 26 1 27 (.ishr) := ⟨by decide +kernel, rfl⟩
theorem dX8_write_27 : dec cX8_write 27 1 28 (.iastore) := ⟨by decide +kernel, rfl⟩
theorem dX8_write_28 : dec cX8_write 28 1 29 (.return_) := ⟨by decide +kernel, rfl⟩
set_option maxHeartbeats 4000000 in
set_option maxRecDepth 100000 in
theorem mX8_write (Y : Yx) (hF : Y.2.2.2.2 = true) (l : Launch) (a0 : Nat) (x1 : Int) (x2 : Int) (M0 : Mem) (Q : Mem → Prop) (qa0 : 0 < a0 ∧ M0 0 a0 = kO 8) (h : wX8_write a0 x1 x2 M0 Q) : CT Y l yX8_write cX8_write 4 none rmX8_write [vR Y.1 a0, vI x1, vI x2] M0 (QV Q) := by
  unfold wX8_write at h
  refine ct_intro (by decide) (Nat.le_of_ble_eq_true rfl) ?_
  intro X hXl hC hL0
  have hL := hL0 hF
  change OKX X Y RX8 cX8_write 4 none rmX8_write at hC
  change WW X Y 4 rmX8_write (QV Q) M0 0 0 0 [(0, vR Y.1 a0), (1, vI x1), (2, vI x2)] [] M0
  refine r_aload_n hC 0 dX8_write_0 rfl rfl ?_
  refine r_iload_n hC 1 dX8_write_1 rfl rfl ?_
  refine r_iconst hC dX8_write_2 ?_
  refine r_callV (As := [vI x1, vI 1]) (st := []) hC cw_X8_22 rfl qa0.1 qa0.2 rfl rfl (Nat.le_of_ble_eq_true rfl) ⟨Nat.le_of_ble_eq_true rfl, Nat.le_of_ble_eq_true rfl⟩ ⟨Nat.le_of_ble_eq_true rfl, Nat.le_of_ble_eq_true rfl⟩ dX8_write_3 (fun hk => mX8_holds Y hF _ _ _ _ _ _ (kqO hk qa0) h) (fun v M_1 h => ?_)
  obtain ⟨r_2, rfl, h⟩ := h
  refine r_if_eq hC 28 rfl dX8_write_6 (by decide) (fun cq => ?_) (fun cq => ?_)
  · replace h := h.1 cq
    exact r_vret hC (Nat.zero_le _) (Nat.zero_le _) dX8_write_28 ⟨rfl, h⟩
  · replace h := h.2 cq
    refine r_bipush hC (by decide +kernel) dX8_write_9 ?_
    refine r_aload_n hC 0 dX8_write_11 rfl rfl ?_
    refine r_getI hC fg_X8_15 rfl qa0.1 qa0.2 dX8_write_12 ?_
    refine r_isub hC dX8_write_15 ?_
    refine r_nameI h (fun x3_3 h => ?_)
    refine r_istore_n (lv' := [(3, vI x3_3), (0, vR Y.1 a0), (1, vI x1), (2, vI x2)]) hC dX8_write_16 rfl (by decide) rfl ?_
    refine r_aload_n hC 1 dX8_write_17 rfl rfl ?_
    have q_4 : 0 < a0 + 1 ∧ M0 0 (a0 + 1) = kA 0 24 := lay_f0 (a := a0) hL qa0 fm_8_0
    refine r_getR0 (a' := a0 + 1) hC fg_X8_9 rfl hF fm_8_0 qa0.1 qa0.2 rfl dX8_write_18 ?_
    refine r_iload_n hC 2 dX8_write_21 rfl rfl ?_
    refine r_iload_n hC 3 dX8_write_22 rfl rfl ?_
    refine r_iload_n hC 0 dX8_write_23 rfl rfl ?_
    refine r_ishl hC dX8_write_24 ?_
    refine r_iload_n hC 0 dX8_write_25 rfl rfl ?_
    refine r_ishr hC dX8_write_26 ?_
    obtain ⟨i_5, h⟩ := h
    refine r_iast hC i_5 q_4.1 q_4.2 (by decide) dX8_write_27 ?_
    refine r_nameM h (fun M_6 h => ?_)
    exact r_vret hC (Nat.zero_le _) (Nat.zero_le _) dX8_write_28 ⟨rfl, h⟩
theorem dX8_takePieces_0 : dec cX8_takePieces 0 1 1 (.iconst 0) := ⟨by decide +kernel, rfl⟩
theorem dX8_takePieces_1 : dec cX8_takePieces 1 1 2 (.istore_n 2) := ⟨by decide +kernel, rfl⟩
theorem dX8_takePieces_2 : dec cX8_takePieces 2 1 3 (.iload_n 2) := ⟨by decide +kernel, rfl⟩
theorem dX8_takePieces_3 : dec cX8_takePieces 3 1 4 (.aload_n 1) := ⟨by decide +kernel, rfl⟩
theorem dX8_takePieces_4 : dec cX8_takePieces 4 3 7 (.getfield 26) := ⟨by decide +kernel, rfl⟩
theorem dX8_takePieces_7 : dec cX8_takePieces 7 3 10 (.if_icmp .ge 20) := ⟨by decide +kernel, rfl⟩
theorem dX8_takePieces_10 : dec cX8_takePieces 10 1 11 (.aload_n 0) := ⟨by decide +kernel, rfl⟩
theorem dX8_takePieces_11 : dec cX8_takePieces 11 1 12 (.iload_n 2) := ⟨by decide +kernel, rfl⟩
theorem dX8_takePieces_12 : dec cX8_takePieces 12 1 13 (.aload_n 1) := ⟨by decide +kernel, rfl⟩
theorem dX8_takePieces_13 : dec cX8_takePieces 13 3 16 (.getfield 29) := ⟨by decide +kernel, rfl⟩
theorem dX8_takePieces_16 : dec cX8_takePieces 16 1 17 (.iload_n 2) := ⟨by decide +kernel, rfl⟩
theorem dX8_takePieces_17 : dec cX8_takePieces 17 1 18 (.iaload) := ⟨by decide +kernel, rfl⟩
theorem dX8_takePieces_18 : dec cX8_takePieces 18 3 21 (.invokevirtual 32) := ⟨by decide +kernel, rfl⟩
theorem dX8_takePieces_21 : dec cX8_takePieces 21 3 24 (.iinc 2 1) := ⟨by decide +kernel, rfl⟩
theorem dX8_takePieces_24 : dec cX8_takePieces 24 3 27 (.goto (-22)) := ⟨by decide +kernel, rfl⟩
theorem dX8_takePieces_27 : dec cX8_takePieces 27 1 28 (.return_) := ⟨by decide +kernel, rfl⟩
set_option maxHeartbeats 4000000 in
set_option maxRecDepth 100000 in
theorem tX8_takePieces_L2 {X : Cx} {Y : Yx} {M0 : Mem} (hC : OKX X Y RX8 cX8_takePieces 3 none rmX8_takePieces) (hF : Y.2.2.2.2 = true) (hL : Lay M0) (Q : Mem → Prop)  (a0 : Nat) (a1 : Nat) (qa0 : 0 < a0 ∧ M0 0 a0 = kO 8) (qa1 : 0 < a1 ∧ M0 0 a1 = kO 5)  : ∀ (N : Nat) (x2 : Int) (M : Mem) (_ : wX8_takePieces_L2 Q  a0 a1 N x2 M), WW X Y 3 rmX8_takePieces (QV Q) M0 0 0 2 [(0, vR Y.1 a0), (1, vR Y.1 a1), (2, vI x2)] [] M := by
  intro N
  induction N with
  | zero =>
    intro x2 M h
    exact h.elim
  | succ N ih =>
    intro x2 M h
    unfold wX8_takePieces_L2 at h
    refine r_iload_n hC 2 dX8_takePieces_2 rfl rfl ?_
    refine r_aload_n hC 1 dX8_takePieces_3 rfl rfl ?_
    refine r_getI hC fg_X8_26 rfl qa1.1 qa1.2 dX8_takePieces_4 ?_
    refine r_icmp_ge hC 27 rfl rfl dX8_takePieces_7 (by decide) (fun cq => ?_) (fun cq => ?_)
    · replace h := h.1 cq
      exact r_vret hC (Nat.zero_le _) (Nat.zero_le _) dX8_takePieces_27 ⟨rfl, h⟩
    · replace h := h.2 cq
      refine r_aload_n hC 0 dX8_takePieces_10 rfl rfl ?_
      refine r_iload_n hC 2 dX8_takePieces_11 rfl rfl ?_
      refine r_aload_n hC 1 dX8_takePieces_12 rfl rfl ?_
      have q_1 : 0 < a1 + 1 ∧ M0 0 (a1 + 1) = kA 0 12 := lay_f0 (a := a1) hL qa1 fm_5_0
      refine r_getR0 (a' := a1 + 1) hC fg_X8_29 rfl hF fm_5_0 qa1.1 qa1.2 rfl dX8_takePieces_13 ?_
      refine r_iload_n hC 2 dX8_takePieces_16 rfl rfl ?_
      obtain ⟨i_2, h⟩ := h
      refine r_iald hC i_2 q_1.1 q_1.2 (by decide) dX8_takePieces_17 ?_
      refine r_callV (As := [vI x2, vI (rd M (a1 + 1) x2)]) (st := []) hC cw_X8_32 rfl qa0.1 qa0.2 rfl rfl (Nat.le_of_ble_eq_true rfl) ⟨Nat.le_of_ble_eq_true rfl, Nat.le_of_ble_eq_true rfl⟩ ⟨Nat.le_of_ble_eq_true rfl, Nat.le_of_ble_eq_true rfl⟩ dX8_takePieces_18 (fun hk => mX8_write Y hF _ _ _ _ _ _ (kqO hk qa0) h) (fun v M_3 h => ?_)
      obtain ⟨rfl, h⟩ := h
      refine let_elim h (fun x2_4 e_5 h => ?_)
      refine r_iinc (lv' := [(2, vI x2_4), (0, vR Y.1 a0), (1, vR Y.1 a1)]) hC 2 dX8_takePieces_21 rfl (by decide) e_5 rfl ?_
      refine r_goto hC 2 dX8_takePieces_24 (by decide) ?_
      refine r_sub [1, 2, 0] rfl ?_
      exact ih _ _ h
set_option maxHeartbeats 4000000 in
set_option maxRecDepth 100000 in
theorem mX8_takePieces (Y : Yx) (hF : Y.2.2.2.2 = true) (l : Launch) (a0 : Nat) (a1 : Nat) (M0 : Mem) (Q : Mem → Prop) (qa0 : 0 < a0 ∧ M0 0 a0 = kO 8) (qa1 : 0 < a1 ∧ M0 0 a1 = kO 5) (h : wX8_takePieces a0 a1 M0 Q) : CT Y l yX8_takePieces cX8_takePieces 3 none rmX8_takePieces [vR Y.1 a0, vR Y.1 a1] M0 (QV Q) := by
  unfold wX8_takePieces at h
  refine ct_intro (by decide) (Nat.le_of_ble_eq_true rfl) ?_
  intro X hXl hC hL0
  have hL := hL0 hF
  change OKX X Y RX8 cX8_takePieces 3 none rmX8_takePieces at hC
  change WW X Y 3 rmX8_takePieces (QV Q) M0 0 0 0 [(0, vR Y.1 a0), (1, vR Y.1 a1)] [] M0
  refine r_iconst hC dX8_takePieces_0 ?_
  refine r_istore_n (lv' := [(2, vI 0), (0, vR Y.1 a0), (1, vR Y.1 a1)]) hC dX8_takePieces_1 rfl (by decide) rfl ?_
  refine r_sub [1, 2, 0] rfl ?_
  obtain ⟨N_6, h⟩ := h
  refine tX8_takePieces_L2 hC hF hL Q  _ _ qa0 qa1  N_6 _ _ h
theorem dX9_init_0 : dec cX9_init 0 1 1 (.aload_n 0) := ⟨by decide +kernel, rfl⟩
theorem dX9_init_1 : dec cX9_init 1 3 4 (.invokespecial 3) := ⟨by decide +kernel, rfl⟩
theorem dX9_init_4 : dec cX9_init 4 1 5 (.aload_n 0) := ⟨by decide +kernel, rfl⟩
theorem dX9_init_5 : dec cX9_init 5 2 7 (.bipush 30) := ⟨by decide +kernel, rfl⟩
theorem dX9_init_7 : dec cX9_init 7 2 9 (.newarray .int) := ⟨by decide +kernel, rfl⟩
theorem dX9_init_9 : dec cX9_init 9 3 12 (.putfield 9) := ⟨by decide +kernel, rfl⟩
theorem dX9_init_12 : dec cX9_init 12 1 13 (.return_) := ⟨by decide +kernel, rfl⟩
set_option maxHeartbeats 4000000 in
set_option maxRecDepth 100000 in
theorem mX9_init (Y : Yx) (hF0 : Y.2.2.2.2 = false) (l : Launch) (a0 : Nat) (M0 : Mem) (Q : Mem → Prop) (qa0 : 0 < a0 ∧ M0 0 a0 = kO 9) (h : wX9_init a0 M0 Q) : CT Y l yX9_init cX9_init 1 none rmX9_init [vR Y.1 a0] M0 (QV Q) := by
  unfold wX9_init at h
  refine ct_introI (by decide) (Nat.le_of_ble_eq_true rfl) ?_
  intro X hXl hC hN
  change OKX X Y RX9 cX9_init 1 none rmX9_init at hC
  change nameX X = "<init>" at hN
  change WW X Y 1 rmX9_init (QV Q) M0 0 0 0 [(0, vR Y.1 a0)] [] M0
  refine r_aload_n hC 0 dX9_init_0 rfl rfl ?_
  refine r_objInit hC ob_X9_3 (Nat.le_of_ble_eq_true rfl) (Nat.le_of_ble_eq_true rfl) (Nat.le_of_ble_eq_true rfl) dX9_init_1 ?_
  refine r_aload_n hC 0 dX9_init_4 rfl rfl ?_
  refine r_bipush hC (by decide +kernel) dX9_init_5 ?_
  refine r_newarr (t := 0) (len := 30) hC (by decide) rfl ac_0 rfl (by decide) (by decide +kernel) ⟨Nat.le_of_ble_eq_true rfl, Nat.le_of_ble_eq_true rfl⟩ dX9_init_7 ?_
  refine r_widen (n' := 1) (k' := 30 * 1) (by omega) (by omega) ?_
  refine r_nameM h (fun M_2 h => ?_)
  obtain ⟨q_1, h⟩ := h
  refine r_base (fun hk hL0 => ?_)
  have qa0 := kqO hk qa0
  refine r_putF hC hN hF0 q_1.1 ff_X9_9 rfl (by first | exact Or.inl ⟨_, rfl⟩ | exact Or.inr ⟨_, rfl⟩) qa0.1 qa0.2 dX9_init_9 ?_
  refine r_nameM h (fun M_3 h => ?_)
  exact r_vret hC (by first | exact Nat.le_of_ble_eq_true rfl | (simp only [rmX9_init]; omega)) (by first | exact Nat.le_of_ble_eq_true rfl | (simp only [rmX9_init]; omega)) dX9_init_12 ⟨rfl, h⟩
theorem dX9_partedBy_0 : dec cX9_partedBy 0 1 1 (.iload_n 2) := ⟨by decide +kernel, rfl⟩
theorem dX9_partedBy_1 : dec cX9_partedBy 1 3 4 (.ifCond .ne 10) := ⟨by decide +kernel, rfl⟩
theorem dX9_partedBy_4 : dec cX9_partedBy 4 1 5 (.aload_n 0) := ⟨by decide +kernel, rfl⟩
theorem dX9_partedBy_5 : dec cX9_partedBy 5 1 6 (.iconst 1) := ⟨by decide +kernel, rfl⟩
theorem dX9_partedBy_6 : dec cX9_partedBy 6 3 9 (.putfield 36) := ⟨by decide +kernel, rfl⟩
theorem dX9_partedBy_9 : dec cX9_partedBy 9 1 10 (.iconst 0) := ⟨by decide +kernel, rfl⟩
theorem dX9_partedBy_10 : dec cX9_partedBy 10 1 11 (.ireturn) := ⟨by decide +kernel, rfl⟩
theorem dX9_partedBy_11 : dec cX9_partedBy 11 1 12 (.iload_n 1) := ⟨by decide +kernel, rfl⟩
theorem dX9_partedBy_12 : dec cX9_partedBy 12 1 13 (.iload_n 2) := ⟨by decide +kernel, rfl⟩
theorem dX9_partedBy_13 : dec cX9_partedBy 13 1 14 (.idiv) := ⟨by decide +kernel, rfl⟩
theorem dX9_partedBy_14 : dec cX9_partedBy 14 1 15 (.ireturn) := ⟨by decide +kernel, rfl⟩
set_option maxHeartbeats 4000000 in
set_option maxRecDepth 100000 in
theorem mX9_partedBy (Y : Yx) (hF : Y.2.2.2.2 = true) (l : Launch) (a0 : Nat) (x1 : Int) (x2 : Int) (M0 : Mem) (Q : Int → Mem → Prop) (qa0 : 0 < a0 ∧ M0 0 a0 = kO 9) (h : wX9_partedBy a0 x1 x2 M0 Q) : CT Y l yX9_partedBy cX9_partedBy 3 (some .int) rmX9_partedBy [vR Y.1 a0, vI x1, vI x2] M0 (QI Q) := by
  unfold wX9_partedBy at h
  refine ct_intro (by decide) (Nat.le_of_ble_eq_true rfl) ?_
  intro X hXl hC hL0
  have hL := hL0 hF
  change OKX X Y RX9 cX9_partedBy 3 (some .int) rmX9_partedBy at hC
  change WW X Y 3 rmX9_partedBy (QI Q) M0 0 0 0 [(0, vR Y.1 a0), (1, vI x1), (2, vI x2)] [] M0
  refine r_iload_n hC 2 dX9_partedBy_0 rfl rfl ?_
  refine r_if_ne hC 11 rfl dX9_partedBy_1 (by decide) (fun cq => ?_) (fun cq => ?_)
  · replace h := h.2 cq
    refine r_iload_n hC 1 dX9_partedBy_11 rfl rfl ?_
    refine r_iload_n hC 2 dX9_partedBy_12 rfl rfl ?_
    obtain ⟨z_1, h⟩ := h
    refine r_idiv hC z_1 dX9_partedBy_13 ?_
    exact r_iret hC (Nat.zero_le _) (Nat.zero_le _) dX9_partedBy_14 ⟨_, rfl, h⟩
  · replace h := h.1 cq
    refine r_aload_n hC 0 dX9_partedBy_4 rfl rfl ?_
    refine r_iconst hC dX9_partedBy_5 ?_
    refine r_putZ hC (Or.inr rfl) fp_X9_36 rfl qa0.1 qa0.2 dX9_partedBy_6 ?_
    refine r_nameM h (fun M_2 h => ?_)
    refine r_iconst hC dX9_partedBy_9 ?_
    exact r_iret hC (Nat.zero_le _) (Nat.zero_le _) dX9_partedBy_10 ⟨_, rfl, h⟩
theorem dX9_spoken_0 : dec cX9_spoken 0 1 1 (.aload_n 0) := ⟨by decide +kernel, rfl⟩
theorem dX9_spoken_1 : dec cX9_spoken 1 3 4 (.getfield 36) := ⟨by decide +kernel, rfl⟩
theorem dX9_spoken_4 : dec cX9_spoken 4 3 7 (.ifCond .ne 19) := ⟨by decide +kernel, rfl⟩
theorem dX9_spoken_7 : dec cX9_spoken 7 2 9 (.iload 4) := ⟨by decide +kernel, rfl⟩
theorem dX9_spoken_9 : dec cX9_spoken 9 2 11 (.bipush 40) := ⟨by decide +kernel, rfl⟩
theorem dX9_spoken_11 : dec cX9_spoken 11 3 14 (.if_icmp .gt 12) := ⟨by decide +kernel, rfl⟩
theorem dX9_spoken_14 : dec cX9_spoken 14 1 15 (.iload_n 2) := ⟨by decide +kernel, rfl⟩
theorem dX9_spoken_15 : dec cX9_spoken 15 1 16 (.iconst 0) := ⟨by decide +kernel, rfl⟩
theorem dX9_spoken_16 : dec cX9_spoken 16 1 17 (.iconst 3) := ⟨by decide +kernel, rfl⟩
theorem dX9_spoken_17 : dec cX9_spoken 17 3 20 (.invokestatic 44) := ⟨by decide +kernel, rfl⟩
theorem dX9_spoken_20 : dec cX9_spoken 20 3 23 (.ifCond .ne 5) := ⟨by decide +kernel, rfl⟩
theorem dX9_spoken_23 : dec cX9_spoken 23 1 24 (.iconst 0) := ⟨by decide +kernel, rfl⟩
theorem dX9_spoken_24 : dec cX9_spoken 24 1 25 (.ireturn) := ⟨by decide +kernel, rfl⟩
theorem dX9_spoken_25 : dec cX9_spoken 25 1 26 (.iconst 0) := ⟨by decide +kernel, rfl⟩
theorem dX9_spoken_26 : dec cX9_spoken 26 2 28 (.istore 5) := ⟨by decide +kernel, rfl⟩
theorem dX9_spoken_28 : dec cX9_spoken 28 1 29 (.iload_n 1) := ⟨by decide +kernel, rfl⟩
theorem dX9_spoken_29 : dec cX9_spoken 29 2 31 (.istore 6) := ⟨by decide +kernel, rfl⟩
theorem dX9_spoken_31 : dec cX9_spoken 31 1 32 (.iconst 0) := ⟨by decide +kernel, rfl⟩
theorem dX9_spoken_32 : dec cX9_spoken 32 2 34 (.istore 7) := ⟨by decide +kernel, rfl⟩
theorem dX9_spoken_34 : dec cX9_spoken 34 2 36 (.iload 7) := ⟨by decide +kernel, rfl⟩
theorem dX9_spoken_36 : dec cX9_spoken 36 3 39 (.getstatic 48) := ⟨by decide +kernel, rfl⟩
theorem dX9_spoken_39 : dec cX9_spoken 39 1 40 (.arraylength) := ⟨by decide +kernel, rfl⟩
theorem dX9_spoken_40 : dec cX9_spoken 40 3 43 (.if_icmp .ge 45) := ⟨by decide +kernel, rfl⟩
theorem dX9_spoken_43 : dec cX9_spoken 43 2 45 (.iload 5) := ⟨by decide +kernel, rfl⟩
theorem dX9_spoken_45 : dec cX9_spoken 45 3 48 (.ifCond .ne 40) := ⟨by decide +kernel, rfl⟩
theorem dX9_spoken_48 : dec cX9_spoken 48 2 50 (.iload 6) := ⟨by decide +kernel, rfl⟩
theorem dX9_spoken_50 : dec cX9_spoken 50 1 51 (.iconst 0) := ⟨by decide +kernel, rfl⟩
theorem dX9_spoken_51 : dec cX9_spoken 51 2 53 (.bipush 6) := ⟨by decide +kernel, rfl⟩
theorem dX9_spoken_53 : dec cX9_spoken 53 3 56 (.invokestatic 44) := ⟨by decide +kernel, rfl⟩
theorem dX9_spoken_56 : dec cX9_spoken 56 3 59 (.ifCond .eq 29) := ⟨by decide +kernel, rfl⟩
theorem dX9_spoken_59 : dec cX9_spoken 59 3 62 (.getstatic 51) := ⟨by decide +kernel, rfl⟩
theorem dX9_spoken_62 : dec cX9_spoken 62 2 64 (.iload 6) := ⟨by decide +kernel, rfl⟩
theorem dX9_spoken_64 : dec cX9_spoken 64 1 65 (.iconst 4) := ⟨by decide +kernel, rfl⟩
theorem dX9_spoken_65 : dec cX9_spoken 65 1 66 (.imul) := ⟨by decide +kernel, rfl⟩
theorem dX9_spoken_66 : dec cX9_spoken 66 1 67 (.iload_n 2) := ⟨by decide +kernel, rfl⟩
theorem dX9_spoken_67 : dec cX9_spoken 67 1 68 (.iadd) := ⟨by decide +kernel, rfl⟩
theorem dX9_spoken_68 : dec cX9_spoken 68 1 69 (.iaload) := ⟨by decide +kernel, rfl⟩
theorem dX9_spoken_69 : dec cX9_spoken 69 2 71 (.istore 5) := ⟨by decide +kernel, rfl⟩
theorem dX9_spoken_71 : dec cX9_spoken 71 3 74 (.getstatic 48) := ⟨by decide +kernel, rfl⟩
theorem dX9_spoken_74 : dec cX9_spoken 74 2 76 (.iload 6) := ⟨by decide +kernel, rfl⟩
theorem dX9_spoken_76 : dec cX9_spoken 76 1 77 (.iaload) := ⟨by decide +kernel, rfl⟩
theorem dX9_spoken_77 : dec cX9_spoken 77 2 79 (.istore 6) := ⟨by decide +kernel, rfl⟩
theorem dX9_spoken_79 : dec cX9_spoken 79 3 82 (.iinc 7 1) := ⟨by decide +kernel, rfl⟩
theorem dX9_spoken_82 : dec cX9_spoken 82 3 85 (.goto (-48)) := ⟨by decide +kernel, rfl⟩
theorem dX9_spoken_85 : dec cX9_spoken 85 1 86 (.aload_n 0) := ⟨by decide +kernel, rfl⟩
theorem dX9_spoken_86 : dec cX9_spoken 86 3 89 (.getfield 33) := ⟨by decide +kernel, rfl⟩
theorem dX9_spoken_89 : dec cX9_spoken 89 2 91 (.bipush 30) := ⟨by decide +kernel, rfl⟩
theorem dX9_spoken_91 : dec cX9_spoken 91 3 94 (.if_icmp .ge 24) := ⟨by decide +kernel, rfl⟩
theorem dX9_spoken_94 : dec cX9_spoken 94 1 95 (.aload_n 0) := ⟨by decide +kernel, rfl⟩
theorem dX9_spoken_95 : dec cX9_spoken 95 3 98 (.getfield 9) := ⟨by decide +kernel, rfl⟩
theorem dX9_spoken_98 : dec cX9_spoken 98 1 99 (.aload_n 0) := ⟨by decide +kernel, rfl⟩
theorem dX9_spoken_99 : dec cX9_spoken 99 3 102 (.getfield 33) := ⟨by decide +kernel, rfl⟩
theorem dX9_spoken_102 : dec cX9_spoken 102 2 104 (.iload 5) := ⟨by decide +kernel, rfl⟩
theorem dX9_spoken_104 : dec cX9_spoken 104 1 105 (.iastore) := ⟨by decide +kernel, rfl⟩
theorem dX9_spoken_105 : dec cX9_spoken 105 1 106 (.aload_n 0) := ⟨by decide +kernel, rfl⟩
theorem dX9_spoken_106 : dec cX9_spoken 106 1 107 (.dup) := ⟨by decide +kernel, rfl⟩
theorem dX9_spoken_107 : dec cX9_spoken 107 3 110 (.getfield 33) := ⟨by decide +kernel, rfl⟩
theorem dX9_spoken_110 : dec cX9_spoken 110 1 111 (.iconst 1) := ⟨by decide +kernel, rfl⟩
theorem dX9_spoken_111 : dec cX9_spoken 111 1 112 (.iadd) := ⟨by decide +kernel, rfl⟩
theorem dX9_spoken_112 : dec cX9_spoken 112 3 115 (.putfield 33) := ⟨by decide +kernel, rfl⟩
theorem dX9_spoken_115 : dec cX9_spoken 115 1 116 (.aload_n 0) := ⟨by decide +kernel, rfl⟩
theorem dX9_spoken_116 : dec cX9_spoken 116 2 118 (.iload 5) := ⟨by decide +kernel, rfl⟩
theorem dX9_spoken_118 : dec cX9_spoken 118 1 119 (.iload_n 3) := ⟨by decide +kernel, rfl⟩
theorem dX9_spoken_119 : dec cX9_spoken 119 2 121 (.iload 4) := ⟨by decide +kernel, rfl⟩
theorem dX9_spoken_121 : dec cX9_spoken 121 1 122 (.iconst 1) := ⟨by decide +kernel, rfl⟩
theorem dX9_spoken_122 : dec cX9_spoken 122 1 123 (.iadd) := ⟨by decide +kernel, rfl⟩
theorem dX9_spoken_123 : dec cX9_spoken 123 3 126 (.invokevirtual 54) := ⟨by decide +kernel, rfl⟩
theorem dX9_spoken_126 : dec cX9_spoken 126 1 127 (.ireturn) := ⟨by decide +kernel, rfl⟩
set_option maxHeartbeats 4000000 in
set_option maxRecDepth 100000 in
theorem tX9_spoken_L34 {X : Cx} {Y : Yx} {M0 : Mem} {Γ : Nat → List Int → Mem → (Int → Mem → Prop) → Prop} {d : Nat} (hC : OKX X Y RX9 cX9_spoken 8 (some .int) (rmX9_spoken (d + 1))) (hF : Y.2.2.2.2 = true) (hL : Lay M0) (a0 : Nat) (hG0 : ∀ (x0 : Int) (x1 : Int) (x2 : Int) (x3 : Int) (M : Mem) (Q : Int → Mem → Prop), (0 < a0 ∧ M 0 a0 = kO 9) → Γ 0 [x0, x1, x2, x3] M Q → CT Y X.2.1 yX9_spoken cX9_spoken 8 (some .int) (rmX9_spoken d) [vR Y.1 a0, vI x0, vI x1, vI x2, vI x3] M (QI Q)) (hG1 : ∀ (x0 : Int) (x1 : Int) (x2 : Int) (M : Mem) (Q : Int → Mem → Prop), (0 < a0 ∧ M 0 a0 = kO 9) → Γ 1 [x0, x1, x2] M Q → CT Y X.2.1 yX9_bodyOf cX9_bodyOf 4 (some .int) (rmX9_bodyOf d) [vR Y.1 a0, vI x0, vI x1, vI x2] M (QI Q)) (Q : Int → Mem → Prop) (E85 : Int → Mem → Prop) (x2 : Int) (x3 : Int) (x4 : Int) (qa0 : 0 < a0 ∧ M0 0 a0 = kO 9) (hE85 : ∀ (x5 : Int) (M : Mem), E85 x5 M → WW X Y 8 (rmX9_spoken (d + 1)) (QI Q) M0 0 0 85 [(0, vR Y.1 a0), (3, vI x3), (4, vI x4), (5, vI x5)] [] M) : ∀ (N : Nat) (x5 : Int) (x6 : Int) (x7 : Int) (M : Mem) (_ : wX9_spoken_L34 Γ Q E85 a0 x2 x3 x4 N x5 x6 x7 M), WW X Y 8 (rmX9_spoken (d + 1)) (QI Q) M0 0 0 34 [(0, vR Y.1 a0), (2, vI x2), (3, vI x3), (4, vI x4), (5, vI x5), (6, vI x6), (7, vI x7)] [] M := by
  intro N
  induction N with
  | zero =>
    intro x5 x6 x7 M h
    exact h.elim
  | succ N ih =>
    intro x5 x6 x7 M h
    unfold wX9_spoken_L34 at h
    refine r_iload hC 6 dX9_spoken_34 rfl ?_
    refine r_tabN (i := 1) hC (by decide) tn_X9_48 dX9_spoken_36 ?_
    refine r_tablen hC (by decide) dX9_spoken_39 ?_
    refine r_icmp_ge hC 85 rfl bmL_7 dX9_spoken_40 (by decide) (fun cq => ?_) (fun cq => ?_)
    · replace h := h.1 cq
      refine r_sub [0, 2, 3, 4] rfl ?_
      exact hE85 _ _ h
    · replace h := h.2 cq
      refine r_iload hC 4 dX9_spoken_43 rfl ?_
      refine r_if_ne hC 85 rfl dX9_spoken_45 (by decide) (fun cq => ?_) (fun cq => ?_)
      · replace h := h.2 cq
        refine r_sub [0, 2, 3, 4] rfl ?_
        exact hE85 _ _ h
      · replace h := h.1 cq
        refine r_iload hC 5 dX9_spoken_48 rfl ?_
        refine r_iconst hC dX9_spoken_50 ?_
        refine r_bipush hC (by decide +kernel) dX9_spoken_51 ?_
        refine r_callN (As := [vI x6, vI 0, vI 6]) (st := []) hC cw_X9_44 rfl rfl (Nat.le_of_ble_eq_true rfl) (by constructor <;> simp only [rmX9_spoken, rmX11_within] <;> omega) ⟨Nat.le_of_ble_eq_true rfl, Nat.le_of_ble_eq_true rfl⟩ dX9_spoken_53 (fun hk => mX11_within Y hF _ _ _ _ _ _  h) (fun v M_3 h => ?_)
        obtain ⟨r_4, rfl, h⟩ := h
        refine r_if_eq hC 85 rfl dX9_spoken_56 (by decide) (fun cq => ?_) (fun cq => ?_)
        · replace h := h.1 cq
          refine r_sub [0, 2, 3, 4] rfl ?_
          exact hE85 _ _ h
        · replace h := h.2 cq
          refine r_tab (i := 2) hC (by decide) tw_X9_51 dX9_spoken_59 ?_
          refine r_iload hC 5 dX9_spoken_62 rfl ?_
          refine r_iconst hC dX9_spoken_64 ?_
          refine r_imul hC dX9_spoken_65 ?_
          refine r_iload_n hC 1 dX9_spoken_66 rfl rfl ?_
          refine r_iadd hC dX9_spoken_67 ?_
          obtain ⟨i_5, h⟩ := h
          refine r_tabld hC (by decide) i_5 dX9_spoken_68 ?_
          refine r_nameI h (fun x5_6 h => ?_)
          refine r_istore (lv' := [(5, vI x5_6), (0, vR Y.1 a0), (2, vI x2), (3, vI x3), (4, vI x4), (6, vI x6), (7, vI x7)]) hC dX9_spoken_69 (by decide) rfl ?_
          refine r_tabN (i := 1) hC (by decide) tn_X9_48 dX9_spoken_71 ?_
          refine r_iload hC 5 dX9_spoken_74 rfl ?_
          obtain ⟨i_7, h⟩ := h
          refine r_tabld hC (by decide) i_7 dX9_spoken_76 ?_
          refine r_nameI h (fun x6_8 h => ?_)
          refine r_istore (lv' := [(6, vI x6_8), (5, vI x5_6), (0, vR Y.1 a0), (2, vI x2), (3, vI x3), (4, vI x4), (7, vI x7)]) hC dX9_spoken_77 (by decide) rfl ?_
          refine let_elim h (fun x7_9 e_10 h => ?_)
          refine r_iinc (lv' := [(7, vI x7_9), (6, vI x6_8), (5, vI x5_6), (0, vR Y.1 a0), (2, vI x2), (3, vI x3), (4, vI x4)]) hC 6 dX9_spoken_79 rfl (by decide) e_10 rfl ?_
          refine r_goto hC 34 dX9_spoken_82 (by decide) ?_
          refine r_sub [3, 4, 5, 6, 2, 1, 0] rfl ?_
          exact ih _ _ _ _ h
set_option maxHeartbeats 4000000 in
set_option maxRecDepth 100000 in
theorem tX9_spoken_J115 {X : Cx} {Y : Yx} {M0 : Mem} {Γ : Nat → List Int → Mem → (Int → Mem → Prop) → Prop} {d : Nat} (hC : OKX X Y RX9 cX9_spoken 8 (some .int) (rmX9_spoken (d + 1))) (hF : Y.2.2.2.2 = true) (hL : Lay M0) (a0 : Nat) (hG0 : ∀ (x0 : Int) (x1 : Int) (x2 : Int) (x3 : Int) (M : Mem) (Q : Int → Mem → Prop), (0 < a0 ∧ M 0 a0 = kO 9) → Γ 0 [x0, x1, x2, x3] M Q → CT Y X.2.1 yX9_spoken cX9_spoken 8 (some .int) (rmX9_spoken d) [vR Y.1 a0, vI x0, vI x1, vI x2, vI x3] M (QI Q)) (hG1 : ∀ (x0 : Int) (x1 : Int) (x2 : Int) (M : Mem) (Q : Int → Mem → Prop), (0 < a0 ∧ M 0 a0 = kO 9) → Γ 1 [x0, x1, x2] M Q → CT Y X.2.1 yX9_bodyOf cX9_bodyOf 4 (some .int) (rmX9_bodyOf d) [vR Y.1 a0, vI x0, vI x1, vI x2] M (QI Q)) (Q : Int → Mem → Prop)   (x3 : Int) (x4 : Int) (x5 : Int) (qa0 : 0 < a0 ∧ M0 0 a0 = kO 9)  (M : Mem) (h : wX9_spoken_J115 Γ Q  a0 x3 x4 x5 M) : WW X Y 8 (rmX9_spoken (d + 1)) (QI Q) M0 0 0 115 [(0, vR Y.1 a0), (3, vI x3), (4, vI x4), (5, vI x5)] [] M := by
  unfold wX9_spoken_J115 at h
  refine r_aload_n hC 0 dX9_spoken_115 rfl rfl ?_
  refine r_iload hC 3 dX9_spoken_116 rfl ?_
  refine r_iload_n hC 1 dX9_spoken_118 rfl rfl ?_
  refine r_iload hC 2 dX9_spoken_119 rfl ?_
  refine r_iconst hC dX9_spoken_121 ?_
  refine r_iadd hC dX9_spoken_122 ?_
  refine r_callV (As := [vI x5, vI x3, vI (x4 + 1)]) (st := []) hC cw_X9_54 rfl qa0.1 qa0.2 rfl rfl (Nat.le_of_ble_eq_true rfl) (by constructor <;> simp only [rmX9_spoken, rmX9_bodyOf] <;> omega) ⟨Nat.le_of_ble_eq_true rfl, Nat.le_of_ble_eq_true rfl⟩ dX9_spoken_123 (fun hk => hG1 _ _ _ _ _ (kqO hk qa0) h) (fun v M_13 h => ?_)
  obtain ⟨r_14, rfl, h⟩ := h
  exact r_iret hC (Nat.zero_le _) (Nat.zero_le _) dX9_spoken_126 ⟨_, rfl, h⟩
set_option maxHeartbeats 4000000 in
set_option maxRecDepth 100000 in
theorem tX9_spoken_J85 {X : Cx} {Y : Yx} {M0 : Mem} {Γ : Nat → List Int → Mem → (Int → Mem → Prop) → Prop} {d : Nat} (hC : OKX X Y RX9 cX9_spoken 8 (some .int) (rmX9_spoken (d + 1))) (hF : Y.2.2.2.2 = true) (hL : Lay M0) (a0 : Nat) (hG0 : ∀ (x0 : Int) (x1 : Int) (x2 : Int) (x3 : Int) (M : Mem) (Q : Int → Mem → Prop), (0 < a0 ∧ M 0 a0 = kO 9) → Γ 0 [x0, x1, x2, x3] M Q → CT Y X.2.1 yX9_spoken cX9_spoken 8 (some .int) (rmX9_spoken d) [vR Y.1 a0, vI x0, vI x1, vI x2, vI x3] M (QI Q)) (hG1 : ∀ (x0 : Int) (x1 : Int) (x2 : Int) (M : Mem) (Q : Int → Mem → Prop), (0 < a0 ∧ M 0 a0 = kO 9) → Γ 1 [x0, x1, x2] M Q → CT Y X.2.1 yX9_bodyOf cX9_bodyOf 4 (some .int) (rmX9_bodyOf d) [vR Y.1 a0, vI x0, vI x1, vI x2] M (QI Q)) (Q : Int → Mem → Prop)   (x3 : Int) (x4 : Int) (x5 : Int) (qa0 : 0 < a0 ∧ M0 0 a0 = kO 9)  (M : Mem) (h : wX9_spoken_J85 Γ Q  a0 x3 x4 x5 M) : WW X Y 8 (rmX9_spoken (d + 1)) (QI Q) M0 0 0 85 [(0, vR Y.1 a0), (3, vI x3), (4, vI x4), (5, vI x5)] [] M := by
  unfold wX9_spoken_J85 at h
  refine r_aload_n hC 0 dX9_spoken_85 rfl rfl ?_
  refine r_getI hC fg_X9_33 rfl qa0.1 qa0.2 dX9_spoken_86 ?_
  refine r_bipush hC (by decide +kernel) dX9_spoken_89 ?_
  refine r_icmp_ge hC 115 rfl bmL_30 dX9_spoken_91 (by decide) (fun cq => ?_) (fun cq => ?_)
  · replace h := h.1 cq
    refine r_sub [0, 1, 2, 3] rfl ?_
    exact tX9_spoken_J115 hC hF hL _ hG0 hG1 Q   _ _ _ qa0  _ h
  · replace h := h.2 cq
    refine r_aload_n hC 0 dX9_spoken_94 rfl rfl ?_
    have q_15 : 0 < a0 + 1 ∧ M0 0 (a0 + 1) = kA 0 30 := lay_f0 (a := a0) hL qa0 fm_9_0
    refine r_getR0 (a' := a0 + 1) hC fg_X9_9 rfl hF fm_9_0 qa0.1 qa0.2 rfl dX9_spoken_95 ?_
    refine r_aload_n hC 0 dX9_spoken_98 rfl rfl ?_
    refine r_getI hC fg_X9_33 rfl qa0.1 qa0.2 dX9_spoken_99 ?_
    refine r_iload hC 3 dX9_spoken_102 rfl ?_
    obtain ⟨i_16, h⟩ := h
    refine r_iast hC i_16 q_15.1 q_15.2 (by decide) dX9_spoken_104 ?_
    refine r_nameM h (fun M_17 h => ?_)
    refine r_aload_n hC 0 dX9_spoken_105 rfl rfl ?_
    refine r_dup hC rfl dX9_spoken_106 ?_
    refine r_getI hC fg_X9_33 rfl qa0.1 qa0.2 dX9_spoken_107 ?_
    refine r_iconst hC dX9_spoken_110 ?_
    refine r_iadd hC dX9_spoken_111 ?_
    refine r_putI hC fp_X9_33 rfl qa0.1 qa0.2 dX9_spoken_112 ?_
    refine r_nameM h (fun M_18 h => ?_)
    refine r_sub [0, 1, 2, 3] rfl ?_
    exact tX9_spoken_J115 hC hF hL _ hG0 hG1 Q   _ _ _ qa0  _ h
set_option maxHeartbeats 4000000 in
set_option maxRecDepth 100000 in
theorem mbX9_spoken (Y : Yx) (hF : Y.2.2.2.2 = true) (l : Launch) {Γ : Nat → List Int → Mem → (Int → Mem → Prop) → Prop} {d : Nat} (a0 : Nat) (x1 : Int) (x2 : Int) (x3 : Int) (x4 : Int) (hG0 : ∀ (x0 : Int) (x1 : Int) (x2 : Int) (x3 : Int) (M : Mem) (Q : Int → Mem → Prop), (0 < a0 ∧ M 0 a0 = kO 9) → Γ 0 [x0, x1, x2, x3] M Q → CT Y l yX9_spoken cX9_spoken 8 (some .int) (rmX9_spoken d) [vR Y.1 a0, vI x0, vI x1, vI x2, vI x3] M (QI Q)) (hG1 : ∀ (x0 : Int) (x1 : Int) (x2 : Int) (M : Mem) (Q : Int → Mem → Prop), (0 < a0 ∧ M 0 a0 = kO 9) → Γ 1 [x0, x1, x2] M Q → CT Y l yX9_bodyOf cX9_bodyOf 4 (some .int) (rmX9_bodyOf d) [vR Y.1 a0, vI x0, vI x1, vI x2] M (QI Q)) (M0 : Mem) (Q : Int → Mem → Prop) (qa0 : 0 < a0 ∧ M0 0 a0 = kO 9) (h : wbX9_spoken Γ a0 x1 x2 x3 x4 M0 Q) : CT Y l yX9_spoken cX9_spoken 8 (some .int) (rmX9_spoken (d + 1)) [vR Y.1 a0, vI x1, vI x2, vI x3, vI x4] M0 (QI Q) := by
  unfold wbX9_spoken at h
  refine ct_intro (by decide) (Nat.le_of_ble_eq_true rfl) ?_
  intro X hXl hC hL0
  have hL := hL0 hF
  change OKX X Y RX9 cX9_spoken 8 (some .int) (rmX9_spoken (d + 1)) at hC
  subst hXl
  change WW X Y 8 (rmX9_spoken (d + 1)) (QI Q) M0 0 0 0 [(0, vR Y.1 a0), (1, vI x1), (2, vI x2), (3, vI x3), (4, vI x4)] [] M0
  refine r_aload_n hC 0 dX9_spoken_0 rfl rfl ?_
  refine r_getI hC fg_X9_36 rfl qa0.1 qa0.2 dX9_spoken_1 ?_
  refine r_if_ne hC 23 rfl dX9_spoken_4 (by decide) (fun cq => ?_) (fun cq => ?_)
  · replace h := h.2 cq
    refine r_iconst hC dX9_spoken_23 ?_
    exact r_iret hC (Nat.zero_le _) (Nat.zero_le _) dX9_spoken_24 ⟨_, rfl, h⟩
  · replace h := h.1 cq
    refine r_iload hC 4 dX9_spoken_7 rfl ?_
    refine r_bipush hC (by decide +kernel) dX9_spoken_9 ?_
    refine r_icmp_gt hC 23 rfl bmL_40 dX9_spoken_11 (by decide) (fun cq => ?_) (fun cq => ?_)
    · replace h := h.1 cq
      refine r_iconst hC dX9_spoken_23 ?_
      exact r_iret hC (Nat.zero_le _) (Nat.zero_le _) dX9_spoken_24 ⟨_, rfl, h⟩
    · replace h := h.2 cq
      refine r_iload_n hC 2 dX9_spoken_14 rfl rfl ?_
      refine r_iconst hC dX9_spoken_15 ?_
      refine r_iconst hC dX9_spoken_16 ?_
      refine r_callN (As := [vI x2, vI 0, vI 3]) (st := []) hC cw_X9_44 rfl rfl (Nat.le_of_ble_eq_true rfl) (by constructor <;> simp only [rmX9_spoken, rmX11_within] <;> omega) ⟨Nat.le_of_ble_eq_true rfl, Nat.le_of_ble_eq_true rfl⟩ dX9_spoken_17 (fun hk => mX11_within Y hF _ _ _ _ _ _  h) (fun v M_1 h => ?_)
      obtain ⟨r_2, rfl, h⟩ := h
      refine r_if_ne hC 25 rfl dX9_spoken_20 (by decide) (fun cq => ?_) (fun cq => ?_)
      · replace h := h.2 cq
        refine r_iconst hC dX9_spoken_25 ?_
        refine r_istore (lv' := [(5, vI 0), (0, vR Y.1 a0), (1, vI x1), (2, vI x2), (3, vI x3), (4, vI x4)]) hC dX9_spoken_26 (by decide) rfl ?_
        refine r_iload_n hC 2 dX9_spoken_28 rfl rfl ?_
        refine r_istore (lv' := [(6, vI x1), (5, vI 0), (0, vR Y.1 a0), (1, vI x1), (2, vI x2), (3, vI x3), (4, vI x4)]) hC dX9_spoken_29 (by decide) rfl ?_
        refine r_iconst hC dX9_spoken_31 ?_
        refine r_istore (lv' := [(7, vI 0), (6, vI x1), (5, vI 0), (0, vR Y.1 a0), (1, vI x1), (2, vI x2), (3, vI x3), (4, vI x4)]) hC dX9_spoken_32 (by decide) rfl ?_
        refine r_sub [3, 5, 6, 7, 2, 1, 0] rfl ?_
        obtain ⟨N_19, h⟩ := h
        refine tX9_spoken_L34 hC hF hL _ hG0 hG1 Q _ _ _ _ qa0 ?_ N_19 _ _ _ _ h
        · intro x5_11 M_12 h
          refine r_sub [0, 1, 2, 3] rfl ?_
          exact tX9_spoken_J85 hC hF hL _ hG0 hG1 Q   _ _ _ qa0  _ h
      · replace h := h.1 cq
        refine r_iconst hC dX9_spoken_23 ?_
        exact r_iret hC (Nat.zero_le _) (Nat.zero_le _) dX9_spoken_24 ⟨_, rfl, h⟩
theorem dX9_bodyOf_0 : dec cX9_bodyOf 0 1 1 (.iload_n 1) := ⟨by decide +kernel, rfl⟩
theorem dX9_bodyOf_1 : dec cX9_bodyOf 1 123 124 (.lookupswitch 322 #[(10, 123), (11, 130), (12, 144), (13, 161), (20, 176), (21, 190), (30, 211), (40, 222), (50, 233), (51, 244), (60, 258), (61, 269), (62, 290), (70, 311)]) := ⟨by decide +kernel, rfl⟩
theorem dX9_bodyOf_124 : dec cX9_bodyOf 124 1 125 (.iload_n 2) := ⟨by decide +kernel, rfl⟩
theorem dX9_bodyOf_125 : dec cX9_bodyOf 125 1 126 (.aload_n 0) := ⟨by decide +kernel, rfl⟩
theorem dX9_bodyOf_126 : dec cX9_bodyOf 126 3 129 (.getfield 25) := ⟨by decide +kernel, rfl⟩
theorem dX9_bodyOf_129 : dec cX9_bodyOf 129 1 130 (.iadd) := ⟨by decide +kernel, rfl⟩
theorem dX9_bodyOf_130 : dec cX9_bodyOf 130 1 131 (.ireturn) := ⟨by decide +kernel, rfl⟩
theorem dX9_bodyOf_131 : dec cX9_bodyOf 131 1 132 (.aload_n 0) := ⟨by decide +kernel, rfl⟩
theorem dX9_bodyOf_132 : dec cX9_bodyOf 132 1 133 (.aload_n 0) := ⟨by decide +kernel, rfl⟩
theorem dX9_bodyOf_133 : dec cX9_bodyOf 133 3 136 (.getfield 21) := ⟨by decide +kernel, rfl⟩
theorem dX9_bodyOf_136 : dec cX9_bodyOf 136 1 137 (.iconst 0) := ⟨by decide +kernel, rfl⟩
theorem dX9_bodyOf_137 : dec cX9_bodyOf 137 1 138 (.iload_n 2) := ⟨by decide +kernel, rfl⟩
theorem dX9_bodyOf_138 : dec cX9_bodyOf 138 1 139 (.iload_n 3) := ⟨by decide +kernel, rfl⟩
theorem dX9_bodyOf_139 : dec cX9_bodyOf 139 3 142 (.invokevirtual 40) := ⟨by decide +kernel, rfl⟩
theorem dX9_bodyOf_142 : dec cX9_bodyOf 142 1 143 (.iconst 2) := ⟨by decide +kernel, rfl⟩
theorem dX9_bodyOf_143 : dec cX9_bodyOf 143 1 144 (.imul) := ⟨by decide +kernel, rfl⟩
theorem dX9_bodyOf_144 : dec cX9_bodyOf 144 1 145 (.ireturn) := ⟨by decide +kernel, rfl⟩
theorem dX9_bodyOf_145 : dec cX9_bodyOf 145 1 146 (.aload_n 0) := ⟨by decide +kernel, rfl⟩
theorem dX9_bodyOf_146 : dec cX9_bodyOf 146 1 147 (.aload_n 0) := ⟨by decide +kernel, rfl⟩
theorem dX9_bodyOf_147 : dec cX9_bodyOf 147 3 150 (.getfield 21) := ⟨by decide +kernel, rfl⟩
theorem dX9_bodyOf_150 : dec cX9_bodyOf 150 1 151 (.iconst 1) := ⟨by decide +kernel, rfl⟩
theorem dX9_bodyOf_151 : dec cX9_bodyOf 151 1 152 (.iload_n 2) := ⟨by decide +kernel, rfl⟩
theorem dX9_bodyOf_152 : dec cX9_bodyOf 152 1 153 (.iload_n 3) := ⟨by decide +kernel, rfl⟩
theorem dX9_bodyOf_153 : dec cX9_bodyOf 153 3 156 (.invokevirtual 40) := ⟨by decide +kernel, rfl⟩
theorem dX9_bodyOf_156 : dec cX9_bodyOf 156 1 157 (.aload_n 0) := ⟨by decide +kernel, rfl⟩
theorem dX9_bodyOf_157 : dec cX9_bodyOf 157 3 160 (.getfield 30) := ⟨by decide +kernel, rfl⟩
theorem dX9_bodyOf_160 : dec cX9_bodyOf 160 1 161 (.isub) := ⟨by decide +kernel, rfl⟩
theorem dX9_bodyOf_161 : dec cX9_bodyOf 161 1 162 (.ireturn) := ⟨by decide +kernel, rfl⟩
theorem dX9_bodyOf_162 : dec cX9_bodyOf 162 1 163 (.aload_n 0) := ⟨by decide +kernel, rfl⟩
theorem dX9_bodyOf_163 : dec cX9_bodyOf 163 1 164 (.iload_n 2) := ⟨by decide +kernel, rfl⟩
theorem dX9_bodyOf_164 : dec cX9_bodyOf 164 1 165 (.aload_n 0) := ⟨by decide +kernel, rfl⟩
theorem dX9_bodyOf_165 : dec cX9_bodyOf 165 3 168 (.getfield 29) := ⟨by decide +kernel, rfl⟩
theorem dX9_bodyOf_168 : dec cX9_bodyOf 168 1 169 (.aload_n 0) := ⟨by decide +kernel, rfl⟩
theorem dX9_bodyOf_169 : dec cX9_bodyOf 169 3 172 (.getfield 30) := ⟨by decide +kernel, rfl⟩
theorem dX9_bodyOf_172 : dec cX9_bodyOf 172 1 173 (.isub) := ⟨by decide +kernel, rfl⟩
theorem dX9_bodyOf_173 : dec cX9_bodyOf 173 3 176 (.invokevirtual 58) := ⟨by decide +kernel, rfl⟩
theorem dX9_bodyOf_176 : dec cX9_bodyOf 176 1 177 (.ireturn) := ⟨by decide +kernel, rfl⟩
theorem dX9_bodyOf_177 : dec cX9_bodyOf 177 1 178 (.aload_n 0) := ⟨by decide +kernel, rfl⟩
theorem dX9_bodyOf_178 : dec cX9_bodyOf 178 1 179 (.iconst 0) := ⟨by decide +kernel, rfl⟩
theorem dX9_bodyOf_179 : dec cX9_bodyOf 179 1 180 (.iconst 1) := ⟨by decide +kernel, rfl⟩
theorem dX9_bodyOf_180 : dec cX9_bodyOf 180 1 181 (.iload_n 2) := ⟨by decide +kernel, rfl⟩
theorem dX9_bodyOf_181 : dec cX9_bodyOf 181 1 182 (.iload_n 3) := ⟨by decide +kernel, rfl⟩
theorem dX9_bodyOf_182 : dec cX9_bodyOf 182 3 185 (.invokevirtual 40) := ⟨by decide +kernel, rfl⟩
theorem dX9_bodyOf_185 : dec cX9_bodyOf 185 1 186 (.aload_n 0) := ⟨by decide +kernel, rfl⟩
theorem dX9_bodyOf_186 : dec cX9_bodyOf 186 3 189 (.getfield 29) := ⟨by decide +kernel, rfl⟩
theorem dX9_bodyOf_189 : dec cX9_bodyOf 189 1 190 (.iadd) := ⟨by decide +kernel, rfl⟩
theorem dX9_bodyOf_190 : dec cX9_bodyOf 190 1 191 (.ireturn) := ⟨by decide +kernel, rfl⟩
theorem dX9_bodyOf_191 : dec cX9_bodyOf 191 1 192 (.aload_n 0) := ⟨by decide +kernel, rfl⟩
theorem dX9_bodyOf_192 : dec cX9_bodyOf 192 1 193 (.iconst 0) := ⟨by decide +kernel, rfl⟩
theorem dX9_bodyOf_193 : dec cX9_bodyOf 193 1 194 (.iconst 3) := ⟨by decide +kernel, rfl⟩
theorem dX9_bodyOf_194 : dec cX9_bodyOf 194 1 195 (.iload_n 2) := ⟨by decide +kernel, rfl⟩
theorem dX9_bodyOf_195 : dec cX9_bodyOf 195 1 196 (.iload_n 3) := ⟨by decide +kernel, rfl⟩
theorem dX9_bodyOf_196 : dec cX9_bodyOf 196 3 199 (.invokevirtual 40) := ⟨by decide +kernel, rfl⟩
theorem dX9_bodyOf_199 : dec cX9_bodyOf 199 1 200 (.aload_n 0) := ⟨by decide +kernel, rfl⟩
theorem dX9_bodyOf_200 : dec cX9_bodyOf 200 1 201 (.aload_n 0) := ⟨by decide +kernel, rfl⟩
theorem dX9_bodyOf_201 : dec cX9_bodyOf 201 3 204 (.getfield 21) := ⟨by decide +kernel, rfl⟩
theorem dX9_bodyOf_204 : dec cX9_bodyOf 204 1 205 (.iconst 2) := ⟨by decide +kernel, rfl⟩
theorem dX9_bodyOf_205 : dec cX9_bodyOf 205 1 206 (.iconst 1) := ⟨by decide +kernel, rfl⟩
theorem dX9_bodyOf_206 : dec cX9_bodyOf 206 1 207 (.iload_n 3) := ⟨by decide +kernel, rfl⟩
theorem dX9_bodyOf_207 : dec cX9_bodyOf 207 3 210 (.invokevirtual 40) := ⟨by decide +kernel, rfl⟩
theorem dX9_bodyOf_210 : dec cX9_bodyOf 210 1 211 (.iadd) := ⟨by decide +kernel, rfl⟩
theorem dX9_bodyOf_211 : dec cX9_bodyOf 211 1 212 (.ireturn) := ⟨by decide +kernel, rfl⟩
theorem dX9_bodyOf_212 : dec cX9_bodyOf 212 1 213 (.aload_n 0) := ⟨by decide +kernel, rfl⟩
theorem dX9_bodyOf_213 : dec cX9_bodyOf 213 1 214 (.iconst 0) := ⟨by decide +kernel, rfl⟩
theorem dX9_bodyOf_214 : dec cX9_bodyOf 214 1 215 (.iconst 0) := ⟨by decide +kernel, rfl⟩
theorem dX9_bodyOf_215 : dec cX9_bodyOf 215 1 216 (.iload_n 2) := ⟨by decide +kernel, rfl⟩
theorem dX9_bodyOf_216 : dec cX9_bodyOf 216 1 217 (.iload_n 3) := ⟨by decide +kernel, rfl⟩
theorem dX9_bodyOf_217 : dec cX9_bodyOf 217 3 220 (.invokevirtual 40) := ⟨by decide +kernel, rfl⟩
theorem dX9_bodyOf_220 : dec cX9_bodyOf 220 1 221 (.iconst 2) := ⟨by decide +kernel, rfl⟩
theorem dX9_bodyOf_221 : dec cX9_bodyOf 221 1 222 (.idiv) := ⟨by decide +kernel, rfl⟩
theorem dX9_bodyOf_222 : dec cX9_bodyOf 222 1 223 (.ireturn) := ⟨by decide +kernel, rfl⟩
theorem dX9_bodyOf_223 : dec cX9_bodyOf 223 1 224 (.aload_n 0) := ⟨by decide +kernel, rfl⟩
theorem dX9_bodyOf_224 : dec cX9_bodyOf 224 1 225 (.iconst 0) := ⟨by decide +kernel, rfl⟩
theorem dX9_bodyOf_225 : dec cX9_bodyOf 225 1 226 (.iconst 2) := ⟨by decide +kernel, rfl⟩
theorem dX9_bodyOf_226 : dec cX9_bodyOf 226 1 227 (.iload_n 2) := ⟨by decide +kernel, rfl⟩
theorem dX9_bodyOf_227 : dec cX9_bodyOf 227 1 228 (.iconst 1) := ⟨by decide +kernel, rfl⟩
theorem dX9_bodyOf_228 : dec cX9_bodyOf 228 1 229 (.iadd) := ⟨by decide +kernel, rfl⟩
theorem dX9_bodyOf_229 : dec cX9_bodyOf 229 1 230 (.iload_n 3) := ⟨by decide +kernel, rfl⟩
theorem dX9_bodyOf_230 : dec cX9_bodyOf 230 3 233 (.invokevirtual 40) := ⟨by decide +kernel, rfl⟩
theorem dX9_bodyOf_233 : dec cX9_bodyOf 233 1 234 (.ireturn) := ⟨by decide +kernel, rfl⟩
theorem dX9_bodyOf_234 : dec cX9_bodyOf 234 1 235 (.iconst 0) := ⟨by decide +kernel, rfl⟩
theorem dX9_bodyOf_235 : dec cX9_bodyOf 235 1 236 (.aload_n 0) := ⟨by decide +kernel, rfl⟩
theorem dX9_bodyOf_236 : dec cX9_bodyOf 236 1 237 (.iconst 0) := ⟨by decide +kernel, rfl⟩
theorem dX9_bodyOf_237 : dec cX9_bodyOf 237 1 238 (.iconst 0) := ⟨by decide +kernel, rfl⟩
theorem dX9_bodyOf_238 : dec cX9_bodyOf 238 1 239 (.iload_n 2) := ⟨by decide +kernel, rfl⟩
theorem dX9_bodyOf_239 : dec cX9_bodyOf 239 1 240 (.iload_n 3) := ⟨by decide +kernel, rfl⟩
theorem dX9_bodyOf_240 : dec cX9_bodyOf 240 3 243 (.invokevirtual 40) := ⟨by decide +kernel, rfl⟩
theorem dX9_bodyOf_243 : dec cX9_bodyOf 243 1 244 (.isub) := ⟨by decide +kernel, rfl⟩
theorem dX9_bodyOf_244 : dec cX9_bodyOf 244 1 245 (.ireturn) := ⟨by decide +kernel, rfl⟩
theorem dX9_bodyOf_245 : dec cX9_bodyOf 245 1 246 (.aload_n 0) := ⟨by decide +kernel, rfl⟩
theorem dX9_bodyOf_246 : dec cX9_bodyOf 246 1 247 (.iconst 0) := ⟨by decide +kernel, rfl⟩
theorem dX9_bodyOf_247 : dec cX9_bodyOf 247 1 248 (.iconst 2) := ⟨by decide +kernel, rfl⟩
theorem dX9_bodyOf_248 : dec cX9_bodyOf 248 1 249 (.iload_n 2) := ⟨by decide +kernel, rfl⟩
theorem dX9_bodyOf_249 : dec cX9_bodyOf 249 1 250 (.iload_n 3) := ⟨by decide +kernel, rfl⟩
theorem dX9_bodyOf_250 : dec cX9_bodyOf 250 3 253 (.invokevirtual 40) := ⟨by decide +kernel, rfl⟩
theorem dX9_bodyOf_253 : dec cX9_bodyOf 253 1 254 (.aload_n 0) := ⟨by decide +kernel, rfl⟩
theorem dX9_bodyOf_254 : dec cX9_bodyOf 254 3 257 (.getfield 30) := ⟨by decide +kernel, rfl⟩
theorem dX9_bodyOf_257 : dec cX9_bodyOf 257 1 258 (.ixor) := ⟨by decide +kernel, rfl⟩
theorem dX9_bodyOf_258 : dec cX9_bodyOf 258 1 259 (.ireturn) := ⟨by decide +kernel, rfl⟩
theorem dX9_bodyOf_259 : dec cX9_bodyOf 259 1 260 (.aload_n 0) := ⟨by decide +kernel, rfl⟩
theorem dX9_bodyOf_260 : dec cX9_bodyOf 260 1 261 (.iconst 1) := ⟨by decide +kernel, rfl⟩
theorem dX9_bodyOf_261 : dec cX9_bodyOf 261 1 262 (.iconst 0) := ⟨by decide +kernel, rfl⟩
theorem dX9_bodyOf_262 : dec cX9_bodyOf 262 1 263 (.iload_n 2) := ⟨by decide +kernel, rfl⟩
theorem dX9_bodyOf_263 : dec cX9_bodyOf 263 1 264 (.iload_n 3) := ⟨by decide +kernel, rfl⟩
theorem dX9_bodyOf_264 : dec cX9_bodyOf 264 3 267 (.invokevirtual 40) := ⟨by decide +kernel, rfl⟩
theorem dX9_bodyOf_267 : dec cX9_bodyOf 267 1 268 (.iconst 3) := ⟨by decide +kernel, rfl⟩
theorem dX9_bodyOf_268 : dec cX9_bodyOf 268 1 269 (.imul) := ⟨by decide +kernel, rfl⟩
theorem dX9_bodyOf_269 : dec cX9_bodyOf 269 1 270 (.ireturn) := ⟨by decide +kernel, rfl⟩
theorem dX9_bodyOf_270 : dec cX9_bodyOf 270 1 271 (.aload_n 0) := ⟨by decide +kernel, rfl⟩
theorem dX9_bodyOf_271 : dec cX9_bodyOf 271 1 272 (.iconst 1) := ⟨by decide +kernel, rfl⟩
theorem dX9_bodyOf_272 : dec cX9_bodyOf 272 1 273 (.iconst 2) := ⟨by decide +kernel, rfl⟩
theorem dX9_bodyOf_273 : dec cX9_bodyOf 273 1 274 (.iload_n 2) := ⟨by decide +kernel, rfl⟩
theorem dX9_bodyOf_274 : dec cX9_bodyOf 274 1 275 (.iload_n 3) := ⟨by decide +kernel, rfl⟩
theorem dX9_bodyOf_275 : dec cX9_bodyOf 275 3 278 (.invokevirtual 40) := ⟨by decide +kernel, rfl⟩
theorem dX9_bodyOf_278 : dec cX9_bodyOf 278 1 279 (.aload_n 0) := ⟨by decide +kernel, rfl⟩
theorem dX9_bodyOf_279 : dec cX9_bodyOf 279 1 280 (.aload_n 0) := ⟨by decide +kernel, rfl⟩
theorem dX9_bodyOf_280 : dec cX9_bodyOf 280 3 283 (.getfield 21) := ⟨by decide +kernel, rfl⟩
theorem dX9_bodyOf_283 : dec cX9_bodyOf 283 1 284 (.iconst 0) := ⟨by decide +kernel, rfl⟩
theorem dX9_bodyOf_284 : dec cX9_bodyOf 284 1 285 (.iconst 2) := ⟨by decide +kernel, rfl⟩
theorem dX9_bodyOf_285 : dec cX9_bodyOf 285 1 286 (.iload_n 3) := ⟨by decide +kernel, rfl⟩
theorem dX9_bodyOf_286 : dec cX9_bodyOf 286 3 289 (.invokevirtual 40) := ⟨by decide +kernel, rfl⟩
theorem dX9_bodyOf_289 : dec cX9_bodyOf 289 1 290 (.isub) := ⟨by decide +kernel, rfl⟩
theorem dX9_bodyOf_290 : dec cX9_bodyOf 290 1 291 (.ireturn) := ⟨by decide +kernel, rfl⟩
theorem dX9_bodyOf_291 : dec cX9_bodyOf 291 1 292 (.aload_n 0) := ⟨by decide +kernel, rfl⟩
theorem dX9_bodyOf_292 : dec cX9_bodyOf 292 1 293 (.aload_n 0) := ⟨by decide +kernel, rfl⟩
theorem dX9_bodyOf_293 : dec cX9_bodyOf 293 3 296 (.getfield 21) := ⟨by decide +kernel, rfl⟩
theorem dX9_bodyOf_296 : dec cX9_bodyOf 296 1 297 (.iconst 1) := ⟨by decide +kernel, rfl⟩
theorem dX9_bodyOf_297 : dec cX9_bodyOf 297 1 298 (.iload_n 2) := ⟨by decide +kernel, rfl⟩
theorem dX9_bodyOf_298 : dec cX9_bodyOf 298 1 299 (.iload_n 3) := ⟨by decide +kernel, rfl⟩
theorem dX9_bodyOf_299 : dec cX9_bodyOf 299 3 302 (.invokevirtual 40) := ⟨by decide +kernel, rfl⟩
theorem dX9_bodyOf_302 : dec cX9_bodyOf 302 1 303 (.aload_n 0) := ⟨by decide +kernel, rfl⟩
theorem dX9_bodyOf_303 : dec cX9_bodyOf 303 1 304 (.iconst 1) := ⟨by decide +kernel, rfl⟩
theorem dX9_bodyOf_304 : dec cX9_bodyOf 304 1 305 (.iconst 3) := ⟨by decide +kernel, rfl⟩
theorem dX9_bodyOf_305 : dec cX9_bodyOf 305 1 306 (.iload_n 2) := ⟨by decide +kernel, rfl⟩
theorem dX9_bodyOf_306 : dec cX9_bodyOf 306 1 307 (.iload_n 3) := ⟨by decide +kernel, rfl⟩
theorem dX9_bodyOf_307 : dec cX9_bodyOf 307 3 310 (.invokevirtual 40) := ⟨by decide +kernel, rfl⟩
theorem dX9_bodyOf_310 : dec cX9_bodyOf 310 1 311 (.isub) := ⟨by decide +kernel, rfl⟩
theorem dX9_bodyOf_311 : dec cX9_bodyOf 311 1 312 (.ireturn) := ⟨by decide +kernel, rfl⟩
theorem dX9_bodyOf_312 : dec cX9_bodyOf 312 1 313 (.aload_n 0) := ⟨by decide +kernel, rfl⟩
theorem dX9_bodyOf_313 : dec cX9_bodyOf 313 1 314 (.iconst 0) := ⟨by decide +kernel, rfl⟩
theorem dX9_bodyOf_314 : dec cX9_bodyOf 314 1 315 (.iconst 1) := ⟨by decide +kernel, rfl⟩
theorem dX9_bodyOf_315 : dec cX9_bodyOf 315 1 316 (.iload_n 2) := ⟨by decide +kernel, rfl⟩
theorem dX9_bodyOf_316 : dec cX9_bodyOf 316 1 317 (.iconst 1) := ⟨by decide +kernel, rfl⟩
theorem dX9_bodyOf_317 : dec cX9_bodyOf 317 1 318 (.isub) := ⟨by decide +kernel, rfl⟩
theorem dX9_bodyOf_318 : dec cX9_bodyOf 318 1 319 (.iload_n 3) := ⟨by decide +kernel, rfl⟩
theorem dX9_bodyOf_319 : dec cX9_bodyOf 319 3 322 (.invokevirtual 40) := ⟨by decide +kernel, rfl⟩
theorem dX9_bodyOf_322 : dec cX9_bodyOf 322 1 323 (.ireturn) := ⟨by decide +kernel, rfl⟩
theorem dX9_bodyOf_323 : dec cX9_bodyOf 323 1 324 (.iconst 0) := ⟨by decide +kernel, rfl⟩
theorem dX9_bodyOf_324 : dec cX9_bodyOf 324 1 325 (.ireturn) := ⟨by decide +kernel, rfl⟩
set_option maxHeartbeats 4000000 in
set_option maxRecDepth 100000 in
theorem mbX9_bodyOf (Y : Yx) (hF : Y.2.2.2.2 = true) (l : Launch) {Γ : Nat → List Int → Mem → (Int → Mem → Prop) → Prop} {d : Nat} (a0 : Nat) (x1 : Int) (x2 : Int) (x3 : Int) (hG0 : ∀ (x0 : Int) (x1 : Int) (x2 : Int) (x3 : Int) (M : Mem) (Q : Int → Mem → Prop), (0 < a0 ∧ M 0 a0 = kO 9) → Γ 0 [x0, x1, x2, x3] M Q → CT Y l yX9_spoken cX9_spoken 8 (some .int) (rmX9_spoken d) [vR Y.1 a0, vI x0, vI x1, vI x2, vI x3] M (QI Q)) (hG1 : ∀ (x0 : Int) (x1 : Int) (x2 : Int) (M : Mem) (Q : Int → Mem → Prop), (0 < a0 ∧ M 0 a0 = kO 9) → Γ 1 [x0, x1, x2] M Q → CT Y l yX9_bodyOf cX9_bodyOf 4 (some .int) (rmX9_bodyOf d) [vR Y.1 a0, vI x0, vI x1, vI x2] M (QI Q)) (M0 : Mem) (Q : Int → Mem → Prop) (qa0 : 0 < a0 ∧ M0 0 a0 = kO 9) (h : wbX9_bodyOf Γ a0 x1 x2 x3 M0 Q) : CT Y l yX9_bodyOf cX9_bodyOf 4 (some .int) (rmX9_bodyOf (d + 1)) [vR Y.1 a0, vI x1, vI x2, vI x3] M0 (QI Q) := by
  unfold wbX9_bodyOf at h
  refine ct_intro (by decide) (Nat.le_of_ble_eq_true rfl) ?_
  intro X hXl hC hL0
  have hL := hL0 hF
  change OKX X Y RX9 cX9_bodyOf 4 (some .int) (rmX9_bodyOf (d + 1)) at hC
  subst hXl
  change WW X Y 4 (rmX9_bodyOf (d + 1)) (QI Q) M0 0 0 0 [(0, vR Y.1 a0), (1, vI x1), (2, vI x2), (3, vI x3)] [] M0
  refine r_iload_n hC 1 dX9_bodyOf_0 rfl rfl ?_
  by_cases c0 : bm x1 = 10
  · replace h := h.1 c0
    refine r_lookup hC 124 dX9_bodyOf_1 (by decide +kernel) (off := 123) (by rw [c0]; rfl) (by decide) ?_
    refine r_iload_n hC 2 dX9_bodyOf_124 rfl rfl ?_
    refine r_aload_n hC 0 dX9_bodyOf_125 rfl rfl ?_
    refine r_getI hC fg_X9_25 rfl qa0.1 qa0.2 dX9_bodyOf_126 ?_
    refine r_iadd hC dX9_bodyOf_129 ?_
    exact r_iret hC (Nat.zero_le _) (Nat.zero_le _) dX9_bodyOf_130 ⟨_, rfl, h⟩
  · replace h := h.2 c0
    by_cases c1 : bm x1 = 11
    · replace h := h.1 c1
      refine r_lookup hC 131 dX9_bodyOf_1 (by decide +kernel) (off := 130) (by rw [c1]; rfl) (by decide) ?_
      refine r_aload_n hC 0 dX9_bodyOf_131 rfl rfl ?_
      refine r_aload_n hC 0 dX9_bodyOf_132 rfl rfl ?_
      refine r_getI hC fg_X9_21 rfl qa0.1 qa0.2 dX9_bodyOf_133 ?_
      refine r_iconst hC dX9_bodyOf_136 ?_
      refine r_iload_n hC 2 dX9_bodyOf_137 rfl rfl ?_
      refine r_iload_n hC 3 dX9_bodyOf_138 rfl rfl ?_
      refine r_callV (As := [vI (M0 a0 3), vI 0, vI x2, vI x3]) (st := []) hC cw_X9_40 rfl qa0.1 qa0.2 rfl rfl (Nat.le_of_ble_eq_true rfl) (by constructor <;> simp only [rmX9_bodyOf, rmX9_spoken] <;> omega) ⟨Nat.le_of_ble_eq_true rfl, Nat.le_of_ble_eq_true rfl⟩ dX9_bodyOf_139 (fun hk => hG0 _ _ _ _ _ _ (kqO hk qa0) h) (fun v M_1 h => ?_)
      obtain ⟨r_2, rfl, h⟩ := h
      refine r_iconst hC dX9_bodyOf_142 ?_
      refine r_imul hC dX9_bodyOf_143 ?_
      exact r_iret hC (Nat.zero_le _) (Nat.zero_le _) dX9_bodyOf_144 ⟨_, rfl, h⟩
    · replace h := h.2 c1
      by_cases c2 : bm x1 = 12
      · replace h := h.1 c2
        refine r_lookup hC 145 dX9_bodyOf_1 (by decide +kernel) (off := 144) (by rw [c2]; rfl) (by decide) ?_
        refine r_aload_n hC 0 dX9_bodyOf_145 rfl rfl ?_
        refine r_aload_n hC 0 dX9_bodyOf_146 rfl rfl ?_
        refine r_getI hC fg_X9_21 rfl qa0.1 qa0.2 dX9_bodyOf_147 ?_
        refine r_iconst hC dX9_bodyOf_150 ?_
        refine r_iload_n hC 2 dX9_bodyOf_151 rfl rfl ?_
        refine r_iload_n hC 3 dX9_bodyOf_152 rfl rfl ?_
        refine r_callV (As := [vI (M0 a0 3), vI 1, vI x2, vI x3]) (st := []) hC cw_X9_40 rfl qa0.1 qa0.2 rfl rfl (Nat.le_of_ble_eq_true rfl) (by constructor <;> simp only [rmX9_bodyOf, rmX9_spoken] <;> omega) ⟨Nat.le_of_ble_eq_true rfl, Nat.le_of_ble_eq_true rfl⟩ dX9_bodyOf_153 (fun hk => hG0 _ _ _ _ _ _ (kqO hk qa0) h) (fun v M_3 h => ?_)
        obtain ⟨r_4, rfl, h⟩ := h
        refine r_aload_n hC 0 dX9_bodyOf_156 rfl rfl ?_
        refine r_getI hC fg_X9_30 rfl qa0.1 qa0.2 dX9_bodyOf_157 ?_
        refine r_isub hC dX9_bodyOf_160 ?_
        exact r_iret hC (Nat.zero_le _) (Nat.zero_le _) dX9_bodyOf_161 ⟨_, rfl, h⟩
      · replace h := h.2 c2
        by_cases c3 : bm x1 = 13
        · replace h := h.1 c3
          refine r_lookup hC 162 dX9_bodyOf_1 (by decide +kernel) (off := 161) (by rw [c3]; rfl) (by decide) ?_
          refine r_aload_n hC 0 dX9_bodyOf_162 rfl rfl ?_
          refine r_iload_n hC 2 dX9_bodyOf_163 rfl rfl ?_
          refine r_aload_n hC 0 dX9_bodyOf_164 rfl rfl ?_
          refine r_getI hC fg_X9_29 rfl qa0.1 qa0.2 dX9_bodyOf_165 ?_
          refine r_aload_n hC 0 dX9_bodyOf_168 rfl rfl ?_
          refine r_getI hC fg_X9_30 rfl qa0.1 qa0.2 dX9_bodyOf_169 ?_
          refine r_isub hC dX9_bodyOf_172 ?_
          refine r_callV (As := [vI x2, vI ((M0 a0 5) - (M0 a0 6))]) (st := []) hC cw_X9_58 rfl qa0.1 qa0.2 rfl rfl (Nat.le_of_ble_eq_true rfl) (by constructor <;> simp only [rmX9_bodyOf, rmX9_partedBy] <;> omega) ⟨Nat.le_of_ble_eq_true rfl, Nat.le_of_ble_eq_true rfl⟩ dX9_bodyOf_173 (fun hk => mX9_partedBy Y hF _ _ _ _ _ _ (kqO hk qa0) h) (fun v M_5 h => ?_)
          obtain ⟨r_6, rfl, h⟩ := h
          exact r_iret hC (Nat.zero_le _) (Nat.zero_le _) dX9_bodyOf_176 ⟨_, rfl, h⟩
        · replace h := h.2 c3
          by_cases c4 : bm x1 = 20
          · replace h := h.1 c4
            refine r_lookup hC 177 dX9_bodyOf_1 (by decide +kernel) (off := 176) (by rw [c4]; rfl) (by decide) ?_
            refine r_aload_n hC 0 dX9_bodyOf_177 rfl rfl ?_
            refine r_iconst hC dX9_bodyOf_178 ?_
            refine r_iconst hC dX9_bodyOf_179 ?_
            refine r_iload_n hC 2 dX9_bodyOf_180 rfl rfl ?_
            refine r_iload_n hC 3 dX9_bodyOf_181 rfl rfl ?_
            refine r_callV (As := [vI 0, vI 1, vI x2, vI x3]) (st := []) hC cw_X9_40 rfl qa0.1 qa0.2 rfl rfl (Nat.le_of_ble_eq_true rfl) (by constructor <;> simp only [rmX9_bodyOf, rmX9_spoken] <;> omega) ⟨Nat.le_of_ble_eq_true rfl, Nat.le_of_ble_eq_true rfl⟩ dX9_bodyOf_182 (fun hk => hG0 _ _ _ _ _ _ (kqO hk qa0) h) (fun v M_7 h => ?_)
            obtain ⟨r_8, rfl, h⟩ := h
            refine r_aload_n hC 0 dX9_bodyOf_185 rfl rfl ?_
            refine r_getI hC fg_X9_29 rfl qa0.1 qa0.2 dX9_bodyOf_186 ?_
            refine r_iadd hC dX9_bodyOf_189 ?_
            exact r_iret hC (Nat.zero_le _) (Nat.zero_le _) dX9_bodyOf_190 ⟨_, rfl, h⟩
          · replace h := h.2 c4
            by_cases c5 : bm x1 = 21
            · replace h := h.1 c5
              refine r_lookup hC 191 dX9_bodyOf_1 (by decide +kernel) (off := 190) (by rw [c5]; rfl) (by decide) ?_
              refine r_aload_n hC 0 dX9_bodyOf_191 rfl rfl ?_
              refine r_iconst hC dX9_bodyOf_192 ?_
              refine r_iconst hC dX9_bodyOf_193 ?_
              refine r_iload_n hC 2 dX9_bodyOf_194 rfl rfl ?_
              refine r_iload_n hC 3 dX9_bodyOf_195 rfl rfl ?_
              refine r_callV (As := [vI 0, vI 3, vI x2, vI x3]) (st := []) hC cw_X9_40 rfl qa0.1 qa0.2 rfl rfl (Nat.le_of_ble_eq_true rfl) (by constructor <;> simp only [rmX9_bodyOf, rmX9_spoken] <;> omega) ⟨Nat.le_of_ble_eq_true rfl, Nat.le_of_ble_eq_true rfl⟩ dX9_bodyOf_196 (fun hk => hG0 _ _ _ _ _ _ (kqO hk qa0) h) (fun v M_9 h => ?_)
              obtain ⟨r_10, rfl, h⟩ := h
              refine r_aload_n hC 0 dX9_bodyOf_199 rfl rfl ?_
              refine r_aload_n hC 0 dX9_bodyOf_200 rfl rfl ?_
              refine r_getI hC fg_X9_21 rfl qa0.1 qa0.2 dX9_bodyOf_201 ?_
              refine r_iconst hC dX9_bodyOf_204 ?_
              refine r_iconst hC dX9_bodyOf_205 ?_
              refine r_iload_n hC 3 dX9_bodyOf_206 rfl rfl ?_
              refine r_callV (As := [vI (M_9 a0 3), vI 2, vI 1, vI x3]) (st := [vI r_10]) hC cw_X9_40 rfl qa0.1 qa0.2 rfl rfl (Nat.le_of_ble_eq_true rfl) (by constructor <;> simp only [rmX9_bodyOf, rmX9_spoken] <;> omega) ⟨Nat.le_of_ble_eq_true rfl, Nat.le_of_ble_eq_true rfl⟩ dX9_bodyOf_207 (fun hk => hG0 _ _ _ _ _ _ (kqO hk qa0) h) (fun v M_11 h => ?_)
              obtain ⟨r_12, rfl, h⟩ := h
              refine r_iadd hC dX9_bodyOf_210 ?_
              exact r_iret hC (Nat.zero_le _) (Nat.zero_le _) dX9_bodyOf_211 ⟨_, rfl, h⟩
            · replace h := h.2 c5
              by_cases c6 : bm x1 = 30
              · replace h := h.1 c6
                refine r_lookup hC 212 dX9_bodyOf_1 (by decide +kernel) (off := 211) (by rw [c6]; rfl) (by decide) ?_
                refine r_aload_n hC 0 dX9_bodyOf_212 rfl rfl ?_
                refine r_iconst hC dX9_bodyOf_213 ?_
                refine r_iconst hC dX9_bodyOf_214 ?_
                refine r_iload_n hC 2 dX9_bodyOf_215 rfl rfl ?_
                refine r_iload_n hC 3 dX9_bodyOf_216 rfl rfl ?_
                refine r_callV (As := [vI 0, vI 0, vI x2, vI x3]) (st := []) hC cw_X9_40 rfl qa0.1 qa0.2 rfl rfl (Nat.le_of_ble_eq_true rfl) (by constructor <;> simp only [rmX9_bodyOf, rmX9_spoken] <;> omega) ⟨Nat.le_of_ble_eq_true rfl, Nat.le_of_ble_eq_true rfl⟩ dX9_bodyOf_217 (fun hk => hG0 _ _ _ _ _ _ (kqO hk qa0) h) (fun v M_13 h => ?_)
                obtain ⟨r_14, rfl, h⟩ := h
                refine r_iconst hC dX9_bodyOf_220 ?_
                refine r_idiv hC (by decide +kernel) dX9_bodyOf_221 ?_
                exact r_iret hC (Nat.zero_le _) (Nat.zero_le _) dX9_bodyOf_222 ⟨_, rfl, h⟩
              · replace h := h.2 c6
                by_cases c7 : bm x1 = 40
                · replace h := h.1 c7
                  refine r_lookup hC 223 dX9_bodyOf_1 (by decide +kernel) (off := 222) (by rw [c7]; rfl) (by decide) ?_
                  refine r_aload_n hC 0 dX9_bodyOf_223 rfl rfl ?_
                  refine r_iconst hC dX9_bodyOf_224 ?_
                  refine r_iconst hC dX9_bodyOf_225 ?_
                  refine r_iload_n hC 2 dX9_bodyOf_226 rfl rfl ?_
                  refine r_iconst hC dX9_bodyOf_227 ?_
                  refine r_iadd hC dX9_bodyOf_228 ?_
                  refine r_iload_n hC 3 dX9_bodyOf_229 rfl rfl ?_
                  refine r_callV (As := [vI 0, vI 2, vI (x2 + 1), vI x3]) (st := []) hC cw_X9_40 rfl qa0.1 qa0.2 rfl rfl (Nat.le_of_ble_eq_true rfl) (by constructor <;> simp only [rmX9_bodyOf, rmX9_spoken] <;> omega) ⟨Nat.le_of_ble_eq_true rfl, Nat.le_of_ble_eq_true rfl⟩ dX9_bodyOf_230 (fun hk => hG0 _ _ _ _ _ _ (kqO hk qa0) h) (fun v M_15 h => ?_)
                  obtain ⟨r_16, rfl, h⟩ := h
                  exact r_iret hC (Nat.zero_le _) (Nat.zero_le _) dX9_bodyOf_233 ⟨_, rfl, h⟩
                · replace h := h.2 c7
                  by_cases c8 : bm x1 = 50
                  · replace h := h.1 c8
                    refine r_lookup hC 234 dX9_bodyOf_1 (by decide +kernel) (off := 233) (by rw [c8]; rfl) (by decide) ?_
                    refine r_iconst hC dX9_bodyOf_234 ?_
                    refine r_aload_n hC 0 dX9_bodyOf_235 rfl rfl ?_
                    refine r_iconst hC dX9_bodyOf_236 ?_
                    refine r_iconst hC dX9_bodyOf_237 ?_
                    refine r_iload_n hC 2 dX9_bodyOf_238 rfl rfl ?_
                    refine r_iload_n hC 3 dX9_bodyOf_239 rfl rfl ?_
                    refine r_callV (As := [vI 0, vI 0, vI x2, vI x3]) (st := [vI 0]) hC cw_X9_40 rfl qa0.1 qa0.2 rfl rfl (Nat.le_of_ble_eq_true rfl) (by constructor <;> simp only [rmX9_bodyOf, rmX9_spoken] <;> omega) ⟨Nat.le_of_ble_eq_true rfl, Nat.le_of_ble_eq_true rfl⟩ dX9_bodyOf_240 (fun hk => hG0 _ _ _ _ _ _ (kqO hk qa0) h) (fun v M_17 h => ?_)
                    obtain ⟨r_18, rfl, h⟩ := h
                    refine r_isub hC dX9_bodyOf_243 ?_
                    exact r_iret hC (Nat.zero_le _) (Nat.zero_le _) dX9_bodyOf_244 ⟨_, rfl, h⟩
                  · replace h := h.2 c8
                    by_cases c9 : bm x1 = 51
                    · replace h := h.1 c9
                      refine r_lookup hC 245 dX9_bodyOf_1 (by decide +kernel) (off := 244) (by rw [c9]; rfl) (by decide) ?_
                      refine r_aload_n hC 0 dX9_bodyOf_245 rfl rfl ?_
                      refine r_iconst hC dX9_bodyOf_246 ?_
                      refine r_iconst hC dX9_bodyOf_247 ?_
                      refine r_iload_n hC 2 dX9_bodyOf_248 rfl rfl ?_
                      refine r_iload_n hC 3 dX9_bodyOf_249 rfl rfl ?_
                      refine r_callV (As := [vI 0, vI 2, vI x2, vI x3]) (st := []) hC cw_X9_40 rfl qa0.1 qa0.2 rfl rfl (Nat.le_of_ble_eq_true rfl) (by constructor <;> simp only [rmX9_bodyOf, rmX9_spoken] <;> omega) ⟨Nat.le_of_ble_eq_true rfl, Nat.le_of_ble_eq_true rfl⟩ dX9_bodyOf_250 (fun hk => hG0 _ _ _ _ _ _ (kqO hk qa0) h) (fun v M_19 h => ?_)
                      obtain ⟨r_20, rfl, h⟩ := h
                      refine r_aload_n hC 0 dX9_bodyOf_253 rfl rfl ?_
                      refine r_getI hC fg_X9_30 rfl qa0.1 qa0.2 dX9_bodyOf_254 ?_
                      refine r_ixor hC dX9_bodyOf_257 ?_
                      exact r_iret hC (Nat.zero_le _) (Nat.zero_le _) dX9_bodyOf_258 ⟨_, rfl, h⟩
                    · replace h := h.2 c9
                      by_cases c10 : bm x1 = 60
                      · replace h := h.1 c10
                        refine r_lookup hC 259 dX9_bodyOf_1 (by decide +kernel) (off := 258) (by rw [c10]; rfl) (by decide) ?_
                        refine r_aload_n hC 0 dX9_bodyOf_259 rfl rfl ?_
                        refine r_iconst hC dX9_bodyOf_260 ?_
                        refine r_iconst hC dX9_bodyOf_261 ?_
                        refine r_iload_n hC 2 dX9_bodyOf_262 rfl rfl ?_
                        refine r_iload_n hC 3 dX9_bodyOf_263 rfl rfl ?_
                        refine r_callV (As := [vI 1, vI 0, vI x2, vI x3]) (st := []) hC cw_X9_40 rfl qa0.1 qa0.2 rfl rfl (Nat.le_of_ble_eq_true rfl) (by constructor <;> simp only [rmX9_bodyOf, rmX9_spoken] <;> omega) ⟨Nat.le_of_ble_eq_true rfl, Nat.le_of_ble_eq_true rfl⟩ dX9_bodyOf_264 (fun hk => hG0 _ _ _ _ _ _ (kqO hk qa0) h) (fun v M_21 h => ?_)
                        obtain ⟨r_22, rfl, h⟩ := h
                        refine r_iconst hC dX9_bodyOf_267 ?_
                        refine r_imul hC dX9_bodyOf_268 ?_
                        exact r_iret hC (Nat.zero_le _) (Nat.zero_le _) dX9_bodyOf_269 ⟨_, rfl, h⟩
                      · replace h := h.2 c10
                        by_cases c11 : bm x1 = 61
                        · replace h := h.1 c11
                          refine r_lookup hC 270 dX9_bodyOf_1 (by decide +kernel) (off := 269) (by rw [c11]; rfl) (by decide) ?_
                          refine r_aload_n hC 0 dX9_bodyOf_270 rfl rfl ?_
                          refine r_iconst hC dX9_bodyOf_271 ?_
                          refine r_iconst hC dX9_bodyOf_272 ?_
                          refine r_iload_n hC 2 dX9_bodyOf_273 rfl rfl ?_
                          refine r_iload_n hC 3 dX9_bodyOf_274 rfl rfl ?_
                          refine r_callV (As := [vI 1, vI 2, vI x2, vI x3]) (st := []) hC cw_X9_40 rfl qa0.1 qa0.2 rfl rfl (Nat.le_of_ble_eq_true rfl) (by constructor <;> simp only [rmX9_bodyOf, rmX9_spoken] <;> omega) ⟨Nat.le_of_ble_eq_true rfl, Nat.le_of_ble_eq_true rfl⟩ dX9_bodyOf_275 (fun hk => hG0 _ _ _ _ _ _ (kqO hk qa0) h) (fun v M_23 h => ?_)
                          obtain ⟨r_24, rfl, h⟩ := h
                          refine r_aload_n hC 0 dX9_bodyOf_278 rfl rfl ?_
                          refine r_aload_n hC 0 dX9_bodyOf_279 rfl rfl ?_
                          refine r_getI hC fg_X9_21 rfl qa0.1 qa0.2 dX9_bodyOf_280 ?_
                          refine r_iconst hC dX9_bodyOf_283 ?_
                          refine r_iconst hC dX9_bodyOf_284 ?_
                          refine r_iload_n hC 3 dX9_bodyOf_285 rfl rfl ?_
                          refine r_callV (As := [vI (M_23 a0 3), vI 0, vI 2, vI x3]) (st := [vI r_24]) hC cw_X9_40 rfl qa0.1 qa0.2 rfl rfl (Nat.le_of_ble_eq_true rfl) (by constructor <;> simp only [rmX9_bodyOf, rmX9_spoken] <;> omega) ⟨Nat.le_of_ble_eq_true rfl, Nat.le_of_ble_eq_true rfl⟩ dX9_bodyOf_286 (fun hk => hG0 _ _ _ _ _ _ (kqO hk qa0) h) (fun v M_25 h => ?_)
                          obtain ⟨r_26, rfl, h⟩ := h
                          refine r_isub hC dX9_bodyOf_289 ?_
                          exact r_iret hC (Nat.zero_le _) (Nat.zero_le _) dX9_bodyOf_290 ⟨_, rfl, h⟩
                        · replace h := h.2 c11
                          by_cases c12 : bm x1 = 62
                          · replace h := h.1 c12
                            refine r_lookup hC 291 dX9_bodyOf_1 (by decide +kernel) (off := 290) (by rw [c12]; rfl) (by decide) ?_
                            refine r_aload_n hC 0 dX9_bodyOf_291 rfl rfl ?_
                            refine r_aload_n hC 0 dX9_bodyOf_292 rfl rfl ?_
                            refine r_getI hC fg_X9_21 rfl qa0.1 qa0.2 dX9_bodyOf_293 ?_
                            refine r_iconst hC dX9_bodyOf_296 ?_
                            refine r_iload_n hC 2 dX9_bodyOf_297 rfl rfl ?_
                            refine r_iload_n hC 3 dX9_bodyOf_298 rfl rfl ?_
                            refine r_callV (As := [vI (M0 a0 3), vI 1, vI x2, vI x3]) (st := []) hC cw_X9_40 rfl qa0.1 qa0.2 rfl rfl (Nat.le_of_ble_eq_true rfl) (by constructor <;> simp only [rmX9_bodyOf, rmX9_spoken] <;> omega) ⟨Nat.le_of_ble_eq_true rfl, Nat.le_of_ble_eq_true rfl⟩ dX9_bodyOf_299 (fun hk => hG0 _ _ _ _ _ _ (kqO hk qa0) h) (fun v M_27 h => ?_)
                            obtain ⟨r_28, rfl, h⟩ := h
                            refine r_aload_n hC 0 dX9_bodyOf_302 rfl rfl ?_
                            refine r_iconst hC dX9_bodyOf_303 ?_
                            refine r_iconst hC dX9_bodyOf_304 ?_
                            refine r_iload_n hC 2 dX9_bodyOf_305 rfl rfl ?_
                            refine r_iload_n hC 3 dX9_bodyOf_306 rfl rfl ?_
                            refine r_callV (As := [vI 1, vI 3, vI x2, vI x3]) (st := [vI r_28]) hC cw_X9_40 rfl qa0.1 qa0.2 rfl rfl (Nat.le_of_ble_eq_true rfl) (by constructor <;> simp only [rmX9_bodyOf, rmX9_spoken] <;> omega) ⟨Nat.le_of_ble_eq_true rfl, Nat.le_of_ble_eq_true rfl⟩ dX9_bodyOf_307 (fun hk => hG0 _ _ _ _ _ _ (kqO hk qa0) h) (fun v M_29 h => ?_)
                            obtain ⟨r_30, rfl, h⟩ := h
                            refine r_isub hC dX9_bodyOf_310 ?_
                            exact r_iret hC (Nat.zero_le _) (Nat.zero_le _) dX9_bodyOf_311 ⟨_, rfl, h⟩
                          · replace h := h.2 c12
                            by_cases c13 : bm x1 = 70
                            · replace h := h.1 c13
                              refine r_lookup hC 312 dX9_bodyOf_1 (by decide +kernel) (off := 311) (by rw [c13]; rfl) (by decide) ?_
                              refine r_aload_n hC 0 dX9_bodyOf_312 rfl rfl ?_
                              refine r_iconst hC dX9_bodyOf_313 ?_
                              refine r_iconst hC dX9_bodyOf_314 ?_
                              refine r_iload_n hC 2 dX9_bodyOf_315 rfl rfl ?_
                              refine r_iconst hC dX9_bodyOf_316 ?_
                              refine r_isub hC dX9_bodyOf_317 ?_
                              refine r_iload_n hC 3 dX9_bodyOf_318 rfl rfl ?_
                              refine r_callV (As := [vI 0, vI 1, vI (x2 - 1), vI x3]) (st := []) hC cw_X9_40 rfl qa0.1 qa0.2 rfl rfl (Nat.le_of_ble_eq_true rfl) (by constructor <;> simp only [rmX9_bodyOf, rmX9_spoken] <;> omega) ⟨Nat.le_of_ble_eq_true rfl, Nat.le_of_ble_eq_true rfl⟩ dX9_bodyOf_319 (fun hk => hG0 _ _ _ _ _ _ (kqO hk qa0) h) (fun v M_31 h => ?_)
                              obtain ⟨r_32, rfl, h⟩ := h
                              exact r_iret hC (Nat.zero_le _) (Nat.zero_le _) dX9_bodyOf_322 ⟨_, rfl, h⟩
                            · replace h := h.2 c13
                              refine r_lookup hC 323 dX9_bodyOf_1 (by decide +kernel) (off := 322) (by simp [Op.lookupswitch.offset, Ne.symm c0, Ne.symm c1, Ne.symm c2, Ne.symm c3, Ne.symm c4, Ne.symm c5, Ne.symm c6, Ne.symm c7, Ne.symm c8, Ne.symm c9, Ne.symm c10, Ne.symm c11, Ne.symm c12, Ne.symm c13]) (by decide) ?_
                              refine r_iconst hC dX9_bodyOf_323 ?_
                              exact r_iret hC (Nat.zero_le _) (Nat.zero_le _) dX9_bodyOf_324 ⟨_, rfl, h⟩
set_option maxHeartbeats 4000000 in
set_option maxRecDepth 100000 in
theorem mGX9_spoken (Y : Yx) (hF : Y.2.2.2.2 = true) (l : Launch) (a0 : Nat) : ∀ d : Nat, (∀ (x1 : Int) (x2 : Int) (x3 : Int) (x4 : Int) (M : Mem) (Q : Int → Mem → Prop), (0 < a0 ∧ M 0 a0 = kO 9) → wGX9_spoken a0 d 0 [x1, x2, x3, x4] M Q → CT Y l yX9_spoken cX9_spoken 8 (some .int) (rmX9_spoken d) [vR Y.1 a0, vI x1, vI x2, vI x3, vI x4] M (QI Q)) ∧ (∀ (x1 : Int) (x2 : Int) (x3 : Int) (M : Mem) (Q : Int → Mem → Prop), (0 < a0 ∧ M 0 a0 = kO 9) → wGX9_spoken a0 d 1 [x1, x2, x3] M Q → CT Y l yX9_bodyOf cX9_bodyOf 4 (some .int) (rmX9_bodyOf d) [vR Y.1 a0, vI x1, vI x2, vI x3] M (QI Q)) := by
  intro d
  induction d with
  | zero => exact ⟨fun x1 x2 x3 x4 M Q f0 h => h.elim, fun x1 x2 x3 M Q f0 h => h.elim⟩
  | succ d ih => exact ⟨fun x1 x2 x3 x4 M Q f0 h => mbX9_spoken Y hF l a0 x1 x2 x3 x4 (ih.1) (ih.2) M Q f0 h, fun x1 x2 x3 M Q f0 h => mbX9_bodyOf Y hF l a0 x1 x2 x3 (ih.1) (ih.2) M Q f0 h⟩
set_option maxHeartbeats 4000000 in
set_option maxRecDepth 100000 in
theorem mX9_spoken (Y : Yx) (hF : Y.2.2.2.2 = true) (l : Launch) (a0 : Nat) (x1 : Int) (x2 : Int) (x3 : Int) (x4 : Int) (M0 : Mem) (Q : Int → Mem → Prop) (qa0 : 0 < a0 ∧ M0 0 a0 = kO 9) (h : wX9_spoken a0 x1 x2 x3 x4 M0 Q) : CT Y l yX9_spoken cX9_spoken 8 (some .int) (rmX9_spoken 60) [vR Y.1 a0, vI x1, vI x2, vI x3, vI x4] M0 (QI Q) := (mGX9_spoken Y hF l a0 60).1 _ _ _ _ M0 Q qa0 h
set_option maxHeartbeats 4000000 in
set_option maxRecDepth 100000 in
theorem mX9_bodyOf (Y : Yx) (hF : Y.2.2.2.2 = true) (l : Launch) (a0 : Nat) (x1 : Int) (x2 : Int) (x3 : Int) (M0 : Mem) (Q : Int → Mem → Prop) (qa0 : 0 < a0 ∧ M0 0 a0 = kO 9) (h : wX9_bodyOf a0 x1 x2 x3 M0 Q) : CT Y l yX9_bodyOf cX9_bodyOf 4 (some .int) (rmX9_bodyOf 60) [vR Y.1 a0, vI x1, vI x2, vI x3] M0 (QI Q) := (mGX9_spoken Y hF l a0 60).2 _ _ _ M0 Q qa0 h
theorem dX9_speak_0 : dec cX9_speak 0 1 1 (.aload_n 0) := ⟨by decide +kernel, rfl⟩
theorem dX9_speak_1 : dec cX9_speak 1 1 2 (.aload_n 1) := ⟨by decide +kernel, rfl⟩
theorem dX9_speak_2 : dec cX9_speak 2 3 5 (.getfield 15) := ⟨by decide +kernel, rfl⟩
theorem dX9_speak_5 : dec cX9_speak 5 3 8 (.putfield 21) := ⟨by decide +kernel, rfl⟩
theorem dX9_speak_8 : dec cX9_speak 8 1 9 (.aload_n 0) := ⟨by decide +kernel, rfl⟩
theorem dX9_speak_9 : dec cX9_speak 9 1 10 (.aload_n 1) := ⟨by decide +kernel, rfl⟩
theorem dX9_speak_10 : dec cX9_speak 10 3 13 (.getfield 22) := ⟨by decide +kernel, rfl⟩
theorem dX9_speak_13 : dec cX9_speak 13 3 16 (.putfield 25) := ⟨by decide +kernel, rfl⟩
theorem dX9_speak_16 : dec cX9_speak 16 1 17 (.aload_n 0) := ⟨by decide +kernel, rfl⟩
theorem dX9_speak_17 : dec cX9_speak 17 1 18 (.aload_n 1) := ⟨by decide +kernel, rfl⟩
theorem dX9_speak_18 : dec cX9_speak 18 3 21 (.getfield 26) := ⟨by decide +kernel, rfl⟩
theorem dX9_speak_21 : dec cX9_speak 21 3 24 (.putfield 29) := ⟨by decide +kernel, rfl⟩
theorem dX9_speak_24 : dec cX9_speak 24 1 25 (.aload_n 0) := ⟨by decide +kernel, rfl⟩
theorem dX9_speak_25 : dec cX9_speak 25 1 26 (.iload_n 2) := ⟨by decide +kernel, rfl⟩
theorem dX9_speak_26 : dec cX9_speak 26 3 29 (.putfield 30) := ⟨by decide +kernel, rfl⟩
theorem dX9_speak_29 : dec cX9_speak 29 1 30 (.aload_n 0) := ⟨by decide +kernel, rfl⟩
theorem dX9_speak_30 : dec cX9_speak 30 1 31 (.iconst 0) := ⟨by decide +kernel, rfl⟩
theorem dX9_speak_31 : dec cX9_speak 31 3 34 (.putfield 33) := ⟨by decide +kernel, rfl⟩
theorem dX9_speak_34 : dec cX9_speak 34 1 35 (.aload_n 0) := ⟨by decide +kernel, rfl⟩
theorem dX9_speak_35 : dec cX9_speak 35 1 36 (.iconst 0) := ⟨by decide +kernel, rfl⟩
theorem dX9_speak_36 : dec cX9_speak 36 3 39 (.putfield 36) := ⟨by decide +kernel, rfl⟩
theorem dX9_speak_39 : dec cX9_speak 39 1 40 (.aload_n 0) := ⟨by decide +kernel, rfl⟩
theorem dX9_speak_40 : dec cX9_speak 40 1 41 (.aload_n 0) := ⟨by decide +kernel, rfl⟩
theorem dX9_speak_41 : dec cX9_speak 41 3 44 (.getfield 21) := ⟨by decide +kernel, rfl⟩
theorem dX9_speak_44 : dec cX9_speak 44 1 45 (.iload_n 3) := ⟨by decide +kernel, rfl⟩
theorem dX9_speak_45 : dec cX9_speak 45 2 47 (.iload 4) := ⟨by decide +kernel, rfl⟩
theorem dX9_speak_47 : dec cX9_speak 47 1 48 (.iconst 0) := ⟨by decide +kernel, rfl⟩
theorem dX9_speak_48 : dec cX9_speak 48 3 51 (.invokevirtual 40) := ⟨by decide +kernel, rfl⟩
theorem dX9_speak_51 : dec cX9_speak 51 1 52 (.ireturn) := ⟨by decide +kernel, rfl⟩
set_option maxHeartbeats 4000000 in
set_option maxRecDepth 100000 in
theorem mX9_speak (Y : Yx) (hF : Y.2.2.2.2 = true) (l : Launch) (a0 : Nat) (a1 : Nat) (x2 : Int) (x3 : Int) (x4 : Int) (M0 : Mem) (Q : Int → Mem → Prop) (qa0 : 0 < a0 ∧ M0 0 a0 = kO 9) (qa1 : 0 < a1 ∧ M0 0 a1 = kO 1) (h : wX9_speak a0 a1 x2 x3 x4 M0 Q) : CT Y l yX9_speak cX9_speak 5 (some .int) rmX9_speak [vR Y.1 a0, vR Y.1 a1, vI x2, vI x3, vI x4] M0 (QI Q) := by
  unfold wX9_speak at h
  refine ct_intro (by decide) (Nat.le_of_ble_eq_true rfl) ?_
  intro X hXl hC hL0
  have hL := hL0 hF
  change OKX X Y RX9 cX9_speak 5 (some .int) rmX9_speak at hC
  change WW X Y 5 rmX9_speak (QI Q) M0 0 0 0 [(0, vR Y.1 a0), (1, vR Y.1 a1), (2, vI x2), (3, vI x3), (4, vI x4)] [] M0
  refine r_aload_n hC 0 dX9_speak_0 rfl rfl ?_
  refine r_aload_n hC 1 dX9_speak_1 rfl rfl ?_
  refine r_getI hC fg_X9_15 rfl qa1.1 qa1.2 dX9_speak_2 ?_
  refine r_putI hC fp_X9_21 rfl qa0.1 qa0.2 dX9_speak_5 ?_
  refine r_nameM h (fun M_1 h => ?_)
  refine r_aload_n hC 0 dX9_speak_8 rfl rfl ?_
  refine r_aload_n hC 1 dX9_speak_9 rfl rfl ?_
  refine r_getI hC fg_X9_22 rfl qa1.1 qa1.2 dX9_speak_10 ?_
  refine r_putI hC fp_X9_25 rfl qa0.1 qa0.2 dX9_speak_13 ?_
  refine r_nameM h (fun M_2 h => ?_)
  refine r_aload_n hC 0 dX9_speak_16 rfl rfl ?_
  refine r_aload_n hC 1 dX9_speak_17 rfl rfl ?_
  refine r_getI hC fg_X9_26 rfl qa1.1 qa1.2 dX9_speak_18 ?_
  refine r_putI hC fp_X9_29 rfl qa0.1 qa0.2 dX9_speak_21 ?_
  refine r_nameM h (fun M_3 h => ?_)
  refine r_aload_n hC 0 dX9_speak_24 rfl rfl ?_
  refine r_iload_n hC 2 dX9_speak_25 rfl rfl ?_
  refine r_putI hC fp_X9_30 rfl qa0.1 qa0.2 dX9_speak_26 ?_
  refine r_nameM h (fun M_4 h => ?_)
  refine r_aload_n hC 0 dX9_speak_29 rfl rfl ?_
  refine r_iconst hC dX9_speak_30 ?_
  refine r_putI hC fp_X9_33 rfl qa0.1 qa0.2 dX9_speak_31 ?_
  refine r_nameM h (fun M_5 h => ?_)
  refine r_aload_n hC 0 dX9_speak_34 rfl rfl ?_
  refine r_iconst hC dX9_speak_35 ?_
  refine r_putZ hC (Or.inl rfl) fp_X9_36 rfl qa0.1 qa0.2 dX9_speak_36 ?_
  refine r_nameM h (fun M_6 h => ?_)
  refine r_aload_n hC 0 dX9_speak_39 rfl rfl ?_
  refine r_aload_n hC 0 dX9_speak_40 rfl rfl ?_
  refine r_getI hC fg_X9_21 rfl qa0.1 qa0.2 dX9_speak_41 ?_
  refine r_iload_n hC 3 dX9_speak_44 rfl rfl ?_
  refine r_iload hC 4 dX9_speak_45 rfl ?_
  refine r_iconst hC dX9_speak_47 ?_
  refine r_callV (As := [vI (M_6 a0 3), vI x3, vI x4, vI 0]) (st := []) hC cw_X9_40 rfl qa0.1 qa0.2 rfl rfl (Nat.le_of_ble_eq_true rfl) ⟨Nat.le_of_ble_eq_true rfl, Nat.le_of_ble_eq_true rfl⟩ ⟨Nat.le_of_ble_eq_true rfl, Nat.le_of_ble_eq_true rfl⟩ dX9_speak_48 (fun hk => mX9_spoken Y hF _ _ _ _ _ _ _ _ (kqO hk qa0) h) (fun v M_7 h => ?_)
  obtain ⟨r_8, rfl, h⟩ := h
  exact r_iret hC (Nat.zero_le _) (Nat.zero_le _) dX9_speak_51 ⟨_, rfl, h⟩
