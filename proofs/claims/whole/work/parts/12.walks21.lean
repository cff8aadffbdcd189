theorem dX12_isBest_0 : dec cX12_isBest 0 1 1 (.iconst 0) := ⟨by decide +kernel, rfl⟩
theorem dX12_isBest_1 : dec cX12_isBest 1 1 2 (.istore_n 3) := ⟨by decide +kernel, rfl⟩
theorem dX12_isBest_2 : dec cX12_isBest 2 1 3 (.iload_n 3) := ⟨by decide +kernel, rfl⟩
theorem dX12_isBest_3 : dec cX12_isBest 3 1 4 (.aload_n 0) := ⟨by decide +kernel, rfl⟩
theorem dX12_isBest_4 : dec cX12_isBest 4 3 7 (.getfield 162) := ⟨by decide +kernel, rfl⟩
theorem dX12_isBest_7 : dec cX12_isBest 7 3 10 (.if_icmp .ge 28) := ⟨by decide +kernel, rfl⟩
theorem dX12_isBest_10 : dec cX12_isBest 10 1 11 (.aload_n 0) := ⟨by decide +kernel, rfl⟩
theorem dX12_isBest_11 : dec cX12_isBest 11 3 14 (.getfield 40) := ⟨by decide +kernel, rfl⟩
theorem dX12_isBest_14 : dec cX12_isBest 14 1 15 (.iload_n 3) := ⟨by decide +kernel, rfl⟩
theorem dX12_isBest_15 : dec cX12_isBest 15 1 16 (.aload_n 0) := ⟨by decide +kernel, rfl⟩
theorem dX12_isBest_16 : dec cX12_isBest 16 3 19 (.getfield 28) := ⟨by decide +kernel, rfl⟩
theorem dX12_isBest_19 : dec cX12_isBest 19 1 20 (.iload_n 3) := ⟨by decide +kernel, rfl⟩
theorem dX12_isBest_20 : dec cX12_isBest 20 1 21 (.iaload) := ⟨by decide +kernel, rfl⟩
theorem dX12_isBest_21 : dec cX12_isBest 21 1 22 (.iastore) := ⟨by decide +kernel, rfl⟩
theorem dX12_isBest_22 : dec cX12_isBest 22 1 23 (.aload_n 0) := ⟨by decide +kernel, rfl⟩
theorem dX12_isBest_23 : dec cX12_isBest 23 3 26 (.getfield 43) := ⟨by decide +kernel, rfl⟩
theorem dX12_isBest_26 : dec cX12_isBest 26 1 27 (.iload_n 3) := ⟨by decide +kernel, rfl⟩
theorem dX12_isBest_27 : dec cX12_isBest 27 1 28 (.iconst 1) := ⟨by decide +kernel, rfl⟩
theorem dX12_isBest_28 : dec cX12_isBest 28 1 29 (.bastore) := ⟨by decide +kernel, rfl⟩
theorem dX12_isBest_29 : dec cX12_isBest 29 3 32 (.iinc 3 1) := ⟨by decide +kernel, rfl⟩
theorem dX12_isBest_32 : dec cX12_isBest 32 3 35 (.goto (-30)) := ⟨by decide +kernel, rfl⟩
theorem dX12_isBest_35 : dec cX12_isBest 35 1 36 (.aload_n 0) := ⟨by decide +kernel, rfl⟩
theorem dX12_isBest_36 : dec cX12_isBest 36 1 37 (.aload_n 0) := ⟨by decide +kernel, rfl⟩
theorem dX12_isBest_37 : dec cX12_isBest 37 3 40 (.getfield 162) := ⟨by decide +kernel, rfl⟩
theorem dX12_isBest_40 : dec cX12_isBest 40 3 43 (.putfield 234) := ⟨by decide +kernel, rfl⟩
theorem dX12_isBest_43 : dec cX12_isBest 43 1 44 (.aload_n 0) := ⟨by decide +kernel, rfl⟩
theorem dX12_isBest_44 : dec cX12_isBest 44 1 45 (.aload_n 0) := ⟨by decide +kernel, rfl⟩
theorem dX12_isBest_45 : dec cX12_isBest 45 3 48 (.getfield 159) := ⟨by decide +kernel, rfl⟩
theorem dX12_isBest_48 : dec cX12_isBest 48 3 51 (.putfield 237) := ⟨by decide +kernel, rfl⟩
theorem dX12_isBest_51 : dec cX12_isBest 51 1 52 (.aload_n 0) := ⟨by decide +kernel, rfl⟩
theorem dX12_isBest_52 : dec cX12_isBest 52 1 53 (.lload_n 1) := ⟨by decide +kernel, rfl⟩
theorem dX12_isBest_53 : dec cX12_isBest 53 3 56 (.putfield 240) := ⟨by decide +kernel, rfl⟩
theorem dX12_isBest_56 : dec cX12_isBest 56 1 57 (.aload_n 0) := ⟨by decide +kernel, rfl⟩
theorem dX12_isBest_57 : dec cX12_isBest 57 1 58 (.iconst 1) := ⟨by decide +kernel, rfl⟩
theorem dX12_isBest_58 : dec cX12_isBest 58 3 61 (.putfield 244) := ⟨by decide +kernel, rfl⟩
theorem dX12_isBest_61 : dec cX12_isBest 61 1 62 (.return_) := ⟨by decide +kernel, rfl⟩
set_option maxHeartbeats 4000000 in
set_option maxRecDepth 100000 in
theorem tX12_isBest_L2 {X : Cx} {Y : Yx} {M0 : Mem} (hC : OKX X Y RX12 cX12_isBest 4 none rmX12_isBest) (hF : Y.2.2.2.2 = true) (hL : Lay M0) (Q : Mem → Prop) (E35 : Mem → Prop) (a0 : Nat) (l1 : Int) (qa0 : 0 < a0 ∧ M0 0 a0 = kO 12) (hE35 : ∀  (M : Mem), E35  M → WW X Y 4 rmX12_isBest (QV Q) M0 0 0 35 [(0, vR Y.1 a0), (1, vL l1)] [] M) : ∀ (N : Nat) (x3 : Int) (M : Mem) (_ : wX12_isBest_L2 Q E35 a0 l1 N x3 M), WW X Y 4 rmX12_isBest (QV Q) M0 0 0 2 [(0, vR Y.1 a0), (1, vL l1), (3, vI x3)] [] M := by
  intro N
  induction N with
  | zero =>
    intro x3 M h
    exact h.elim
  | succ N ih =>
    intro x3 M h
    unfold wX12_isBest_L2 at h
    refine r_iload_n hC 2 dX12_isBest_2 rfl rfl ?_
    refine r_aload_n hC 0 dX12_isBest_3 rfl rfl ?_
    refine r_getI hC fg_X12_162 rfl qa0.1 qa0.2 dX12_isBest_4 ?_
    refine r_icmp_ge hC 35 rfl rfl dX12_isBest_7 (by decide) (fun cq => ?_) (fun cq => ?_)
    · replace h := h.1 cq
      refine r_sub [0, 1] rfl ?_
      exact hE35  _ h
    · replace h := h.2 cq
      refine r_aload_n hC 0 dX12_isBest_10 rfl rfl ?_
      have q_1 : 0 < a0 + 11 ∧ M0 0 (a0 + 11) = kA 0 12 := lay_f0 (a := a0) hL qa0 fm_12_18
      refine r_getR0 (a' := a0 + 11) hC fg_X12_40 rfl hF fm_12_18 qa0.1 qa0.2 rfl dX12_isBest_11 ?_
      refine r_iload_n hC 2 dX12_isBest_14 rfl rfl ?_
      refine r_aload_n hC 0 dX12_isBest_15 rfl rfl ?_
      have q_2 : 0 < a0 + 7 ∧ M0 0 (a0 + 7) = kA 0 12 := lay_f0 (a := a0) hL qa0 fm_12_12
      refine r_getR0 (a' := a0 + 7) hC fg_X12_28 rfl hF fm_12_12 qa0.1 qa0.2 rfl dX12_isBest_16 ?_
      refine r_iload_n hC 2 dX12_isBest_19 rfl rfl ?_
      obtain ⟨i_3, h⟩ := h
      refine r_iald hC i_3 q_2.1 q_2.2 (by decide) dX12_isBest_20 ?_
      obtain ⟨i_4, h⟩ := h
      refine r_iast hC i_4 q_1.1 q_1.2 (by decide) dX12_isBest_21 ?_
      refine r_nameM h (fun M_5 h => ?_)
      refine r_aload_n hC 0 dX12_isBest_22 rfl rfl ?_
      have q_6 : 0 < a0 + 12 ∧ M0 0 (a0 + 12) = kA 2 12 := lay_f0 (a := a0) hL qa0 fm_12_24
      refine r_getR0 (a' := a0 + 12) hC fg_X12_43 rfl hF fm_12_24 qa0.1 qa0.2 rfl dX12_isBest_23 ?_
      refine r_iload_n hC 2 dX12_isBest_26 rfl rfl ?_
      refine r_iconst hC dX12_isBest_27 ?_
      obtain ⟨i_7, h⟩ := h
      refine r_zast hC (Or.inr rfl) i_7 q_6.1 q_6.2 (by decide) dX12_isBest_28 ?_
      refine r_nameM h (fun M_8 h => ?_)
      refine let_elim h (fun x3_9 e_10 h => ?_)
      refine r_iinc (lv' := [(3, vI x3_9), (0, vR Y.1 a0), (1, vL l1)]) hC 2 dX12_isBest_29 rfl (by decide) e_10 rfl ?_
      refine r_goto hC 2 dX12_isBest_32 (by decide) ?_
      refine r_sub [1, 2, 0] rfl ?_
      exact ih _ _ h
set_option maxHeartbeats 4000000 in
set_option maxRecDepth 100000 in
theorem mX12_isBest (Y : Yx) (hF : Y.2.2.2.2 = true) (l : Launch) (a0 : Nat) (l1 : Int) (M0 : Mem) (Q : Mem → Prop) (qa0 : 0 < a0 ∧ M0 0 a0 = kO 12) (h : wX12_isBest a0 l1 M0 Q) : CT Y l yX12_isBest cX12_isBest 4 none rmX12_isBest [vR Y.1 a0, vL l1] M0 (QV Q) := by
  unfold wX12_isBest at h
  refine ct_intro (by decide) (Nat.le_of_ble_eq_true rfl) ?_
  intro X hXl hC hL0
  have hL := hL0 hF
  change OKX X Y RX12 cX12_isBest 4 none rmX12_isBest at hC
  change WW X Y 4 rmX12_isBest (QV Q) M0 0 0 0 [(0, vR Y.1 a0), (1, vL l1)] [] M0
  refine r_iconst hC dX12_isBest_0 ?_
  refine r_istore_n (lv' := [(3, vI 0), (0, vR Y.1 a0), (1, vL l1)]) hC dX12_isBest_1 rfl (by decide) rfl ?_
  refine r_sub [1, 2, 0] rfl ?_
  obtain ⟨N_16, h⟩ := h
  refine tX12_isBest_L2 hC hF hL Q _ _ _ qa0 ?_ N_16 _ _ h
  · intro M_11 h
    refine r_aload_n hC 0 dX12_isBest_35 rfl rfl ?_
    refine r_aload_n hC 0 dX12_isBest_36 rfl rfl ?_
    refine r_getI hC fg_X12_162 rfl qa0.1 qa0.2 dX12_isBest_37 ?_
    refine r_putI hC fp_X12_234 rfl qa0.1 qa0.2 dX12_isBest_40 ?_
    refine r_nameM h (fun M_12 h => ?_)
    refine r_aload_n hC 0 dX12_isBest_43 rfl rfl ?_
    refine r_aload_n hC 0 dX12_isBest_44 rfl rfl ?_
    refine r_getI hC fg_X12_159 rfl qa0.1 qa0.2 dX12_isBest_45 ?_
    refine r_putI hC fp_X12_237 rfl qa0.1 qa0.2 dX12_isBest_48 ?_
    refine r_nameM h (fun M_13 h => ?_)
    refine r_aload_n hC 0 dX12_isBest_51 rfl rfl ?_
    refine r_lload_n hC 1 dX12_isBest_52 rfl rfl ?_
    refine r_putL hC fp_X12_240 rfl qa0.1 qa0.2 dX12_isBest_53 ?_
    refine r_nameM h (fun M_14 h => ?_)
    refine r_aload_n hC 0 dX12_isBest_56 rfl rfl ?_
    refine r_iconst hC dX12_isBest_57 ?_
    refine r_putI hC fp_X12_244 rfl qa0.1 qa0.2 dX12_isBest_58 ?_
    refine r_nameM h (fun M_15 h => ?_)
    exact r_vret hC (Nat.zero_le _) (Nat.zero_le _) dX12_isBest_61 ⟨rfl, h⟩
theorem dX12_seesOne_0 : dec cX12_seesOne 0 1 1 (.aload_n 0) := ⟨by decide +kernel, rfl⟩
theorem dX12_seesOne_1 : dec cX12_seesOne 1 3 4 (.invokevirtual 211) := ⟨by decide +kernel, rfl⟩
theorem dX12_seesOne_4 : dec cX12_seesOne 4 1 5 (.aload_n 0) := ⟨by decide +kernel, rfl⟩
theorem dX12_seesOne_5 : dec cX12_seesOne 5 3 8 (.invokevirtual 180) := ⟨by decide +kernel, rfl⟩
theorem dX12_seesOne_8 : dec cX12_seesOne 8 1 9 (.aload_n 0) := ⟨by decide +kernel, rfl⟩
theorem dX12_seesOne_9 : dec cX12_seesOne 9 3 12 (.getfield 7) := ⟨by decide +kernel, rfl⟩
theorem dX12_seesOne_12 : dec cX12_seesOne 12 2 14 (.bipush 9) := ⟨by decide +kernel, rfl⟩
theorem dX12_seesOne_14 : dec cX12_seesOne 14 1 15 (.iaload) := ⟨by decide +kernel, rfl⟩
theorem dX12_seesOne_15 : dec cX12_seesOne 15 3 18 (.if_icmp .le 4) := ⟨by decide +kernel, rfl⟩
theorem dX12_seesOne_18 : dec cX12_seesOne 18 1 19 (.return_) := ⟨by decide +kernel, rfl⟩
theorem dX12_seesOne_19 : dec cX12_seesOne 19 1 20 (.aload_n 0) := ⟨by decide +kernel, rfl⟩
theorem dX12_seesOne_20 : dec cX12_seesOne 20 3 23 (.invokevirtual 183) := ⟨by decide +kernel, rfl⟩
theorem dX12_seesOne_23 : dec cX12_seesOne 23 1 24 (.istore_n 1) := ⟨by decide +kernel, rfl⟩
theorem dX12_seesOne_24 : dec cX12_seesOne 24 1 25 (.aload_n 0) := ⟨by decide +kernel, rfl⟩
theorem dX12_seesOne_25 : dec cX12_seesOne 25 3 28 (.getfield 47) := ⟨by decide +kernel, rfl⟩
theorem dX12_seesOne_28 : dec cX12_seesOne 28 1 29 (.iload_n 1) := ⟨by decide +kernel, rfl⟩
theorem dX12_seesOne_29 : dec cX12_seesOne 29 1 30 (.iconst 1) := ⟨by decide +kernel, rfl⟩
theorem dX12_seesOne_30 : dec cX12_seesOne 30 1 31 (.bastore) := ⟨by decide +kernel, rfl⟩
theorem dX12_seesOne_31 : dec cX12_seesOne 31 1 32 (.iload_n 1) := ⟨by decide +kernel, rfl⟩
theorem dX12_seesOne_32 : dec cX12_seesOne 32 3 35 (.ifCond .eq 4) := ⟨by decide +kernel, rfl⟩
theorem dX12_seesOne_35 : dec cX12_seesOne 35 1 36 (.return_) := ⟨by decide +kernel, rfl⟩
theorem dX12_seesOne_36 : dec cX12_seesOne 36 1 37 (.aload_n 0) := ⟨by decide +kernel, rfl⟩
theorem dX12_seesOne_37 : dec cX12_seesOne 37 1 38 (.dup) := ⟨by decide +kernel, rfl⟩
theorem dX12_seesOne_38 : dec cX12_seesOne 38 3 41 (.getfield 247) := ⟨by decide +kernel, rfl⟩
theorem dX12_seesOne_41 : dec cX12_seesOne 41 1 42 (.iconst 1) := ⟨by decide +kernel, rfl⟩
theorem dX12_seesOne_42 : dec cX12_seesOne 42 1 43 (.iadd) := ⟨by decide +kernel, rfl⟩
theorem dX12_seesOne_43 : dec cX12_seesOne 43 3 46 (.putfield 247) := ⟨by decide +kernel, rfl⟩
theorem dX12_seesOne_46 : dec cX12_seesOne 46 1 47 (.aload_n 0) := ⟨by decide +kernel, rfl⟩
theorem dX12_seesOne_47 : dec cX12_seesOne 47 3 50 (.invokevirtual 220) := ⟨by decide +kernel, rfl⟩
theorem dX12_seesOne_50 : dec cX12_seesOne 50 1 51 (.lstore_n 2) := ⟨by decide +kernel, rfl⟩
theorem dX12_seesOne_51 : dec cX12_seesOne 51 1 52 (.aload_n 0) := ⟨by decide +kernel, rfl⟩
theorem dX12_seesOne_52 : dec cX12_seesOne 52 3 55 (.getfield 247) := ⟨by decide +kernel, rfl⟩
theorem dX12_seesOne_55 : dec cX12_seesOne 55 1 56 (.iconst 1) := ⟨by decide +kernel, rfl⟩
theorem dX12_seesOne_56 : dec cX12_seesOne 56 3 59 (.if_icmp .eq 12) := ⟨by decide +kernel, rfl⟩
theorem dX12_seesOne_59 : dec cX12_seesOne 59 1 60 (.lload_n 2) := ⟨by decide +kernel, rfl⟩
theorem dX12_seesOne_60 : dec cX12_seesOne 60 1 61 (.aload_n 0) := ⟨by decide +kernel, rfl⟩
theorem dX12_seesOne_61 : dec cX12_seesOne 61 3 64 (.getfield 240) := ⟨by decide +kernel, rfl⟩
theorem dX12_seesOne_64 : dec cX12_seesOne 64 1 65 (.lcmp) := ⟨by decide +kernel, rfl⟩
theorem dX12_seesOne_65 : dec cX12_seesOne 65 3 68 (.ifCond .le 11) := ⟨by decide +kernel, rfl⟩
theorem dX12_seesOne_68 : dec cX12_seesOne 68 1 69 (.aload_n 0) := ⟨by decide +kernel, rfl⟩
theorem dX12_seesOne_69 : dec cX12_seesOne 69 1 70 (.lload_n 2) := ⟨by decide +kernel, rfl⟩
theorem dX12_seesOne_70 : dec cX12_seesOne 70 3 73 (.invokevirtual 250) := ⟨by decide +kernel, rfl⟩
theorem dX12_seesOne_73 : dec cX12_seesOne 73 3 76 (.goto 79) := ⟨by decide +kernel, rfl⟩
theorem dX12_seesOne_76 : dec cX12_seesOne 76 1 77 (.lload_n 2) := ⟨by decide +kernel, rfl⟩
theorem dX12_seesOne_77 : dec cX12_seesOne 77 1 78 (.aload_n 0) := ⟨by decide +kernel, rfl⟩
theorem dX12_seesOne_78 : dec cX12_seesOne 78 3 81 (.getfield 240) := ⟨by decide +kernel, rfl⟩
theorem dX12_seesOne_81 : dec cX12_seesOne 81 1 82 (.lcmp) := ⟨by decide +kernel, rfl⟩
theorem dX12_seesOne_82 : dec cX12_seesOne 82 3 85 (.ifCond .ne 70) := ⟨by decide +kernel, rfl⟩
theorem dX12_seesOne_85 : dec cX12_seesOne 85 1 86 (.aload_n 0) := ⟨by decide +kernel, rfl⟩
theorem dX12_seesOne_86 : dec cX12_seesOne 86 1 87 (.dup) := ⟨by decide +kernel, rfl⟩
theorem dX12_seesOne_87 : dec cX12_seesOne 87 3 90 (.getfield 244) := ⟨by decide +kernel, rfl⟩
theorem dX12_seesOne_90 : dec cX12_seesOne 90 1 91 (.iconst 1) := ⟨by decide +kernel, rfl⟩
theorem dX12_seesOne_91 : dec cX12_seesOne 91 1 92 (.iadd) := ⟨by decide +kernel, rfl⟩
theorem dX12_seesOne_92 : dec cX12_seesOne 92 3 95 (.putfield 244) := ⟨by decide +kernel, rfl⟩
theorem dX12_seesOne_95 : dec cX12_seesOne 95 1 96 (.iconst 0) := ⟨by decide +kernel, rfl⟩
theorem dX12_seesOne_96 : dec cX12_seesOne 96 2 98 (.istore 4) := ⟨by decide +kernel, rfl⟩
theorem dX12_seesOne_98 : dec cX12_seesOne 98 2 100 (.iload 4) := ⟨by decide +kernel, rfl⟩
theorem dX12_seesOne_100 : dec cX12_seesOne 100 1 101 (.aload_n 0) := ⟨by decide +kernel, rfl⟩
theorem dX12_seesOne_101 : dec cX12_seesOne 101 3 104 (.getfield 162) := ⟨by decide +kernel, rfl⟩
theorem dX12_seesOne_104 : dec cX12_seesOne 104 3 107 (.if_icmp .ge 48) := ⟨by decide +kernel, rfl⟩
theorem dX12_seesOne_107 : dec cX12_seesOne 107 1 108 (.aload_n 0) := ⟨by decide +kernel, rfl⟩
theorem dX12_seesOne_108 : dec cX12_seesOne 108 3 111 (.getfield 43) := ⟨by decide +kernel, rfl⟩
theorem dX12_seesOne_111 : dec cX12_seesOne 111 2 113 (.iload 4) := ⟨by decide +kernel, rfl⟩
theorem dX12_seesOne_113 : dec cX12_seesOne 113 1 114 (.aload_n 0) := ⟨by decide +kernel, rfl⟩
theorem dX12_seesOne_114 : dec cX12_seesOne 114 3 117 (.getfield 43) := ⟨by decide +kernel, rfl⟩
theorem dX12_seesOne_117 : dec cX12_seesOne 117 2 119 (.iload 4) := ⟨by decide +kernel, rfl⟩
theorem dX12_seesOne_119 : dec cX12_seesOne 119 1 120 (.baload) := ⟨by decide +kernel, rfl⟩
theorem dX12_seesOne_120 : dec cX12_seesOne 120 3 123 (.ifCond .eq 24) := ⟨by decide +kernel, rfl⟩
theorem dX12_seesOne_123 : dec cX12_seesOne 123 1 124 (.aload_n 0) := ⟨by decide +kernel, rfl⟩
theorem dX12_seesOne_124 : dec cX12_seesOne 124 3 127 (.getfield 28) := ⟨by decide +kernel, rfl⟩
theorem dX12_seesOne_127 : dec cX12_seesOne 127 2 129 (.iload 4) := ⟨by decide +kernel, rfl⟩
theorem dX12_seesOne_129 : dec cX12_seesOne 129 1 130 (.iaload) := ⟨by decide +kernel, rfl⟩
theorem dX12_seesOne_130 : dec cX12_seesOne 130 1 131 (.aload_n 0) := ⟨by decide +kernel, rfl⟩
theorem dX12_seesOne_131 : dec cX12_seesOne 131 3 134 (.getfield 40) := ⟨by decide +kernel, rfl⟩
theorem dX12_seesOne_134 : dec cX12_seesOne 134 2 136 (.iload 4) := ⟨by decide +kernel, rfl⟩
theorem dX12_seesOne_136 : dec cX12_seesOne 136 1 137 (.iaload) := ⟨by decide +kernel, rfl⟩
theorem dX12_seesOne_137 : dec cX12_seesOne 137 3 140 (.if_icmp .ne 7) := ⟨by decide +kernel, rfl⟩
theorem dX12_seesOne_140 : dec cX12_seesOne 140 1 141 (.iconst 1) := ⟨by decide +kernel, rfl⟩
theorem dX12_seesOne_141 : dec cX12_seesOne 141 3 144 (.goto 4) := ⟨by decide +kernel, rfl⟩
theorem dX12_seesOne_144 : dec cX12_seesOne 144 1 145 (.iconst 0) := ⟨by decide +kernel, rfl⟩
theorem dX12_seesOne_145 : dec cX12_seesOne 145 1 146 (.bastore) := ⟨by decide +kernel, rfl⟩
theorem dX12_seesOne_146 : dec cX12_seesOne 146 3 149 (.iinc 4 1) := ⟨by decide +kernel, rfl⟩
theorem dX12_seesOne_149 : dec cX12_seesOne 149 3 152 (.goto (-51)) := ⟨by decide +kernel, rfl⟩
theorem dX12_seesOne_152 : dec cX12_seesOne 152 1 153 (.return_) := ⟨by decide +kernel, rfl⟩
set_option maxHeartbeats 4000000 in
set_option maxRecDepth 100000 in
theorem tX12_seesOne_J68 {X : Cx} {Y : Yx} {M0 : Mem} (hC : OKX X Y RX12 cX12_seesOne 5 none rmX12_seesOne) (hF : Y.2.2.2.2 = true) (hL : Lay M0) (Q : Mem → Prop)   (a0 : Nat) (l2 : Int) (qa0 : 0 < a0 ∧ M0 0 a0 = kO 12)  (M : Mem) (h : wX12_seesOne_J68 Q  a0 l2 M) : WW X Y 5 rmX12_seesOne (QV Q) M0 0 0 68 [(0, vR Y.1 a0), (2, vL l2)] [] M := by
  unfold wX12_seesOne_J68 at h
  refine r_aload_n hC 0 dX12_seesOne_68 rfl rfl ?_
  refine r_lload_n hC 1 dX12_seesOne_69 rfl rfl ?_
  refine r_callV (As := [vL l2]) (st := []) hC cw_X12_250 rfl qa0.1 qa0.2 rfl rfl (Nat.le_of_ble_eq_true rfl) ⟨Nat.le_of_ble_eq_true rfl, Nat.le_of_ble_eq_true rfl⟩ ⟨Nat.le_of_ble_eq_true rfl, Nat.le_of_ble_eq_true rfl⟩ dX12_seesOne_70 (fun hk => mX12_isBest Y hF _ _ _ _ _ (kqO hk qa0) h) (fun v M_13 h => ?_)
  obtain ⟨rfl, h⟩ := h
  refine r_goto hC 152 dX12_seesOne_73 (by decide) ?_
  exact r_vret hC (Nat.zero_le _) (Nat.zero_le _) dX12_seesOne_152 ⟨rfl, h⟩
set_option maxHeartbeats 4000000 in
set_option maxRecDepth 100000 in
theorem tX12_seesOne_J145 {X : Cx} {Y : Yx} {M0 : Mem} (hC : OKX X Y RX12 cX12_seesOne 5 none rmX12_seesOne) (hF : Y.2.2.2.2 = true) (hL : Lay M0) (Q : Mem → Prop) (C98 : Int → Mem → Prop)  (a0 : Nat) (x4 : Int) (xs0 : Int) (xs1 : Int) (as2 : Nat) (qa0 : 0 < a0 ∧ M0 0 a0 = kO 12) (qas2 : 0 < as2 ∧ M0 0 as2 = kA 2 12) (hC98 : ∀ (x4 : Int) (M : Mem), C98 x4 M → WW X Y 5 rmX12_seesOne (QV Q) M0 0 0 98 [(0, vR Y.1 a0), (4, vI x4)] [] M) (M : Mem) (h : wX12_seesOne_J145 Q C98 a0 x4 xs0 xs1 as2 M) : WW X Y 5 rmX12_seesOne (QV Q) M0 0 0 145 [(0, vR Y.1 a0), (4, vI x4)] [vI xs0, vI xs1, vR Y.1 as2] M := by
  unfold wX12_seesOne_J145 at h
  obtain ⟨i_18, h⟩ := h
  obtain ⟨z_19, h⟩ := h
  refine r_zast hC z_19 i_18 qas2.1 qas2.2 (by decide) dX12_seesOne_145 ?_
  refine r_nameM h (fun M_20 h => ?_)
  refine let_elim h (fun x4_21 e_22 h => ?_)
  refine r_iinc (lv' := [(4, vI x4_21), (0, vR Y.1 a0)]) hC 1 dX12_seesOne_146 rfl (by decide) e_22 rfl ?_
  refine r_goto hC 98 dX12_seesOne_149 (by decide) ?_
  refine r_sub [1, 0] rfl ?_
  exact hC98 _ _ h
set_option maxHeartbeats 4000000 in
set_option maxRecDepth 100000 in
theorem tX12_seesOne_J144 {X : Cx} {Y : Yx} {M0 : Mem} (hC : OKX X Y RX12 cX12_seesOne 5 none rmX12_seesOne) (hF : Y.2.2.2.2 = true) (hL : Lay M0) (Q : Mem → Prop) (C98 : Int → Mem → Prop)  (a0 : Nat) (x4 : Int) (xs0 : Int) (as1 : Nat) (qa0 : 0 < a0 ∧ M0 0 a0 = kO 12) (qas1 : 0 < as1 ∧ M0 0 as1 = kA 2 12) (hC98 : ∀ (x4 : Int) (M : Mem), C98 x4 M → WW X Y 5 rmX12_seesOne (QV Q) M0 0 0 98 [(0, vR Y.1 a0), (4, vI x4)] [] M) (M : Mem) (h : wX12_seesOne_J144 Q C98 a0 x4 xs0 as1 M) : WW X Y 5 rmX12_seesOne (QV Q) M0 0 0 144 [(0, vR Y.1 a0), (4, vI x4)] [vI xs0, vR Y.1 as1] M := by
  unfold wX12_seesOne_J144 at h
  refine r_iconst hC dX12_seesOne_144 ?_
  refine r_sub [0, 1] rfl ?_
  exact tX12_seesOne_J145 hC hF hL Q _  _ _ _ _ _ qa0 qas1 hC98 _ h
set_option maxHeartbeats 4000000 in
set_option maxRecDepth 100000 in
theorem tX12_seesOne_L98 {X : Cx} {Y : Yx} {M0 : Mem} (hC : OKX X Y RX12 cX12_seesOne 5 none rmX12_seesOne) (hF : Y.2.2.2.2 = true) (hL : Lay M0) (Q : Mem → Prop)  (a0 : Nat) (qa0 : 0 < a0 ∧ M0 0 a0 = kO 12)  : ∀ (N : Nat) (x4 : Int) (M : Mem) (_ : wX12_seesOne_L98 Q  a0 N x4 M), WW X Y 5 rmX12_seesOne (QV Q) M0 0 0 98 [(0, vR Y.1 a0), (4, vI x4)] [] M := by
  intro N
  induction N with
  | zero =>
    intro x4 M h
    exact h.elim
  | succ N ih =>
    intro x4 M h
    unfold wX12_seesOne_L98 at h
    refine r_iload hC 1 dX12_seesOne_98 rfl ?_
    refine r_aload_n hC 0 dX12_seesOne_100 rfl rfl ?_
    refine r_getI hC fg_X12_162 rfl qa0.1 qa0.2 dX12_seesOne_101 ?_
    refine r_icmp_ge hC 152 rfl rfl dX12_seesOne_104 (by decide) (fun cq => ?_) (fun cq => ?_)
    · replace h := h.1 cq
      exact r_vret hC (Nat.zero_le _) (Nat.zero_le _) dX12_seesOne_152 ⟨rfl, h⟩
    · replace h := h.2 cq
      refine r_aload_n hC 0 dX12_seesOne_107 rfl rfl ?_
      have q_15 : 0 < a0 + 12 ∧ M0 0 (a0 + 12) = kA 2 12 := lay_f0 (a := a0) hL qa0 fm_12_24
      refine r_getR0 (a' := a0 + 12) hC fg_X12_43 rfl hF fm_12_24 qa0.1 qa0.2 rfl dX12_seesOne_108 ?_
      refine r_iload hC 1 dX12_seesOne_111 rfl ?_
      refine r_aload_n hC 0 dX12_seesOne_113 rfl rfl ?_
      have q_16 : 0 < a0 + 12 ∧ M0 0 (a0 + 12) = kA 2 12 := lay_f0 (a := a0) hL qa0 fm_12_24
      refine r_getR0 (a' := a0 + 12) hC fg_X12_43 rfl hF fm_12_24 qa0.1 qa0.2 rfl dX12_seesOne_114 ?_
      refine r_iload hC 1 dX12_seesOne_117 rfl ?_
      obtain ⟨i_17, h⟩ := h
      refine r_zald hC i_17 q_16.1 q_16.2 (by decide) dX12_seesOne_119 ?_
      refine r_if_eq hC 144 rfl dX12_seesOne_120 (by decide) (fun cq => ?_) (fun cq => ?_)
      · replace h := h.1 cq
        refine r_sub [0, 1] rfl ?_
        exact tX12_seesOne_J144 hC hF hL Q _  _ _ _ _ qa0 q_15 ih _ h
      · replace h := h.2 cq
        refine r_aload_n hC 0 dX12_seesOne_123 rfl rfl ?_
        have q_23 : 0 < a0 + 7 ∧ M0 0 (a0 + 7) = kA 0 12 := lay_f0 (a := a0) hL qa0 fm_12_12
        refine r_getR0 (a' := a0 + 7) hC fg_X12_28 rfl hF fm_12_12 qa0.1 qa0.2 rfl dX12_seesOne_124 ?_
        refine r_iload hC 1 dX12_seesOne_127 rfl ?_
        obtain ⟨i_24, h⟩ := h
        refine r_iald hC i_24 q_23.1 q_23.2 (by decide) dX12_seesOne_129 ?_
        refine r_aload_n hC 0 dX12_seesOne_130 rfl rfl ?_
        have q_25 : 0 < a0 + 11 ∧ M0 0 (a0 + 11) = kA 0 12 := lay_f0 (a := a0) hL qa0 fm_12_18
        refine r_getR0 (a' := a0 + 11) hC fg_X12_40 rfl hF fm_12_18 qa0.1 qa0.2 rfl dX12_seesOne_131 ?_
        refine r_iload hC 1 dX12_seesOne_134 rfl ?_
        obtain ⟨i_26, h⟩ := h
        refine r_iald hC i_26 q_25.1 q_25.2 (by decide) dX12_seesOne_136 ?_
        refine r_icmp_ne hC 144 rfl rfl dX12_seesOne_137 (by decide) (fun cq => ?_) (fun cq => ?_)
        · replace h := h.2 cq
          refine r_sub [0, 1] rfl ?_
          exact tX12_seesOne_J144 hC hF hL Q _  _ _ _ _ qa0 q_15 ih _ h
        · replace h := h.1 cq
          refine r_iconst hC dX12_seesOne_140 ?_
          refine r_goto hC 145 dX12_seesOne_141 (by decide) ?_
          refine r_sub [0, 1] rfl ?_
          exact tX12_seesOne_J145 hC hF hL Q _  _ _ _ _ _ qa0 q_15 ih _ h
set_option maxHeartbeats 4000000 in
set_option maxRecDepth 100000 in
theorem mX12_seesOne (Y : Yx) (hF : Y.2.2.2.2 = true) (l : Launch) (a0 : Nat) (M0 : Mem) (Q : Mem → Prop) (qa0 : 0 < a0 ∧ M0 0 a0 = kO 12) (h : wX12_seesOne a0 M0 Q) : CT Y l yX12_seesOne cX12_seesOne 5 none rmX12_seesOne [vR Y.1 a0] M0 (QV Q) := by
  unfold wX12_seesOne at h
  refine ct_intro (by decide) (Nat.le_of_ble_eq_true rfl) ?_
  intro X hXl hC hL0
  have hL := hL0 hF
  change OKX X Y RX12 cX12_seesOne 5 none rmX12_seesOne at hC
  change WW X Y 5 rmX12_seesOne (QV Q) M0 0 0 0 [(0, vR Y.1 a0)] [] M0
  refine r_aload_n hC 0 dX12_seesOne_0 rfl rfl ?_
  refine r_callV (As := []) (st := []) hC cw_X12_211 rfl qa0.1 qa0.2 rfl rfl (Nat.le_of_ble_eq_true rfl) ⟨Nat.le_of_ble_eq_true rfl, Nat.le_of_ble_eq_true rfl⟩ ⟨Nat.le_of_ble_eq_true rfl, Nat.le_of_ble_eq_true rfl⟩ dX12_seesOne_1 (fun hk => mX12_layRow Y hF _ _ _ _ (kqO hk qa0) h) (fun v M_1 h => ?_)
  obtain ⟨rfl, h⟩ := h
  refine r_aload_n hC 0 dX12_seesOne_4 rfl rfl ?_
  refine r_callV (As := []) (st := []) hC cw_X12_180 rfl qa0.1 qa0.2 rfl rfl (Nat.le_of_ble_eq_true rfl) ⟨Nat.le_of_ble_eq_true rfl, Nat.le_of_ble_eq_true rfl⟩ ⟨Nat.le_of_ble_eq_true rfl, Nat.le_of_ble_eq_true rfl⟩ dX12_seesOne_5 (fun hk => mX12_greatestTired Y hF _ _ _ _ (kqO hk qa0) h) (fun v M_2 h => ?_)
  obtain ⟨r_3, rfl, h⟩ := h
  refine r_aload_n hC 0 dX12_seesOne_8 rfl rfl ?_
  have q_4 : 0 < a0 + 1 ∧ M0 0 (a0 + 1) = kA 0 1522 := lay_f0 (a := a0) hL qa0 fm_12_0
  refine r_getR0 (a' := a0 + 1) hC fg_X12_7 rfl hF fm_12_0 qa0.1 qa0.2 rfl dX12_seesOne_9 ?_
  refine r_bipush hC (by decide +kernel) dX12_seesOne_12 ?_
  refine r_iald hC ⟨by decide +kernel, by decide +kernel⟩ q_4.1 q_4.2 (by decide) dX12_seesOne_14 ?_
  refine r_icmp_le hC 19 rfl rfl dX12_seesOne_15 (by decide) (fun cq => ?_) (fun cq => ?_)
  · replace h := h.1 cq
    refine r_aload_n hC 0 dX12_seesOne_19 rfl rfl ?_
    refine r_callV (As := []) (st := []) hC cw_X12_183 rfl qa0.1 qa0.2 rfl rfl (Nat.le_of_ble_eq_true rfl) ⟨Nat.le_of_ble_eq_true rfl, Nat.le_of_ble_eq_true rfl⟩ ⟨Nat.le_of_ble_eq_true rfl, Nat.le_of_ble_eq_true rfl⟩ dX12_seesOne_20 (fun hk => mX12_broken Y hF _ _ _ _ (kqO hk qa0) h) (fun v M_5 h => ?_)
    obtain ⟨r_6, rfl, h⟩ := h
    refine r_istore_n (lv' := [(1, vI r_6), (0, vR Y.1 a0)]) hC dX12_seesOne_23 rfl (by decide) rfl ?_
    refine r_aload_n hC 1 dX12_seesOne_24 rfl rfl ?_
    have q_7 : 0 < a0 + 13 ∧ M0 0 (a0 + 13) = kA 2 1024 := lay_f0 (a := a0) hL qa0 fm_12_25
    refine r_getR0 (a' := a0 + 13) hC fg_X12_47 rfl hF fm_12_25 qa0.1 qa0.2 rfl dX12_seesOne_25 ?_
    refine r_iload_n hC 0 dX12_seesOne_28 rfl rfl ?_
    refine r_iconst hC dX12_seesOne_29 ?_
    obtain ⟨i_8, h⟩ := h
    refine r_zast hC (Or.inr rfl) i_8 q_7.1 q_7.2 (by decide) dX12_seesOne_30 ?_
    refine r_nameM h (fun M_9 h => ?_)
    refine r_iload_n hC 0 dX12_seesOne_31 rfl rfl ?_
    refine r_if_eq hC 36 rfl dX12_seesOne_32 (by decide) (fun cq => ?_) (fun cq => ?_)
    · replace h := h.1 cq
      refine r_aload_n hC 1 dX12_seesOne_36 rfl rfl ?_
      refine r_dup hC rfl dX12_seesOne_37 ?_
      refine r_getI hC fg_X12_247 rfl qa0.1 qa0.2 dX12_seesOne_38 ?_
      refine r_iconst hC dX12_seesOne_41 ?_
      refine r_iadd hC dX12_seesOne_42 ?_
      refine r_putI hC fp_X12_247 rfl qa0.1 qa0.2 dX12_seesOne_43 ?_
      refine r_nameM h (fun M_10 h => ?_)
      refine r_aload_n hC 1 dX12_seesOne_46 rfl rfl ?_
      refine r_callV (As := []) (st := []) hC cw_X12_220 rfl qa0.1 qa0.2 rfl rfl (Nat.le_of_ble_eq_true rfl) ⟨Nat.le_of_ble_eq_true rfl, Nat.le_of_ble_eq_true rfl⟩ ⟨Nat.le_of_ble_eq_true rfl, Nat.le_of_ble_eq_true rfl⟩ dX12_seesOne_47 (fun hk => mX12_worthNow Y hF _ _ _ _ (kqO hk qa0) h) (fun v M_11 h => ?_)
      obtain ⟨r_12, rfl, h⟩ := h
      refine r_lstore_n (lv' := [(2, vL r_12), (1, vI r_6), (0, vR Y.1 a0)]) hC dX12_seesOne_50 rfl (by decide) rfl ?_
      refine r_aload_n hC 2 dX12_seesOne_51 rfl rfl ?_
      refine r_getI hC fg_X12_247 rfl qa0.1 qa0.2 dX12_seesOne_52 ?_
      refine r_iconst hC dX12_seesOne_55 ?_
      refine r_icmp_eq hC 68 rfl bmL_1 dX12_seesOne_56 (by decide) (fun cq => ?_) (fun cq => ?_)
      · replace h := h.1 cq
        refine r_sub [2, 0] rfl ?_
        exact tX12_seesOne_J68 hC hF hL Q   _ _ qa0  _ h
      · replace h := h.2 cq
        refine r_lload_n hC 0 dX12_seesOne_59 rfl rfl ?_
        refine r_aload_n hC 2 dX12_seesOne_60 rfl rfl ?_
        refine r_getL hC fg_X12_240 rfl qa0.1 qa0.2 dX12_seesOne_61 ?_
        refine r_lcmp hC dX12_seesOne_64 ?_
        refine r_if_le hC 76 rfl dX12_seesOne_65 (by decide) (fun cq => ?_) (fun cq => ?_)
        · replace h := h.1 cq
          refine r_lload_n hC 0 dX12_seesOne_76 rfl rfl ?_
          refine r_aload_n hC 2 dX12_seesOne_77 rfl rfl ?_
          refine r_getL hC fg_X12_240 rfl qa0.1 qa0.2 dX12_seesOne_78 ?_
          refine r_lcmp hC dX12_seesOne_81 ?_
          refine r_if_ne hC 152 rfl dX12_seesOne_82 (by decide) (fun cq => ?_) (fun cq => ?_)
          · replace h := h.2 cq
            exact r_vret hC (Nat.zero_le _) (Nat.zero_le _) dX12_seesOne_152 ⟨rfl, h⟩
          · replace h := h.1 cq
            refine r_aload_n hC 2 dX12_seesOne_85 rfl rfl ?_
            refine r_dup hC rfl dX12_seesOne_86 ?_
            refine r_getI hC fg_X12_244 rfl qa0.1 qa0.2 dX12_seesOne_87 ?_
            refine r_iconst hC dX12_seesOne_90 ?_
            refine r_iadd hC dX12_seesOne_91 ?_
            refine r_putI hC fp_X12_244 rfl qa0.1 qa0.2 dX12_seesOne_92 ?_
            refine r_nameM h (fun M_14 h => ?_)
            refine r_iconst hC dX12_seesOne_95 ?_
            refine r_istore (lv' := [(4, vI 0), (2, vL r_12), (1, vI r_6), (0, vR Y.1 a0)]) hC dX12_seesOne_96 (by decide) rfl ?_
            refine r_sub [3, 0] rfl ?_
            obtain ⟨N_27, h⟩ := h
            refine tX12_seesOne_L98 hC hF hL Q  _ qa0  N_27 _ _ h
        · replace h := h.2 cq
          refine r_sub [2, 0] rfl ?_
          exact tX12_seesOne_J68 hC hF hL Q   _ _ qa0  _ h
    · replace h := h.2 cq
      exact r_vret hC (Nat.zero_le _) (Nat.zero_le _) dX12_seesOne_35 ⟨rfl, h⟩
  · replace h := h.2 cq
    exact r_vret hC (Nat.zero_le _) (Nat.zero_le _) dX12_seesOne_18 ⟨rfl, h⟩
theorem dX12_seesAll_0 : dec cX12_seesAll 0 1 1 (.aload_n 0) := ⟨by decide +kernel, rfl⟩
theorem dX12_seesAll_1 : dec cX12_seesAll 1 1 2 (.iconst 0) := ⟨by decide +kernel, rfl⟩
theorem dX12_seesAll_2 : dec cX12_seesAll 2 3 5 (.putfield 247) := ⟨by decide +kernel, rfl⟩
theorem dX12_seesAll_5 : dec cX12_seesAll 5 1 6 (.aload_n 0) := ⟨by decide +kernel, rfl⟩
theorem dX12_seesAll_6 : dec cX12_seesAll 6 1 7 (.iconst 0) := ⟨by decide +kernel, rfl⟩
theorem dX12_seesAll_7 : dec cX12_seesAll 7 3 10 (.putfield 244) := ⟨by decide +kernel, rfl⟩
theorem dX12_seesAll_10 : dec cX12_seesAll 10 1 11 (.iconst 0) := ⟨by decide +kernel, rfl⟩
theorem dX12_seesAll_11 : dec cX12_seesAll 11 1 12 (.istore_n 2) := ⟨by decide +kernel, rfl⟩
theorem dX12_seesAll_12 : dec cX12_seesAll 12 1 13 (.iload_n 2) := ⟨by decide +kernel, rfl⟩
theorem dX12_seesAll_13 : dec cX12_seesAll 13 3 16 (.sipush 1024) := ⟨by decide +kernel, rfl⟩
theorem dX12_seesAll_16 : dec cX12_seesAll 16 3 19 (.if_icmp .ge 16) := ⟨by decide +kernel, rfl⟩
theorem dX12_seesAll_19 : dec cX12_seesAll 19 1 20 (.aload_n 0) := ⟨by decide +kernel, rfl⟩
theorem dX12_seesAll_20 : dec cX12_seesAll 20 3 23 (.getfield 47) := ⟨by decide +kernel, rfl⟩
theorem dX12_seesAll_23 : dec cX12_seesAll 23 1 24 (.iload_n 2) := ⟨by decide +kernel, rfl⟩
theorem dX12_seesAll_24 : dec cX12_seesAll 24 1 25 (.iconst 0) := ⟨by decide +kernel, rfl⟩
theorem dX12_seesAll_25 : dec cX12_seesAll 25 1 26 (.bastore) := ⟨by decide +kernel, rfl⟩
theorem dX12_seesAll_26 : dec cX12_seesAll 26 3 29 (.iinc 2 1) := ⟨by decide +kernel, rfl⟩
theorem dX12_seesAll_29 : dec cX12_seesAll 29 3 32 (.goto (-17)) := ⟨by decide +kernel, rfl⟩
theorem dX12_seesAll_32 : dec cX12_seesAll 32 1 33 (.aload_n 0) := ⟨by decide +kernel, rfl⟩
theorem dX12_seesAll_33 : dec cX12_seesAll 33 1 34 (.iload_n 1) := ⟨by decide +kernel, rfl⟩
theorem dX12_seesAll_34 : dec cX12_seesAll 34 3 37 (.invokevirtual 254) := ⟨by decide +kernel, rfl⟩
theorem dX12_seesAll_37 : dec cX12_seesAll 37 1 38 (.iconst 1) := ⟨by decide +kernel, rfl⟩
theorem dX12_seesAll_38 : dec cX12_seesAll 38 1 39 (.istore_n 2) := ⟨by decide +kernel, rfl⟩
theorem dX12_seesAll_39 : dec cX12_seesAll 39 1 40 (.iload_n 2) := ⟨by decide +kernel, rfl⟩
theorem dX12_seesAll_40 : dec cX12_seesAll 40 3 43 (.ifCond .eq 36) := ⟨by decide +kernel, rfl⟩
theorem dX12_seesAll_43 : dec cX12_seesAll 43 1 44 (.iconst 0) := ⟨by decide +kernel, rfl⟩
theorem dX12_seesAll_44 : dec cX12_seesAll 44 1 45 (.istore_n 3) := ⟨by decide +kernel, rfl⟩
theorem dX12_seesAll_45 : dec cX12_seesAll 45 1 46 (.iload_n 3) := ⟨by decide +kernel, rfl⟩
theorem dX12_seesAll_46 : dec cX12_seesAll 46 1 47 (.aload_n 0) := ⟨by decide +kernel, rfl⟩
theorem dX12_seesAll_47 : dec cX12_seesAll 47 3 50 (.getfield 162) := ⟨by decide +kernel, rfl⟩
theorem dX12_seesAll_50 : dec cX12_seesAll 50 3 53 (.if_icmp .ge 18) := ⟨by decide +kernel, rfl⟩
theorem dX12_seesAll_53 : dec cX12_seesAll 53 1 54 (.aload_n 0) := ⟨by decide +kernel, rfl⟩
theorem dX12_seesAll_54 : dec cX12_seesAll 54 1 55 (.iload_n 3) := ⟨by decide +kernel, rfl⟩
theorem dX12_seesAll_55 : dec cX12_seesAll 55 3 58 (.putfield 159) := ⟨by decide +kernel, rfl⟩
theorem dX12_seesAll_58 : dec cX12_seesAll 58 1 59 (.aload_n 0) := ⟨by decide +kernel, rfl⟩
theorem dX12_seesAll_59 : dec cX12_seesAll 59 3 62 (.invokevirtual 258) := ⟨by decide +kernel, rfl⟩
theorem dX12_seesAll_62 : dec cX12_seesAll 62 3 65 (.iinc 3 1) := ⟨by decide +kernel, rfl⟩
theorem dX12_seesAll_65 : dec cX12_seesAll 65 3 68 (.goto (-20)) := ⟨by decide +kernel, rfl⟩
theorem dX12_seesAll_68 : dec cX12_seesAll 68 1 69 (.aload_n 0) := ⟨by decide +kernel, rfl⟩
theorem dX12_seesAll_69 : dec cX12_seesAll 69 3 72 (.invokevirtual 261) := ⟨by decide +kernel, rfl⟩
theorem dX12_seesAll_72 : dec cX12_seesAll 72 1 73 (.istore_n 2) := ⟨by decide +kernel, rfl⟩
theorem dX12_seesAll_73 : dec cX12_seesAll 73 3 76 (.goto (-34)) := ⟨by decide +kernel, rfl⟩
theorem dX12_seesAll_76 : dec cX12_seesAll 76 1 77 (.return_) := ⟨by decide +kernel, rfl⟩
set_option maxHeartbeats 4000000 in
set_option maxRecDepth 100000 in
theorem tX12_seesAll_L12 {X : Cx} {Y : Yx} {M0 : Mem} (hC : OKX X Y RX12 cX12_seesAll 4 none rmX12_seesAll) (hF : Y.2.2.2.2 = true) (hL : Lay M0) (Q : Mem → Prop) (E32 : Mem → Prop) (a0 : Nat) (x1 : Int) (qa0 : 0 < a0 ∧ M0 0 a0 = kO 12) (hE32 : ∀  (M : Mem), E32  M → WW X Y 4 rmX12_seesAll (QV Q) M0 0 0 32 [(0, vR Y.1 a0), (1, vI x1)] [] M) : ∀ (N : Nat) (x2 : Int) (M : Mem) (_ : wX12_seesAll_L12 Q E32 a0 x1 N x2 M), WW X Y 4 rmX12_seesAll (QV Q) M0 0 0 12 [(0, vR Y.1 a0), (1, vI x1), (2, vI x2)] [] M := by
  intro N
  induction N with
  | zero =>
    intro x2 M h
    exact h.elim
  | succ N ih =>
    intro x2 M h
    unfold wX12_seesAll_L12 at h
    refine r_iload_n hC 2 dX12_seesAll_12 rfl rfl ?_
    refine r_sipush hC (by decide +kernel) dX12_seesAll_13 ?_
    refine r_icmp_ge hC 32 rfl bmL_1024 dX12_seesAll_16 (by decide) (fun cq => ?_) (fun cq => ?_)
    · replace h := h.1 cq
      refine r_sub [0, 1] rfl ?_
      exact hE32  _ h
    · replace h := h.2 cq
      refine r_aload_n hC 0 dX12_seesAll_19 rfl rfl ?_
      have q_3 : 0 < a0 + 13 ∧ M0 0 (a0 + 13) = kA 2 1024 := lay_f0 (a := a0) hL qa0 fm_12_25
      refine r_getR0 (a' := a0 + 13) hC fg_X12_47 rfl hF fm_12_25 qa0.1 qa0.2 rfl dX12_seesAll_20 ?_
      refine r_iload_n hC 2 dX12_seesAll_23 rfl rfl ?_
      refine r_iconst hC dX12_seesAll_24 ?_
      obtain ⟨i_4, h⟩ := h
      refine r_zast hC (Or.inl rfl) i_4 q_3.1 q_3.2 (by decide) dX12_seesAll_25 ?_
      refine r_nameM h (fun M_5 h => ?_)
      refine let_elim h (fun x2_6 e_7 h => ?_)
      refine r_iinc (lv' := [(2, vI x2_6), (0, vR Y.1 a0), (1, vI x1)]) hC 2 dX12_seesAll_26 rfl (by decide) e_7 rfl ?_
      refine r_goto hC 12 dX12_seesAll_29 (by decide) ?_
      refine r_sub [1, 2, 0] rfl ?_
      exact ih _ _ h
set_option maxHeartbeats 4000000 in
set_option maxRecDepth 100000 in
theorem tX12_seesAll_L45 {X : Cx} {Y : Yx} {M0 : Mem} (hC : OKX X Y RX12 cX12_seesAll 4 none rmX12_seesAll) (hF : Y.2.2.2.2 = true) (hL : Lay M0) (Q : Mem → Prop) (E68 : Mem → Prop) (a0 : Nat) (qa0 : 0 < a0 ∧ M0 0 a0 = kO 12) (hE68 : ∀  (M : Mem), E68  M → WW X Y 4 rmX12_seesAll (QV Q) M0 0 0 68 [(0, vR Y.1 a0)] [] M) : ∀ (N : Nat) (x3 : Int) (M : Mem) (_ : wX12_seesAll_L45 Q E68 a0 N x3 M), WW X Y 4 rmX12_seesAll (QV Q) M0 0 0 45 [(0, vR Y.1 a0), (3, vI x3)] [] M := by
  intro N
  induction N with
  | zero =>
    intro x3 M h
    exact h.elim
  | succ N ih =>
    intro x3 M h
    unfold wX12_seesAll_L45 at h
    refine r_iload_n hC 1 dX12_seesAll_45 rfl rfl ?_
    refine r_aload_n hC 0 dX12_seesAll_46 rfl rfl ?_
    refine r_getI hC fg_X12_162 rfl qa0.1 qa0.2 dX12_seesAll_47 ?_
    refine r_icmp_ge hC 68 rfl rfl dX12_seesAll_50 (by decide) (fun cq => ?_) (fun cq => ?_)
    · replace h := h.1 cq
      refine r_sub [0] rfl ?_
      exact hE68  _ h
    · replace h := h.2 cq
      refine r_aload_n hC 0 dX12_seesAll_53 rfl rfl ?_
      refine r_iload_n hC 1 dX12_seesAll_54 rfl rfl ?_
      refine r_putI hC fp_X12_159 rfl qa0.1 qa0.2 dX12_seesAll_55 ?_
      refine r_nameM h (fun M_10 h => ?_)
      refine r_aload_n hC 0 dX12_seesAll_58 rfl rfl ?_
      refine r_callV (As := []) (st := []) hC cw_X12_258 rfl qa0.1 qa0.2 rfl rfl (Nat.le_of_ble_eq_true rfl) ⟨Nat.le_of_ble_eq_true rfl, Nat.le_of_ble_eq_true rfl⟩ ⟨Nat.le_of_ble_eq_true rfl, Nat.le_of_ble_eq_true rfl⟩ dX12_seesAll_59 (fun hk => mX12_seesOne Y hF _ _ _ _ (kqO hk qa0) h) (fun v M_11 h => ?_)
      obtain ⟨rfl, h⟩ := h
      refine let_elim h (fun x3_12 e_13 h => ?_)
      refine r_iinc (lv' := [(3, vI x3_12), (0, vR Y.1 a0)]) hC 1 dX12_seesAll_62 rfl (by decide) e_13 rfl ?_
      refine r_goto hC 45 dX12_seesAll_65 (by decide) ?_
      refine r_sub [1, 0] rfl ?_
      exact ih _ _ h
set_option maxHeartbeats 4000000 in
set_option maxRecDepth 100000 in
theorem tX12_seesAll_L39 {X : Cx} {Y : Yx} {M0 : Mem} (hC : OKX X Y RX12 cX12_seesAll 4 none rmX12_seesAll) (hF : Y.2.2.2.2 = true) (hL : Lay M0) (Q : Mem → Prop)  (a0 : Nat) (qa0 : 0 < a0 ∧ M0 0 a0 = kO 12)  : ∀ (N : Nat) (x2 : Int) (M : Mem) (_ : wX12_seesAll_L39 Q  a0 N x2 M), WW X Y 4 rmX12_seesAll (QV Q) M0 0 0 39 [(0, vR Y.1 a0), (2, vI x2)] [] M := by
  intro N
  induction N with
  | zero =>
    intro x2 M h
    exact h.elim
  | succ N ih =>
    intro x2 M h
    unfold wX12_seesAll_L39 at h
    refine r_iload_n hC 1 dX12_seesAll_39 rfl rfl ?_
    refine r_if_eq hC 76 rfl dX12_seesAll_40 (by decide) (fun cq => ?_) (fun cq => ?_)
    · replace h := h.1 cq
      exact r_vret hC (Nat.zero_le _) (Nat.zero_le _) dX12_seesAll_76 ⟨rfl, h⟩
    · replace h := h.2 cq
      refine r_iconst hC dX12_seesAll_43 ?_
      refine r_istore_n (lv' := [(3, vI 0), (0, vR Y.1 a0), (2, vI x2)]) hC dX12_seesAll_44 rfl (by decide) rfl ?_
      refine r_sub [1, 0] rfl ?_
      obtain ⟨N_17, h⟩ := h
      refine tX12_seesAll_L45 hC hF hL Q _ _ qa0 ?_ N_17 _ _ h
      · intro M_14 h
        refine r_aload_n hC 0 dX12_seesAll_68 rfl rfl ?_
        refine r_callV (As := []) (st := []) hC cw_X12_261 rfl qa0.1 qa0.2 rfl rfl (Nat.le_of_ble_eq_true rfl) ⟨Nat.le_of_ble_eq_true rfl, Nat.le_of_ble_eq_true rfl⟩ ⟨Nat.le_of_ble_eq_true rfl, Nat.le_of_ble_eq_true rfl⟩ dX12_seesAll_69 (fun hk => mX12_nextOrder Y hF _ _ _ _ (kqO hk qa0) h) (fun v M_15 h => ?_)
        obtain ⟨r_16, rfl, h⟩ := h
        refine r_istore_n (lv' := [(2, vI r_16), (0, vR Y.1 a0)]) hC dX12_seesAll_72 rfl (by decide) rfl ?_
        refine r_goto hC 39 dX12_seesAll_73 (by decide) ?_
        refine r_sub [1, 0] rfl ?_
        exact ih _ _ h
set_option maxHeartbeats 4000000 in
set_option maxRecDepth 100000 in
theorem mX12_seesAll (Y : Yx) (hF : Y.2.2.2.2 = true) (l : Launch) (a0 : Nat) (x1 : Int) (M0 : Mem) (Q : Mem → Prop) (qa0 : 0 < a0 ∧ M0 0 a0 = kO 12) (h : wX12_seesAll a0 x1 M0 Q) : CT Y l yX12_seesAll cX12_seesAll 4 none rmX12_seesAll [vR Y.1 a0, vI x1] M0 (QV Q) := by
  unfold wX12_seesAll at h
  refine ct_intro (by decide) (Nat.le_of_ble_eq_true rfl) ?_
  intro X hXl hC hL0
  have hL := hL0 hF
  change OKX X Y RX12 cX12_seesAll 4 none rmX12_seesAll at hC
  change WW X Y 4 rmX12_seesAll (QV Q) M0 0 0 0 [(0, vR Y.1 a0), (1, vI x1)] [] M0
  refine r_aload_n hC 0 dX12_seesAll_0 rfl rfl ?_
  refine r_iconst hC dX12_seesAll_1 ?_
  refine r_putI hC fp_X12_247 rfl qa0.1 qa0.2 dX12_seesAll_2 ?_
  refine r_nameM h (fun M_1 h => ?_)
  refine r_aload_n hC 0 dX12_seesAll_5 rfl rfl ?_
  refine r_iconst hC dX12_seesAll_6 ?_
  refine r_putI hC fp_X12_244 rfl qa0.1 qa0.2 dX12_seesAll_7 ?_
  refine r_nameM h (fun M_2 h => ?_)
  refine r_iconst hC dX12_seesAll_10 ?_
  refine r_istore_n (lv' := [(2, vI 0), (0, vR Y.1 a0), (1, vI x1)]) hC dX12_seesAll_11 rfl (by decide) rfl ?_
  refine r_sub [1, 2, 0] rfl ?_
  obtain ⟨N_19, h⟩ := h
  refine tX12_seesAll_L12 hC hF hL Q _ _ _ qa0 ?_ N_19 _ _ h
  · intro M_8 h
    refine r_aload_n hC 0 dX12_seesAll_32 rfl rfl ?_
    refine r_iload_n hC 1 dX12_seesAll_33 rfl rfl ?_
    refine r_callV (As := [vI x1]) (st := []) hC cw_X12_254 rfl qa0.1 qa0.2 rfl rfl (Nat.le_of_ble_eq_true rfl) ⟨Nat.le_of_ble_eq_true rfl, Nat.le_of_ble_eq_true rfl⟩ ⟨Nat.le_of_ble_eq_true rfl, Nat.le_of_ble_eq_true rfl⟩ dX12_seesAll_34 (fun hk => mX12_firstOrder Y hF _ _ _ _ _ (kqO hk qa0) h) (fun v M_9 h => ?_)
    obtain ⟨rfl, h⟩ := h
    refine r_iconst hC dX12_seesAll_37 ?_
    refine r_istore_n (lv' := [(2, vI 1), (0, vR Y.1 a0), (1, vI x1)]) hC dX12_seesAll_38 rfl (by decide) rfl ?_
    refine r_sub [1, 0] rfl ?_
    obtain ⟨N_18, h⟩ := h
    refine tX12_seesAll_L39 hC hF hL Q  _ qa0  N_18 _ _ h
theorem dX12_isSet_0 : dec cX12_isSet 0 1 1 (.iload_n 1) := ⟨by decide +kernel, rfl⟩
theorem dX12_isSet_1 : dec cX12_isSet 1 1 2 (.iconst 0) := ⟨by decide +kernel, rfl⟩
theorem dX12_isSet_2 : dec cX12_isSet 2 1 3 (.iconst 1) := ⟨by decide +kernel, rfl⟩
theorem dX12_isSet_3 : dec cX12_isSet 3 1 4 (.aload_n 0) := ⟨by decide +kernel, rfl⟩
theorem dX12_isSet_4 : dec cX12_isSet 4 3 7 (.getfield 7) := ⟨by decide +kernel, rfl⟩
theorem dX12_isSet_7 : dec cX12_isSet 7 1 8 (.iconst 0) := ⟨by decide +kernel, rfl⟩
theorem dX12_isSet_8 : dec cX12_isSet 8 1 9 (.iaload) := ⟨by decide +kernel, rfl⟩
theorem dX12_isSet_9 : dec cX12_isSet 9 1 10 (.ishl) := ⟨by decide +kernel, rfl⟩
theorem dX12_isSet_10 : dec cX12_isSet 10 1 11 (.iconst 1) := ⟨by decide +kernel, rfl⟩
theorem dX12_isSet_11 : dec cX12_isSet 11 1 12 (.isub) := ⟨by decide +kernel, rfl⟩
theorem dX12_isSet_12 : dec cX12_isSet 12 3 15 (.invokestatic 79) := ⟨by decide +kernel, rfl⟩
theorem dX12_isSet_15 : dec cX12_isSet 15 1 16 (.ireturn) := ⟨by decide +kernel, rfl⟩
set_option maxHeartbeats 4000000 in
set_option maxRecDepth 100000 in
theorem mX12_isSet (Y : Yx) (hF : Y.2.2.2.2 = true) (l : Launch) (a0 : Nat) (x1 : Int) (M0 : Mem) (Q : Int → Mem → Prop) (qa0 : 0 < a0 ∧ M0 0 a0 = kO 12) (h : wX12_isSet a0 x1 M0 Q) : CT Y l yX12_isSet cX12_isSet 2 (some .boolean) rmX12_isSet [vR Y.1 a0, vI x1] M0 (QI Q) := by
  unfold wX12_isSet at h
  refine ct_intro (by decide) (Nat.le_of_ble_eq_true rfl) ?_
  intro X hXl hC hL0
  have hL := hL0 hF
  change OKX X Y RX12 cX12_isSet 2 (some .boolean) rmX12_isSet at hC
  change WW X Y 2 rmX12_isSet (QI Q) M0 0 0 0 [(0, vR Y.1 a0), (1, vI x1)] [] M0
  refine r_iload_n hC 1 dX12_isSet_0 rfl rfl ?_
  refine r_iconst hC dX12_isSet_1 ?_
  refine r_iconst hC dX12_isSet_2 ?_
  refine r_aload_n hC 0 dX12_isSet_3 rfl rfl ?_
  have q_1 : 0 < a0 + 1 ∧ M0 0 (a0 + 1) = kA 0 1522 := lay_f0 (a := a0) hL qa0 fm_12_0
  refine r_getR0 (a' := a0 + 1) hC fg_X12_7 rfl hF fm_12_0 qa0.1 qa0.2 rfl dX12_isSet_4 ?_
  refine r_iconst hC dX12_isSet_7 ?_
  refine r_iald hC ⟨by decide +kernel, by decide +kernel⟩ q_1.1 q_1.2 (by decide) dX12_isSet_8 ?_
  refine r_ishl hC dX12_isSet_9 ?_
  refine r_iconst hC dX12_isSet_10 ?_
  refine r_isub hC dX12_isSet_11 ?_
  refine r_callS (As := [vI x1, vI 0, vI ((iShl 1 (rd M0 (a0 + 1) 0)) - 1)]) (st := []) hC cw_X12_79 rfl rfl (Nat.le_of_ble_eq_true rfl) ⟨Nat.le_of_ble_eq_true rfl, Nat.le_of_ble_eq_true rfl⟩ ⟨Nat.le_of_ble_eq_true rfl, Nat.le_of_ble_eq_true rfl⟩ dX12_isSet_12 (fun hk => mX12_in Y hF _ _ _ _ _ _  h) (fun v M_2 h => ?_)
  obtain ⟨r_3, rfl, h⟩ := h
  exact r_zret hC h.1 (Nat.zero_le _) (Nat.zero_le _) dX12_isSet_15 ⟨_, rfl, h.2⟩
theorem dX12_isSmall_0 : dec cX12_isSmall 0 1 1 (.iload_n 0) := ⟨by decide +kernel, rfl⟩
theorem dX12_isSmall_1 : dec cX12_isSmall 1 3 4 (.invokestatic 156) := ⟨by decide +kernel, rfl⟩
theorem dX12_isSmall_4 : dec cX12_isSmall 4 1 5 (.iconst 1) := ⟨by decide +kernel, rfl⟩
theorem dX12_isSmall_5 : dec cX12_isSmall 5 1 6 (.iload_n 1) := ⟨by decide +kernel, rfl⟩
theorem dX12_isSmall_6 : dec cX12_isSmall 6 3 9 (.invokestatic 79) := ⟨by decide +kernel, rfl⟩
theorem dX12_isSmall_9 : dec cX12_isSmall 9 1 10 (.ireturn) := ⟨by decide +kernel, rfl⟩
set_option maxHeartbeats 4000000 in
set_option maxRecDepth 100000 in
theorem mX12_isSmall (Y : Yx) (hF : Y.2.2.2.2 = true) (l : Launch) (x0 : Int) (x1 : Int) (M0 : Mem) (Q : Int → Mem → Prop)  (h : wX12_isSmall x0 x1 M0 Q) : CT Y l yX12_isSmall cX12_isSmall 2 (some .boolean) rmX12_isSmall [vI x0, vI x1] M0 (QI Q) := by
  unfold wX12_isSmall at h
  refine ct_intro (by decide) (Nat.le_of_ble_eq_true rfl) ?_
  intro X hXl hC hL0
  have hL := hL0 hF
  change OKX X Y RX12 cX12_isSmall 2 (some .boolean) rmX12_isSmall at hC
  change WW X Y 2 rmX12_isSmall (QI Q) M0 0 0 0 [(0, vI x0), (1, vI x1)] [] M0
  refine r_iload_n hC 0 dX12_isSmall_0 rfl rfl ?_
  refine r_callS (As := [vI x0]) (st := []) hC cw_X12_156 rfl rfl (Nat.le_of_ble_eq_true rfl) ⟨Nat.le_of_ble_eq_true rfl, Nat.le_of_ble_eq_true rfl⟩ ⟨Nat.le_of_ble_eq_true rfl, Nat.le_of_ble_eq_true rfl⟩ dX12_isSmall_1 (fun hk => mX12_ones Y hF _ _ _ _  h) (fun v M_1 h => ?_)
  obtain ⟨r_2, rfl, h⟩ := h
  refine r_iconst hC dX12_isSmall_4 ?_
  refine r_iload_n hC 1 dX12_isSmall_5 rfl rfl ?_
  refine r_callS (As := [vI r_2, vI 1, vI x1]) (st := []) hC cw_X12_79 rfl rfl (Nat.le_of_ble_eq_true rfl) ⟨Nat.le_of_ble_eq_true rfl, Nat.le_of_ble_eq_true rfl⟩ ⟨Nat.le_of_ble_eq_true rfl, Nat.le_of_ble_eq_true rfl⟩ dX12_isSmall_6 (fun hk => mX12_in Y hF _ _ _ _ _ _  h) (fun v M_3 h => ?_)
  obtain ⟨r_4, rfl, h⟩ := h
  exact r_zret hC h.1 (Nat.zero_le _) (Nat.zero_le _) dX12_isSmall_9 ⟨_, rfl, h.2⟩
theorem dX12_best_0 : dec cX12_best 0 1 1 (.aload_n 0) := ⟨by decide +kernel, rfl⟩
theorem dX12_best_1 : dec cX12_best 1 1 2 (.iload_n 1) := ⟨by decide +kernel, rfl⟩
theorem dX12_best_2 : dec cX12_best 2 3 5 (.invokevirtual 264) := ⟨by decide +kernel, rfl⟩
theorem dX12_best_5 : dec cX12_best 5 3 8 (.ifCond .eq 8) := ⟨by decide +kernel, rfl⟩
theorem dX12_best_8 : dec cX12_best 8 1 9 (.iload_n 2) := ⟨by decide +kernel, rfl⟩
theorem dX12_best_9 : dec cX12_best 9 1 10 (.iconst (-1)) := ⟨by decide +kernel, rfl⟩
theorem dX12_best_10 : dec cX12_best 10 3 13 (.if_icmp .ge 9) := ⟨by decide +kernel, rfl⟩
theorem dX12_best_13 : dec cX12_best 13 1 14 (.aload_n 0) := ⟨by decide +kernel, rfl⟩
theorem dX12_best_14 : dec cX12_best 14 1 15 (.iconst 1) := ⟨by decide +kernel, rfl⟩
theorem dX12_best_15 : dec cX12_best 15 3 18 (.invokevirtual 83) := ⟨by decide +kernel, rfl⟩
theorem dX12_best_18 : dec cX12_best 18 1 19 (.ireturn) := ⟨by decide +kernel, rfl⟩
theorem dX12_best_19 : dec cX12_best 19 1 20 (.iload_n 1) := ⟨by decide +kernel, rfl⟩
theorem dX12_best_20 : dec cX12_best 20 2 22 (.bipush 6) := ⟨by decide +kernel, rfl⟩
theorem dX12_best_22 : dec cX12_best 22 3 25 (.invokestatic 267) := ⟨by decide +kernel, rfl⟩
theorem dX12_best_25 : dec cX12_best 25 3 28 (.ifCond .ne 9) := ⟨by decide +kernel, rfl⟩
theorem dX12_best_28 : dec cX12_best 28 1 29 (.aload_n 0) := ⟨by decide +kernel, rfl⟩
theorem dX12_best_29 : dec cX12_best 29 1 30 (.iconst 5) := ⟨by decide +kernel, rfl⟩
theorem dX12_best_30 : dec cX12_best 30 3 33 (.invokevirtual 83) := ⟨by decide +kernel, rfl⟩
theorem dX12_best_33 : dec cX12_best 33 1 34 (.ireturn) := ⟨by decide +kernel, rfl⟩
theorem dX12_best_34 : dec cX12_best 34 1 35 (.aload_n 0) := ⟨by decide +kernel, rfl⟩
theorem dX12_best_35 : dec cX12_best 35 1 36 (.iload_n 1) := ⟨by decide +kernel, rfl⟩
theorem dX12_best_36 : dec cX12_best 36 3 39 (.invokevirtual 271) := ⟨by decide +kernel, rfl⟩
theorem dX12_best_39 : dec cX12_best 39 1 40 (.aload_n 0) := ⟨by decide +kernel, rfl⟩
theorem dX12_best_40 : dec cX12_best 40 3 43 (.getfield 247) := ⟨by decide +kernel, rfl⟩
theorem dX12_best_43 : dec cX12_best 43 3 46 (.ifCond .eq 11) := ⟨by decide +kernel, rfl⟩
theorem dX12_best_46 : dec cX12_best 46 1 47 (.iload_n 2) := ⟨by decide +kernel, rfl⟩
theorem dX12_best_47 : dec cX12_best 47 1 48 (.aload_n 0) := ⟨by decide +kernel, rfl⟩
theorem dX12_best_48 : dec cX12_best 48 3 51 (.getfield 234) := ⟨by decide +kernel, rfl⟩
theorem dX12_best_51 : dec cX12_best 51 3 54 (.if_icmp .lt 9) := ⟨by decide +kernel, rfl⟩
theorem dX12_best_54 : dec cX12_best 54 1 55 (.aload_n 0) := ⟨by decide +kernel, rfl⟩
theorem dX12_best_55 : dec cX12_best 55 1 56 (.iconst 2) := ⟨by decide +kernel, rfl⟩
theorem dX12_best_56 : dec cX12_best 56 3 59 (.invokevirtual 83) := ⟨by decide +kernel, rfl⟩
theorem dX12_best_59 : dec cX12_best 59 1 60 (.ireturn) := ⟨by decide +kernel, rfl⟩
theorem dX12_best_60 : dec cX12_best 60 1 61 (.iload_n 2) := ⟨by decide +kernel, rfl⟩
theorem dX12_best_61 : dec cX12_best 61 3 64 (.ifCond .ge 10) := ⟨by decide +kernel, rfl⟩
theorem dX12_best_64 : dec cX12_best 64 1 65 (.aload_n 0) := ⟨by decide +kernel, rfl⟩
theorem dX12_best_65 : dec cX12_best 65 3 68 (.getfield 237) := ⟨by decide +kernel, rfl⟩
theorem dX12_best_68 : dec cX12_best 68 3 71 (.goto 9) := ⟨by decide +kernel, rfl⟩
theorem dX12_best_71 : dec cX12_best 71 1 72 (.aload_n 0) := ⟨by decide +kernel, rfl⟩
theorem dX12_best_72 : dec cX12_best 72 3 75 (.getfield 40) := ⟨by decide +kernel, rfl⟩
theorem dX12_best_75 : dec cX12_best 75 1 76 (.iload_n 2) := ⟨by decide +kernel, rfl⟩
theorem dX12_best_76 : dec cX12_best 76 1 77 (.iaload) := ⟨by decide +kernel, rfl⟩
theorem dX12_best_77 : dec cX12_best 77 1 78 (.ireturn) := ⟨by decide +kernel, rfl⟩
set_option maxHeartbeats 4000000 in
set_option maxRecDepth 100000 in
theorem tX12_best_J13 {X : Cx} {Y : Yx} {M0 : Mem} (hC : OKX X Y RX12 cX12_best 3 (some .int) rmX12_best) (hF : Y.2.2.2.2 = true) (hL : Lay M0) (Q : Int → Mem → Prop)   (a0 : Nat) (qa0 : 0 < a0 ∧ M0 0 a0 = kO 12)  (M : Mem) (h : wX12_best_J13 Q  a0 M) : WW X Y 3 rmX12_best (QI Q) M0 0 0 13 [(0, vR Y.1 a0)] [] M := by
  unfold wX12_best_J13 at h
  refine r_aload_n hC 0 dX12_best_13 rfl rfl ?_
  refine r_iconst hC dX12_best_14 ?_
  refine r_callV (As := [vI 1]) (st := []) hC cw_X12_83 rfl qa0.1 qa0.2 rfl rfl (Nat.le_of_ble_eq_true rfl) ⟨Nat.le_of_ble_eq_true rfl, Nat.le_of_ble_eq_true rfl⟩ ⟨Nat.le_of_ble_eq_true rfl, Nat.le_of_ble_eq_true rfl⟩ dX12_best_15 (fun hk => mX12_error Y hF _ _ _ _ _ (kqO hk qa0) h) (fun v M_3 h => ?_)
  obtain ⟨r_4, rfl, h⟩ := h
  exact r_iret hC (Nat.zero_le _) (Nat.zero_le _) dX12_best_18 ⟨_, rfl, h⟩
set_option maxHeartbeats 4000000 in
set_option maxRecDepth 100000 in
theorem tX12_best_J54 {X : Cx} {Y : Yx} {M0 : Mem} (hC : OKX X Y RX12 cX12_best 3 (some .int) rmX12_best) (hF : Y.2.2.2.2 = true) (hL : Lay M0) (Q : Int → Mem → Prop)   (a0 : Nat) (qa0 : 0 < a0 ∧ M0 0 a0 = kO 12)  (M : Mem) (h : wX12_best_J54 Q  a0 M) : WW X Y 3 rmX12_best (QI Q) M0 0 0 54 [(0, vR Y.1 a0)] [] M := by
  unfold wX12_best_J54 at h
  refine r_aload_n hC 0 dX12_best_54 rfl rfl ?_
  refine r_iconst hC dX12_best_55 ?_
  refine r_callV (As := [vI 2]) (st := []) hC cw_X12_83 rfl qa0.1 qa0.2 rfl rfl (Nat.le_of_ble_eq_true rfl) ⟨Nat.le_of_ble_eq_true rfl, Nat.le_of_ble_eq_true rfl⟩ ⟨Nat.le_of_ble_eq_true rfl, Nat.le_of_ble_eq_true rfl⟩ dX12_best_56 (fun hk => mX12_error Y hF _ _ _ _ _ (kqO hk qa0) h) (fun v M_8 h => ?_)
  obtain ⟨r_9, rfl, h⟩ := h
  exact r_iret hC (Nat.zero_le _) (Nat.zero_le _) dX12_best_59 ⟨_, rfl, h⟩
set_option maxHeartbeats 4000000 in
set_option maxRecDepth 100000 in
theorem mX12_best (Y : Yx) (hF : Y.2.2.2.2 = true) (l : Launch) (a0 : Nat) (x1 : Int) (x2 : Int) (M0 : Mem) (Q : Int → Mem → Prop) (qa0 : 0 < a0 ∧ M0 0 a0 = kO 12) (h : wX12_best a0 x1 x2 M0 Q) : CT Y l yX12_best cX12_best 3 (some .int) rmX12_best [vR Y.1 a0, vI x1, vI x2] M0 (QI Q) := by
  unfold wX12_best at h
  refine ct_intro (by decide) (Nat.le_of_ble_eq_true rfl) ?_
  intro X hXl hC hL0
  have hL := hL0 hF
  change OKX X Y RX12 cX12_best 3 (some .int) rmX12_best at hC
  change WW X Y 3 rmX12_best (QI Q) M0 0 0 0 [(0, vR Y.1 a0), (1, vI x1), (2, vI x2)] [] M0
  refine r_aload_n hC 0 dX12_best_0 rfl rfl ?_
  refine r_iload_n hC 1 dX12_best_1 rfl rfl ?_
  refine r_callV (As := [vI x1]) (st := []) hC cw_X12_264 rfl qa0.1 qa0.2 rfl rfl (Nat.le_of_ble_eq_true rfl) ⟨Nat.le_of_ble_eq_true rfl, Nat.le_of_ble_eq_true rfl⟩ ⟨Nat.le_of_ble_eq_true rfl, Nat.le_of_ble_eq_true rfl⟩ dX12_best_2 (fun hk => mX12_isSet Y hF _ _ _ _ _ (kqO hk qa0) h) (fun v M_1 h => ?_)
  obtain ⟨r_2, rfl, h⟩ := h
  refine r_if_eq hC 13 rfl dX12_best_5 (by decide) (fun cq => ?_) (fun cq => ?_)
  · replace h := h.1 cq
    refine r_sub [0] rfl ?_
    exact tX12_best_J13 hC hF hL Q   _ qa0  _ h
  · replace h := h.2 cq
    refine r_iload_n hC 2 dX12_best_8 rfl rfl ?_
    refine r_iconst hC dX12_best_9 ?_
    refine r_icmp_ge hC 19 rfl bmL_m1 dX12_best_10 (by decide) (fun cq => ?_) (fun cq => ?_)
    · replace h := h.1 cq
      refine r_iload_n hC 1 dX12_best_19 rfl rfl ?_
      refine r_bipush hC (by decide +kernel) dX12_best_20 ?_
      refine r_callS (As := [vI x1, vI 6]) (st := []) hC cw_X12_267 rfl rfl (Nat.le_of_ble_eq_true rfl) ⟨Nat.le_of_ble_eq_true rfl, Nat.le_of_ble_eq_true rfl⟩ ⟨Nat.le_of_ble_eq_true rfl, Nat.le_of_ble_eq_true rfl⟩ dX12_best_22 (fun hk => mX12_isSmall Y hF _ _ _ _ _  h) (fun v M_5 h => ?_)
      obtain ⟨r_6, rfl, h⟩ := h
      refine r_if_ne hC 34 rfl dX12_best_25 (by decide) (fun cq => ?_) (fun cq => ?_)
      · replace h := h.2 cq
        refine r_aload_n hC 0 dX12_best_34 rfl rfl ?_
        refine r_iload_n hC 1 dX12_best_35 rfl rfl ?_
        refine r_callV (As := [vI x1]) (st := []) hC cw_X12_271 rfl qa0.1 qa0.2 rfl rfl (Nat.le_of_ble_eq_true rfl) ⟨Nat.le_of_ble_eq_true rfl, Nat.le_of_ble_eq_true rfl⟩ ⟨Nat.le_of_ble_eq_true rfl, Nat.le_of_ble_eq_true rfl⟩ dX12_best_36 (fun hk => mX12_seesAll Y hF _ _ _ _ _ (kqO hk qa0) h) (fun v M_7 h => ?_)
        obtain ⟨rfl, h⟩ := h
        refine r_aload_n hC 0 dX12_best_39 rfl rfl ?_
        refine r_getI hC fg_X12_247 rfl qa0.1 qa0.2 dX12_best_40 ?_
        refine r_if_eq hC 54 rfl dX12_best_43 (by decide) (fun cq => ?_) (fun cq => ?_)
        · replace h := h.1 cq
          refine r_sub [0] rfl ?_
          exact tX12_best_J54 hC hF hL Q   _ qa0  _ h
        · replace h := h.2 cq
          refine r_iload_n hC 2 dX12_best_46 rfl rfl ?_
          refine r_aload_n hC 0 dX12_best_47 rfl rfl ?_
          refine r_getI hC fg_X12_234 rfl qa0.1 qa0.2 dX12_best_48 ?_
          refine r_icmp_lt hC 60 rfl rfl dX12_best_51 (by decide) (fun cq => ?_) (fun cq => ?_)
          · replace h := h.1 cq
            refine r_iload_n hC 2 dX12_best_60 rfl rfl ?_
            refine r_if_ge hC 71 rfl dX12_best_61 (by decide) (fun cq => ?_) (fun cq => ?_)
            · replace h := h.1 cq
              refine r_aload_n hC 0 dX12_best_71 rfl rfl ?_
              have q_10 : 0 < a0 + 11 ∧ M0 0 (a0 + 11) = kA 0 12 := lay_f0 (a := a0) hL qa0 fm_12_18
              refine r_getR0 (a' := a0 + 11) hC fg_X12_40 rfl hF fm_12_18 qa0.1 qa0.2 rfl dX12_best_72 ?_
              refine r_iload_n hC 2 dX12_best_75 rfl rfl ?_
              obtain ⟨i_11, h⟩ := h
              refine r_iald hC i_11 q_10.1 q_10.2 (by decide) dX12_best_76 ?_
              exact r_iret hC (Nat.zero_le _) (Nat.zero_le _) dX12_best_77 ⟨_, rfl, h⟩
            · replace h := h.2 cq
              refine r_aload_n hC 0 dX12_best_64 rfl rfl ?_
              refine r_getI hC fg_X12_237 rfl qa0.1 qa0.2 dX12_best_65 ?_
              refine r_goto hC 77 dX12_best_68 (by decide) ?_
              exact r_iret hC (Nat.zero_le _) (Nat.zero_le _) dX12_best_77 ⟨_, rfl, h⟩
          · replace h := h.2 cq
            refine r_sub [0] rfl ?_
            exact tX12_best_J54 hC hF hL Q   _ qa0  _ h
      · replace h := h.1 cq
        refine r_aload_n hC 0 dX12_best_28 rfl rfl ?_
        refine r_iconst hC dX12_best_29 ?_
        refine r_callV (As := [vI 5]) (st := []) hC cw_X12_83 rfl qa0.1 qa0.2 rfl rfl (Nat.le_of_ble_eq_true rfl) ⟨Nat.le_of_ble_eq_true rfl, Nat.le_of_ble_eq_true rfl⟩ ⟨Nat.le_of_ble_eq_true rfl, Nat.le_of_ble_eq_true rfl⟩ dX12_best_30 (fun hk => mX12_error Y hF _ _ _ _ _ (kqO hk qa0) h) (fun v M_12 h => ?_)
        obtain ⟨r_13, rfl, h⟩ := h
        exact r_iret hC (Nat.zero_le _) (Nat.zero_le _) dX12_best_33 ⟨_, rfl, h⟩
    · replace h := h.2 cq
      refine r_sub [0] rfl ?_
      exact tX12_best_J13 hC hF hL Q   _ qa0  _ h
theorem dX12_most_0 : dec cX12_most 0 1 1 (.aload_n 0) := ⟨by decide +kernel, rfl⟩
theorem dX12_most_1 : dec cX12_most 1 1 2 (.iload_n 1) := ⟨by decide +kernel, rfl⟩
theorem dX12_most_2 : dec cX12_most 2 3 5 (.invokevirtual 264) := ⟨by decide +kernel, rfl⟩
theorem dX12_most_5 : dec cX12_most 5 3 8 (.ifCond .eq 12) := ⟨by decide +kernel, rfl⟩
theorem dX12_most_8 : dec cX12_most 8 1 9 (.iload_n 2) := ⟨by decide +kernel, rfl⟩
theorem dX12_most_9 : dec cX12_most 9 1 10 (.iconst 0) := ⟨by decide +kernel, rfl⟩
theorem dX12_most_10 : dec cX12_most 10 1 11 (.iconst 1) := ⟨by decide +kernel, rfl⟩
theorem dX12_most_11 : dec cX12_most 11 3 14 (.invokestatic 79) := ⟨by decide +kernel, rfl⟩
theorem dX12_most_14 : dec cX12_most 14 3 17 (.ifCond .ne 10) := ⟨by decide +kernel, rfl⟩
theorem dX12_most_17 : dec cX12_most 17 1 18 (.aload_n 0) := ⟨by decide +kernel, rfl⟩
theorem dX12_most_18 : dec cX12_most 18 1 19 (.iconst 1) := ⟨by decide +kernel, rfl⟩
theorem dX12_most_19 : dec cX12_most 19 3 22 (.invokevirtual 83) := ⟨by decide +kernel, rfl⟩
theorem dX12_most_22 : dec cX12_most 22 1 23 (.i2l) := ⟨by decide +kernel, rfl⟩
theorem dX12_most_23 : dec cX12_most 23 1 24 (.lreturn) := ⟨by decide +kernel, rfl⟩
theorem dX12_most_24 : dec cX12_most 24 1 25 (.iload_n 1) := ⟨by decide +kernel, rfl⟩
theorem dX12_most_25 : dec cX12_most 25 2 27 (.bipush 6) := ⟨by decide +kernel, rfl⟩
theorem dX12_most_27 : dec cX12_most 27 3 30 (.invokestatic 267) := ⟨by decide +kernel, rfl⟩
theorem dX12_most_30 : dec cX12_most 30 3 33 (.ifCond .ne 10) := ⟨by decide +kernel, rfl⟩
theorem dX12_most_33 : dec cX12_most 33 1 34 (.aload_n 0) := ⟨by decide +kernel, rfl⟩
theorem dX12_most_34 : dec cX12_most 34 1 35 (.iconst 5) := ⟨by decide +kernel, rfl⟩
theorem dX12_most_35 : dec cX12_most 35 3 38 (.invokevirtual 83) := ⟨by decide +kernel, rfl⟩
theorem dX12_most_38 : dec cX12_most 38 1 39 (.i2l) := ⟨by decide +kernel, rfl⟩
theorem dX12_most_39 : dec cX12_most 39 1 40 (.lreturn) := ⟨by decide +kernel, rfl⟩
theorem dX12_most_40 : dec cX12_most 40 1 41 (.aload_n 0) := ⟨by decide +kernel, rfl⟩
theorem dX12_most_41 : dec cX12_most 41 1 42 (.iload_n 1) := ⟨by decide +kernel, rfl⟩
theorem dX12_most_42 : dec cX12_most 42 3 45 (.invokevirtual 271) := ⟨by decide +kernel, rfl⟩
theorem dX12_most_45 : dec cX12_most 45 1 46 (.aload_n 0) := ⟨by decide +kernel, rfl⟩
theorem dX12_most_46 : dec cX12_most 46 3 49 (.getfield 247) := ⟨by decide +kernel, rfl⟩
theorem dX12_most_49 : dec cX12_most 49 3 52 (.ifCond .ne 12) := ⟨by decide +kernel, rfl⟩
theorem dX12_most_52 : dec cX12_most 52 1 53 (.aload_n 0) := ⟨by decide +kernel, rfl⟩
theorem dX12_most_53 : dec cX12_most 53 1 54 (.iconst 2) := ⟨by decide +kernel, rfl⟩
theorem dX12_most_54 : dec cX12_most 54 3 57 (.invokevirtual 83) := ⟨by decide +kernel, rfl⟩
theorem dX12_most_57 : dec cX12_most 57 1 58 (.i2l) := ⟨by decide +kernel, rfl⟩
theorem dX12_most_58 : dec cX12_most 58 3 61 (.goto 11) := ⟨by decide +kernel, rfl⟩
theorem dX12_most_61 : dec cX12_most 61 1 62 (.aload_n 0) := ⟨by decide +kernel, rfl⟩
theorem dX12_most_62 : dec cX12_most 62 3 65 (.getfield 240) := ⟨by decide +kernel, rfl⟩
theorem dX12_most_65 : dec cX12_most 65 1 66 (.iload_n 2) := ⟨by decide +kernel, rfl⟩
theorem dX12_most_66 : dec cX12_most 66 3 69 (.invokestatic 224) := ⟨by decide +kernel, rfl⟩
theorem dX12_most_69 : dec cX12_most 69 1 70 (.lreturn) := ⟨by decide +kernel, rfl⟩
set_option maxHeartbeats 4000000 in
set_option maxRecDepth 100000 in
theorem tX12_most_J17 {X : Cx} {Y : Yx} {M0 : Mem} (hC : OKX X Y RX12 cX12_most 3 (some .long) rmX12_most) (hF : Y.2.2.2.2 = true) (hL : Lay M0) (Q : Int → Mem → Prop)   (a0 : Nat) (qa0 : 0 < a0 ∧ M0 0 a0 = kO 12)  (M : Mem) (h : wX12_most_J17 Q  a0 M) : WW X Y 3 rmX12_most (QL Q) M0 0 0 17 [(0, vR Y.1 a0)] [] M := by
  unfold wX12_most_J17 at h
  refine r_aload_n hC 0 dX12_most_17 rfl rfl ?_
  refine r_iconst hC dX12_most_18 ?_
  refine r_callV (As := [vI 1]) (st := []) hC cw_X12_83 rfl qa0.1 qa0.2 rfl rfl (Nat.le_of_ble_eq_true rfl) ⟨Nat.le_of_ble_eq_true rfl, Nat.le_of_ble_eq_true rfl⟩ ⟨Nat.le_of_ble_eq_true rfl, Nat.le_of_ble_eq_true rfl⟩ dX12_most_19 (fun hk => mX12_error Y hF _ _ _ _ _ (kqO hk qa0) h) (fun v M_3 h => ?_)
  obtain ⟨r_4, rfl, h⟩ := h
  refine r_i2l hC dX12_most_22 ?_
  exact r_lret hC (Nat.zero_le _) (Nat.zero_le _) dX12_most_23 ⟨_, rfl, h⟩
set_option maxHeartbeats 4000000 in
set_option maxRecDepth 100000 in
theorem mX12_most (Y : Yx) (hF : Y.2.2.2.2 = true) (l : Launch) (a0 : Nat) (x1 : Int) (x2 : Int) (M0 : Mem) (Q : Int → Mem → Prop) (qa0 : 0 < a0 ∧ M0 0 a0 = kO 12) (h : wX12_most a0 x1 x2 M0 Q) : CT Y l yX12_most cX12_most 3 (some .long) rmX12_most [vR Y.1 a0, vI x1, vI x2] M0 (QL Q) := by
  unfold wX12_most at h
  refine ct_intro (by decide) (Nat.le_of_ble_eq_true rfl) ?_
  intro X hXl hC hL0
  have hL := hL0 hF
  change OKX X Y RX12 cX12_most 3 (some .long) rmX12_most at hC
  change WW X Y 3 rmX12_most (QL Q) M0 0 0 0 [(0, vR Y.1 a0), (1, vI x1), (2, vI x2)] [] M0
  refine r_aload_n hC 0 dX12_most_0 rfl rfl ?_
  refine r_iload_n hC 1 dX12_most_1 rfl rfl ?_
  refine r_callV (As := [vI x1]) (st := []) hC cw_X12_264 rfl qa0.1 qa0.2 rfl rfl (Nat.le_of_ble_eq_true rfl) ⟨Nat.le_of_ble_eq_true rfl, Nat.le_of_ble_eq_true rfl⟩ ⟨Nat.le_of_ble_eq_true rfl, Nat.le_of_ble_eq_true rfl⟩ dX12_most_2 (fun hk => mX12_isSet Y hF _ _ _ _ _ (kqO hk qa0) h) (fun v M_1 h => ?_)
  obtain ⟨r_2, rfl, h⟩ := h
  refine r_if_eq hC 17 rfl dX12_most_5 (by decide) (fun cq => ?_) (fun cq => ?_)
  · replace h := h.1 cq
    refine r_sub [0] rfl ?_
    exact tX12_most_J17 hC hF hL Q   _ qa0  _ h
  · replace h := h.2 cq
    refine r_iload_n hC 2 dX12_most_8 rfl rfl ?_
    refine r_iconst hC dX12_most_9 ?_
    refine r_iconst hC dX12_most_10 ?_
    refine r_callS (As := [vI x2, vI 0, vI 1]) (st := []) hC cw_X12_79 rfl rfl (Nat.le_of_ble_eq_true rfl) ⟨Nat.le_of_ble_eq_true rfl, Nat.le_of_ble_eq_true rfl⟩ ⟨Nat.le_of_ble_eq_true rfl, Nat.le_of_ble_eq_true rfl⟩ dX12_most_11 (fun hk => mX12_in Y hF _ _ _ _ _ _  h) (fun v M_5 h => ?_)
    obtain ⟨r_6, rfl, h⟩ := h
    refine r_if_ne hC 24 rfl dX12_most_14 (by decide) (fun cq => ?_) (fun cq => ?_)
    · replace h := h.2 cq
      refine r_iload_n hC 1 dX12_most_24 rfl rfl ?_
      refine r_bipush hC (by decide +kernel) dX12_most_25 ?_
      refine r_callS (As := [vI x1, vI 6]) (st := []) hC cw_X12_267 rfl rfl (Nat.le_of_ble_eq_true rfl) ⟨Nat.le_of_ble_eq_true rfl, Nat.le_of_ble_eq_true rfl⟩ ⟨Nat.le_of_ble_eq_true rfl, Nat.le_of_ble_eq_true rfl⟩ dX12_most_27 (fun hk => mX12_isSmall Y hF _ _ _ _ _  h) (fun v M_7 h => ?_)
      obtain ⟨r_8, rfl, h⟩ := h
      refine r_if_ne hC 40 rfl dX12_most_30 (by decide) (fun cq => ?_) (fun cq => ?_)
      · replace h := h.2 cq
        refine r_aload_n hC 0 dX12_most_40 rfl rfl ?_
        refine r_iload_n hC 1 dX12_most_41 rfl rfl ?_
        refine r_callV (As := [vI x1]) (st := []) hC cw_X12_271 rfl qa0.1 qa0.2 rfl rfl (Nat.le_of_ble_eq_true rfl) ⟨Nat.le_of_ble_eq_true rfl, Nat.le_of_ble_eq_true rfl⟩ ⟨Nat.le_of_ble_eq_true rfl, Nat.le_of_ble_eq_true rfl⟩ dX12_most_42 (fun hk => mX12_seesAll Y hF _ _ _ _ _ (kqO hk qa0) h) (fun v M_9 h => ?_)
        obtain ⟨rfl, h⟩ := h
        refine r_aload_n hC 0 dX12_most_45 rfl rfl ?_
        refine r_getI hC fg_X12_247 rfl qa0.1 qa0.2 dX12_most_46 ?_
        refine r_if_ne hC 61 rfl dX12_most_49 (by decide) (fun cq => ?_) (fun cq => ?_)
        · replace h := h.2 cq
          refine r_aload_n hC 0 dX12_most_61 rfl rfl ?_
          refine r_getL hC fg_X12_240 rfl qa0.1 qa0.2 dX12_most_62 ?_
          refine r_iload_n hC 2 dX12_most_65 rfl rfl ?_
          refine r_callS (As := [vL (M_9 a0 21), vI x2]) (st := []) hC cw_X12_224 rfl rfl (Nat.le_of_ble_eq_true rfl) ⟨Nat.le_of_ble_eq_true rfl, Nat.le_of_ble_eq_true rfl⟩ ⟨Nat.le_of_ble_eq_true rfl, Nat.le_of_ble_eq_true rfl⟩ dX12_most_66 (fun hk => mX12_partOf Y hF _ _ _ _ _  h) (fun v M_10 h => ?_)
          obtain ⟨r_11, rfl, h⟩ := h
          exact r_lret hC (Nat.zero_le _) (Nat.zero_le _) dX12_most_69 ⟨_, rfl, h⟩
        · replace h := h.1 cq
          refine r_aload_n hC 0 dX12_most_52 rfl rfl ?_
          refine r_iconst hC dX12_most_53 ?_
          refine r_callV (As := [vI 2]) (st := []) hC cw_X12_83 rfl qa0.1 qa0.2 rfl rfl (Nat.le_of_ble_eq_true rfl) ⟨Nat.le_of_ble_eq_true rfl, Nat.le_of_ble_eq_true rfl⟩ ⟨Nat.le_of_ble_eq_true rfl, Nat.le_of_ble_eq_true rfl⟩ dX12_most_54 (fun hk => mX12_error Y hF _ _ _ _ _ (kqO hk qa0) h) (fun v M_12 h => ?_)
          obtain ⟨r_13, rfl, h⟩ := h
          refine r_i2l hC dX12_most_57 ?_
          refine r_goto hC 69 dX12_most_58 (by decide) ?_
          exact r_lret hC (Nat.zero_le _) (Nat.zero_le _) dX12_most_69 ⟨_, rfl, h⟩
      · replace h := h.1 cq
        refine r_aload_n hC 0 dX12_most_33 rfl rfl ?_
        refine r_iconst hC dX12_most_34 ?_
        refine r_callV (As := [vI 5]) (st := []) hC cw_X12_83 rfl qa0.1 qa0.2 rfl rfl (Nat.le_of_ble_eq_true rfl) ⟨Nat.le_of_ble_eq_true rfl, Nat.le_of_ble_eq_true rfl⟩ ⟨Nat.le_of_ble_eq_true rfl, Nat.le_of_ble_eq_true rfl⟩ dX12_most_35 (fun hk => mX12_error Y hF _ _ _ _ _ (kqO hk qa0) h) (fun v M_14 h => ?_)
        obtain ⟨r_15, rfl, h⟩ := h
        refine r_i2l hC dX12_most_38 ?_
        exact r_lret hC (Nat.zero_le _) (Nat.zero_le _) dX12_most_39 ⟨_, rfl, h⟩
    · replace h := h.1 cq
      refine r_sub [0] rfl ?_
      exact tX12_most_J17 hC hF hL Q   _ qa0  _ h
theorem dX12_equals_0 : dec cX12_equals 0 1 1 (.aload_n 0) := ⟨by decide +kernel, rfl⟩
theorem dX12_equals_1 : dec cX12_equals 1 1 2 (.iload_n 1) := ⟨by decide +kernel, rfl⟩
theorem dX12_equals_2 : dec cX12_equals 2 3 5 (.invokevirtual 264) := ⟨by decide +kernel, rfl⟩
theorem dX12_equals_5 : dec cX12_equals 5 3 8 (.ifCond .eq 12) := ⟨by decide +kernel, rfl⟩
theorem dX12_equals_8 : dec cX12_equals 8 1 9 (.iload_n 2) := ⟨by decide +kernel, rfl⟩
theorem dX12_equals_9 : dec cX12_equals 9 1 10 (.iconst 0) := ⟨by decide +kernel, rfl⟩
theorem dX12_equals_10 : dec cX12_equals 10 1 11 (.iconst 2) := ⟨by decide +kernel, rfl⟩
theorem dX12_equals_11 : dec cX12_equals 11 3 14 (.invokestatic 79) := ⟨by decide +kernel, rfl⟩
theorem dX12_equals_14 : dec cX12_equals 14 3 17 (.ifCond .ne 9) := ⟨by decide +kernel, rfl⟩
theorem dX12_equals_17 : dec cX12_equals 17 1 18 (.aload_n 0) := ⟨by decide +kernel, rfl⟩
theorem dX12_equals_18 : dec cX12_equals 18 1 19 (.iconst 1) := ⟨by decide +kernel, rfl⟩
theorem dX12_equals_19 : dec cX12_equals 19 3 22 (.invokevirtual 83) := ⟨by decide +kernel, rfl⟩
theorem dX12_equals_22 : dec cX12_equals 22 1 23 (.ireturn) := ⟨by decide +kernel, rfl⟩
theorem dX12_equals_23 : dec cX12_equals 23 1 24 (.iload_n 1) := ⟨by decide +kernel, rfl⟩
theorem dX12_equals_24 : dec cX12_equals 24 2 26 (.bipush 6) := ⟨by decide +kernel, rfl⟩
theorem dX12_equals_26 : dec cX12_equals 26 3 29 (.invokestatic 267) := ⟨by decide +kernel, rfl⟩
theorem dX12_equals_29 : dec cX12_equals 29 3 32 (.ifCond .ne 9) := ⟨by decide +kernel, rfl⟩
theorem dX12_equals_32 : dec cX12_equals 32 1 33 (.aload_n 0) := ⟨by decide +kernel, rfl⟩
theorem dX12_equals_33 : dec cX12_equals 33 1 34 (.iconst 5) := ⟨by decide +kernel, rfl⟩
theorem dX12_equals_34 : dec cX12_equals 34 3 37 (.invokevirtual 83) := ⟨by decide +kernel, rfl⟩
theorem dX12_equals_37 : dec cX12_equals 37 1 38 (.ireturn) := ⟨by decide +kernel, rfl⟩
theorem dX12_equals_38 : dec cX12_equals 38 1 39 (.aload_n 0) := ⟨by decide +kernel, rfl⟩
theorem dX12_equals_39 : dec cX12_equals 39 1 40 (.iload_n 1) := ⟨by decide +kernel, rfl⟩
theorem dX12_equals_40 : dec cX12_equals 40 3 43 (.invokevirtual 271) := ⟨by decide +kernel, rfl⟩
theorem dX12_equals_43 : dec cX12_equals 43 1 44 (.iconst 0) := ⟨by decide +kernel, rfl⟩
theorem dX12_equals_44 : dec cX12_equals 44 1 45 (.istore_n 3) := ⟨by decide +kernel, rfl⟩
theorem dX12_equals_45 : dec cX12_equals 45 1 46 (.iconst 0) := ⟨by decide +kernel, rfl⟩
theorem dX12_equals_46 : dec cX12_equals 46 2 48 (.istore 4) := ⟨by decide +kernel, rfl⟩
theorem dX12_equals_48 : dec cX12_equals 48 2 50 (.iload 4) := ⟨by decide +kernel, rfl⟩
theorem dX12_equals_50 : dec cX12_equals 50 1 51 (.aload_n 0) := ⟨by decide +kernel, rfl⟩
theorem dX12_equals_51 : dec cX12_equals 51 3 54 (.getfield 162) := ⟨by decide +kernel, rfl⟩
theorem dX12_equals_54 : dec cX12_equals 54 3 57 (.if_icmp .ge 42) := ⟨by decide +kernel, rfl⟩
theorem dX12_equals_57 : dec cX12_equals 57 1 58 (.aload_n 0) := ⟨by decide +kernel, rfl⟩
theorem dX12_equals_58 : dec cX12_equals 58 3 61 (.getfield 247) := ⟨by decide +kernel, rfl⟩
theorem dX12_equals_61 : dec cX12_equals 61 3 64 (.ifCond .le 35) := ⟨by decide +kernel, rfl⟩
theorem dX12_equals_64 : dec cX12_equals 64 1 65 (.iload_n 3) := ⟨by decide +kernel, rfl⟩
theorem dX12_equals_65 : dec cX12_equals 65 1 66 (.aload_n 0) := ⟨by decide +kernel, rfl⟩
theorem dX12_equals_66 : dec cX12_equals 66 3 69 (.getfield 43) := ⟨by decide +kernel, rfl⟩
theorem dX12_equals_69 : dec cX12_equals 69 2 71 (.iload 4) := ⟨by decide +kernel, rfl⟩
theorem dX12_equals_71 : dec cX12_equals 71 1 72 (.baload) := ⟨by decide +kernel, rfl⟩
theorem dX12_equals_72 : dec cX12_equals 72 3 75 (.ifCond .eq 15) := ⟨by decide +kernel, rfl⟩
theorem dX12_equals_75 : dec cX12_equals 75 1 76 (.iconst 1) := ⟨by decide +kernel, rfl⟩
theorem dX12_equals_76 : dec cX12_equals 76 1 77 (.aload_n 0) := ⟨by decide +kernel, rfl⟩
theorem dX12_equals_77 : dec cX12_equals 77 3 80 (.getfield 40) := ⟨by decide +kernel, rfl⟩
theorem dX12_equals_80 : dec cX12_equals 80 2 82 (.iload 4) := ⟨by decide +kernel, rfl⟩
theorem dX12_equals_82 : dec cX12_equals 82 1 83 (.iaload) := ⟨by decide +kernel, rfl⟩
theorem dX12_equals_83 : dec cX12_equals 83 1 84 (.ishl) := ⟨by decide +kernel, rfl⟩
theorem dX12_equals_84 : dec cX12_equals 84 3 87 (.goto 4) := ⟨by decide +kernel, rfl⟩
theorem dX12_equals_87 : dec cX12_equals 87 1 88 (.iconst 0) := ⟨by decide +kernel, rfl⟩
theorem dX12_equals_88 : dec cX12_equals 88 1 89 (.ior) := ⟨by decide +kernel, rfl⟩
theorem dX12_equals_89 : dec cX12_equals 89 1 90 (.istore_n 3) := ⟨by decide +kernel, rfl⟩
theorem dX12_equals_90 : dec cX12_equals 90 3 93 (.iinc 4 1) := ⟨by decide +kernel, rfl⟩
theorem dX12_equals_93 : dec cX12_equals 93 3 96 (.goto (-45)) := ⟨by decide +kernel, rfl⟩
theorem dX12_equals_96 : dec cX12_equals 96 1 97 (.iload_n 2) := ⟨by decide +kernel, rfl⟩
theorem dX12_equals_97 : dec cX12_equals 97 3 100 (.ifCond .ne 10) := ⟨by decide +kernel, rfl⟩
theorem dX12_equals_100 : dec cX12_equals 100 1 101 (.aload_n 0) := ⟨by decide +kernel, rfl⟩
theorem dX12_equals_101 : dec cX12_equals 101 3 104 (.getfield 247) := ⟨by decide +kernel, rfl⟩
theorem dX12_equals_104 : dec cX12_equals 104 3 107 (.goto 16) := ⟨by decide +kernel, rfl⟩
theorem dX12_equals_107 : dec cX12_equals 107 1 108 (.iload_n 2) := ⟨by decide +kernel, rfl⟩
theorem dX12_equals_108 : dec cX12_equals 108 1 109 (.iconst 1) := ⟨by decide +kernel, rfl⟩
theorem dX12_equals_109 : dec cX12_equals 109 3 112 (.if_icmp .ne 10) := ⟨by decide +kernel, rfl⟩
theorem dX12_equals_112 : dec cX12_equals 112 1 113 (.aload_n 0) := ⟨by decide +kernel, rfl⟩
theorem dX12_equals_113 : dec cX12_equals 113 3 116 (.getfield 244) := ⟨by decide +kernel, rfl⟩
theorem dX12_equals_116 : dec cX12_equals 116 3 119 (.goto 4) := ⟨by decide +kernel, rfl⟩
theorem dX12_equals_119 : dec cX12_equals 119 1 120 (.iload_n 3) := ⟨by decide +kernel, rfl⟩
theorem dX12_equals_120 : dec cX12_equals 120 1 121 (.ireturn) := ⟨by decide +kernel, rfl⟩
set_option maxHeartbeats 4000000 in
set_option maxRecDepth 100000 in
theorem tX12_equals_J17 {X : Cx} {Y : Yx} {M0 : Mem} (hC : OKX X Y RX12 cX12_equals 5 (some .int) rmX12_equals) (hF : Y.2.2.2.2 = true) (hL : Lay M0) (Q : Int → Mem → Prop)   (a0 : Nat) (qa0 : 0 < a0 ∧ M0 0 a0 = kO 12)  (M : Mem) (h : wX12_equals_J17 Q  a0 M) : WW X Y 5 rmX12_equals (QI Q) M0 0 0 17 [(0, vR Y.1 a0)] [] M := by
  unfold wX12_equals_J17 at h
  refine r_aload_n hC 0 dX12_equals_17 rfl rfl ?_
  refine r_iconst hC dX12_equals_18 ?_
  refine r_callV (As := [vI 1]) (st := []) hC cw_X12_83 rfl qa0.1 qa0.2 rfl rfl (Nat.le_of_ble_eq_true rfl) ⟨Nat.le_of_ble_eq_true rfl, Nat.le_of_ble_eq_true rfl⟩ ⟨Nat.le_of_ble_eq_true rfl, Nat.le_of_ble_eq_true rfl⟩ dX12_equals_19 (fun hk => mX12_error Y hF _ _ _ _ _ (kqO hk qa0) h) (fun v M_3 h => ?_)
  obtain ⟨r_4, rfl, h⟩ := h
  exact r_iret hC (Nat.zero_le _) (Nat.zero_le _) dX12_equals_22 ⟨_, rfl, h⟩
set_option maxHeartbeats 4000000 in
set_option maxRecDepth 100000 in
theorem tX12_equals_J88 {X : Cx} {Y : Yx} {M0 : Mem} (hC : OKX X Y RX12 cX12_equals 5 (some .int) rmX12_equals) (hF : Y.2.2.2.2 = true) (hL : Lay M0) (Q : Int → Mem → Prop) (C48 : Int → Int → Mem → Prop)  (a0 : Nat) (x2 : Int) (x4 : Int) (xs0 : Int) (xs1 : Int) (qa0 : 0 < a0 ∧ M0 0 a0 = kO 12) (hC48 : ∀ (x3 : Int) (x4 : Int) (M : Mem), C48 x3 x4 M → WW X Y 5 rmX12_equals (QI Q) M0 0 0 48 [(0, vR Y.1 a0), (2, vI x2), (3, vI x3), (4, vI x4)] [] M) (M : Mem) (h : wX12_equals_J88 Q C48 a0 x2 x4 xs0 xs1 M) : WW X Y 5 rmX12_equals (QI Q) M0 0 0 88 [(0, vR Y.1 a0), (2, vI x2), (4, vI x4)] [vI xs0, vI xs1] M := by
  unfold wX12_equals_J88 at h
  refine r_ior hC dX12_equals_88 ?_
  refine r_nameI h (fun x3_12 h => ?_)
  refine r_istore_n (lv' := [(3, vI x3_12), (0, vR Y.1 a0), (2, vI x2), (4, vI x4)]) hC dX12_equals_89 rfl (by decide) rfl ?_
  refine let_elim h (fun x4_13 e_14 h => ?_)
  refine r_iinc (lv' := [(4, vI x4_13), (3, vI x3_12), (0, vR Y.1 a0), (2, vI x2)]) hC 3 dX12_equals_90 rfl (by decide) e_14 rfl ?_
  refine r_goto hC 48 dX12_equals_93 (by decide) ?_
  refine r_sub [2, 3, 1, 0] rfl ?_
  exact hC48 _ _ _ h
set_option maxHeartbeats 4000000 in
set_option maxRecDepth 100000 in
theorem tX12_equals_L48 {X : Cx} {Y : Yx} {M0 : Mem} (hC : OKX X Y RX12 cX12_equals 5 (some .int) rmX12_equals) (hF : Y.2.2.2.2 = true) (hL : Lay M0) (Q : Int → Mem → Prop) (E96 : Int → Mem → Prop) (a0 : Nat) (x2 : Int) (qa0 : 0 < a0 ∧ M0 0 a0 = kO 12) (hE96 : ∀ (x3 : Int) (M : Mem), E96 x3 M → WW X Y 5 rmX12_equals (QI Q) M0 0 0 96 [(0, vR Y.1 a0), (2, vI x2), (3, vI x3)] [] M) : ∀ (N : Nat) (x3 : Int) (x4 : Int) (M : Mem) (_ : wX12_equals_L48 Q E96 a0 x2 N x3 x4 M), WW X Y 5 rmX12_equals (QI Q) M0 0 0 48 [(0, vR Y.1 a0), (2, vI x2), (3, vI x3), (4, vI x4)] [] M := by
  intro N
  induction N with
  | zero =>
    intro x3 x4 M h
    exact h.elim
  | succ N ih =>
    intro x3 x4 M h
    unfold wX12_equals_L48 at h
    refine r_iload hC 3 dX12_equals_48 rfl ?_
    refine r_aload_n hC 0 dX12_equals_50 rfl rfl ?_
    refine r_getI hC fg_X12_162 rfl qa0.1 qa0.2 dX12_equals_51 ?_
    refine r_icmp_ge hC 96 rfl rfl dX12_equals_54 (by decide) (fun cq => ?_) (fun cq => ?_)
    · replace h := h.1 cq
      refine r_sub [0, 1, 2] rfl ?_
      exact hE96 _ _ h
    · replace h := h.2 cq
      refine r_aload_n hC 0 dX12_equals_57 rfl rfl ?_
      refine r_getI hC fg_X12_247 rfl qa0.1 qa0.2 dX12_equals_58 ?_
      refine r_if_le hC 96 rfl dX12_equals_61 (by decide) (fun cq => ?_) (fun cq => ?_)
      · replace h := h.1 cq
        refine r_sub [0, 1, 2] rfl ?_
        exact hE96 _ _ h
      · replace h := h.2 cq
        refine r_iload_n hC 2 dX12_equals_64 rfl rfl ?_
        refine r_aload_n hC 0 dX12_equals_65 rfl rfl ?_
        have q_10 : 0 < a0 + 12 ∧ M0 0 (a0 + 12) = kA 2 12 := lay_f0 (a := a0) hL qa0 fm_12_24
        refine r_getR0 (a' := a0 + 12) hC fg_X12_43 rfl hF fm_12_24 qa0.1 qa0.2 rfl dX12_equals_66 ?_
        refine r_iload hC 3 dX12_equals_69 rfl ?_
        obtain ⟨i_11, h⟩ := h
        refine r_zald hC i_11 q_10.1 q_10.2 (by decide) dX12_equals_71 ?_
        refine r_if_eq hC 87 rfl dX12_equals_72 (by decide) (fun cq => ?_) (fun cq => ?_)
        · replace h := h.1 cq
          refine r_iconst hC dX12_equals_87 ?_
          refine r_sub [0, 1, 3] rfl ?_
          exact tX12_equals_J88 hC hF hL Q _  _ _ _ _ _ qa0 ih _ h
        · replace h := h.2 cq
          refine r_iconst hC dX12_equals_75 ?_
          refine r_aload_n hC 0 dX12_equals_76 rfl rfl ?_
          have q_15 : 0 < a0 + 11 ∧ M0 0 (a0 + 11) = kA 0 12 := lay_f0 (a := a0) hL qa0 fm_12_18
          refine r_getR0 (a' := a0 + 11) hC fg_X12_40 rfl hF fm_12_18 qa0.1 qa0.2 rfl dX12_equals_77 ?_
          refine r_iload hC 3 dX12_equals_80 rfl ?_
          obtain ⟨i_16, h⟩ := h
          refine r_iald hC i_16 q_15.1 q_15.2 (by decide) dX12_equals_82 ?_
          refine r_ishl hC dX12_equals_83 ?_
          refine r_goto hC 88 dX12_equals_84 (by decide) ?_
          refine r_sub [0, 1, 3] rfl ?_
          exact tX12_equals_J88 hC hF hL Q _  _ _ _ _ _ qa0 ih _ h
set_option maxHeartbeats 4000000 in
set_option maxRecDepth 100000 in
theorem tX12_equals_J96 {X : Cx} {Y : Yx} {M0 : Mem} (hC : OKX X Y RX12 cX12_equals 5 (some .int) rmX12_equals) (hF : Y.2.2.2.2 = true) (hL : Lay M0) (Q : Int → Mem → Prop)   (a0 : Nat) (x2 : Int) (x3 : Int) (qa0 : 0 < a0 ∧ M0 0 a0 = kO 12)  (M : Mem) (h : wX12_equals_J96 Q  a0 x2 x3 M) : WW X Y 5 rmX12_equals (QI Q) M0 0 0 96 [(0, vR Y.1 a0), (2, vI x2), (3, vI x3)] [] M := by
  unfold wX12_equals_J96 at h
  refine r_iload_n hC 1 dX12_equals_96 rfl rfl ?_
  refine r_if_ne hC 107 rfl dX12_equals_97 (by decide) (fun cq => ?_) (fun cq => ?_)
  · replace h := h.2 cq
    refine r_iload_n hC 1 dX12_equals_107 rfl rfl ?_
    refine r_iconst hC dX12_equals_108 ?_
    refine r_icmp_ne hC 119 rfl bmL_1 dX12_equals_109 (by decide) (fun cq => ?_) (fun cq => ?_)
    · replace h := h.2 cq
      refine r_iload_n hC 2 dX12_equals_119 rfl rfl ?_
      exact r_iret hC (Nat.zero_le _) (Nat.zero_le _) dX12_equals_120 ⟨_, rfl, h⟩
    · replace h := h.1 cq
      refine r_aload_n hC 0 dX12_equals_112 rfl rfl ?_
      refine r_getI hC fg_X12_244 rfl qa0.1 qa0.2 dX12_equals_113 ?_
      refine r_goto hC 120 dX12_equals_116 (by decide) ?_
      exact r_iret hC (Nat.zero_le _) (Nat.zero_le _) dX12_equals_120 ⟨_, rfl, h⟩
  · replace h := h.1 cq
    refine r_aload_n hC 0 dX12_equals_100 rfl rfl ?_
    refine r_getI hC fg_X12_247 rfl qa0.1 qa0.2 dX12_equals_101 ?_
    refine r_goto hC 120 dX12_equals_104 (by decide) ?_
    exact r_iret hC (Nat.zero_le _) (Nat.zero_le _) dX12_equals_120 ⟨_, rfl, h⟩
set_option maxHeartbeats 4000000 in
set_option maxRecDepth 100000 in
theorem mX12_equals (Y : Yx) (hF : Y.2.2.2.2 = true) (l : Launch) (a0 : Nat) (x1 : Int) (x2 : Int) (M0 : Mem) (Q : Int → Mem → Prop) (qa0 : 0 < a0 ∧ M0 0 a0 = kO 12) (h : wX12_equals a0 x1 x2 M0 Q) : CT Y l yX12_equals cX12_equals 5 (some .int) rmX12_equals [vR Y.1 a0, vI x1, vI x2] M0 (QI Q) := by
  unfold wX12_equals at h
  refine ct_intro (by decide) (Nat.le_of_ble_eq_true rfl) ?_
  intro X hXl hC hL0
  have hL := hL0 hF
  change OKX X Y RX12 cX12_equals 5 (some .int) rmX12_equals at hC
  change WW X Y 5 rmX12_equals (QI Q) M0 0 0 0 [(0, vR Y.1 a0), (1, vI x1), (2, vI x2)] [] M0
  refine r_aload_n hC 0 dX12_equals_0 rfl rfl ?_
  refine r_iload_n hC 1 dX12_equals_1 rfl rfl ?_
  refine r_callV (As := [vI x1]) (st := []) hC cw_X12_264 rfl qa0.1 qa0.2 rfl rfl (Nat.le_of_ble_eq_true rfl) ⟨Nat.le_of_ble_eq_true rfl, Nat.le_of_ble_eq_true rfl⟩ ⟨Nat.le_of_ble_eq_true rfl, Nat.le_of_ble_eq_true rfl⟩ dX12_equals_2 (fun hk => mX12_isSet Y hF _ _ _ _ _ (kqO hk qa0) h) (fun v M_1 h => ?_)
  obtain ⟨r_2, rfl, h⟩ := h
  refine r_if_eq hC 17 rfl dX12_equals_5 (by decide) (fun cq => ?_) (fun cq => ?_)
  · replace h := h.1 cq
    refine r_sub [0] rfl ?_
    exact tX12_equals_J17 hC hF hL Q   _ qa0  _ h
  · replace h := h.2 cq
    refine r_iload_n hC 2 dX12_equals_8 rfl rfl ?_
    refine r_iconst hC dX12_equals_9 ?_
    refine r_iconst hC dX12_equals_10 ?_
    refine r_callS (As := [vI x2, vI 0, vI 2]) (st := []) hC cw_X12_79 rfl rfl (Nat.le_of_ble_eq_true rfl) ⟨Nat.le_of_ble_eq_true rfl, Nat.le_of_ble_eq_true rfl⟩ ⟨Nat.le_of_ble_eq_true rfl, Nat.le_of_ble_eq_true rfl⟩ dX12_equals_11 (fun hk => mX12_in Y hF _ _ _ _ _ _  h) (fun v M_5 h => ?_)
    obtain ⟨r_6, rfl, h⟩ := h
    refine r_if_ne hC 23 rfl dX12_equals_14 (by decide) (fun cq => ?_) (fun cq => ?_)
    · replace h := h.2 cq
      refine r_iload_n hC 1 dX12_equals_23 rfl rfl ?_
      refine r_bipush hC (by decide +kernel) dX12_equals_24 ?_
      refine r_callS (As := [vI x1, vI 6]) (st := []) hC cw_X12_267 rfl rfl (Nat.le_of_ble_eq_true rfl) ⟨Nat.le_of_ble_eq_true rfl, Nat.le_of_ble_eq_true rfl⟩ ⟨Nat.le_of_ble_eq_true rfl, Nat.le_of_ble_eq_true rfl⟩ dX12_equals_26 (fun hk => mX12_isSmall Y hF _ _ _ _ _  h) (fun v M_7 h => ?_)
      obtain ⟨r_8, rfl, h⟩ := h
      refine r_if_ne hC 38 rfl dX12_equals_29 (by decide) (fun cq => ?_) (fun cq => ?_)
      · replace h := h.2 cq
        refine r_aload_n hC 0 dX12_equals_38 rfl rfl ?_
        refine r_iload_n hC 1 dX12_equals_39 rfl rfl ?_
        refine r_callV (As := [vI x1]) (st := []) hC cw_X12_271 rfl qa0.1 qa0.2 rfl rfl (Nat.le_of_ble_eq_true rfl) ⟨Nat.le_of_ble_eq_true rfl, Nat.le_of_ble_eq_true rfl⟩ ⟨Nat.le_of_ble_eq_true rfl, Nat.le_of_ble_eq_true rfl⟩ dX12_equals_40 (fun hk => mX12_seesAll Y hF _ _ _ _ _ (kqO hk qa0) h) (fun v M_9 h => ?_)
        obtain ⟨rfl, h⟩ := h
        refine r_iconst hC dX12_equals_43 ?_
        refine r_istore_n (lv' := [(3, vI 0), (0, vR Y.1 a0), (1, vI x1), (2, vI x2)]) hC dX12_equals_44 rfl (by decide) rfl ?_
        refine r_iconst hC dX12_equals_45 ?_
        refine r_istore (lv' := [(4, vI 0), (3, vI 0), (0, vR Y.1 a0), (1, vI x1), (2, vI x2)]) hC dX12_equals_46 (by decide) rfl ?_
        refine r_sub [2, 4, 1, 0] rfl ?_
        obtain ⟨N_19, h⟩ := h
        refine tX12_equals_L48 hC hF hL Q _ _ _ qa0 ?_ N_19 _ _ _ h
        · intro x3_17 M_18 h
          refine r_sub [0, 1, 2] rfl ?_
          exact tX12_equals_J96 hC hF hL Q   _ _ _ qa0  _ h
      · replace h := h.1 cq
        refine r_aload_n hC 0 dX12_equals_32 rfl rfl ?_
        refine r_iconst hC dX12_equals_33 ?_
        refine r_callV (As := [vI 5]) (st := []) hC cw_X12_83 rfl qa0.1 qa0.2 rfl rfl (Nat.le_of_ble_eq_true rfl) ⟨Nat.le_of_ble_eq_true rfl, Nat.le_of_ble_eq_true rfl⟩ ⟨Nat.le_of_ble_eq_true rfl, Nat.le_of_ble_eq_true rfl⟩ dX12_equals_34 (fun hk => mX12_error Y hF _ _ _ _ _ (kqO hk qa0) h) (fun v M_20 h => ?_)
        obtain ⟨r_21, rfl, h⟩ := h
        exact r_iret hC (Nat.zero_le _) (Nat.zero_le _) dX12_equals_37 ⟨_, rfl, h⟩
    · replace h := h.1 cq
      refine r_sub [0] rfl ?_
      exact tX12_equals_J17 hC hF hL Q   _ qa0  _ h
theorem dX12_bar_0 : dec cX12_bar 0 1 1 (.iconst 1) := ⟨by decide +kernel, rfl⟩
theorem dX12_bar_1 : dec cX12_bar 1 1 2 (.istore_n 2) := ⟨by decide +kernel, rfl⟩
theorem dX12_bar_2 : dec cX12_bar 2 1 3 (.iconst 0) := ⟨by decide +kernel, rfl⟩
theorem dX12_bar_3 : dec cX12_bar 3 1 4 (.istore_n 3) := ⟨by decide +kernel, rfl⟩
theorem dX12_bar_4 : dec cX12_bar 4 1 5 (.iload_n 3) := ⟨by decide +kernel, rfl⟩
theorem dX12_bar_5 : dec cX12_bar 5 1 6 (.iconst 1) := ⟨by decide +kernel, rfl⟩
theorem dX12_bar_6 : dec cX12_bar 6 1 7 (.aload_n 0) := ⟨by decide +kernel, rfl⟩
theorem dX12_bar_7 : dec cX12_bar 7 3 10 (.getfield 7) := ⟨by decide +kernel, rfl⟩
theorem dX12_bar_10 : dec cX12_bar 10 1 11 (.iconst 2) := ⟨by decide +kernel, rfl⟩
theorem dX12_bar_11 : dec cX12_bar 11 1 12 (.iaload) := ⟨by decide +kernel, rfl⟩
theorem dX12_bar_12 : dec cX12_bar 12 1 13 (.ishl) := ⟨by decide +kernel, rfl⟩
theorem dX12_bar_13 : dec cX12_bar 13 3 16 (.if_icmp .ge 34) := ⟨by decide +kernel, rfl⟩
theorem dX12_bar_16 : dec cX12_bar 16 1 17 (.iload_n 2) := ⟨by decide +kernel, rfl⟩
theorem dX12_bar_17 : dec cX12_bar 17 3 20 (.ifCond .eq 30) := ⟨by decide +kernel, rfl⟩
theorem dX12_bar_20 : dec cX12_bar 20 1 21 (.aload_n 0) := ⟨by decide +kernel, rfl⟩
theorem dX12_bar_21 : dec cX12_bar 21 3 24 (.getfield 47) := ⟨by decide +kernel, rfl⟩
theorem dX12_bar_24 : dec cX12_bar 24 1 25 (.iload_n 3) := ⟨by decide +kernel, rfl⟩
theorem dX12_bar_25 : dec cX12_bar 25 1 26 (.baload) := ⟨by decide +kernel, rfl⟩
theorem dX12_bar_26 : dec cX12_bar 26 3 29 (.ifCond .eq 9) := ⟨by decide +kernel, rfl⟩
theorem dX12_bar_29 : dec cX12_bar 29 1 30 (.iload_n 3) := ⟨by decide +kernel, rfl⟩
theorem dX12_bar_30 : dec cX12_bar 30 1 31 (.iload_n 1) := ⟨by decide +kernel, rfl⟩
theorem dX12_bar_31 : dec cX12_bar 31 1 32 (.iand) := ⟨by decide +kernel, rfl⟩
theorem dX12_bar_32 : dec cX12_bar 32 3 35 (.ifCond .eq 7) := ⟨by decide +kernel, rfl⟩
theorem dX12_bar_35 : dec cX12_bar 35 1 36 (.iconst 1) := ⟨by decide +kernel, rfl⟩
theorem dX12_bar_36 : dec cX12_bar 36 3 39 (.goto 4) := ⟨by decide +kernel, rfl⟩
theorem dX12_bar_39 : dec cX12_bar 39 1 40 (.iconst 0) := ⟨by decide +kernel, rfl⟩
theorem dX12_bar_40 : dec cX12_bar 40 1 41 (.istore_n 2) := ⟨by decide +kernel, rfl⟩
theorem dX12_bar_41 : dec cX12_bar 41 3 44 (.iinc 3 1) := ⟨by decide +kernel, rfl⟩
theorem dX12_bar_44 : dec cX12_bar 44 3 47 (.goto (-40)) := ⟨by decide +kernel, rfl⟩
theorem dX12_bar_47 : dec cX12_bar 47 1 48 (.iload_n 2) := ⟨by decide +kernel, rfl⟩
theorem dX12_bar_48 : dec cX12_bar 48 1 49 (.ireturn) := ⟨by decide +kernel, rfl⟩
set_option maxHeartbeats 4000000 in
set_option maxRecDepth 100000 in
theorem tX12_bar_J40 {X : Cx} {Y : Yx} {M0 : Mem} (hC : OKX X Y RX12 cX12_bar 4 (some .boolean) rmX12_bar) (hF : Y.2.2.2.2 = true) (hL : Lay M0) (Q : Int → Mem → Prop) (C4 : Int → Int → Mem → Prop)  (a0 : Nat) (x1 : Int) (x3 : Int) (xs0 : Int) (qa0 : 0 < a0 ∧ M0 0 a0 = kO 12) (hC4 : ∀ (x2 : Int) (x3 : Int) (M : Mem), C4 x2 x3 M → WW X Y 4 rmX12_bar (QI Q) M0 0 0 4 [(0, vR Y.1 a0), (1, vI x1), (2, vI x2), (3, vI x3)] [] M) (M : Mem) (h : wX12_bar_J40 Q C4 a0 x1 x3 xs0 M) : WW X Y 4 rmX12_bar (QI Q) M0 0 0 40 [(0, vR Y.1 a0), (1, vI x1), (3, vI x3)] [vI xs0] M := by
  unfold wX12_bar_J40 at h
  refine r_istore_n (lv' := [(2, vI xs0), (0, vR Y.1 a0), (1, vI x1), (3, vI x3)]) hC dX12_bar_40 rfl (by decide) rfl ?_
  refine let_elim h (fun x3_4 e_5 h => ?_)
  refine r_iinc (lv' := [(3, vI x3_4), (2, vI xs0), (0, vR Y.1 a0), (1, vI x1)]) hC 3 dX12_bar_41 rfl (by decide) e_5 rfl ?_
  refine r_goto hC 4 dX12_bar_44 (by decide) ?_
  refine r_sub [2, 3, 1, 0] rfl ?_
  exact hC4 _ _ _ h
set_option maxHeartbeats 4000000 in
set_option maxRecDepth 100000 in
theorem tX12_bar_J35 {X : Cx} {Y : Yx} {M0 : Mem} (hC : OKX X Y RX12 cX12_bar 4 (some .boolean) rmX12_bar) (hF : Y.2.2.2.2 = true) (hL : Lay M0) (Q : Int → Mem → Prop) (C4 : Int → Int → Mem → Prop)  (a0 : Nat) (x1 : Int) (x3 : Int) (qa0 : 0 < a0 ∧ M0 0 a0 = kO 12) (hC4 : ∀ (x2 : Int) (x3 : Int) (M : Mem), C4 x2 x3 M → WW X Y 4 rmX12_bar (QI Q) M0 0 0 4 [(0, vR Y.1 a0), (1, vI x1), (2, vI x2), (3, vI x3)] [] M) (M : Mem) (h : wX12_bar_J35 Q C4 a0 x1 x3 M) : WW X Y 4 rmX12_bar (QI Q) M0 0 0 35 [(0, vR Y.1 a0), (1, vI x1), (3, vI x3)] [] M := by
  unfold wX12_bar_J35 at h
  refine r_iconst hC dX12_bar_35 ?_
  refine r_goto hC 40 dX12_bar_36 (by decide) ?_
  refine r_sub [0, 1, 2] rfl ?_
  exact tX12_bar_J40 hC hF hL Q _  _ _ _ _ qa0 hC4 _ h
set_option maxHeartbeats 4000000 in
set_option maxRecDepth 100000 in
theorem tX12_bar_L4 {X : Cx} {Y : Yx} {M0 : Mem} (hC : OKX X Y RX12 cX12_bar 4 (some .boolean) rmX12_bar) (hF : Y.2.2.2.2 = true) (hL : Lay M0) (Q : Int → Mem → Prop)  (a0 : Nat) (x1 : Int) (qa0 : 0 < a0 ∧ M0 0 a0 = kO 12)  : ∀ (N : Nat) (x2 : Int) (x3 : Int) (M : Mem) (_ : wX12_bar_L4 Q  a0 x1 N x2 x3 M), WW X Y 4 rmX12_bar (QI Q) M0 0 0 4 [(0, vR Y.1 a0), (1, vI x1), (2, vI x2), (3, vI x3)] [] M := by
  intro N
  induction N with
  | zero =>
    intro x2 x3 M h
    exact h.elim
  | succ N ih =>
    intro x2 x3 M h
    unfold wX12_bar_L4 at h
    refine r_iload_n hC 3 dX12_bar_4 rfl rfl ?_
    refine r_iconst hC dX12_bar_5 ?_
    refine r_aload_n hC 0 dX12_bar_6 rfl rfl ?_
    have q_1 : 0 < a0 + 1 ∧ M0 0 (a0 + 1) = kA 0 1522 := lay_f0 (a := a0) hL qa0 fm_12_0
    refine r_getR0 (a' := a0 + 1) hC fg_X12_7 rfl hF fm_12_0 qa0.1 qa0.2 rfl dX12_bar_7 ?_
    refine r_iconst hC dX12_bar_10 ?_
    refine r_iald hC ⟨by decide +kernel, by decide +kernel⟩ q_1.1 q_1.2 (by decide) dX12_bar_11 ?_
    refine r_ishl hC dX12_bar_12 ?_
    refine r_icmp_ge hC 47 rfl rfl dX12_bar_13 (by decide) (fun cq => ?_) (fun cq => ?_)
    · replace h := h.1 cq
      refine r_iload_n hC 2 dX12_bar_47 rfl rfl ?_
      exact r_zret hC h.1 (Nat.zero_le _) (Nat.zero_le _) dX12_bar_48 ⟨_, rfl, h.2⟩
    · replace h := h.2 cq
      refine r_iload_n hC 2 dX12_bar_16 rfl rfl ?_
      refine r_if_eq hC 47 rfl dX12_bar_17 (by decide) (fun cq => ?_) (fun cq => ?_)
      · replace h := h.1 cq
        refine r_iload_n hC 2 dX12_bar_47 rfl rfl ?_
        exact r_zret hC h.1 (Nat.zero_le _) (Nat.zero_le _) dX12_bar_48 ⟨_, rfl, h.2⟩
      · replace h := h.2 cq
        refine r_aload_n hC 0 dX12_bar_20 rfl rfl ?_
        have q_2 : 0 < a0 + 13 ∧ M0 0 (a0 + 13) = kA 2 1024 := lay_f0 (a := a0) hL qa0 fm_12_25
        refine r_getR0 (a' := a0 + 13) hC fg_X12_47 rfl hF fm_12_25 qa0.1 qa0.2 rfl dX12_bar_21 ?_
        refine r_iload_n hC 3 dX12_bar_24 rfl rfl ?_
        obtain ⟨i_3, h⟩ := h
        refine r_zald hC i_3 q_2.1 q_2.2 (by decide) dX12_bar_25 ?_
        refine r_if_eq hC 35 rfl dX12_bar_26 (by decide) (fun cq => ?_) (fun cq => ?_)
        · replace h := h.1 cq
          refine r_sub [0, 1, 3] rfl ?_
          exact tX12_bar_J35 hC hF hL Q _  _ _ _ qa0 ih _ h
        · replace h := h.2 cq
          refine r_iload_n hC 3 dX12_bar_29 rfl rfl ?_
          refine r_iload_n hC 1 dX12_bar_30 rfl rfl ?_
          refine r_iand hC dX12_bar_31 ?_
          refine r_if_eq hC 39 rfl dX12_bar_32 (by decide) (fun cq => ?_) (fun cq => ?_)
          · replace h := h.1 cq
            refine r_iconst hC dX12_bar_39 ?_
            refine r_sub [0, 1, 3] rfl ?_
            exact tX12_bar_J40 hC hF hL Q _  _ _ _ _ qa0 ih _ h
          · replace h := h.2 cq
            refine r_sub [0, 1, 3] rfl ?_
            exact tX12_bar_J35 hC hF hL Q _  _ _ _ qa0 ih _ h
set_option maxHeartbeats 4000000 in
set_option maxRecDepth 100000 in
theorem mX12_bar (Y : Yx) (hF : Y.2.2.2.2 = true) (l : Launch) (a0 : Nat) (x1 : Int) (M0 : Mem) (Q : Int → Mem → Prop) (qa0 : 0 < a0 ∧ M0 0 a0 = kO 12) (h : wX12_bar a0 x1 M0 Q) : CT Y l yX12_bar cX12_bar 4 (some .boolean) rmX12_bar [vR Y.1 a0, vI x1] M0 (QI Q) := by
  unfold wX12_bar at h
  refine ct_intro (by decide) (Nat.le_of_ble_eq_true rfl) ?_
  intro X hXl hC hL0
  have hL := hL0 hF
  change OKX X Y RX12 cX12_bar 4 (some .boolean) rmX12_bar at hC
  change WW X Y 4 rmX12_bar (QI Q) M0 0 0 0 [(0, vR Y.1 a0), (1, vI x1)] [] M0
  refine r_iconst hC dX12_bar_0 ?_
  refine r_istore_n (lv' := [(2, vI 1), (0, vR Y.1 a0), (1, vI x1)]) hC dX12_bar_1 rfl (by decide) rfl ?_
  refine r_iconst hC dX12_bar_2 ?_
  refine r_istore_n (lv' := [(3, vI 0), (2, vI 1), (0, vR Y.1 a0), (1, vI x1)]) hC dX12_bar_3 rfl (by decide) rfl ?_
  refine r_sub [2, 3, 1, 0] rfl ?_
  obtain ⟨N_6, h⟩ := h
  refine tX12_bar_L4 hC hF hL Q  _ _ qa0  N_6 _ _ _ h
theorem dX12_bars_0 : dec cX12_bars 0 1 1 (.aload_n 0) := ⟨by decide +kernel, rfl⟩
theorem dX12_bars_1 : dec cX12_bars 1 1 2 (.iload_n 1) := ⟨by decide +kernel, rfl⟩
theorem dX12_bars_2 : dec cX12_bars 2 3 5 (.invokevirtual 264) := ⟨by decide +kernel, rfl⟩
theorem dX12_bars_5 : dec cX12_bars 5 3 8 (.ifCond .ne 9) := ⟨by decide +kernel, rfl⟩
theorem dX12_bars_8 : dec cX12_bars 8 1 9 (.aload_n 0) := ⟨by decide +kernel, rfl⟩
theorem dX12_bars_9 : dec cX12_bars 9 1 10 (.iconst 1) := ⟨by decide +kernel, rfl⟩
theorem dX12_bars_10 : dec cX12_bars 10 3 13 (.invokevirtual 83) := ⟨by decide +kernel, rfl⟩
theorem dX12_bars_13 : dec cX12_bars 13 1 14 (.ireturn) := ⟨by decide +kernel, rfl⟩
theorem dX12_bars_14 : dec cX12_bars 14 1 15 (.iload_n 1) := ⟨by decide +kernel, rfl⟩
theorem dX12_bars_15 : dec cX12_bars 15 2 17 (.bipush 6) := ⟨by decide +kernel, rfl⟩
theorem dX12_bars_17 : dec cX12_bars 17 3 20 (.invokestatic 267) := ⟨by decide +kernel, rfl⟩
theorem dX12_bars_20 : dec cX12_bars 20 3 23 (.ifCond .ne 9) := ⟨by decide +kernel, rfl⟩
theorem dX12_bars_23 : dec cX12_bars 23 1 24 (.aload_n 0) := ⟨by decide +kernel, rfl⟩
theorem dX12_bars_24 : dec cX12_bars 24 1 25 (.iconst 5) := ⟨by decide +kernel, rfl⟩
theorem dX12_bars_25 : dec cX12_bars 25 3 28 (.invokevirtual 83) := ⟨by decide +kernel, rfl⟩
theorem dX12_bars_28 : dec cX12_bars 28 1 29 (.ireturn) := ⟨by decide +kernel, rfl⟩
theorem dX12_bars_29 : dec cX12_bars 29 1 30 (.aload_n 0) := ⟨by decide +kernel, rfl⟩
theorem dX12_bars_30 : dec cX12_bars 30 1 31 (.iload_n 1) := ⟨by decide +kernel, rfl⟩
theorem dX12_bars_31 : dec cX12_bars 31 3 34 (.invokevirtual 271) := ⟨by decide +kernel, rfl⟩
theorem dX12_bars_34 : dec cX12_bars 34 1 35 (.aload_n 0) := ⟨by decide +kernel, rfl⟩
theorem dX12_bars_35 : dec cX12_bars 35 3 38 (.getfield 247) := ⟨by decide +kernel, rfl⟩
theorem dX12_bars_38 : dec cX12_bars 38 3 41 (.ifCond .le 9) := ⟨by decide +kernel, rfl⟩
theorem dX12_bars_41 : dec cX12_bars 41 1 42 (.aload_n 0) := ⟨by decide +kernel, rfl⟩
theorem dX12_bars_42 : dec cX12_bars 42 1 43 (.iconst 3) := ⟨by decide +kernel, rfl⟩
theorem dX12_bars_43 : dec cX12_bars 43 3 46 (.invokevirtual 83) := ⟨by decide +kernel, rfl⟩
theorem dX12_bars_46 : dec cX12_bars 46 1 47 (.ireturn) := ⟨by decide +kernel, rfl⟩
theorem dX12_bars_47 : dec cX12_bars 47 1 48 (.iconst (-1)) := ⟨by decide +kernel, rfl⟩
theorem dX12_bars_48 : dec cX12_bars 48 1 49 (.istore_n 2) := ⟨by decide +kernel, rfl⟩
theorem dX12_bars_49 : dec cX12_bars 49 1 50 (.iconst 0) := ⟨by decide +kernel, rfl⟩
theorem dX12_bars_50 : dec cX12_bars 50 1 51 (.istore_n 3) := ⟨by decide +kernel, rfl⟩
theorem dX12_bars_51 : dec cX12_bars 51 1 52 (.iload_n 3) := ⟨by decide +kernel, rfl⟩
theorem dX12_bars_52 : dec cX12_bars 52 1 53 (.iconst 1) := ⟨by decide +kernel, rfl⟩
theorem dX12_bars_53 : dec cX12_bars 53 1 54 (.aload_n 0) := ⟨by decide +kernel, rfl⟩
theorem dX12_bars_54 : dec cX12_bars 54 3 57 (.getfield 7) := ⟨by decide +kernel, rfl⟩
theorem dX12_bars_57 : dec cX12_bars 57 1 58 (.iconst 2) := ⟨by decide +kernel, rfl⟩
theorem dX12_bars_58 : dec cX12_bars 58 1 59 (.iaload) := ⟨by decide +kernel, rfl⟩
theorem dX12_bars_59 : dec cX12_bars 59 1 60 (.ishl) := ⟨by decide +kernel, rfl⟩
theorem dX12_bars_60 : dec cX12_bars 60 3 63 (.if_icmp .ge 38) := ⟨by decide +kernel, rfl⟩
theorem dX12_bars_63 : dec cX12_bars 63 1 64 (.iload_n 2) := ⟨by decide +kernel, rfl⟩
theorem dX12_bars_64 : dec cX12_bars 64 3 67 (.ifCond .lt 14) := ⟨by decide +kernel, rfl⟩
theorem dX12_bars_67 : dec cX12_bars 67 1 68 (.iload_n 3) := ⟨by decide +kernel, rfl⟩
theorem dX12_bars_68 : dec cX12_bars 68 3 71 (.invokestatic 156) := ⟨by decide +kernel, rfl⟩
theorem dX12_bars_71 : dec cX12_bars 71 1 72 (.iload_n 2) := ⟨by decide +kernel, rfl⟩
theorem dX12_bars_72 : dec cX12_bars 72 3 75 (.invokestatic 156) := ⟨by decide +kernel, rfl⟩
theorem dX12_bars_75 : dec cX12_bars 75 3 78 (.if_icmp .ge 15) := ⟨by decide +kernel, rfl⟩
theorem dX12_bars_78 : dec cX12_bars 78 1 79 (.aload_n 0) := ⟨by decide +kernel, rfl⟩
theorem dX12_bars_79 : dec cX12_bars 79 1 80 (.iload_n 3) := ⟨by decide +kernel, rfl⟩
theorem dX12_bars_80 : dec cX12_bars 80 3 83 (.invokevirtual 274) := ⟨by decide +kernel, rfl⟩
theorem dX12_bars_83 : dec cX12_bars 83 3 86 (.ifCond .eq 7) := ⟨by decide +kernel, rfl⟩
theorem dX12_bars_86 : dec cX12_bars 86 1 87 (.iload_n 3) := ⟨by decide +kernel, rfl⟩
theorem dX12_bars_87 : dec cX12_bars 87 3 90 (.goto 4) := ⟨by decide +kernel, rfl⟩
theorem dX12_bars_90 : dec cX12_bars 90 1 91 (.iload_n 2) := ⟨by decide +kernel, rfl⟩
theorem dX12_bars_91 : dec cX12_bars 91 1 92 (.istore_n 2) := ⟨by decide +kernel, rfl⟩
theorem dX12_bars_92 : dec cX12_bars 92 3 95 (.iinc 3 1) := ⟨by decide +kernel, rfl⟩
theorem dX12_bars_95 : dec cX12_bars 95 3 98 (.goto (-44)) := ⟨by decide +kernel, rfl⟩
theorem dX12_bars_98 : dec cX12_bars 98 1 99 (.iload_n 2) := ⟨by decide +kernel, rfl⟩
theorem dX12_bars_99 : dec cX12_bars 99 1 100 (.ireturn) := ⟨by decide +kernel, rfl⟩
set_option maxHeartbeats 4000000 in
set_option maxRecDepth 100000 in
theorem tX12_bars_J91 {X : Cx} {Y : Yx} {M0 : Mem} (hC : OKX X Y RX12 cX12_bars 4 (some .int) rmX12_bars) (hF : Y.2.2.2.2 = true) (hL : Lay M0) (Q : Int → Mem → Prop) (C51 : Int → Int → Mem → Prop)  (a0 : Nat) (x3 : Int) (xs0 : Int) (qa0 : 0 < a0 ∧ M0 0 a0 = kO 12) (hC51 : ∀ (x2 : Int) (x3 : Int) (M : Mem), C51 x2 x3 M → WW X Y 4 rmX12_bars (QI Q) M0 0 0 51 [(0, vR Y.1 a0), (2, vI x2), (3, vI x3)] [] M) (M : Mem) (h : wX12_bars_J91 Q C51 a0 x3 xs0 M) : WW X Y 4 rmX12_bars (QI Q) M0 0 0 91 [(0, vR Y.1 a0), (3, vI x3)] [vI xs0] M := by
  unfold wX12_bars_J91 at h
  refine r_istore_n (lv' := [(2, vI xs0), (0, vR Y.1 a0), (3, vI x3)]) hC dX12_bars_91 rfl (by decide) rfl ?_
  refine let_elim h (fun x3_10 e_11 h => ?_)
  refine r_iinc (lv' := [(3, vI x3_10), (2, vI xs0), (0, vR Y.1 a0)]) hC 2 dX12_bars_92 rfl (by decide) e_11 rfl ?_
  refine r_goto hC 51 dX12_bars_95 (by decide) ?_
  refine r_sub [2, 1, 0] rfl ?_
  exact hC51 _ _ _ h
set_option maxHeartbeats 4000000 in
set_option maxRecDepth 100000 in
theorem tX12_bars_J90 {X : Cx} {Y : Yx} {M0 : Mem} (hC : OKX X Y RX12 cX12_bars 4 (some .int) rmX12_bars) (hF : Y.2.2.2.2 = true) (hL : Lay M0) (Q : Int → Mem → Prop) (C51 : Int → Int → Mem → Prop)  (a0 : Nat) (x2 : Int) (x3 : Int) (qa0 : 0 < a0 ∧ M0 0 a0 = kO 12) (hC51 : ∀ (x2 : Int) (x3 : Int) (M : Mem), C51 x2 x3 M → WW X Y 4 rmX12_bars (QI Q) M0 0 0 51 [(0, vR Y.1 a0), (2, vI x2), (3, vI x3)] [] M) (M : Mem) (h : wX12_bars_J90 Q C51 a0 x2 x3 M) : WW X Y 4 rmX12_bars (QI Q) M0 0 0 90 [(0, vR Y.1 a0), (2, vI x2), (3, vI x3)] [] M := by
  unfold wX12_bars_J90 at h
  refine r_iload_n hC 1 dX12_bars_90 rfl rfl ?_
  refine r_sub [0, 2] rfl ?_
  exact tX12_bars_J91 hC hF hL Q _  _ _ _ qa0 hC51 _ h
set_option maxHeartbeats 4000000 in
set_option maxRecDepth 100000 in
theorem tX12_bars_J78 {X : Cx} {Y : Yx} {M0 : Mem} (hC : OKX X Y RX12 cX12_bars 4 (some .int) rmX12_bars) (hF : Y.2.2.2.2 = true) (hL : Lay M0) (Q : Int → Mem → Prop) (C51 : Int → Int → Mem → Prop)  (a0 : Nat) (x2 : Int) (x3 : Int) (qa0 : 0 < a0 ∧ M0 0 a0 = kO 12) (hC51 : ∀ (x2 : Int) (x3 : Int) (M : Mem), C51 x2 x3 M → WW X Y 4 rmX12_bars (QI Q) M0 0 0 51 [(0, vR Y.1 a0), (2, vI x2), (3, vI x3)] [] M) (M : Mem) (h : wX12_bars_J78 Q C51 a0 x2 x3 M) : WW X Y 4 rmX12_bars (QI Q) M0 0 0 78 [(0, vR Y.1 a0), (2, vI x2), (3, vI x3)] [] M := by
  unfold wX12_bars_J78 at h
  refine r_aload_n hC 0 dX12_bars_78 rfl rfl ?_
  refine r_iload_n hC 2 dX12_bars_79 rfl rfl ?_
  refine r_callV (As := [vI x3]) (st := []) hC cw_X12_274 rfl qa0.1 qa0.2 rfl rfl (Nat.le_of_ble_eq_true rfl) ⟨Nat.le_of_ble_eq_true rfl, Nat.le_of_ble_eq_true rfl⟩ ⟨Nat.le_of_ble_eq_true rfl, Nat.le_of_ble_eq_true rfl⟩ dX12_bars_80 (fun hk => mX12_bar Y hF _ _ _ _ _ (kqO hk qa0) h) (fun v M_8 h => ?_)
  obtain ⟨r_9, rfl, h⟩ := h
  refine r_if_eq hC 90 rfl dX12_bars_83 (by decide) (fun cq => ?_) (fun cq => ?_)
  · replace h := h.1 cq
    refine r_sub [0, 1, 2] rfl ?_
    exact tX12_bars_J90 hC hF hL Q _  _ _ _ qa0 hC51 _ h
  · replace h := h.2 cq
    refine r_iload_n hC 2 dX12_bars_86 rfl rfl ?_
    refine r_goto hC 91 dX12_bars_87 (by decide) ?_
    refine r_sub [0, 2] rfl ?_
    exact tX12_bars_J91 hC hF hL Q _  _ _ _ qa0 hC51 _ h
set_option maxHeartbeats 4000000 in
set_option maxRecDepth 100000 in
theorem tX12_bars_L51 {X : Cx} {Y : Yx} {M0 : Mem} (hC : OKX X Y RX12 cX12_bars 4 (some .int) rmX12_bars) (hF : Y.2.2.2.2 = true) (hL : Lay M0) (Q : Int → Mem → Prop)  (a0 : Nat) (qa0 : 0 < a0 ∧ M0 0 a0 = kO 12)  : ∀ (N : Nat) (x2 : Int) (x3 : Int) (M : Mem) (_ : wX12_bars_L51 Q  a0 N x2 x3 M), WW X Y 4 rmX12_bars (QI Q) M0 0 0 51 [(0, vR Y.1 a0), (2, vI x2), (3, vI x3)] [] M := by
  intro N
  induction N with
  | zero =>
    intro x2 x3 M h
    exact h.elim
  | succ N ih =>
    intro x2 x3 M h
    unfold wX12_bars_L51 at h
    refine r_iload_n hC 2 dX12_bars_51 rfl rfl ?_
    refine r_iconst hC dX12_bars_52 ?_
    refine r_aload_n hC 0 dX12_bars_53 rfl rfl ?_
    have q_7 : 0 < a0 + 1 ∧ M0 0 (a0 + 1) = kA 0 1522 := lay_f0 (a := a0) hL qa0 fm_12_0
    refine r_getR0 (a' := a0 + 1) hC fg_X12_7 rfl hF fm_12_0 qa0.1 qa0.2 rfl dX12_bars_54 ?_
    refine r_iconst hC dX12_bars_57 ?_
    refine r_iald hC ⟨by decide +kernel, by decide +kernel⟩ q_7.1 q_7.2 (by decide) dX12_bars_58 ?_
    refine r_ishl hC dX12_bars_59 ?_
    refine r_icmp_ge hC 98 rfl rfl dX12_bars_60 (by decide) (fun cq => ?_) (fun cq => ?_)
    · replace h := h.1 cq
      refine r_iload_n hC 1 dX12_bars_98 rfl rfl ?_
      exact r_iret hC (Nat.zero_le _) (Nat.zero_le _) dX12_bars_99 ⟨_, rfl, h⟩
    · replace h := h.2 cq
      refine r_iload_n hC 1 dX12_bars_63 rfl rfl ?_
      refine r_if_lt hC 78 rfl dX12_bars_64 (by decide) (fun cq => ?_) (fun cq => ?_)
      · replace h := h.1 cq
        refine r_sub [0, 1, 2] rfl ?_
        exact tX12_bars_J78 hC hF hL Q _  _ _ _ qa0 ih _ h
      · replace h := h.2 cq
        refine r_iload_n hC 2 dX12_bars_67 rfl rfl ?_
        refine r_callS (As := [vI x3]) (st := []) hC cw_X12_156 rfl rfl (Nat.le_of_ble_eq_true rfl) ⟨Nat.le_of_ble_eq_true rfl, Nat.le_of_ble_eq_true rfl⟩ ⟨Nat.le_of_ble_eq_true rfl, Nat.le_of_ble_eq_true rfl⟩ dX12_bars_68 (fun hk => mX12_ones Y hF _ _ _ _  h) (fun v M_12 h => ?_)
        obtain ⟨r_13, rfl, h⟩ := h
        refine r_iload_n hC 1 dX12_bars_71 rfl rfl ?_
        refine r_callS (As := [vI x2]) (st := [vI r_13]) hC cw_X12_156 rfl rfl (Nat.le_of_ble_eq_true rfl) ⟨Nat.le_of_ble_eq_true rfl, Nat.le_of_ble_eq_true rfl⟩ ⟨Nat.le_of_ble_eq_true rfl, Nat.le_of_ble_eq_true rfl⟩ dX12_bars_72 (fun hk => mX12_ones Y hF _ _ _ _  h) (fun v M_14 h => ?_)
        obtain ⟨r_15, rfl, h⟩ := h
        refine r_icmp_ge hC 90 rfl rfl dX12_bars_75 (by decide) (fun cq => ?_) (fun cq => ?_)
        · replace h := h.1 cq
          refine r_sub [0, 1, 2] rfl ?_
          exact tX12_bars_J90 hC hF hL Q _  _ _ _ qa0 ih _ h
        · replace h := h.2 cq
          refine r_sub [0, 1, 2] rfl ?_
          exact tX12_bars_J78 hC hF hL Q _  _ _ _ qa0 ih _ h
set_option maxHeartbeats 4000000 in
set_option maxRecDepth 100000 in
theorem mX12_bars (Y : Yx) (hF : Y.2.2.2.2 = true) (l : Launch) (a0 : Nat) (x1 : Int) (M0 : Mem) (Q : Int → Mem → Prop) (qa0 : 0 < a0 ∧ M0 0 a0 = kO 12) (h : wX12_bars a0 x1 M0 Q) : CT Y l yX12_bars cX12_bars 4 (some .int) rmX12_bars [vR Y.1 a0, vI x1] M0 (QI Q) := by
  unfold wX12_bars at h
  refine ct_intro (by decide) (Nat.le_of_ble_eq_true rfl) ?_
  intro X hXl hC hL0
  have hL := hL0 hF
  change OKX X Y RX12 cX12_bars 4 (some .int) rmX12_bars at hC
  change WW X Y 4 rmX12_bars (QI Q) M0 0 0 0 [(0, vR Y.1 a0), (1, vI x1)] [] M0
  refine r_aload_n hC 0 dX12_bars_0 rfl rfl ?_
  refine r_iload_n hC 1 dX12_bars_1 rfl rfl ?_
  refine r_callV (As := [vI x1]) (st := []) hC cw_X12_264 rfl qa0.1 qa0.2 rfl rfl (Nat.le_of_ble_eq_true rfl) ⟨Nat.le_of_ble_eq_true rfl, Nat.le_of_ble_eq_true rfl⟩ ⟨Nat.le_of_ble_eq_true rfl, Nat.le_of_ble_eq_true rfl⟩ dX12_bars_2 (fun hk => mX12_isSet Y hF _ _ _ _ _ (kqO hk qa0) h) (fun v M_1 h => ?_)
  obtain ⟨r_2, rfl, h⟩ := h
  refine r_if_ne hC 14 rfl dX12_bars_5 (by decide) (fun cq => ?_) (fun cq => ?_)
  · replace h := h.2 cq
    refine r_iload_n hC 1 dX12_bars_14 rfl rfl ?_
    refine r_bipush hC (by decide +kernel) dX12_bars_15 ?_
    refine r_callS (As := [vI x1, vI 6]) (st := []) hC cw_X12_267 rfl rfl (Nat.le_of_ble_eq_true rfl) ⟨Nat.le_of_ble_eq_true rfl, Nat.le_of_ble_eq_true rfl⟩ ⟨Nat.le_of_ble_eq_true rfl, Nat.le_of_ble_eq_true rfl⟩ dX12_bars_17 (fun hk => mX12_isSmall Y hF _ _ _ _ _  h) (fun v M_3 h => ?_)
    obtain ⟨r_4, rfl, h⟩ := h
    refine r_if_ne hC 29 rfl dX12_bars_20 (by decide) (fun cq => ?_) (fun cq => ?_)
    · replace h := h.2 cq
      refine r_aload_n hC 0 dX12_bars_29 rfl rfl ?_
      refine r_iload_n hC 1 dX12_bars_30 rfl rfl ?_
      refine r_callV (As := [vI x1]) (st := []) hC cw_X12_271 rfl qa0.1 qa0.2 rfl rfl (Nat.le_of_ble_eq_true rfl) ⟨Nat.le_of_ble_eq_true rfl, Nat.le_of_ble_eq_true rfl⟩ ⟨Nat.le_of_ble_eq_true rfl, Nat.le_of_ble_eq_true rfl⟩ dX12_bars_31 (fun hk => mX12_seesAll Y hF _ _ _ _ _ (kqO hk qa0) h) (fun v M_5 h => ?_)
      obtain ⟨rfl, h⟩ := h
      refine r_aload_n hC 0 dX12_bars_34 rfl rfl ?_
      refine r_getI hC fg_X12_247 rfl qa0.1 qa0.2 dX12_bars_35 ?_
      refine r_if_le hC 47 rfl dX12_bars_38 (by decide) (fun cq => ?_) (fun cq => ?_)
      · replace h := h.1 cq
        refine r_iconst hC dX12_bars_47 ?_
        refine r_nameI h (fun x2_6 h => ?_)
        refine r_istore_n (lv' := [(2, vI x2_6), (0, vR Y.1 a0), (1, vI x1)]) hC dX12_bars_48 rfl (by decide) rfl ?_
        refine r_iconst hC dX12_bars_49 ?_
        refine r_istore_n (lv' := [(3, vI 0), (2, vI x2_6), (0, vR Y.1 a0), (1, vI x1)]) hC dX12_bars_50 rfl (by decide) rfl ?_
        refine r_sub [2, 1, 0] rfl ?_
        obtain ⟨N_16, h⟩ := h
        refine tX12_bars_L51 hC hF hL Q  _ qa0  N_16 _ _ _ h
      · replace h := h.2 cq
        refine r_aload_n hC 0 dX12_bars_41 rfl rfl ?_
        refine r_iconst hC dX12_bars_42 ?_
        refine r_callV (As := [vI 3]) (st := []) hC cw_X12_83 rfl qa0.1 qa0.2 rfl rfl (Nat.le_of_ble_eq_true rfl) ⟨Nat.le_of_ble_eq_true rfl, Nat.le_of_ble_eq_true rfl⟩ ⟨Nat.le_of_ble_eq_true rfl, Nat.le_of_ble_eq_true rfl⟩ dX12_bars_43 (fun hk => mX12_error Y hF _ _ _ _ _ (kqO hk qa0) h) (fun v M_17 h => ?_)
        obtain ⟨r_18, rfl, h⟩ := h
        exact r_iret hC (Nat.zero_le _) (Nat.zero_le _) dX12_bars_46 ⟨_, rfl, h⟩
    · replace h := h.1 cq
      refine r_aload_n hC 0 dX12_bars_23 rfl rfl ?_
      refine r_iconst hC dX12_bars_24 ?_
      refine r_callV (As := [vI 5]) (st := []) hC cw_X12_83 rfl qa0.1 qa0.2 rfl rfl (Nat.le_of_ble_eq_true rfl) ⟨Nat.le_of_ble_eq_true rfl, Nat.le_of_ble_eq_true rfl⟩ ⟨Nat.le_of_ble_eq_true rfl, Nat.le_of_ble_eq_true rfl⟩ dX12_bars_25 (fun hk => mX12_error Y hF _ _ _ _ _ (kqO hk qa0) h) (fun v M_19 h => ?_)
      obtain ⟨r_20, rfl, h⟩ := h
      exact r_iret hC (Nat.zero_le _) (Nat.zero_le _) dX12_bars_28 ⟨_, rfl, h⟩
  · replace h := h.1 cq
    refine r_aload_n hC 0 dX12_bars_8 rfl rfl ?_
    refine r_iconst hC dX12_bars_9 ?_
    refine r_callV (As := [vI 1]) (st := []) hC cw_X12_83 rfl qa0.1 qa0.2 rfl rfl (Nat.le_of_ble_eq_true rfl) ⟨Nat.le_of_ble_eq_true rfl, Nat.le_of_ble_eq_true rfl⟩ ⟨Nat.le_of_ble_eq_true rfl, Nat.le_of_ble_eq_true rfl⟩ dX12_bars_10 (fun hk => mX12_error Y hF _ _ _ _ _ (kqO hk qa0) h) (fun v M_21 h => ?_)
    obtain ⟨r_22, rfl, h⟩ := h
    exact r_iret hC (Nat.zero_le _) (Nat.zero_le _) dX12_bars_13 ⟨_, rfl, h⟩
