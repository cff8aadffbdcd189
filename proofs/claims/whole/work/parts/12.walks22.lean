theorem dX12_findLeast_0 : dec cX12_findLeast 0 1 1 (.iconst 0) := ⟨by decide +kernel, rfl⟩
theorem dX12_findLeast_1 : dec cX12_findLeast 1 1 2 (.istore_n 2) := ⟨by decide +kernel, rfl⟩
theorem dX12_findLeast_2 : dec cX12_findLeast 2 1 3 (.iload_n 2) := ⟨by decide +kernel, rfl⟩
theorem dX12_findLeast_3 : dec cX12_findLeast 3 1 4 (.iconst 1) := ⟨by decide +kernel, rfl⟩
theorem dX12_findLeast_4 : dec cX12_findLeast 4 1 5 (.iload_n 1) := ⟨by decide +kernel, rfl⟩
theorem dX12_findLeast_5 : dec cX12_findLeast 5 1 6 (.ishl) := ⟨by decide +kernel, rfl⟩
theorem dX12_findLeast_6 : dec cX12_findLeast 6 3 9 (.if_icmp .ge 128) := ⟨by decide +kernel, rfl⟩
theorem dX12_findLeast_9 : dec cX12_findLeast 9 1 10 (.iconst 0) := ⟨by decide +kernel, rfl⟩
theorem dX12_findLeast_10 : dec cX12_findLeast 10 1 11 (.istore_n 3) := ⟨by decide +kernel, rfl⟩
theorem dX12_findLeast_11 : dec cX12_findLeast 11 1 12 (.iload_n 3) := ⟨by decide +kernel, rfl⟩
theorem dX12_findLeast_12 : dec cX12_findLeast 12 1 13 (.iload_n 1) := ⟨by decide +kernel, rfl⟩
theorem dX12_findLeast_13 : dec cX12_findLeast 13 3 16 (.if_icmp .ge 115) := ⟨by decide +kernel, rfl⟩
theorem dX12_findLeast_16 : dec cX12_findLeast 16 1 17 (.iload_n 2) := ⟨by decide +kernel, rfl⟩
theorem dX12_findLeast_17 : dec cX12_findLeast 17 3 20 (.ifCond .ne 7) := ⟨by decide +kernel, rfl⟩
theorem dX12_findLeast_20 : dec cX12_findLeast 20 1 21 (.iconst 0) := ⟨by decide +kernel, rfl⟩
theorem dX12_findLeast_21 : dec cX12_findLeast 21 3 24 (.goto 6) := ⟨by decide +kernel, rfl⟩
theorem dX12_findLeast_24 : dec cX12_findLeast 24 3 27 (.ldc_w 277) := ⟨by decide +kernel, rfl⟩
theorem dX12_findLeast_27 : dec cX12_findLeast 27 2 29 (.istore 4) := ⟨by decide +kernel, rfl⟩
theorem dX12_findLeast_29 : dec cX12_findLeast 29 1 30 (.iconst 0) := ⟨by decide +kernel, rfl⟩
theorem dX12_findLeast_30 : dec cX12_findLeast 30 2 32 (.istore 5) := ⟨by decide +kernel, rfl⟩
theorem dX12_findLeast_32 : dec cX12_findLeast 32 2 34 (.iload 5) := ⟨by decide +kernel, rfl⟩
theorem dX12_findLeast_34 : dec cX12_findLeast 34 1 35 (.iload_n 1) := ⟨by decide +kernel, rfl⟩
theorem dX12_findLeast_35 : dec cX12_findLeast 35 3 38 (.if_icmp .ge 74) := ⟨by decide +kernel, rfl⟩
theorem dX12_findLeast_38 : dec cX12_findLeast 38 1 39 (.iload_n 2) := ⟨by decide +kernel, rfl⟩
theorem dX12_findLeast_39 : dec cX12_findLeast 39 2 41 (.iload 5) := ⟨by decide +kernel, rfl⟩
theorem dX12_findLeast_41 : dec cX12_findLeast 41 1 42 (.ishr) := ⟨by decide +kernel, rfl⟩
theorem dX12_findLeast_42 : dec cX12_findLeast 42 1 43 (.iconst 1) := ⟨by decide +kernel, rfl⟩
theorem dX12_findLeast_43 : dec cX12_findLeast 43 1 44 (.iand) := ⟨by decide +kernel, rfl⟩
theorem dX12_findLeast_44 : dec cX12_findLeast 44 1 45 (.iconst 1) := ⟨by decide +kernel, rfl⟩
theorem dX12_findLeast_45 : dec cX12_findLeast 45 3 48 (.if_icmp .ne 58) := ⟨by decide +kernel, rfl⟩
theorem dX12_findLeast_48 : dec cX12_findLeast 48 1 49 (.aload_n 0) := ⟨by decide +kernel, rfl⟩
theorem dX12_findLeast_49 : dec cX12_findLeast 49 1 50 (.aload_n 0) := ⟨by decide +kernel, rfl⟩
theorem dX12_findLeast_50 : dec cX12_findLeast 50 3 53 (.getfield 53) := ⟨by decide +kernel, rfl⟩
theorem dX12_findLeast_53 : dec cX12_findLeast 53 1 54 (.iload_n 3) := ⟨by decide +kernel, rfl⟩
theorem dX12_findLeast_54 : dec cX12_findLeast 54 1 55 (.iaload) := ⟨by decide +kernel, rfl⟩
theorem dX12_findLeast_55 : dec cX12_findLeast 55 1 56 (.aload_n 0) := ⟨by decide +kernel, rfl⟩
theorem dX12_findLeast_56 : dec cX12_findLeast 56 3 59 (.getfield 53) := ⟨by decide +kernel, rfl⟩
theorem dX12_findLeast_59 : dec cX12_findLeast 59 2 61 (.iload 5) := ⟨by decide +kernel, rfl⟩
theorem dX12_findLeast_61 : dec cX12_findLeast 61 1 62 (.iaload) := ⟨by decide +kernel, rfl⟩
theorem dX12_findLeast_62 : dec cX12_findLeast 62 3 65 (.invokevirtual 168) := ⟨by decide +kernel, rfl⟩
theorem dX12_findLeast_65 : dec cX12_findLeast 65 1 66 (.aload_n 0) := ⟨by decide +kernel, rfl⟩
theorem dX12_findLeast_66 : dec cX12_findLeast 66 3 69 (.getfield 50) := ⟨by decide +kernel, rfl⟩
theorem dX12_findLeast_69 : dec cX12_findLeast 69 2 71 (.bipush 10) := ⟨by decide +kernel, rfl⟩
theorem dX12_findLeast_71 : dec cX12_findLeast 71 1 72 (.iload_n 2) := ⟨by decide +kernel, rfl⟩
theorem dX12_findLeast_72 : dec cX12_findLeast 72 1 73 (.iconst 1) := ⟨by decide +kernel, rfl⟩
theorem dX12_findLeast_73 : dec cX12_findLeast 73 2 75 (.iload 5) := ⟨by decide +kernel, rfl⟩
theorem dX12_findLeast_75 : dec cX12_findLeast 75 1 76 (.ishl) := ⟨by decide +kernel, rfl⟩
theorem dX12_findLeast_76 : dec cX12_findLeast 76 1 77 (.iconst (-1)) := ⟨by decide +kernel, rfl⟩
theorem dX12_findLeast_77 : dec cX12_findLeast 77 1 78 (.ixor) := ⟨by decide +kernel, rfl⟩
theorem dX12_findLeast_78 : dec cX12_findLeast 78 1 79 (.iand) := ⟨by decide +kernel, rfl⟩
theorem dX12_findLeast_79 : dec cX12_findLeast 79 1 80 (.imul) := ⟨by decide +kernel, rfl⟩
theorem dX12_findLeast_80 : dec cX12_findLeast 80 2 82 (.iload 5) := ⟨by decide +kernel, rfl⟩
theorem dX12_findLeast_82 : dec cX12_findLeast 82 1 83 (.iadd) := ⟨by decide +kernel, rfl⟩
theorem dX12_findLeast_83 : dec cX12_findLeast 83 1 84 (.iaload) := ⟨by decide +kernel, rfl⟩
theorem dX12_findLeast_84 : dec cX12_findLeast 84 1 85 (.iadd) := ⟨by decide +kernel, rfl⟩
theorem dX12_findLeast_85 : dec cX12_findLeast 85 2 87 (.istore 6) := ⟨by decide +kernel, rfl⟩
theorem dX12_findLeast_87 : dec cX12_findLeast 87 2 89 (.iload 6) := ⟨by decide +kernel, rfl⟩
theorem dX12_findLeast_89 : dec cX12_findLeast 89 2 91 (.iload 4) := ⟨by decide +kernel, rfl⟩
theorem dX12_findLeast_91 : dec cX12_findLeast 91 3 94 (.if_icmp .ge 8) := ⟨by decide +kernel, rfl⟩
theorem dX12_findLeast_94 : dec cX12_findLeast 94 2 96 (.iload 6) := ⟨by decide +kernel, rfl⟩
theorem dX12_findLeast_96 : dec cX12_findLeast 96 3 99 (.goto 5) := ⟨by decide +kernel, rfl⟩
theorem dX12_findLeast_99 : dec cX12_findLeast 99 2 101 (.iload 4) := ⟨by decide +kernel, rfl⟩
theorem dX12_findLeast_101 : dec cX12_findLeast 101 2 103 (.istore 4) := ⟨by decide +kernel, rfl⟩
theorem dX12_findLeast_103 : dec cX12_findLeast 103 3 106 (.iinc 5 1) := ⟨by decide +kernel, rfl⟩
theorem dX12_findLeast_106 : dec cX12_findLeast 106 3 109 (.goto (-74)) := ⟨by decide +kernel, rfl⟩
theorem dX12_findLeast_109 : dec cX12_findLeast 109 1 110 (.aload_n 0) := ⟨by decide +kernel, rfl⟩
theorem dX12_findLeast_110 : dec cX12_findLeast 110 3 113 (.getfield 50) := ⟨by decide +kernel, rfl⟩
theorem dX12_findLeast_113 : dec cX12_findLeast 113 2 115 (.bipush 10) := ⟨by decide +kernel, rfl⟩
theorem dX12_findLeast_115 : dec cX12_findLeast 115 1 116 (.iload_n 2) := ⟨by decide +kernel, rfl⟩
theorem dX12_findLeast_116 : dec cX12_findLeast 116 1 117 (.imul) := ⟨by decide +kernel, rfl⟩
theorem dX12_findLeast_117 : dec cX12_findLeast 117 1 118 (.iload_n 3) := ⟨by decide +kernel, rfl⟩
theorem dX12_findLeast_118 : dec cX12_findLeast 118 1 119 (.iadd) := ⟨by decide +kernel, rfl⟩
theorem dX12_findLeast_119 : dec cX12_findLeast 119 2 121 (.iload 4) := ⟨by decide +kernel, rfl⟩
theorem dX12_findLeast_121 : dec cX12_findLeast 121 1 122 (.iastore) := ⟨by decide +kernel, rfl⟩
theorem dX12_findLeast_122 : dec cX12_findLeast 122 3 125 (.iinc 3 1) := ⟨by decide +kernel, rfl⟩
theorem dX12_findLeast_125 : dec cX12_findLeast 125 3 128 (.goto (-114)) := ⟨by decide +kernel, rfl⟩
theorem dX12_findLeast_128 : dec cX12_findLeast 128 3 131 (.iinc 2 1) := ⟨by decide +kernel, rfl⟩
theorem dX12_findLeast_131 : dec cX12_findLeast 131 3 134 (.goto (-129)) := ⟨by decide +kernel, rfl⟩
theorem dX12_findLeast_134 : dec cX12_findLeast 134 1 135 (.return_) := ⟨by decide +kernel, rfl⟩
set_option maxHeartbeats 4000000 in
set_option maxRecDepth 100000 in
theorem tX12_findLeast_J101 {X : Cx} {Y : Yx} {M0 : Mem} (hC : OKX X Y RX12 cX12_findLeast 7 none rmX12_findLeast) (hF : Y.2.2.2.2 = true) (hL : Lay M0) (Q : Mem → Prop) (C32 : Int → Int → Mem → Prop)  (a0 : Nat) (x1 : Int) (x2 : Int) (x3 : Int) (x5 : Int) (xs0 : Int) (qa0 : 0 < a0 ∧ M0 0 a0 = kO 12) (hC32 : ∀ (x4 : Int) (x5 : Int) (M : Mem), C32 x4 x5 M → WW X Y 7 rmX12_findLeast (QV Q) M0 0 0 32 [(0, vR Y.1 a0), (1, vI x1), (2, vI x2), (3, vI x3), (4, vI x4), (5, vI x5)] [] M) (M : Mem) (h : wX12_findLeast_J101 Q C32 a0 x1 x2 x3 x5 xs0 M) : WW X Y 7 rmX12_findLeast (QV Q) M0 0 0 101 [(0, vR Y.1 a0), (1, vI x1), (2, vI x2), (3, vI x3), (5, vI x5)] [vI xs0] M := by
  unfold wX12_findLeast_J101 at h
  refine r_istore (lv' := [(4, vI xs0), (0, vR Y.1 a0), (1, vI x1), (2, vI x2), (3, vI x3), (5, vI x5)]) hC dX12_findLeast_101 (by decide) rfl ?_
  refine let_elim h (fun x5_12 e_13 h => ?_)
  refine r_iinc (lv' := [(5, vI x5_12), (4, vI xs0), (0, vR Y.1 a0), (1, vI x1), (2, vI x2), (3, vI x3)]) hC 5 dX12_findLeast_103 rfl (by decide) e_13 rfl ?_
  refine r_goto hC 32 dX12_findLeast_106 (by decide) ?_
  refine r_sub [2, 3, 4, 5, 1, 0] rfl ?_
  exact hC32 _ _ _ h
set_option maxHeartbeats 4000000 in
set_option maxRecDepth 100000 in
theorem tX12_findLeast_L32 {X : Cx} {Y : Yx} {M0 : Mem} (hC : OKX X Y RX12 cX12_findLeast 7 none rmX12_findLeast) (hF : Y.2.2.2.2 = true) (hL : Lay M0) (Q : Mem → Prop) (E109 : Int → Mem → Prop) (a0 : Nat) (x1 : Int) (x2 : Int) (x3 : Int) (qa0 : 0 < a0 ∧ M0 0 a0 = kO 12) (hE109 : ∀ (x4 : Int) (M : Mem), E109 x4 M → WW X Y 7 rmX12_findLeast (QV Q) M0 0 0 109 [(0, vR Y.1 a0), (1, vI x1), (2, vI x2), (3, vI x3), (4, vI x4)] [] M) : ∀ (N : Nat) (x4 : Int) (x5 : Int) (M : Mem) (_ : wX12_findLeast_L32 Q E109 a0 x1 x2 x3 N x4 x5 M), WW X Y 7 rmX12_findLeast (QV Q) M0 0 0 32 [(0, vR Y.1 a0), (1, vI x1), (2, vI x2), (3, vI x3), (4, vI x4), (5, vI x5)] [] M := by
  intro N
  induction N with
  | zero =>
    intro x4 x5 M h
    exact h.elim
  | succ N ih =>
    intro x4 x5 M h
    unfold wX12_findLeast_L32 at h
    refine r_iload hC 5 dX12_findLeast_32 rfl ?_
    refine r_iload_n hC 1 dX12_findLeast_34 rfl rfl ?_
    refine r_icmp_ge hC 109 rfl rfl dX12_findLeast_35 (by decide) (fun cq => ?_) (fun cq => ?_)
    · replace h := h.1 cq
      refine r_sub [0, 1, 2, 3, 4] rfl ?_
      exact hE109 _ _ h
    · replace h := h.2 cq
      refine r_iload_n hC 2 dX12_findLeast_38 rfl rfl ?_
      refine r_iload hC 5 dX12_findLeast_39 rfl ?_
      refine r_ishr hC dX12_findLeast_41 ?_
      refine r_iconst hC dX12_findLeast_42 ?_
      refine r_iand hC dX12_findLeast_43 ?_
      refine r_iconst hC dX12_findLeast_44 ?_
      refine r_icmp_ne hC 103 rfl bmL_1 dX12_findLeast_45 (by decide) (fun cq => ?_) (fun cq => ?_)
      · replace h := h.2 cq
        refine let_elim h (fun x5_1 e_2 h => ?_)
        refine r_iinc (lv' := [(5, vI x5_1), (0, vR Y.1 a0), (1, vI x1), (2, vI x2), (3, vI x3), (4, vI x4)]) hC 5 dX12_findLeast_103 rfl (by decide) e_2 rfl ?_
        refine r_goto hC 32 dX12_findLeast_106 (by decide) ?_
        refine r_sub [1, 2, 3, 4, 5, 0] rfl ?_
        exact ih _ _ _ h
      · replace h := h.1 cq
        refine r_aload_n hC 0 dX12_findLeast_48 rfl rfl ?_
        refine r_aload_n hC 0 dX12_findLeast_49 rfl rfl ?_
        have q_3 : 0 < a0 + 15 ∧ M0 0 (a0 + 15) = kA 0 10 := lay_f0 (a := a0) hL qa0 fm_12_27
        refine r_getR0 (a' := a0 + 15) hC fg_X12_53 rfl hF fm_12_27 qa0.1 qa0.2 rfl dX12_findLeast_50 ?_
        refine r_iload_n hC 3 dX12_findLeast_53 rfl rfl ?_
        obtain ⟨i_4, h⟩ := h
        refine r_iald hC i_4 q_3.1 q_3.2 (by decide) dX12_findLeast_54 ?_
        refine r_aload_n hC 0 dX12_findLeast_55 rfl rfl ?_
        have q_5 : 0 < a0 + 15 ∧ M0 0 (a0 + 15) = kA 0 10 := lay_f0 (a := a0) hL qa0 fm_12_27
        refine r_getR0 (a' := a0 + 15) hC fg_X12_53 rfl hF fm_12_27 qa0.1 qa0.2 rfl dX12_findLeast_56 ?_
        refine r_iload hC 5 dX12_findLeast_59 rfl ?_
        obtain ⟨i_6, h⟩ := h
        refine r_iald hC i_6 q_5.1 q_5.2 (by decide) dX12_findLeast_61 ?_
        refine r_callV (As := [vI (rd M (a0 + 15) x3), vI (rd M (a0 + 15) x5)]) (st := []) hC cw_X12_168 rfl qa0.1 qa0.2 rfl rfl (Nat.le_of_ble_eq_true rfl) ⟨Nat.le_of_ble_eq_true rfl, Nat.le_of_ble_eq_true rfl⟩ ⟨Nat.le_of_ble_eq_true rfl, Nat.le_of_ble_eq_true rfl⟩ dX12_findLeast_62 (fun hk => mX12_carried Y hF _ _ _ _ _ _ (kqO hk qa0) h) (fun v M_7 h => ?_)
        obtain ⟨r_8, rfl, h⟩ := h
        refine r_aload_n hC 0 dX12_findLeast_65 rfl rfl ?_
        have q_9 : 0 < a0 + 14 ∧ M0 0 (a0 + 14) = kA 0 10240 := lay_f0 (a := a0) hL qa0 fm_12_26
        refine r_getR0 (a' := a0 + 14) hC fg_X12_50 rfl hF fm_12_26 qa0.1 qa0.2 rfl dX12_findLeast_66 ?_
        refine r_bipush hC (by decide +kernel) dX12_findLeast_69 ?_
        refine r_iload_n hC 2 dX12_findLeast_71 rfl rfl ?_
        refine r_iconst hC dX12_findLeast_72 ?_
        refine r_iload hC 5 dX12_findLeast_73 rfl ?_
        refine r_ishl hC dX12_findLeast_75 ?_
        refine r_iconst hC dX12_findLeast_76 ?_
        refine r_ixor hC dX12_findLeast_77 ?_
        refine r_iand hC dX12_findLeast_78 ?_
        refine r_imul hC dX12_findLeast_79 ?_
        refine r_iload hC 5 dX12_findLeast_80 rfl ?_
        refine r_iadd hC dX12_findLeast_82 ?_
        obtain ⟨i_10, h⟩ := h
        refine r_iald hC i_10 q_9.1 q_9.2 (by decide) dX12_findLeast_83 ?_
        refine r_iadd hC dX12_findLeast_84 ?_
        refine r_nameI h (fun x6_11 h => ?_)
        refine r_istore (lv' := [(6, vI x6_11), (0, vR Y.1 a0), (1, vI x1), (2, vI x2), (3, vI x3), (4, vI x4), (5, vI x5)]) hC dX12_findLeast_85 (by decide) rfl ?_
        refine r_iload hC 0 dX12_findLeast_87 rfl ?_
        refine r_iload hC 5 dX12_findLeast_89 rfl ?_
        refine r_icmp_ge hC 99 rfl rfl dX12_findLeast_91 (by decide) (fun cq => ?_) (fun cq => ?_)
        · replace h := h.1 cq
          refine r_iload hC 5 dX12_findLeast_99 rfl ?_
          refine r_sub [1, 2, 3, 4, 6] rfl ?_
          exact tX12_findLeast_J101 hC hF hL Q _  _ _ _ _ _ _ qa0 ih _ h
        · replace h := h.2 cq
          refine r_iload hC 0 dX12_findLeast_94 rfl ?_
          refine r_goto hC 101 dX12_findLeast_96 (by decide) ?_
          refine r_sub [1, 2, 3, 4, 6] rfl ?_
          exact tX12_findLeast_J101 hC hF hL Q _  _ _ _ _ _ _ qa0 ih _ h
set_option maxHeartbeats 4000000 in
set_option maxRecDepth 100000 in
theorem tX12_findLeast_J27 {X : Cx} {Y : Yx} {M0 : Mem} (hC : OKX X Y RX12 cX12_findLeast 7 none rmX12_findLeast) (hF : Y.2.2.2.2 = true) (hL : Lay M0) (Q : Mem → Prop) (C11 : Int → Mem → Prop)  (a0 : Nat) (x1 : Int) (x2 : Int) (x3 : Int) (xs0 : Int) (qa0 : 0 < a0 ∧ M0 0 a0 = kO 12) (hC11 : ∀ (x3 : Int) (M : Mem), C11 x3 M → WW X Y 7 rmX12_findLeast (QV Q) M0 0 0 11 [(0, vR Y.1 a0), (1, vI x1), (2, vI x2), (3, vI x3)] [] M) (M : Mem) (h : wX12_findLeast_J27 Q C11 a0 x1 x2 x3 xs0 M) : WW X Y 7 rmX12_findLeast (QV Q) M0 0 0 27 [(0, vR Y.1 a0), (1, vI x1), (2, vI x2), (3, vI x3)] [vI xs0] M := by
  unfold wX12_findLeast_J27 at h
  refine r_istore (lv' := [(4, vI xs0), (0, vR Y.1 a0), (1, vI x1), (2, vI x2), (3, vI x3)]) hC dX12_findLeast_27 (by decide) rfl ?_
  refine r_iconst hC dX12_findLeast_29 ?_
  refine r_istore (lv' := [(5, vI 0), (4, vI xs0), (0, vR Y.1 a0), (1, vI x1), (2, vI x2), (3, vI x3)]) hC dX12_findLeast_30 (by decide) rfl ?_
  refine r_sub [2, 3, 4, 5, 1, 0] rfl ?_
  obtain ⟨N_21, h⟩ := h
  refine tX12_findLeast_L32 hC hF hL Q _ _ _ _ _ qa0 ?_ N_21 _ _ _ h
  · intro x4_14 M_15 h
    refine r_aload_n hC 0 dX12_findLeast_109 rfl rfl ?_
    have q_16 : 0 < a0 + 14 ∧ M0 0 (a0 + 14) = kA 0 10240 := lay_f0 (a := a0) hL qa0 fm_12_26
    refine r_getR0 (a' := a0 + 14) hC fg_X12_50 rfl hF fm_12_26 qa0.1 qa0.2 rfl dX12_findLeast_110 ?_
    refine r_bipush hC (by decide +kernel) dX12_findLeast_113 ?_
    refine r_iload_n hC 2 dX12_findLeast_115 rfl rfl ?_
    refine r_imul hC dX12_findLeast_116 ?_
    refine r_iload_n hC 3 dX12_findLeast_117 rfl rfl ?_
    refine r_iadd hC dX12_findLeast_118 ?_
    refine r_iload hC 4 dX12_findLeast_119 rfl ?_
    obtain ⟨i_17, h⟩ := h
    refine r_iast hC i_17 q_16.1 q_16.2 (by decide) dX12_findLeast_121 ?_
    refine r_nameM h (fun M_18 h => ?_)
    refine let_elim h (fun x3_19 e_20 h => ?_)
    refine r_iinc (lv' := [(3, vI x3_19), (0, vR Y.1 a0), (1, vI x1), (2, vI x2), (4, vI x4_14)]) hC 3 dX12_findLeast_122 rfl (by decide) e_20 rfl ?_
    refine r_goto hC 11 dX12_findLeast_125 (by decide) ?_
    refine r_sub [1, 2, 3, 0] rfl ?_
    exact hC11 _ _ h
set_option maxHeartbeats 4000000 in
set_option maxRecDepth 100000 in
theorem tX12_findLeast_L11 {X : Cx} {Y : Yx} {M0 : Mem} (hC : OKX X Y RX12 cX12_findLeast 7 none rmX12_findLeast) (hF : Y.2.2.2.2 = true) (hL : Lay M0) (Q : Mem → Prop) (E128 : Mem → Prop) (a0 : Nat) (x1 : Int) (x2 : Int) (qa0 : 0 < a0 ∧ M0 0 a0 = kO 12) (hE128 : ∀  (M : Mem), E128  M → WW X Y 7 rmX12_findLeast (QV Q) M0 0 0 128 [(0, vR Y.1 a0), (1, vI x1), (2, vI x2)] [] M) : ∀ (N : Nat) (x3 : Int) (M : Mem) (_ : wX12_findLeast_L11 Q E128 a0 x1 x2 N x3 M), WW X Y 7 rmX12_findLeast (QV Q) M0 0 0 11 [(0, vR Y.1 a0), (1, vI x1), (2, vI x2), (3, vI x3)] [] M := by
  intro N
  induction N with
  | zero =>
    intro x3 M h
    exact h.elim
  | succ N ih =>
    intro x3 M h
    unfold wX12_findLeast_L11 at h
    refine r_iload_n hC 3 dX12_findLeast_11 rfl rfl ?_
    refine r_iload_n hC 1 dX12_findLeast_12 rfl rfl ?_
    refine r_icmp_ge hC 128 rfl rfl dX12_findLeast_13 (by decide) (fun cq => ?_) (fun cq => ?_)
    · replace h := h.1 cq
      refine r_sub [0, 1, 2] rfl ?_
      exact hE128  _ h
    · replace h := h.2 cq
      refine r_iload_n hC 2 dX12_findLeast_16 rfl rfl ?_
      refine r_if_ne hC 24 rfl dX12_findLeast_17 (by decide) (fun cq => ?_) (fun cq => ?_)
      · replace h := h.2 cq
        refine r_ldcw hC kc_X12_277 dX12_findLeast_24 ?_
        refine r_sub [0, 1, 2, 3] rfl ?_
        exact tX12_findLeast_J27 hC hF hL Q _  _ _ _ _ _ qa0 ih _ h
      · replace h := h.1 cq
        refine r_iconst hC dX12_findLeast_20 ?_
        refine r_goto hC 27 dX12_findLeast_21 (by decide) ?_
        refine r_sub [0, 1, 2, 3] rfl ?_
        exact tX12_findLeast_J27 hC hF hL Q _  _ _ _ _ _ qa0 ih _ h
set_option maxHeartbeats 4000000 in
set_option maxRecDepth 100000 in
theorem tX12_findLeast_L2 {X : Cx} {Y : Yx} {M0 : Mem} (hC : OKX X Y RX12 cX12_findLeast 7 none rmX12_findLeast) (hF : Y.2.2.2.2 = true) (hL : Lay M0) (Q : Mem → Prop)  (a0 : Nat) (x1 : Int) (qa0 : 0 < a0 ∧ M0 0 a0 = kO 12)  : ∀ (N : Nat) (x2 : Int) (M : Mem) (_ : wX12_findLeast_L2 Q  a0 x1 N x2 M), WW X Y 7 rmX12_findLeast (QV Q) M0 0 0 2 [(0, vR Y.1 a0), (1, vI x1), (2, vI x2)] [] M := by
  intro N
  induction N with
  | zero =>
    intro x2 M h
    exact h.elim
  | succ N ih =>
    intro x2 M h
    unfold wX12_findLeast_L2 at h
    refine r_iload_n hC 2 dX12_findLeast_2 rfl rfl ?_
    refine r_iconst hC dX12_findLeast_3 ?_
    refine r_iload_n hC 1 dX12_findLeast_4 rfl rfl ?_
    refine r_ishl hC dX12_findLeast_5 ?_
    refine r_icmp_ge hC 134 rfl rfl dX12_findLeast_6 (by decide) (fun cq => ?_) (fun cq => ?_)
    · replace h := h.1 cq
      exact r_vret hC (Nat.zero_le _) (Nat.zero_le _) dX12_findLeast_134 ⟨rfl, h⟩
    · replace h := h.2 cq
      refine r_iconst hC dX12_findLeast_9 ?_
      refine r_istore_n (lv' := [(3, vI 0), (0, vR Y.1 a0), (1, vI x1), (2, vI x2)]) hC dX12_findLeast_10 rfl (by decide) rfl ?_
      refine r_sub [1, 2, 3, 0] rfl ?_
      obtain ⟨N_25, h⟩ := h
      refine tX12_findLeast_L11 hC hF hL Q _ _ _ _ qa0 ?_ N_25 _ _ h
      · intro M_22 h
        refine let_elim h (fun x2_23 e_24 h => ?_)
        refine r_iinc (lv' := [(2, vI x2_23), (0, vR Y.1 a0), (1, vI x1)]) hC 2 dX12_findLeast_128 rfl (by decide) e_24 rfl ?_
        refine r_goto hC 2 dX12_findLeast_131 (by decide) ?_
        refine r_sub [1, 2, 0] rfl ?_
        exact ih _ _ h
set_option maxHeartbeats 4000000 in
set_option maxRecDepth 100000 in
theorem mX12_findLeast (Y : Yx) (hF : Y.2.2.2.2 = true) (l : Launch) (a0 : Nat) (x1 : Int) (M0 : Mem) (Q : Mem → Prop) (qa0 : 0 < a0 ∧ M0 0 a0 = kO 12) (h : wX12_findLeast a0 x1 M0 Q) : CT Y l yX12_findLeast cX12_findLeast 7 none rmX12_findLeast [vR Y.1 a0, vI x1] M0 (QV Q) := by
  unfold wX12_findLeast at h
  refine ct_intro (by decide) (Nat.le_of_ble_eq_true rfl) ?_
  intro X hXl hC hL0
  have hL := hL0 hF
  change OKX X Y RX12 cX12_findLeast 7 none rmX12_findLeast at hC
  change WW X Y 7 rmX12_findLeast (QV Q) M0 0 0 0 [(0, vR Y.1 a0), (1, vI x1)] [] M0
  refine r_iconst hC dX12_findLeast_0 ?_
  refine r_istore_n (lv' := [(2, vI 0), (0, vR Y.1 a0), (1, vI x1)]) hC dX12_findLeast_1 rfl (by decide) rfl ?_
  refine r_sub [1, 2, 0] rfl ?_
  obtain ⟨N_26, h⟩ := h
  refine tX12_findLeast_L2 hC hF hL Q  _ _ qa0  N_26 _ _ h
theorem dX12_step_0 : dec cX12_step 0 1 1 (.iload_n 1) := ⟨by decide +kernel, rfl⟩
theorem dX12_step_1 : dec cX12_step 1 3 4 (.ifCond .ge 7) := ⟨by decide +kernel, rfl⟩
theorem dX12_step_4 : dec cX12_step 4 1 5 (.iconst 0) := ⟨by decide +kernel, rfl⟩
theorem dX12_step_5 : dec cX12_step 5 3 8 (.goto 19) := ⟨by decide +kernel, rfl⟩
theorem dX12_step_8 : dec cX12_step 8 1 9 (.aload_n 0) := ⟨by decide +kernel, rfl⟩
theorem dX12_step_9 : dec cX12_step 9 1 10 (.aload_n 0) := ⟨by decide +kernel, rfl⟩
theorem dX12_step_10 : dec cX12_step 10 3 13 (.getfield 53) := ⟨by decide +kernel, rfl⟩
theorem dX12_step_13 : dec cX12_step 13 1 14 (.iload_n 1) := ⟨by decide +kernel, rfl⟩
theorem dX12_step_14 : dec cX12_step 14 1 15 (.iaload) := ⟨by decide +kernel, rfl⟩
theorem dX12_step_15 : dec cX12_step 15 1 16 (.aload_n 0) := ⟨by decide +kernel, rfl⟩
theorem dX12_step_16 : dec cX12_step 16 3 19 (.getfield 53) := ⟨by decide +kernel, rfl⟩
theorem dX12_step_19 : dec cX12_step 19 1 20 (.iload_n 2) := ⟨by decide +kernel, rfl⟩
theorem dX12_step_20 : dec cX12_step 20 1 21 (.iaload) := ⟨by decide +kernel, rfl⟩
theorem dX12_step_21 : dec cX12_step 21 3 24 (.invokevirtual 168) := ⟨by decide +kernel, rfl⟩
theorem dX12_step_24 : dec cX12_step 24 1 25 (.ireturn) := ⟨by decide +kernel, rfl⟩
set_option maxHeartbeats 4000000 in
set_option maxRecDepth 100000 in
theorem mX12_step (Y : Yx) (hF : Y.2.2.2.2 = true) (l : Launch) (a0 : Nat) (x1 : Int) (x2 : Int) (M0 : Mem) (Q : Int → Mem → Prop) (qa0 : 0 < a0 ∧ M0 0 a0 = kO 12) (h : wX12_step a0 x1 x2 M0 Q) : CT Y l yX12_step cX12_step 3 (some .int) rmX12_step [vR Y.1 a0, vI x1, vI x2] M0 (QI Q) := by
  unfold wX12_step at h
  refine ct_intro (by decide) (Nat.le_of_ble_eq_true rfl) ?_
  intro X hXl hC hL0
  have hL := hL0 hF
  change OKX X Y RX12 cX12_step 3 (some .int) rmX12_step at hC
  change WW X Y 3 rmX12_step (QI Q) M0 0 0 0 [(0, vR Y.1 a0), (1, vI x1), (2, vI x2)] [] M0
  refine r_iload_n hC 1 dX12_step_0 rfl rfl ?_
  refine r_if_ge hC 8 rfl dX12_step_1 (by decide) (fun cq => ?_) (fun cq => ?_)
  · replace h := h.1 cq
    refine r_aload_n hC 0 dX12_step_8 rfl rfl ?_
    refine r_aload_n hC 0 dX12_step_9 rfl rfl ?_
    have q_1 : 0 < a0 + 15 ∧ M0 0 (a0 + 15) = kA 0 10 := lay_f0 (a := a0) hL qa0 fm_12_27
    refine r_getR0 (a' := a0 + 15) hC fg_X12_53 rfl hF fm_12_27 qa0.1 qa0.2 rfl dX12_step_10 ?_
    refine r_iload_n hC 1 dX12_step_13 rfl rfl ?_
    obtain ⟨i_2, h⟩ := h
    refine r_iald hC i_2 q_1.1 q_1.2 (by decide) dX12_step_14 ?_
    refine r_aload_n hC 0 dX12_step_15 rfl rfl ?_
    have q_3 : 0 < a0 + 15 ∧ M0 0 (a0 + 15) = kA 0 10 := lay_f0 (a := a0) hL qa0 fm_12_27
    refine r_getR0 (a' := a0 + 15) hC fg_X12_53 rfl hF fm_12_27 qa0.1 qa0.2 rfl dX12_step_16 ?_
    refine r_iload_n hC 2 dX12_step_19 rfl rfl ?_
    obtain ⟨i_4, h⟩ := h
    refine r_iald hC i_4 q_3.1 q_3.2 (by decide) dX12_step_20 ?_
    refine r_callV (As := [vI (rd M0 (a0 + 15) x1), vI (rd M0 (a0 + 15) x2)]) (st := []) hC cw_X12_168 rfl qa0.1 qa0.2 rfl rfl (Nat.le_of_ble_eq_true rfl) ⟨Nat.le_of_ble_eq_true rfl, Nat.le_of_ble_eq_true rfl⟩ ⟨Nat.le_of_ble_eq_true rfl, Nat.le_of_ble_eq_true rfl⟩ dX12_step_21 (fun hk => mX12_carried Y hF _ _ _ _ _ _ (kqO hk qa0) h) (fun v M_5 h => ?_)
    obtain ⟨r_6, rfl, h⟩ := h
    exact r_iret hC (Nat.zero_le _) (Nat.zero_le _) dX12_step_24 ⟨_, rfl, h⟩
  · replace h := h.2 cq
    refine r_iconst hC dX12_step_4 ?_
    refine r_goto hC 24 dX12_step_5 (by decide) ?_
    exact r_iret hC (Nat.zero_le _) (Nat.zero_le _) dX12_step_24 ⟨_, rfl, h⟩
theorem dX12_fewest_0 : dec cX12_fewest 0 1 1 (.aload_n 0) := ⟨by decide +kernel, rfl⟩
theorem dX12_fewest_1 : dec cX12_fewest 1 1 2 (.iload_n 1) := ⟨by decide +kernel, rfl⟩
theorem dX12_fewest_2 : dec cX12_fewest 2 3 5 (.invokevirtual 264) := ⟨by decide +kernel, rfl⟩
theorem dX12_fewest_5 : dec cX12_fewest 5 3 8 (.ifCond .eq 8) := ⟨by decide +kernel, rfl⟩
theorem dX12_fewest_8 : dec cX12_fewest 8 1 9 (.iload_n 2) := ⟨by decide +kernel, rfl⟩
theorem dX12_fewest_9 : dec cX12_fewest 9 1 10 (.iconst (-1)) := ⟨by decide +kernel, rfl⟩
theorem dX12_fewest_10 : dec cX12_fewest 10 3 13 (.if_icmp .ge 9) := ⟨by decide +kernel, rfl⟩
theorem dX12_fewest_13 : dec cX12_fewest 13 1 14 (.aload_n 0) := ⟨by decide +kernel, rfl⟩
theorem dX12_fewest_14 : dec cX12_fewest 14 1 15 (.iconst 1) := ⟨by decide +kernel, rfl⟩
theorem dX12_fewest_15 : dec cX12_fewest 15 3 18 (.invokevirtual 83) := ⟨by decide +kernel, rfl⟩
theorem dX12_fewest_18 : dec cX12_fewest 18 1 19 (.ireturn) := ⟨by decide +kernel, rfl⟩
theorem dX12_fewest_19 : dec cX12_fewest 19 1 20 (.iload_n 1) := ⟨by decide +kernel, rfl⟩
theorem dX12_fewest_20 : dec cX12_fewest 20 2 22 (.bipush 10) := ⟨by decide +kernel, rfl⟩
theorem dX12_fewest_22 : dec cX12_fewest 22 3 25 (.invokestatic 267) := ⟨by decide +kernel, rfl⟩
theorem dX12_fewest_25 : dec cX12_fewest 25 3 28 (.ifCond .ne 9) := ⟨by decide +kernel, rfl⟩
theorem dX12_fewest_28 : dec cX12_fewest 28 1 29 (.aload_n 0) := ⟨by decide +kernel, rfl⟩
theorem dX12_fewest_29 : dec cX12_fewest 29 1 30 (.iconst 5) := ⟨by decide +kernel, rfl⟩
theorem dX12_fewest_30 : dec cX12_fewest 30 3 33 (.invokevirtual 83) := ⟨by decide +kernel, rfl⟩
theorem dX12_fewest_33 : dec cX12_fewest 33 1 34 (.ireturn) := ⟨by decide +kernel, rfl⟩
theorem dX12_fewest_34 : dec cX12_fewest 34 1 35 (.iload_n 1) := ⟨by decide +kernel, rfl⟩
theorem dX12_fewest_35 : dec cX12_fewest 35 3 38 (.invokestatic 156) := ⟨by decide +kernel, rfl⟩
theorem dX12_fewest_38 : dec cX12_fewest 38 1 39 (.istore_n 3) := ⟨by decide +kernel, rfl⟩
theorem dX12_fewest_39 : dec cX12_fewest 39 1 40 (.iload_n 2) := ⟨by decide +kernel, rfl⟩
theorem dX12_fewest_40 : dec cX12_fewest 40 1 41 (.iload_n 3) := ⟨by decide +kernel, rfl⟩
theorem dX12_fewest_41 : dec cX12_fewest 41 3 44 (.if_icmp .lt 9) := ⟨by decide +kernel, rfl⟩
theorem dX12_fewest_44 : dec cX12_fewest 44 1 45 (.aload_n 0) := ⟨by decide +kernel, rfl⟩
theorem dX12_fewest_45 : dec cX12_fewest 45 1 46 (.iconst 2) := ⟨by decide +kernel, rfl⟩
theorem dX12_fewest_46 : dec cX12_fewest 46 3 49 (.invokevirtual 83) := ⟨by decide +kernel, rfl⟩
theorem dX12_fewest_49 : dec cX12_fewest 49 1 50 (.ireturn) := ⟨by decide +kernel, rfl⟩
theorem dX12_fewest_50 : dec cX12_fewest 50 1 51 (.iconst 0) := ⟨by decide +kernel, rfl⟩
theorem dX12_fewest_51 : dec cX12_fewest 51 2 53 (.istore 4) := ⟨by decide +kernel, rfl⟩
theorem dX12_fewest_53 : dec cX12_fewest 53 1 54 (.iconst 0) := ⟨by decide +kernel, rfl⟩
theorem dX12_fewest_54 : dec cX12_fewest 54 2 56 (.istore 5) := ⟨by decide +kernel, rfl⟩
theorem dX12_fewest_56 : dec cX12_fewest 56 2 58 (.iload 5) := ⟨by decide +kernel, rfl⟩
theorem dX12_fewest_58 : dec cX12_fewest 58 2 60 (.bipush 12) := ⟨by decide +kernel, rfl⟩
theorem dX12_fewest_60 : dec cX12_fewest 60 3 63 (.if_icmp .ge 31) := ⟨by decide +kernel, rfl⟩
theorem dX12_fewest_63 : dec cX12_fewest 63 1 64 (.iload_n 1) := ⟨by decide +kernel, rfl⟩
theorem dX12_fewest_64 : dec cX12_fewest 64 2 66 (.iload 5) := ⟨by decide +kernel, rfl⟩
theorem dX12_fewest_66 : dec cX12_fewest 66 1 67 (.ishr) := ⟨by decide +kernel, rfl⟩
theorem dX12_fewest_67 : dec cX12_fewest 67 1 68 (.iconst 1) := ⟨by decide +kernel, rfl⟩
theorem dX12_fewest_68 : dec cX12_fewest 68 1 69 (.iand) := ⟨by decide +kernel, rfl⟩
theorem dX12_fewest_69 : dec cX12_fewest 69 1 70 (.iconst 1) := ⟨by decide +kernel, rfl⟩
theorem dX12_fewest_70 : dec cX12_fewest 70 3 73 (.if_icmp .ne 15) := ⟨by decide +kernel, rfl⟩
theorem dX12_fewest_73 : dec cX12_fewest 73 1 74 (.aload_n 0) := ⟨by decide +kernel, rfl⟩
theorem dX12_fewest_74 : dec cX12_fewest 74 3 77 (.getfield 53) := ⟨by decide +kernel, rfl⟩
theorem dX12_fewest_77 : dec cX12_fewest 77 2 79 (.iload 4) := ⟨by decide +kernel, rfl⟩
theorem dX12_fewest_79 : dec cX12_fewest 79 2 81 (.iload 5) := ⟨by decide +kernel, rfl⟩
theorem dX12_fewest_81 : dec cX12_fewest 81 1 82 (.iastore) := ⟨by decide +kernel, rfl⟩
theorem dX12_fewest_82 : dec cX12_fewest 82 3 85 (.iinc 4 1) := ⟨by decide +kernel, rfl⟩
theorem dX12_fewest_85 : dec cX12_fewest 85 3 88 (.iinc 5 1) := ⟨by decide +kernel, rfl⟩
theorem dX12_fewest_88 : dec cX12_fewest 88 3 91 (.goto (-32)) := ⟨by decide +kernel, rfl⟩
theorem dX12_fewest_91 : dec cX12_fewest 91 1 92 (.aload_n 0) := ⟨by decide +kernel, rfl⟩
theorem dX12_fewest_92 : dec cX12_fewest 92 1 93 (.iload_n 3) := ⟨by decide +kernel, rfl⟩
theorem dX12_fewest_93 : dec cX12_fewest 93 3 96 (.invokevirtual 278) := ⟨by decide +kernel, rfl⟩
theorem dX12_fewest_96 : dec cX12_fewest 96 1 97 (.iconst 1) := ⟨by decide +kernel, rfl⟩
theorem dX12_fewest_97 : dec cX12_fewest 97 1 98 (.iload_n 3) := ⟨by decide +kernel, rfl⟩
theorem dX12_fewest_98 : dec cX12_fewest 98 1 99 (.ishl) := ⟨by decide +kernel, rfl⟩
theorem dX12_fewest_99 : dec cX12_fewest 99 1 100 (.iconst 1) := ⟨by decide +kernel, rfl⟩
theorem dX12_fewest_100 : dec cX12_fewest 100 1 101 (.isub) := ⟨by decide +kernel, rfl⟩
theorem dX12_fewest_101 : dec cX12_fewest 101 2 103 (.istore 5) := ⟨by decide +kernel, rfl⟩
theorem dX12_fewest_103 : dec cX12_fewest 103 3 106 (.ldc_w 277) := ⟨by decide +kernel, rfl⟩
theorem dX12_fewest_106 : dec cX12_fewest 106 2 108 (.istore 6) := ⟨by decide +kernel, rfl⟩
theorem dX12_fewest_108 : dec cX12_fewest 108 1 109 (.iconst 0) := ⟨by decide +kernel, rfl⟩
theorem dX12_fewest_109 : dec cX12_fewest 109 2 111 (.istore 7) := ⟨by decide +kernel, rfl⟩
theorem dX12_fewest_111 : dec cX12_fewest 111 2 113 (.iload 7) := ⟨by decide +kernel, rfl⟩
theorem dX12_fewest_113 : dec cX12_fewest 113 1 114 (.iload_n 3) := ⟨by decide +kernel, rfl⟩
theorem dX12_fewest_114 : dec cX12_fewest 114 3 117 (.if_icmp .ge 47) := ⟨by decide +kernel, rfl⟩
theorem dX12_fewest_117 : dec cX12_fewest 117 1 118 (.aload_n 0) := ⟨by decide +kernel, rfl⟩
theorem dX12_fewest_118 : dec cX12_fewest 118 3 121 (.getfield 50) := ⟨by decide +kernel, rfl⟩
theorem dX12_fewest_121 : dec cX12_fewest 121 2 123 (.bipush 10) := ⟨by decide +kernel, rfl⟩
theorem dX12_fewest_123 : dec cX12_fewest 123 2 125 (.iload 5) := ⟨by decide +kernel, rfl⟩
theorem dX12_fewest_125 : dec cX12_fewest 125 1 126 (.iconst 1) := ⟨by decide +kernel, rfl⟩
theorem dX12_fewest_126 : dec cX12_fewest 126 2 128 (.iload 7) := ⟨by decide +kernel, rfl⟩
theorem dX12_fewest_128 : dec cX12_fewest 128 1 129 (.ishl) := ⟨by decide +kernel, rfl⟩
theorem dX12_fewest_129 : dec cX12_fewest 129 1 130 (.iconst (-1)) := ⟨by decide +kernel, rfl⟩
theorem dX12_fewest_130 : dec cX12_fewest 130 1 131 (.ixor) := ⟨by decide +kernel, rfl⟩
theorem dX12_fewest_131 : dec cX12_fewest 131 1 132 (.iand) := ⟨by decide +kernel, rfl⟩
theorem dX12_fewest_132 : dec cX12_fewest 132 1 133 (.imul) := ⟨by decide +kernel, rfl⟩
theorem dX12_fewest_133 : dec cX12_fewest 133 2 135 (.iload 7) := ⟨by decide +kernel, rfl⟩
theorem dX12_fewest_135 : dec cX12_fewest 135 1 136 (.iadd) := ⟨by decide +kernel, rfl⟩
theorem dX12_fewest_136 : dec cX12_fewest 136 1 137 (.iaload) := ⟨by decide +kernel, rfl⟩
theorem dX12_fewest_137 : dec cX12_fewest 137 2 139 (.istore 8) := ⟨by decide +kernel, rfl⟩
theorem dX12_fewest_139 : dec cX12_fewest 139 2 141 (.iload 8) := ⟨by decide +kernel, rfl⟩
theorem dX12_fewest_141 : dec cX12_fewest 141 2 143 (.iload 6) := ⟨by decide +kernel, rfl⟩
theorem dX12_fewest_143 : dec cX12_fewest 143 3 146 (.if_icmp .ge 8) := ⟨by decide +kernel, rfl⟩
theorem dX12_fewest_146 : dec cX12_fewest 146 2 148 (.iload 8) := ⟨by decide +kernel, rfl⟩
theorem dX12_fewest_148 : dec cX12_fewest 148 3 151 (.goto 5) := ⟨by decide +kernel, rfl⟩
theorem dX12_fewest_151 : dec cX12_fewest 151 2 153 (.iload 6) := ⟨by decide +kernel, rfl⟩
theorem dX12_fewest_153 : dec cX12_fewest 153 2 155 (.istore 6) := ⟨by decide +kernel, rfl⟩
theorem dX12_fewest_155 : dec cX12_fewest 155 3 158 (.iinc 7 1) := ⟨by decide +kernel, rfl⟩
theorem dX12_fewest_158 : dec cX12_fewest 158 3 161 (.goto (-47)) := ⟨by decide +kernel, rfl⟩
theorem dX12_fewest_161 : dec cX12_fewest 161 1 162 (.iload_n 2) := ⟨by decide +kernel, rfl⟩
theorem dX12_fewest_162 : dec cX12_fewest 162 3 165 (.ifCond .ge 6) := ⟨by decide +kernel, rfl⟩
theorem dX12_fewest_165 : dec cX12_fewest 165 2 167 (.iload 6) := ⟨by decide +kernel, rfl⟩
theorem dX12_fewest_167 : dec cX12_fewest 167 1 168 (.ireturn) := ⟨by decide +kernel, rfl⟩
theorem dX12_fewest_168 : dec cX12_fewest 168 1 169 (.iconst (-1)) := ⟨by decide +kernel, rfl⟩
theorem dX12_fewest_169 : dec cX12_fewest 169 2 171 (.istore 7) := ⟨by decide +kernel, rfl⟩
theorem dX12_fewest_171 : dec cX12_fewest 171 2 173 (.iload 6) := ⟨by decide +kernel, rfl⟩
theorem dX12_fewest_173 : dec cX12_fewest 173 2 175 (.istore 8) := ⟨by decide +kernel, rfl⟩
theorem dX12_fewest_175 : dec cX12_fewest 175 1 176 (.iconst 0) := ⟨by decide +kernel, rfl⟩
theorem dX12_fewest_176 : dec cX12_fewest 176 2 178 (.istore 9) := ⟨by decide +kernel, rfl⟩
theorem dX12_fewest_178 : dec cX12_fewest 178 2 180 (.iload 9) := ⟨by decide +kernel, rfl⟩
theorem dX12_fewest_180 : dec cX12_fewest 180 1 181 (.iload_n 2) := ⟨by decide +kernel, rfl⟩
theorem dX12_fewest_181 : dec cX12_fewest 181 3 184 (.if_icmp .gt 90) := ⟨by decide +kernel, rfl⟩
theorem dX12_fewest_184 : dec cX12_fewest 184 1 185 (.iconst 0) := ⟨by decide +kernel, rfl⟩
theorem dX12_fewest_185 : dec cX12_fewest 185 2 187 (.istore 10) := ⟨by decide +kernel, rfl⟩
theorem dX12_fewest_187 : dec cX12_fewest 187 2 189 (.iload 5) := ⟨by decide +kernel, rfl⟩
theorem dX12_fewest_189 : dec cX12_fewest 189 2 191 (.iload 10) := ⟨by decide +kernel, rfl⟩
theorem dX12_fewest_191 : dec cX12_fewest 191 1 192 (.ishr) := ⟨by decide +kernel, rfl⟩
theorem dX12_fewest_192 : dec cX12_fewest 192 1 193 (.iconst 1) := ⟨by decide +kernel, rfl⟩
theorem dX12_fewest_193 : dec cX12_fewest 193 1 194 (.iand) := ⟨by decide +kernel, rfl⟩
theorem dX12_fewest_194 : dec cX12_fewest 194 3 197 (.ifCond .eq 37) := ⟨by decide +kernel, rfl⟩
theorem dX12_fewest_197 : dec cX12_fewest 197 1 198 (.aload_n 0) := ⟨by decide +kernel, rfl⟩
theorem dX12_fewest_198 : dec cX12_fewest 198 2 200 (.iload 7) := ⟨by decide +kernel, rfl⟩
theorem dX12_fewest_200 : dec cX12_fewest 200 2 202 (.iload 10) := ⟨by decide +kernel, rfl⟩
theorem dX12_fewest_202 : dec cX12_fewest 202 3 205 (.invokevirtual 281) := ⟨by decide +kernel, rfl⟩
theorem dX12_fewest_205 : dec cX12_fewest 205 1 206 (.aload_n 0) := ⟨by decide +kernel, rfl⟩
theorem dX12_fewest_206 : dec cX12_fewest 206 3 209 (.getfield 50) := ⟨by decide +kernel, rfl⟩
theorem dX12_fewest_209 : dec cX12_fewest 209 2 211 (.bipush 10) := ⟨by decide +kernel, rfl⟩
theorem dX12_fewest_211 : dec cX12_fewest 211 2 213 (.iload 5) := ⟨by decide +kernel, rfl⟩
theorem dX12_fewest_213 : dec cX12_fewest 213 1 214 (.iconst 1) := ⟨by decide +kernel, rfl⟩
theorem dX12_fewest_214 : dec cX12_fewest 214 2 216 (.iload 10) := ⟨by decide +kernel, rfl⟩
theorem dX12_fewest_216 : dec cX12_fewest 216 1 217 (.ishl) := ⟨by decide +kernel, rfl⟩
theorem dX12_fewest_217 : dec cX12_fewest 217 1 218 (.iconst (-1)) := ⟨by decide +kernel, rfl⟩
theorem dX12_fewest_218 : dec cX12_fewest 218 1 219 (.ixor) := ⟨by decide +kernel, rfl⟩
theorem dX12_fewest_219 : dec cX12_fewest 219 1 220 (.iand) := ⟨by decide +kernel, rfl⟩
theorem dX12_fewest_220 : dec cX12_fewest 220 1 221 (.imul) := ⟨by decide +kernel, rfl⟩
theorem dX12_fewest_221 : dec cX12_fewest 221 2 223 (.iload 10) := ⟨by decide +kernel, rfl⟩
theorem dX12_fewest_223 : dec cX12_fewest 223 1 224 (.iadd) := ⟨by decide +kernel, rfl⟩
theorem dX12_fewest_224 : dec cX12_fewest 224 1 225 (.iaload) := ⟨by decide +kernel, rfl⟩
theorem dX12_fewest_225 : dec cX12_fewest 225 1 226 (.iadd) := ⟨by decide +kernel, rfl⟩
theorem dX12_fewest_226 : dec cX12_fewest 226 2 228 (.iload 8) := ⟨by decide +kernel, rfl⟩
theorem dX12_fewest_228 : dec cX12_fewest 228 3 231 (.if_icmp .eq 9) := ⟨by decide +kernel, rfl⟩
theorem dX12_fewest_231 : dec cX12_fewest 231 3 234 (.iinc 10 1) := ⟨by decide +kernel, rfl⟩
theorem dX12_fewest_234 : dec cX12_fewest 234 3 237 (.goto (-47)) := ⟨by decide +kernel, rfl⟩
theorem dX12_fewest_237 : dec cX12_fewest 237 2 239 (.iload 8) := ⟨by decide +kernel, rfl⟩
theorem dX12_fewest_239 : dec cX12_fewest 239 1 240 (.aload_n 0) := ⟨by decide +kernel, rfl⟩
theorem dX12_fewest_240 : dec cX12_fewest 240 2 242 (.iload 7) := ⟨by decide +kernel, rfl⟩
theorem dX12_fewest_242 : dec cX12_fewest 242 2 244 (.iload 10) := ⟨by decide +kernel, rfl⟩
theorem dX12_fewest_244 : dec cX12_fewest 244 3 247 (.invokevirtual 281) := ⟨by decide +kernel, rfl⟩
theorem dX12_fewest_247 : dec cX12_fewest 247 1 248 (.isub) := ⟨by decide +kernel, rfl⟩
theorem dX12_fewest_248 : dec cX12_fewest 248 2 250 (.istore 8) := ⟨by decide +kernel, rfl⟩
theorem dX12_fewest_250 : dec cX12_fewest 250 2 252 (.iload 5) := ⟨by decide +kernel, rfl⟩
theorem dX12_fewest_252 : dec cX12_fewest 252 1 253 (.iconst 1) := ⟨by decide +kernel, rfl⟩
theorem dX12_fewest_253 : dec cX12_fewest 253 2 255 (.iload 10) := ⟨by decide +kernel, rfl⟩
theorem dX12_fewest_255 : dec cX12_fewest 255 1 256 (.ishl) := ⟨by decide +kernel, rfl⟩
theorem dX12_fewest_256 : dec cX12_fewest 256 1 257 (.iconst (-1)) := ⟨by decide +kernel, rfl⟩
theorem dX12_fewest_257 : dec cX12_fewest 257 1 258 (.ixor) := ⟨by decide +kernel, rfl⟩
theorem dX12_fewest_258 : dec cX12_fewest 258 1 259 (.iand) := ⟨by decide +kernel, rfl⟩
theorem dX12_fewest_259 : dec cX12_fewest 259 2 261 (.istore 5) := ⟨by decide +kernel, rfl⟩
theorem dX12_fewest_261 : dec cX12_fewest 261 2 263 (.iload 10) := ⟨by decide +kernel, rfl⟩
theorem dX12_fewest_263 : dec cX12_fewest 263 2 265 (.istore 7) := ⟨by decide +kernel, rfl⟩
theorem dX12_fewest_265 : dec cX12_fewest 265 3 268 (.iinc 9 1) := ⟨by decide +kernel, rfl⟩
theorem dX12_fewest_268 : dec cX12_fewest 268 3 271 (.goto (-90)) := ⟨by decide +kernel, rfl⟩
theorem dX12_fewest_271 : dec cX12_fewest 271 1 272 (.aload_n 0) := ⟨by decide +kernel, rfl⟩
theorem dX12_fewest_272 : dec cX12_fewest 272 3 275 (.getfield 53) := ⟨by decide +kernel, rfl⟩
theorem dX12_fewest_275 : dec cX12_fewest 275 2 277 (.iload 7) := ⟨by decide +kernel, rfl⟩
theorem dX12_fewest_277 : dec cX12_fewest 277 1 278 (.iaload) := ⟨by decide +kernel, rfl⟩
theorem dX12_fewest_278 : dec cX12_fewest 278 1 279 (.ireturn) := ⟨by decide +kernel, rfl⟩
set_option maxHeartbeats 4000000 in
set_option maxRecDepth 100000 in
theorem tX12_fewest_J13 {X : Cx} {Y : Yx} {M0 : Mem} (hC : OKX X Y RX12 cX12_fewest 11 (some .int) rmX12_fewest) (hF : Y.2.2.2.2 = true) (hL : Lay M0) (Q : Int → Mem → Prop)   (a0 : Nat) (qa0 : 0 < a0 ∧ M0 0 a0 = kO 12)  (M : Mem) (h : wX12_fewest_J13 Q  a0 M) : WW X Y 11 rmX12_fewest (QI Q) M0 0 0 13 [(0, vR Y.1 a0)] [] M := by
  unfold wX12_fewest_J13 at h
  refine r_aload_n hC 0 dX12_fewest_13 rfl rfl ?_
  refine r_iconst hC dX12_fewest_14 ?_
  refine r_callV (As := [vI 1]) (st := []) hC cw_X12_83 rfl qa0.1 qa0.2 rfl rfl (Nat.le_of_ble_eq_true rfl) ⟨Nat.le_of_ble_eq_true rfl, Nat.le_of_ble_eq_true rfl⟩ ⟨Nat.le_of_ble_eq_true rfl, Nat.le_of_ble_eq_true rfl⟩ dX12_fewest_15 (fun hk => mX12_error Y hF _ _ _ _ _ (kqO hk qa0) h) (fun v M_3 h => ?_)
  obtain ⟨r_4, rfl, h⟩ := h
  exact r_iret hC (Nat.zero_le _) (Nat.zero_le _) dX12_fewest_18 ⟨_, rfl, h⟩
set_option maxHeartbeats 4000000 in
set_option maxRecDepth 100000 in
theorem tX12_fewest_L56 {X : Cx} {Y : Yx} {M0 : Mem} (hC : OKX X Y RX12 cX12_fewest 11 (some .int) rmX12_fewest) (hF : Y.2.2.2.2 = true) (hL : Lay M0) (Q : Int → Mem → Prop) (E91 : Mem → Prop) (a0 : Nat) (x1 : Int) (x2 : Int) (x3 : Int) (qa0 : 0 < a0 ∧ M0 0 a0 = kO 12) (hE91 : ∀  (M : Mem), E91  M → WW X Y 11 rmX12_fewest (QI Q) M0 0 0 91 [(0, vR Y.1 a0), (2, vI x2), (3, vI x3)] [] M) : ∀ (N : Nat) (x4 : Int) (x5 : Int) (M : Mem) (_ : wX12_fewest_L56 Q E91 a0 x1 x2 x3 N x4 x5 M), WW X Y 11 rmX12_fewest (QI Q) M0 0 0 56 [(0, vR Y.1 a0), (1, vI x1), (2, vI x2), (3, vI x3), (4, vI x4), (5, vI x5)] [] M := by
  intro N
  induction N with
  | zero =>
    intro x4 x5 M h
    exact h.elim
  | succ N ih =>
    intro x4 x5 M h
    unfold wX12_fewest_L56 at h
    refine r_iload hC 5 dX12_fewest_56 rfl ?_
    refine r_bipush hC (by decide +kernel) dX12_fewest_58 ?_
    refine r_icmp_ge hC 91 rfl bmL_12 dX12_fewest_60 (by decide) (fun cq => ?_) (fun cq => ?_)
    · replace h := h.1 cq
      refine r_sub [0, 2, 3] rfl ?_
      exact hE91  _ h
    · replace h := h.2 cq
      refine r_iload_n hC 1 dX12_fewest_63 rfl rfl ?_
      refine r_iload hC 5 dX12_fewest_64 rfl ?_
      refine r_ishr hC dX12_fewest_66 ?_
      refine r_iconst hC dX12_fewest_67 ?_
      refine r_iand hC dX12_fewest_68 ?_
      refine r_iconst hC dX12_fewest_69 ?_
      refine r_icmp_ne hC 85 rfl bmL_1 dX12_fewest_70 (by decide) (fun cq => ?_) (fun cq => ?_)
      · replace h := h.2 cq
        refine let_elim h (fun x5_9 e_10 h => ?_)
        refine r_iinc (lv' := [(5, vI x5_9), (0, vR Y.1 a0), (1, vI x1), (2, vI x2), (3, vI x3), (4, vI x4)]) hC 5 dX12_fewest_85 rfl (by decide) e_10 rfl ?_
        refine r_goto hC 56 dX12_fewest_88 (by decide) ?_
        refine r_sub [1, 2, 3, 4, 5, 0] rfl ?_
        exact ih _ _ _ h
      · replace h := h.1 cq
        refine r_aload_n hC 0 dX12_fewest_73 rfl rfl ?_
        have q_11 : 0 < a0 + 15 ∧ M0 0 (a0 + 15) = kA 0 10 := lay_f0 (a := a0) hL qa0 fm_12_27
        refine r_getR0 (a' := a0 + 15) hC fg_X12_53 rfl hF fm_12_27 qa0.1 qa0.2 rfl dX12_fewest_74 ?_
        refine r_iload hC 4 dX12_fewest_77 rfl ?_
        refine r_iload hC 5 dX12_fewest_79 rfl ?_
        obtain ⟨i_12, h⟩ := h
        refine r_iast hC i_12 q_11.1 q_11.2 (by decide) dX12_fewest_81 ?_
        refine r_nameM h (fun M_13 h => ?_)
        refine let_elim h (fun x4_14 e_15 h => ?_)
        refine r_iinc (lv' := [(4, vI x4_14), (0, vR Y.1 a0), (1, vI x1), (2, vI x2), (3, vI x3), (5, vI x5)]) hC 4 dX12_fewest_82 rfl (by decide) e_15 rfl ?_
        refine let_elim h (fun x5_16 e_17 h => ?_)
        refine r_iinc (lv' := [(5, vI x5_16), (4, vI x4_14), (0, vR Y.1 a0), (1, vI x1), (2, vI x2), (3, vI x3)]) hC 5 dX12_fewest_85 rfl (by decide) e_17 rfl ?_
        refine r_goto hC 56 dX12_fewest_88 (by decide) ?_
        refine r_sub [2, 3, 4, 5, 1, 0] rfl ?_
        exact ih _ _ _ h
set_option maxHeartbeats 4000000 in
set_option maxRecDepth 100000 in
theorem tX12_fewest_J153 {X : Cx} {Y : Yx} {M0 : Mem} (hC : OKX X Y RX12 cX12_fewest 11 (some .int) rmX12_fewest) (hF : Y.2.2.2.2 = true) (hL : Lay M0) (Q : Int → Mem → Prop) (C111 : Int → Int → Mem → Prop)  (a0 : Nat) (x2 : Int) (x3 : Int) (x5 : Int) (x7 : Int) (xs0 : Int) (qa0 : 0 < a0 ∧ M0 0 a0 = kO 12) (hC111 : ∀ (x6 : Int) (x7 : Int) (M : Mem), C111 x6 x7 M → WW X Y 11 rmX12_fewest (QI Q) M0 0 0 111 [(0, vR Y.1 a0), (2, vI x2), (3, vI x3), (5, vI x5), (6, vI x6), (7, vI x7)] [] M) (M : Mem) (h : wX12_fewest_J153 Q C111 a0 x2 x3 x5 x7 xs0 M) : WW X Y 11 rmX12_fewest (QI Q) M0 0 0 153 [(0, vR Y.1 a0), (2, vI x2), (3, vI x3), (5, vI x5), (7, vI x7)] [vI xs0] M := by
  unfold wX12_fewest_J153 at h
  refine r_istore (lv' := [(6, vI xs0), (0, vR Y.1 a0), (2, vI x2), (3, vI x3), (5, vI x5), (7, vI x7)]) hC dX12_fewest_153 (by decide) rfl ?_
  refine let_elim h (fun x7_24 e_25 h => ?_)
  refine r_iinc (lv' := [(7, vI x7_24), (6, vI xs0), (0, vR Y.1 a0), (2, vI x2), (3, vI x3), (5, vI x5)]) hC 5 dX12_fewest_155 rfl (by decide) e_25 rfl ?_
  refine r_goto hC 111 dX12_fewest_158 (by decide) ?_
  refine r_sub [2, 3, 4, 5, 1, 0] rfl ?_
  exact hC111 _ _ _ h
set_option maxHeartbeats 4000000 in
set_option maxRecDepth 100000 in
theorem tX12_fewest_L111 {X : Cx} {Y : Yx} {M0 : Mem} (hC : OKX X Y RX12 cX12_fewest 11 (some .int) rmX12_fewest) (hF : Y.2.2.2.2 = true) (hL : Lay M0) (Q : Int → Mem → Prop) (E161 : Int → Mem → Prop) (a0 : Nat) (x2 : Int) (x3 : Int) (x5 : Int) (qa0 : 0 < a0 ∧ M0 0 a0 = kO 12) (hE161 : ∀ (x6 : Int) (M : Mem), E161 x6 M → WW X Y 11 rmX12_fewest (QI Q) M0 0 0 161 [(0, vR Y.1 a0), (2, vI x2), (5, vI x5), (6, vI x6)] [] M) : ∀ (N : Nat) (x6 : Int) (x7 : Int) (M : Mem) (_ : wX12_fewest_L111 Q E161 a0 x2 x3 x5 N x6 x7 M), WW X Y 11 rmX12_fewest (QI Q) M0 0 0 111 [(0, vR Y.1 a0), (2, vI x2), (3, vI x3), (5, vI x5), (6, vI x6), (7, vI x7)] [] M := by
  intro N
  induction N with
  | zero =>
    intro x6 x7 M h
    exact h.elim
  | succ N ih =>
    intro x6 x7 M h
    unfold wX12_fewest_L111 at h
    refine r_iload hC 5 dX12_fewest_111 rfl ?_
    refine r_iload_n hC 2 dX12_fewest_113 rfl rfl ?_
    refine r_icmp_ge hC 161 rfl rfl dX12_fewest_114 (by decide) (fun cq => ?_) (fun cq => ?_)
    · replace h := h.1 cq
      refine r_sub [0, 1, 3, 4] rfl ?_
      exact hE161 _ _ h
    · replace h := h.2 cq
      refine r_aload_n hC 0 dX12_fewest_117 rfl rfl ?_
      have q_21 : 0 < a0 + 14 ∧ M0 0 (a0 + 14) = kA 0 10240 := lay_f0 (a := a0) hL qa0 fm_12_26
      refine r_getR0 (a' := a0 + 14) hC fg_X12_50 rfl hF fm_12_26 qa0.1 qa0.2 rfl dX12_fewest_118 ?_
      refine r_bipush hC (by decide +kernel) dX12_fewest_121 ?_
      refine r_iload hC 3 dX12_fewest_123 rfl ?_
      refine r_iconst hC dX12_fewest_125 ?_
      refine r_iload hC 5 dX12_fewest_126 rfl ?_
      refine r_ishl hC dX12_fewest_128 ?_
      refine r_iconst hC dX12_fewest_129 ?_
      refine r_ixor hC dX12_fewest_130 ?_
      refine r_iand hC dX12_fewest_131 ?_
      refine r_imul hC dX12_fewest_132 ?_
      refine r_iload hC 5 dX12_fewest_133 rfl ?_
      refine r_iadd hC dX12_fewest_135 ?_
      obtain ⟨i_22, h⟩ := h
      refine r_iald hC i_22 q_21.1 q_21.2 (by decide) dX12_fewest_136 ?_
      refine r_nameI h (fun x8_23 h => ?_)
      refine r_istore (lv' := [(8, vI x8_23), (0, vR Y.1 a0), (2, vI x2), (3, vI x3), (5, vI x5), (6, vI x6), (7, vI x7)]) hC dX12_fewest_137 (by decide) rfl ?_
      refine r_iload hC 0 dX12_fewest_139 rfl ?_
      refine r_iload hC 5 dX12_fewest_141 rfl ?_
      refine r_icmp_ge hC 151 rfl rfl dX12_fewest_143 (by decide) (fun cq => ?_) (fun cq => ?_)
      · replace h := h.1 cq
        refine r_iload hC 5 dX12_fewest_151 rfl ?_
        refine r_sub [1, 2, 3, 4, 6] rfl ?_
        exact tX12_fewest_J153 hC hF hL Q _  _ _ _ _ _ _ qa0 ih _ h
      · replace h := h.2 cq
        refine r_iload hC 0 dX12_fewest_146 rfl ?_
        refine r_goto hC 153 dX12_fewest_148 (by decide) ?_
        refine r_sub [1, 2, 3, 4, 6] rfl ?_
        exact tX12_fewest_J153 hC hF hL Q _  _ _ _ _ _ _ qa0 ih _ h
set_option maxHeartbeats 4000000 in
set_option maxRecDepth 100000 in
theorem tX12_fewest_L187 {X : Cx} {Y : Yx} {M0 : Mem} (hC : OKX X Y RX12 cX12_fewest 11 (some .int) rmX12_fewest) (hF : Y.2.2.2.2 = true) (hL : Lay M0) (Q : Int → Mem → Prop) (E237 : Int → Mem → Prop) (a0 : Nat) (x2 : Int) (x5 : Int) (x7 : Int) (x8 : Int) (x9 : Int) (qa0 : 0 < a0 ∧ M0 0 a0 = kO 12) (hE237 : ∀ (x10 : Int) (M : Mem), E237 x10 M → WW X Y 11 rmX12_fewest (QI Q) M0 0 0 237 [(0, vR Y.1 a0), (2, vI x2), (5, vI x5), (7, vI x7), (8, vI x8), (9, vI x9), (10, vI x10)] [] M) : ∀ (N : Nat) (x10 : Int) (M : Mem) (_ : wX12_fewest_L187 Q E237 a0 x2 x5 x7 x8 x9 N x10 M), WW X Y 11 rmX12_fewest (QI Q) M0 0 0 187 [(0, vR Y.1 a0), (2, vI x2), (5, vI x5), (7, vI x7), (8, vI x8), (9, vI x9), (10, vI x10)] [] M := by
  intro N
  induction N with
  | zero =>
    intro x10 M h
    exact h.elim
  | succ N ih =>
    intro x10 M h
    unfold wX12_fewest_L187 at h
    refine r_iload hC 2 dX12_fewest_187 rfl ?_
    refine r_iload hC 6 dX12_fewest_189 rfl ?_
    refine r_ishr hC dX12_fewest_191 ?_
    refine r_iconst hC dX12_fewest_192 ?_
    refine r_iand hC dX12_fewest_193 ?_
    refine r_if_eq hC 231 rfl dX12_fewest_194 (by decide) (fun cq => ?_) (fun cq => ?_)
    · replace h := h.1 cq
      refine let_elim h (fun x10_31 e_32 h => ?_)
      refine r_iinc (lv' := [(10, vI x10_31), (0, vR Y.1 a0), (2, vI x2), (5, vI x5), (7, vI x7), (8, vI x8), (9, vI x9)]) hC 6 dX12_fewest_231 rfl (by decide) e_32 rfl ?_
      refine r_goto hC 187 dX12_fewest_234 (by decide) ?_
      refine r_sub [1, 2, 3, 4, 5, 6, 0] rfl ?_
      exact ih _ _ h
    · replace h := h.2 cq
      refine r_aload_n hC 0 dX12_fewest_197 rfl rfl ?_
      refine r_iload hC 3 dX12_fewest_198 rfl ?_
      refine r_iload hC 6 dX12_fewest_200 rfl ?_
      refine r_callV (As := [vI x7, vI x10]) (st := []) hC cw_X12_281 rfl qa0.1 qa0.2 rfl rfl (Nat.le_of_ble_eq_true rfl) ⟨Nat.le_of_ble_eq_true rfl, Nat.le_of_ble_eq_true rfl⟩ ⟨Nat.le_of_ble_eq_true rfl, Nat.le_of_ble_eq_true rfl⟩ dX12_fewest_202 (fun hk => mX12_step Y hF _ _ _ _ _ _ (kqO hk qa0) h) (fun v M_33 h => ?_)
      obtain ⟨r_34, rfl, h⟩ := h
      refine r_aload_n hC 0 dX12_fewest_205 rfl rfl ?_
      have q_35 : 0 < a0 + 14 ∧ M0 0 (a0 + 14) = kA 0 10240 := lay_f0 (a := a0) hL qa0 fm_12_26
      refine r_getR0 (a' := a0 + 14) hC fg_X12_50 rfl hF fm_12_26 qa0.1 qa0.2 rfl dX12_fewest_206 ?_
      refine r_bipush hC (by decide +kernel) dX12_fewest_209 ?_
      refine r_iload hC 2 dX12_fewest_211 rfl ?_
      refine r_iconst hC dX12_fewest_213 ?_
      refine r_iload hC 6 dX12_fewest_214 rfl ?_
      refine r_ishl hC dX12_fewest_216 ?_
      refine r_iconst hC dX12_fewest_217 ?_
      refine r_ixor hC dX12_fewest_218 ?_
      refine r_iand hC dX12_fewest_219 ?_
      refine r_imul hC dX12_fewest_220 ?_
      refine r_iload hC 6 dX12_fewest_221 rfl ?_
      refine r_iadd hC dX12_fewest_223 ?_
      obtain ⟨i_36, h⟩ := h
      refine r_iald hC i_36 q_35.1 q_35.2 (by decide) dX12_fewest_224 ?_
      refine r_iadd hC dX12_fewest_225 ?_
      refine r_iload hC 4 dX12_fewest_226 rfl ?_
      refine r_icmp_eq hC 237 rfl rfl dX12_fewest_228 (by decide) (fun cq => ?_) (fun cq => ?_)
      · replace h := h.1 cq
        refine r_sub [0, 1, 2, 3, 4, 5, 6] rfl ?_
        exact hE237 _ _ h
      · replace h := h.2 cq
        refine let_elim h (fun x10_37 e_38 h => ?_)
        refine r_iinc (lv' := [(10, vI x10_37), (0, vR Y.1 a0), (2, vI x2), (5, vI x5), (7, vI x7), (8, vI x8), (9, vI x9)]) hC 6 dX12_fewest_231 rfl (by decide) e_38 rfl ?_
        refine r_goto hC 187 dX12_fewest_234 (by decide) ?_
        refine r_sub [1, 2, 3, 4, 5, 6, 0] rfl ?_
        exact ih _ _ h
set_option maxHeartbeats 4000000 in
set_option maxRecDepth 100000 in
theorem tX12_fewest_L178 {X : Cx} {Y : Yx} {M0 : Mem} (hC : OKX X Y RX12 cX12_fewest 11 (some .int) rmX12_fewest) (hF : Y.2.2.2.2 = true) (hL : Lay M0) (Q : Int → Mem → Prop)  (a0 : Nat) (x2 : Int) (qa0 : 0 < a0 ∧ M0 0 a0 = kO 12)  : ∀ (N : Nat) (x5 : Int) (x7 : Int) (x8 : Int) (x9 : Int) (M : Mem) (_ : wX12_fewest_L178 Q  a0 x2 N x5 x7 x8 x9 M), WW X Y 11 rmX12_fewest (QI Q) M0 0 0 178 [(0, vR Y.1 a0), (2, vI x2), (5, vI x5), (7, vI x7), (8, vI x8), (9, vI x9)] [] M := by
  intro N
  induction N with
  | zero =>
    intro x5 x7 x8 x9 M h
    exact h.elim
  | succ N ih =>
    intro x5 x7 x8 x9 M h
    unfold wX12_fewest_L178 at h
    refine r_iload hC 5 dX12_fewest_178 rfl ?_
    refine r_iload_n hC 1 dX12_fewest_180 rfl rfl ?_
    refine r_icmp_gt hC 271 rfl rfl dX12_fewest_181 (by decide) (fun cq => ?_) (fun cq => ?_)
    · replace h := h.1 cq
      refine r_aload_n hC 0 dX12_fewest_271 rfl rfl ?_
      have q_29 : 0 < a0 + 15 ∧ M0 0 (a0 + 15) = kA 0 10 := lay_f0 (a := a0) hL qa0 fm_12_27
      refine r_getR0 (a' := a0 + 15) hC fg_X12_53 rfl hF fm_12_27 qa0.1 qa0.2 rfl dX12_fewest_272 ?_
      refine r_iload hC 3 dX12_fewest_275 rfl ?_
      obtain ⟨i_30, h⟩ := h
      refine r_iald hC i_30 q_29.1 q_29.2 (by decide) dX12_fewest_277 ?_
      exact r_iret hC (Nat.zero_le _) (Nat.zero_le _) dX12_fewest_278 ⟨_, rfl, h⟩
    · replace h := h.2 cq
      refine r_iconst hC dX12_fewest_184 ?_
      refine r_istore (lv' := [(10, vI 0), (0, vR Y.1 a0), (2, vI x2), (5, vI x5), (7, vI x7), (8, vI x8), (9, vI x9)]) hC dX12_fewest_185 (by decide) rfl ?_
      refine r_sub [1, 2, 3, 4, 5, 6, 0] rfl ?_
      obtain ⟨N_47, h⟩ := h
      refine tX12_fewest_L187 hC hF hL Q _ _ _ _ _ _ _ qa0 ?_ N_47 _ _ h
      · intro x10_39 M_40 h
        refine r_iload hC 4 dX12_fewest_237 rfl ?_
        refine r_aload_n hC 0 dX12_fewest_239 rfl rfl ?_
        refine r_iload hC 3 dX12_fewest_240 rfl ?_
        refine r_iload hC 6 dX12_fewest_242 rfl ?_
        refine r_callV (As := [vI x7, vI x10_39]) (st := [vI x8]) hC cw_X12_281 rfl qa0.1 qa0.2 rfl rfl (Nat.le_of_ble_eq_true rfl) ⟨Nat.le_of_ble_eq_true rfl, Nat.le_of_ble_eq_true rfl⟩ ⟨Nat.le_of_ble_eq_true rfl, Nat.le_of_ble_eq_true rfl⟩ dX12_fewest_244 (fun hk => mX12_step Y hF _ _ _ _ _ _ (kqO hk qa0) h) (fun v M_41 h => ?_)
        obtain ⟨r_42, rfl, h⟩ := h
        refine r_isub hC dX12_fewest_247 ?_
        refine r_nameI h (fun x8_43 h => ?_)
        refine r_istore (lv' := [(8, vI x8_43), (0, vR Y.1 a0), (2, vI x2), (5, vI x5), (7, vI x7), (9, vI x9), (10, vI x10_39)]) hC dX12_fewest_248 (by decide) rfl ?_
        refine r_iload hC 3 dX12_fewest_250 rfl ?_
        refine r_iconst hC dX12_fewest_252 ?_
        refine r_iload hC 6 dX12_fewest_253 rfl ?_
        refine r_ishl hC dX12_fewest_255 ?_
        refine r_iconst hC dX12_fewest_256 ?_
        refine r_ixor hC dX12_fewest_257 ?_
        refine r_iand hC dX12_fewest_258 ?_
        refine r_nameI h (fun x5_44 h => ?_)
        refine r_istore (lv' := [(5, vI x5_44), (8, vI x8_43), (0, vR Y.1 a0), (2, vI x2), (7, vI x7), (9, vI x9), (10, vI x10_39)]) hC dX12_fewest_259 (by decide) rfl ?_
        refine r_iload hC 6 dX12_fewest_261 rfl ?_
        refine r_istore (lv' := [(7, vI x10_39), (5, vI x5_44), (8, vI x8_43), (0, vR Y.1 a0), (2, vI x2), (9, vI x9), (10, vI x10_39)]) hC dX12_fewest_263 (by decide) rfl ?_
        refine let_elim h (fun x9_45 e_46 h => ?_)
        refine r_iinc (lv' := [(9, vI x9_45), (7, vI x10_39), (5, vI x5_44), (8, vI x8_43), (0, vR Y.1 a0), (2, vI x2), (10, vI x10_39)]) hC 5 dX12_fewest_265 rfl (by decide) e_46 rfl ?_
        refine r_goto hC 178 dX12_fewest_268 (by decide) ?_
        refine r_sub [4, 5, 2, 1, 3, 0] rfl ?_
        exact ih _ _ _ _ _ h
set_option maxHeartbeats 4000000 in
set_option maxRecDepth 100000 in
theorem mX12_fewest (Y : Yx) (hF : Y.2.2.2.2 = true) (l : Launch) (a0 : Nat) (x1 : Int) (x2 : Int) (M0 : Mem) (Q : Int → Mem → Prop) (qa0 : 0 < a0 ∧ M0 0 a0 = kO 12) (h : wX12_fewest a0 x1 x2 M0 Q) : CT Y l yX12_fewest cX12_fewest 11 (some .int) rmX12_fewest [vR Y.1 a0, vI x1, vI x2] M0 (QI Q) := by
  unfold wX12_fewest at h
  refine ct_intro (by decide) (Nat.le_of_ble_eq_true rfl) ?_
  intro X hXl hC hL0
  have hL := hL0 hF
  change OKX X Y RX12 cX12_fewest 11 (some .int) rmX12_fewest at hC
  change WW X Y 11 rmX12_fewest (QI Q) M0 0 0 0 [(0, vR Y.1 a0), (1, vI x1), (2, vI x2)] [] M0
  refine r_aload_n hC 0 dX12_fewest_0 rfl rfl ?_
  refine r_iload_n hC 1 dX12_fewest_1 rfl rfl ?_
  refine r_callV (As := [vI x1]) (st := []) hC cw_X12_264 rfl qa0.1 qa0.2 rfl rfl (Nat.le_of_ble_eq_true rfl) ⟨Nat.le_of_ble_eq_true rfl, Nat.le_of_ble_eq_true rfl⟩ ⟨Nat.le_of_ble_eq_true rfl, Nat.le_of_ble_eq_true rfl⟩ dX12_fewest_2 (fun hk => mX12_isSet Y hF _ _ _ _ _ (kqO hk qa0) h) (fun v M_1 h => ?_)
  obtain ⟨r_2, rfl, h⟩ := h
  refine r_if_eq hC 13 rfl dX12_fewest_5 (by decide) (fun cq => ?_) (fun cq => ?_)
  · replace h := h.1 cq
    refine r_sub [0] rfl ?_
    exact tX12_fewest_J13 hC hF hL Q   _ qa0  _ h
  · replace h := h.2 cq
    refine r_iload_n hC 2 dX12_fewest_8 rfl rfl ?_
    refine r_iconst hC dX12_fewest_9 ?_
    refine r_icmp_ge hC 19 rfl bmL_m1 dX12_fewest_10 (by decide) (fun cq => ?_) (fun cq => ?_)
    · replace h := h.1 cq
      refine r_iload_n hC 1 dX12_fewest_19 rfl rfl ?_
      refine r_bipush hC (by decide +kernel) dX12_fewest_20 ?_
      refine r_callS (As := [vI x1, vI 10]) (st := []) hC cw_X12_267 rfl rfl (Nat.le_of_ble_eq_true rfl) ⟨Nat.le_of_ble_eq_true rfl, Nat.le_of_ble_eq_true rfl⟩ ⟨Nat.le_of_ble_eq_true rfl, Nat.le_of_ble_eq_true rfl⟩ dX12_fewest_22 (fun hk => mX12_isSmall Y hF _ _ _ _ _  h) (fun v M_5 h => ?_)
      obtain ⟨r_6, rfl, h⟩ := h
      refine r_if_ne hC 34 rfl dX12_fewest_25 (by decide) (fun cq => ?_) (fun cq => ?_)
      · replace h := h.2 cq
        refine r_iload_n hC 1 dX12_fewest_34 rfl rfl ?_
        refine r_callS (As := [vI x1]) (st := []) hC cw_X12_156 rfl rfl (Nat.le_of_ble_eq_true rfl) ⟨Nat.le_of_ble_eq_true rfl, Nat.le_of_ble_eq_true rfl⟩ ⟨Nat.le_of_ble_eq_true rfl, Nat.le_of_ble_eq_true rfl⟩ dX12_fewest_35 (fun hk => mX12_ones Y hF _ _ _ _  h) (fun v M_7 h => ?_)
        obtain ⟨r_8, rfl, h⟩ := h
        refine r_istore_n (lv' := [(3, vI r_8), (0, vR Y.1 a0), (1, vI x1), (2, vI x2)]) hC dX12_fewest_38 rfl (by decide) rfl ?_
        refine r_iload_n hC 3 dX12_fewest_39 rfl rfl ?_
        refine r_iload_n hC 0 dX12_fewest_40 rfl rfl ?_
        refine r_icmp_lt hC 50 rfl rfl dX12_fewest_41 (by decide) (fun cq => ?_) (fun cq => ?_)
        · replace h := h.1 cq
          refine r_iconst hC dX12_fewest_50 ?_
          refine r_istore (lv' := [(4, vI 0), (3, vI r_8), (0, vR Y.1 a0), (1, vI x1), (2, vI x2)]) hC dX12_fewest_51 (by decide) rfl ?_
          refine r_iconst hC dX12_fewest_53 ?_
          refine r_istore (lv' := [(5, vI 0), (4, vI 0), (3, vI r_8), (0, vR Y.1 a0), (1, vI x1), (2, vI x2)]) hC dX12_fewest_54 (by decide) rfl ?_
          refine r_sub [3, 4, 5, 2, 1, 0] rfl ?_
          obtain ⟨N_50, h⟩ := h
          refine tX12_fewest_L56 hC hF hL Q _ _ _ _ _ qa0 ?_ N_50 _ _ _ h
          · intro M_18 h
            refine r_aload_n hC 0 dX12_fewest_91 rfl rfl ?_
            refine r_iload_n hC 2 dX12_fewest_92 rfl rfl ?_
            refine r_callV (As := [vI r_8]) (st := []) hC cw_X12_278 rfl qa0.1 qa0.2 rfl rfl (Nat.le_of_ble_eq_true rfl) ⟨Nat.le_of_ble_eq_true rfl, Nat.le_of_ble_eq_true rfl⟩ ⟨Nat.le_of_ble_eq_true rfl, Nat.le_of_ble_eq_true rfl⟩ dX12_fewest_93 (fun hk => mX12_findLeast Y hF _ _ _ _ _ (kqO hk qa0) h) (fun v M_19 h => ?_)
            obtain ⟨rfl, h⟩ := h
            refine r_iconst hC dX12_fewest_96 ?_
            refine r_iload_n hC 2 dX12_fewest_97 rfl rfl ?_
            refine r_ishl hC dX12_fewest_98 ?_
            refine r_iconst hC dX12_fewest_99 ?_
            refine r_isub hC dX12_fewest_100 ?_
            refine r_nameI h (fun x5_20 h => ?_)
            refine r_istore (lv' := [(5, vI x5_20), (0, vR Y.1 a0), (2, vI x2), (3, vI r_8)]) hC dX12_fewest_101 (by decide) rfl ?_
            refine r_ldcw hC kc_X12_277 dX12_fewest_103 ?_
            refine r_istore (lv' := [(6, vI 1000000), (5, vI x5_20), (0, vR Y.1 a0), (2, vI x2), (3, vI r_8)]) hC dX12_fewest_106 (by decide) rfl ?_
            refine r_iconst hC dX12_fewest_108 ?_
            refine r_istore (lv' := [(7, vI 0), (6, vI 1000000), (5, vI x5_20), (0, vR Y.1 a0), (2, vI x2), (3, vI r_8)]) hC dX12_fewest_109 (by decide) rfl ?_
            refine r_sub [3, 4, 5, 2, 1, 0] rfl ?_
            obtain ⟨N_49, h⟩ := h
            refine tX12_fewest_L111 hC hF hL Q _ _ _ _ _ qa0 ?_ N_49 _ _ _ h
            · intro x6_26 M_27 h
              refine r_iload_n hC 1 dX12_fewest_161 rfl rfl ?_
              refine r_if_ge hC 168 rfl dX12_fewest_162 (by decide) (fun cq => ?_) (fun cq => ?_)
              · replace h := h.1 cq
                refine r_iconst hC dX12_fewest_168 ?_
                refine r_nameI h (fun x7_28 h => ?_)
                refine r_istore (lv' := [(7, vI x7_28), (0, vR Y.1 a0), (2, vI x2), (5, vI x5_20), (6, vI x6_26)]) hC dX12_fewest_169 (by decide) rfl ?_
                refine r_iload hC 4 dX12_fewest_171 rfl ?_
                refine r_istore (lv' := [(8, vI x6_26), (7, vI x7_28), (0, vR Y.1 a0), (2, vI x2), (5, vI x5_20), (6, vI x6_26)]) hC dX12_fewest_173 (by decide) rfl ?_
                refine r_iconst hC dX12_fewest_175 ?_
                refine r_istore (lv' := [(9, vI 0), (8, vI x6_26), (7, vI x7_28), (0, vR Y.1 a0), (2, vI x2), (5, vI x5_20), (6, vI x6_26)]) hC dX12_fewest_176 (by decide) rfl ?_
                refine r_sub [3, 4, 5, 2, 1, 0] rfl ?_
                obtain ⟨N_48, h⟩ := h
                refine tX12_fewest_L178 hC hF hL Q  _ _ qa0  N_48 _ _ _ _ _ h
              · replace h := h.2 cq
                refine r_iload hC 3 dX12_fewest_165 rfl ?_
                exact r_iret hC (Nat.zero_le _) (Nat.zero_le _) dX12_fewest_167 ⟨_, rfl, h⟩
        · replace h := h.2 cq
          refine r_aload_n hC 1 dX12_fewest_44 rfl rfl ?_
          refine r_iconst hC dX12_fewest_45 ?_
          refine r_callV (As := [vI 2]) (st := []) hC cw_X12_83 rfl qa0.1 qa0.2 rfl rfl (Nat.le_of_ble_eq_true rfl) ⟨Nat.le_of_ble_eq_true rfl, Nat.le_of_ble_eq_true rfl⟩ ⟨Nat.le_of_ble_eq_true rfl, Nat.le_of_ble_eq_true rfl⟩ dX12_fewest_46 (fun hk => mX12_error Y hF _ _ _ _ _ (kqO hk qa0) h) (fun v M_51 h => ?_)
          obtain ⟨r_52, rfl, h⟩ := h
          exact r_iret hC (Nat.zero_le _) (Nat.zero_le _) dX12_fewest_49 ⟨_, rfl, h⟩
      · replace h := h.1 cq
        refine r_aload_n hC 0 dX12_fewest_28 rfl rfl ?_
        refine r_iconst hC dX12_fewest_29 ?_
        refine r_callV (As := [vI 5]) (st := []) hC cw_X12_83 rfl qa0.1 qa0.2 rfl rfl (Nat.le_of_ble_eq_true rfl) ⟨Nat.le_of_ble_eq_true rfl, Nat.le_of_ble_eq_true rfl⟩ ⟨Nat.le_of_ble_eq_true rfl, Nat.le_of_ble_eq_true rfl⟩ dX12_fewest_30 (fun hk => mX12_error Y hF _ _ _ _ _ (kqO hk qa0) h) (fun v M_53 h => ?_)
        obtain ⟨r_54, rfl, h⟩ := h
        exact r_iret hC (Nat.zero_le _) (Nat.zero_le _) dX12_fewest_33 ⟨_, rfl, h⟩
    · replace h := h.2 cq
      refine r_sub [0] rfl ?_
      exact tX12_fewest_J13 hC hF hL Q   _ qa0  _ h
theorem dX12_findBetter_0 : dec cX12_findBetter 0 1 1 (.aload_n 0) := ⟨by decide +kernel, rfl⟩
theorem dX12_findBetter_1 : dec cX12_findBetter 1 3 4 (.invokevirtual 220) := ⟨by decide +kernel, rfl⟩
theorem dX12_findBetter_4 : dec cX12_findBetter 4 1 5 (.lstore_n 1) := ⟨by decide +kernel, rfl⟩
theorem dX12_findBetter_5 : dec cX12_findBetter 5 1 6 (.iconst 0) := ⟨by decide +kernel, rfl⟩
theorem dX12_findBetter_6 : dec cX12_findBetter 6 1 7 (.istore_n 3) := ⟨by decide +kernel, rfl⟩
theorem dX12_findBetter_7 : dec cX12_findBetter 7 1 8 (.lconst 0) := ⟨by decide +kernel, rfl⟩
theorem dX12_findBetter_8 : dec cX12_findBetter 8 2 10 (.lstore 4) := ⟨by decide +kernel, rfl⟩
theorem dX12_findBetter_10 : dec cX12_findBetter 10 1 11 (.iconst 0) := ⟨by decide +kernel, rfl⟩
theorem dX12_findBetter_11 : dec cX12_findBetter 11 2 13 (.istore 6) := ⟨by decide +kernel, rfl⟩
theorem dX12_findBetter_13 : dec cX12_findBetter 13 2 15 (.iload 6) := ⟨by decide +kernel, rfl⟩
theorem dX12_findBetter_15 : dec cX12_findBetter 15 1 16 (.aload_n 0) := ⟨by decide +kernel, rfl⟩
theorem dX12_findBetter_16 : dec cX12_findBetter 16 3 19 (.getfield 162) := ⟨by decide +kernel, rfl⟩
theorem dX12_findBetter_19 : dec cX12_findBetter 19 3 22 (.if_icmp .ge 104) := ⟨by decide +kernel, rfl⟩
theorem dX12_findBetter_22 : dec cX12_findBetter 22 2 24 (.iload 6) := ⟨by decide +kernel, rfl⟩
theorem dX12_findBetter_24 : dec cX12_findBetter 24 1 25 (.iconst 1) := ⟨by decide +kernel, rfl⟩
theorem dX12_findBetter_25 : dec cX12_findBetter 25 1 26 (.iadd) := ⟨by decide +kernel, rfl⟩
theorem dX12_findBetter_26 : dec cX12_findBetter 26 2 28 (.istore 7) := ⟨by decide +kernel, rfl⟩
theorem dX12_findBetter_28 : dec cX12_findBetter 28 2 30 (.iload 7) := ⟨by decide +kernel, rfl⟩
theorem dX12_findBetter_30 : dec cX12_findBetter 30 1 31 (.aload_n 0) := ⟨by decide +kernel, rfl⟩
theorem dX12_findBetter_31 : dec cX12_findBetter 31 3 34 (.getfield 162) := ⟨by decide +kernel, rfl⟩
theorem dX12_findBetter_34 : dec cX12_findBetter 34 3 37 (.if_icmp .ge 83) := ⟨by decide +kernel, rfl⟩
theorem dX12_findBetter_37 : dec cX12_findBetter 37 1 38 (.aload_n 0) := ⟨by decide +kernel, rfl⟩
theorem dX12_findBetter_38 : dec cX12_findBetter 38 2 40 (.iload 6) := ⟨by decide +kernel, rfl⟩
theorem dX12_findBetter_40 : dec cX12_findBetter 40 2 42 (.iload 7) := ⟨by decide +kernel, rfl⟩
theorem dX12_findBetter_42 : dec cX12_findBetter 42 3 45 (.invokevirtual 231) := ⟨by decide +kernel, rfl⟩
theorem dX12_findBetter_45 : dec cX12_findBetter 45 1 46 (.aload_n 0) := ⟨by decide +kernel, rfl⟩
theorem dX12_findBetter_46 : dec cX12_findBetter 46 3 49 (.invokevirtual 211) := ⟨by decide +kernel, rfl⟩
theorem dX12_findBetter_49 : dec cX12_findBetter 49 1 50 (.aload_n 0) := ⟨by decide +kernel, rfl⟩
theorem dX12_findBetter_50 : dec cX12_findBetter 50 3 53 (.invokevirtual 228) := ⟨by decide +kernel, rfl⟩
theorem dX12_findBetter_53 : dec cX12_findBetter 53 3 56 (.ifCond .eq 10) := ⟨by decide +kernel, rfl⟩
theorem dX12_findBetter_56 : dec cX12_findBetter 56 1 57 (.aload_n 0) := ⟨by decide +kernel, rfl⟩
theorem dX12_findBetter_57 : dec cX12_findBetter 57 3 60 (.invokevirtual 220) := ⟨by decide +kernel, rfl⟩
theorem dX12_findBetter_60 : dec cX12_findBetter 60 3 63 (.goto 4) := ⟨by decide +kernel, rfl⟩
theorem dX12_findBetter_63 : dec cX12_findBetter 63 1 64 (.lload_n 1) := ⟨by decide +kernel, rfl⟩
theorem dX12_findBetter_64 : dec cX12_findBetter 64 2 66 (.lstore 8) := ⟨by decide +kernel, rfl⟩
theorem dX12_findBetter_66 : dec cX12_findBetter 66 2 68 (.lload 8) := ⟨by decide +kernel, rfl⟩
theorem dX12_findBetter_68 : dec cX12_findBetter 68 1 69 (.lload_n 1) := ⟨by decide +kernel, rfl⟩
theorem dX12_findBetter_69 : dec cX12_findBetter 69 1 70 (.lcmp) := ⟨by decide +kernel, rfl⟩
theorem dX12_findBetter_70 : dec cX12_findBetter 70 3 73 (.ifCond .le 33) := ⟨by decide +kernel, rfl⟩
theorem dX12_findBetter_73 : dec cX12_findBetter 73 1 74 (.iload_n 3) := ⟨by decide +kernel, rfl⟩
theorem dX12_findBetter_74 : dec cX12_findBetter 74 3 77 (.ifCond .eq 11) := ⟨by decide +kernel, rfl⟩
theorem dX12_findBetter_77 : dec cX12_findBetter 77 2 79 (.lload 8) := ⟨by decide +kernel, rfl⟩
theorem dX12_findBetter_79 : dec cX12_findBetter 79 2 81 (.lload 4) := ⟨by decide +kernel, rfl⟩
theorem dX12_findBetter_81 : dec cX12_findBetter 81 1 82 (.lcmp) := ⟨by decide +kernel, rfl⟩
theorem dX12_findBetter_82 : dec cX12_findBetter 82 3 85 (.ifCond .le 21) := ⟨by decide +kernel, rfl⟩
theorem dX12_findBetter_85 : dec cX12_findBetter 85 1 86 (.iconst 1) := ⟨by decide +kernel, rfl⟩
theorem dX12_findBetter_86 : dec cX12_findBetter 86 1 87 (.istore_n 3) := ⟨by decide +kernel, rfl⟩
theorem dX12_findBetter_87 : dec cX12_findBetter 87 2 89 (.lload 8) := ⟨by decide +kernel, rfl⟩
theorem dX12_findBetter_89 : dec cX12_findBetter 89 2 91 (.lstore 4) := ⟨by decide +kernel, rfl⟩
theorem dX12_findBetter_91 : dec cX12_findBetter 91 1 92 (.aload_n 0) := ⟨by decide +kernel, rfl⟩
theorem dX12_findBetter_92 : dec cX12_findBetter 92 2 94 (.iload 6) := ⟨by decide +kernel, rfl⟩
theorem dX12_findBetter_94 : dec cX12_findBetter 94 3 97 (.putfield 283) := ⟨by decide +kernel, rfl⟩
theorem dX12_findBetter_97 : dec cX12_findBetter 97 1 98 (.aload_n 0) := ⟨by decide +kernel, rfl⟩
theorem dX12_findBetter_98 : dec cX12_findBetter 98 2 100 (.iload 7) := ⟨by decide +kernel, rfl⟩
theorem dX12_findBetter_100 : dec cX12_findBetter 100 3 103 (.putfield 286) := ⟨by decide +kernel, rfl⟩
theorem dX12_findBetter_103 : dec cX12_findBetter 103 1 104 (.aload_n 0) := ⟨by decide +kernel, rfl⟩
theorem dX12_findBetter_104 : dec cX12_findBetter 104 2 106 (.iload 6) := ⟨by decide +kernel, rfl⟩
theorem dX12_findBetter_106 : dec cX12_findBetter 106 2 108 (.iload 7) := ⟨by decide +kernel, rfl⟩
theorem dX12_findBetter_108 : dec cX12_findBetter 108 3 111 (.invokevirtual 231) := ⟨by decide +kernel, rfl⟩
theorem dX12_findBetter_111 : dec cX12_findBetter 111 3 114 (.iinc 7 1) := ⟨by decide +kernel, rfl⟩
theorem dX12_findBetter_114 : dec cX12_findBetter 114 3 117 (.goto (-86)) := ⟨by decide +kernel, rfl⟩
theorem dX12_findBetter_117 : dec cX12_findBetter 117 3 120 (.iinc 6 1) := ⟨by decide +kernel, rfl⟩
theorem dX12_findBetter_120 : dec cX12_findBetter 120 3 123 (.goto (-107)) := ⟨by decide +kernel, rfl⟩
theorem dX12_findBetter_123 : dec cX12_findBetter 123 1 124 (.aload_n 0) := ⟨by decide +kernel, rfl⟩
theorem dX12_findBetter_124 : dec cX12_findBetter 124 3 127 (.invokevirtual 211) := ⟨by decide +kernel, rfl⟩
theorem dX12_findBetter_127 : dec cX12_findBetter 127 1 128 (.iload_n 3) := ⟨by decide +kernel, rfl⟩
theorem dX12_findBetter_128 : dec cX12_findBetter 128 1 129 (.ireturn) := ⟨by decide +kernel, rfl⟩
set_option maxHeartbeats 4000000 in
set_option maxRecDepth 100000 in
theorem tX12_findBetter_J103 {X : Cx} {Y : Yx} {M0 : Mem} (hC : OKX X Y RX12 cX12_findBetter 10 (some .boolean) rmX12_findBetter) (hF : Y.2.2.2.2 = true) (hL : Lay M0) (Q : Int → Mem → Prop) (C28 : Int → Int → Int → Mem → Prop)  (a0 : Nat) (l1 : Int) (x3 : Int) (l4 : Int) (x6 : Int) (x7 : Int) (qa0 : 0 < a0 ∧ M0 0 a0 = kO 12) (hC28 : ∀ (x3 : Int) (l4 : Int) (x7 : Int) (M : Mem), C28 x3 l4 x7 M → WW X Y 10 rmX12_findBetter (QI Q) M0 0 0 28 [(0, vR Y.1 a0), (1, vL l1), (3, vI x3), (4, vL l4), (6, vI x6), (7, vI x7)] [] M) (M : Mem) (h : wX12_findBetter_J103 Q C28 a0 l1 x3 l4 x6 x7 M) : WW X Y 10 rmX12_findBetter (QI Q) M0 0 0 103 [(0, vR Y.1 a0), (1, vL l1), (3, vI x3), (4, vL l4), (6, vI x6), (7, vI x7)] [] M := by
  unfold wX12_findBetter_J103 at h
  refine r_aload_n hC 0 dX12_findBetter_103 rfl rfl ?_
  refine r_iload hC 4 dX12_findBetter_104 rfl ?_
  refine r_iload hC 5 dX12_findBetter_106 rfl ?_
  refine r_callV (As := [vI x6, vI x7]) (st := []) hC cw_X12_231 rfl qa0.1 qa0.2 rfl rfl (Nat.le_of_ble_eq_true rfl) ⟨Nat.le_of_ble_eq_true rfl, Nat.le_of_ble_eq_true rfl⟩ ⟨Nat.le_of_ble_eq_true rfl, Nat.le_of_ble_eq_true rfl⟩ dX12_findBetter_108 (fun hk => mX12_swap Y hF _ _ _ _ _ _ (kqO hk qa0) h) (fun v M_8 h => ?_)
  obtain ⟨rfl, h⟩ := h
  refine let_elim h (fun x7_9 e_10 h => ?_)
  refine r_iinc (lv' := [(7, vI x7_9), (0, vR Y.1 a0), (1, vL l1), (3, vI x3), (4, vL l4), (6, vI x6)]) hC 5 dX12_findBetter_111 rfl (by decide) e_10 rfl ?_
  refine r_goto hC 28 dX12_findBetter_114 (by decide) ?_
  refine r_sub [1, 2, 3, 4, 5, 0] rfl ?_
  exact hC28 _ _ _ _ h
set_option maxHeartbeats 4000000 in
set_option maxRecDepth 100000 in
theorem tX12_findBetter_J85 {X : Cx} {Y : Yx} {M0 : Mem} (hC : OKX X Y RX12 cX12_findBetter 10 (some .boolean) rmX12_findBetter) (hF : Y.2.2.2.2 = true) (hL : Lay M0) (Q : Int → Mem → Prop) (C28 : Int → Int → Int → Mem → Prop)  (a0 : Nat) (l1 : Int) (x6 : Int) (x7 : Int) (l8 : Int) (qa0 : 0 < a0 ∧ M0 0 a0 = kO 12) (hC28 : ∀ (x3 : Int) (l4 : Int) (x7 : Int) (M : Mem), C28 x3 l4 x7 M → WW X Y 10 rmX12_findBetter (QI Q) M0 0 0 28 [(0, vR Y.1 a0), (1, vL l1), (3, vI x3), (4, vL l4), (6, vI x6), (7, vI x7)] [] M) (M : Mem) (h : wX12_findBetter_J85 Q C28 a0 l1 x6 x7 l8 M) : WW X Y 10 rmX12_findBetter (QI Q) M0 0 0 85 [(0, vR Y.1 a0), (1, vL l1), (6, vI x6), (7, vI x7), (8, vL l8)] [] M := by
  unfold wX12_findBetter_J85 at h
  refine r_iconst hC dX12_findBetter_85 ?_
  refine r_istore_n (lv' := [(3, vI 1), (0, vR Y.1 a0), (1, vL l1), (6, vI x6), (7, vI x7), (8, vL l8)]) hC dX12_findBetter_86 rfl (by decide) rfl ?_
  refine r_lload hC 5 dX12_findBetter_87 rfl ?_
  refine r_lstore (lv' := [(4, vL l8), (3, vI 1), (0, vR Y.1 a0), (1, vL l1), (6, vI x6), (7, vI x7), (8, vL l8)]) hC dX12_findBetter_89 (by decide) rfl ?_
  refine r_aload_n hC 2 dX12_findBetter_91 rfl rfl ?_
  refine r_iload hC 4 dX12_findBetter_92 rfl ?_
  refine r_putI hC fp_X12_283 rfl qa0.1 qa0.2 dX12_findBetter_94 ?_
  refine r_nameM h (fun M_11 h => ?_)
  refine r_aload_n hC 2 dX12_findBetter_97 rfl rfl ?_
  refine r_iload hC 5 dX12_findBetter_98 rfl ?_
  refine r_putI hC fp_X12_286 rfl qa0.1 qa0.2 dX12_findBetter_100 ?_
  refine r_nameM h (fun M_12 h => ?_)
  refine r_sub [2, 3, 1, 0, 4, 5] rfl ?_
  exact tX12_findBetter_J103 hC hF hL Q _  _ _ _ _ _ _ qa0 hC28 _ h
set_option maxHeartbeats 4000000 in
set_option maxRecDepth 100000 in
theorem tX12_findBetter_J64 {X : Cx} {Y : Yx} {M0 : Mem} (hC : OKX X Y RX12 cX12_findBetter 10 (some .boolean) rmX12_findBetter) (hF : Y.2.2.2.2 = true) (hL : Lay M0) (Q : Int → Mem → Prop) (C28 : Int → Int → Int → Mem → Prop)  (a0 : Nat) (l1 : Int) (x3 : Int) (l4 : Int) (x6 : Int) (x7 : Int) (ls0 : Int) (qa0 : 0 < a0 ∧ M0 0 a0 = kO 12) (hC28 : ∀ (x3 : Int) (l4 : Int) (x7 : Int) (M : Mem), C28 x3 l4 x7 M → WW X Y 10 rmX12_findBetter (QI Q) M0 0 0 28 [(0, vR Y.1 a0), (1, vL l1), (3, vI x3), (4, vL l4), (6, vI x6), (7, vI x7)] [] M) (M : Mem) (h : wX12_findBetter_J64 Q C28 a0 l1 x3 l4 x6 x7 ls0 M) : WW X Y 10 rmX12_findBetter (QI Q) M0 0 0 64 [(0, vR Y.1 a0), (1, vL l1), (3, vI x3), (4, vL l4), (6, vI x6), (7, vI x7)] [vL ls0] M := by
  unfold wX12_findBetter_J64 at h
  refine r_lstore (lv' := [(8, vL ls0), (0, vR Y.1 a0), (1, vL l1), (3, vI x3), (4, vL l4), (6, vI x6), (7, vI x7)]) hC dX12_findBetter_64 (by decide) rfl ?_
  refine r_lload hC 0 dX12_findBetter_66 rfl ?_
  refine r_lload_n hC 2 dX12_findBetter_68 rfl rfl ?_
  refine r_lcmp hC dX12_findBetter_69 ?_
  refine r_if_le hC 103 rfl dX12_findBetter_70 (by decide) (fun cq => ?_) (fun cq => ?_)
  · replace h := h.1 cq
    refine r_sub [1, 2, 3, 4, 5, 6] rfl ?_
    exact tX12_findBetter_J103 hC hF hL Q _  _ _ _ _ _ _ qa0 hC28 _ h
  · replace h := h.2 cq
    refine r_iload_n hC 3 dX12_findBetter_73 rfl rfl ?_
    refine r_if_eq hC 85 rfl dX12_findBetter_74 (by decide) (fun cq => ?_) (fun cq => ?_)
    · replace h := h.1 cq
      refine r_sub [1, 2, 5, 6, 0] rfl ?_
      exact tX12_findBetter_J85 hC hF hL Q _  _ _ _ _ _ qa0 hC28 _ h
    · replace h := h.2 cq
      refine r_lload hC 0 dX12_findBetter_77 rfl ?_
      refine r_lload hC 4 dX12_findBetter_79 rfl ?_
      refine r_lcmp hC dX12_findBetter_81 ?_
      refine r_if_le hC 103 rfl dX12_findBetter_82 (by decide) (fun cq => ?_) (fun cq => ?_)
      · replace h := h.1 cq
        refine r_sub [1, 2, 3, 4, 5, 6] rfl ?_
        exact tX12_findBetter_J103 hC hF hL Q _  _ _ _ _ _ _ qa0 hC28 _ h
      · replace h := h.2 cq
        refine r_sub [1, 2, 5, 6, 0] rfl ?_
        exact tX12_findBetter_J85 hC hF hL Q _  _ _ _ _ _ qa0 hC28 _ h
set_option maxHeartbeats 4000000 in
set_option maxRecDepth 100000 in
theorem tX12_findBetter_L28 {X : Cx} {Y : Yx} {M0 : Mem} (hC : OKX X Y RX12 cX12_findBetter 10 (some .boolean) rmX12_findBetter) (hF : Y.2.2.2.2 = true) (hL : Lay M0) (Q : Int → Mem → Prop) (E117 : Int → Int → Mem → Prop) (a0 : Nat) (l1 : Int) (x6 : Int) (qa0 : 0 < a0 ∧ M0 0 a0 = kO 12) (hE117 : ∀ (x3 : Int) (l4 : Int) (M : Mem), E117 x3 l4 M → WW X Y 10 rmX12_findBetter (QI Q) M0 0 0 117 [(0, vR Y.1 a0), (1, vL l1), (3, vI x3), (4, vL l4), (6, vI x6)] [] M) : ∀ (N : Nat) (x3 : Int) (l4 : Int) (x7 : Int) (M : Mem) (_ : wX12_findBetter_L28 Q E117 a0 l1 x6 N x3 l4 x7 M), WW X Y 10 rmX12_findBetter (QI Q) M0 0 0 28 [(0, vR Y.1 a0), (1, vL l1), (3, vI x3), (4, vL l4), (6, vI x6), (7, vI x7)] [] M := by
  intro N
  induction N with
  | zero =>
    intro x3 l4 x7 M h
    exact h.elim
  | succ N ih =>
    intro x3 l4 x7 M h
    unfold wX12_findBetter_L28 at h
    refine r_iload hC 5 dX12_findBetter_28 rfl ?_
    refine r_aload_n hC 0 dX12_findBetter_30 rfl rfl ?_
    refine r_getI hC fg_X12_162 rfl qa0.1 qa0.2 dX12_findBetter_31 ?_
    refine r_icmp_ge hC 117 rfl rfl dX12_findBetter_34 (by decide) (fun cq => ?_) (fun cq => ?_)
    · replace h := h.1 cq
      refine r_sub [0, 1, 2, 3, 4] rfl ?_
      exact hE117 _ _ _ h
    · replace h := h.2 cq
      refine r_aload_n hC 0 dX12_findBetter_37 rfl rfl ?_
      refine r_iload hC 4 dX12_findBetter_38 rfl ?_
      refine r_iload hC 5 dX12_findBetter_40 rfl ?_
      refine r_callV (As := [vI x6, vI x7]) (st := []) hC cw_X12_231 rfl qa0.1 qa0.2 rfl rfl (Nat.le_of_ble_eq_true rfl) ⟨Nat.le_of_ble_eq_true rfl, Nat.le_of_ble_eq_true rfl⟩ ⟨Nat.le_of_ble_eq_true rfl, Nat.le_of_ble_eq_true rfl⟩ dX12_findBetter_42 (fun hk => mX12_swap Y hF _ _ _ _ _ _ (kqO hk qa0) h) (fun v M_4 h => ?_)
      obtain ⟨rfl, h⟩ := h
      refine r_aload_n hC 0 dX12_findBetter_45 rfl rfl ?_
      refine r_callV (As := []) (st := []) hC cw_X12_211 rfl qa0.1 qa0.2 rfl rfl (Nat.le_of_ble_eq_true rfl) ⟨Nat.le_of_ble_eq_true rfl, Nat.le_of_ble_eq_true rfl⟩ ⟨Nat.le_of_ble_eq_true rfl, Nat.le_of_ble_eq_true rfl⟩ dX12_findBetter_46 (fun hk => mX12_layRow Y hF _ _ _ _ (kqO hk qa0) h) (fun v M_5 h => ?_)
      obtain ⟨rfl, h⟩ := h
      refine r_aload_n hC 0 dX12_findBetter_49 rfl rfl ?_
      refine r_callV (As := []) (st := []) hC cw_X12_228 rfl qa0.1 qa0.2 rfl rfl (Nat.le_of_ble_eq_true rfl) ⟨Nat.le_of_ble_eq_true rfl, Nat.le_of_ble_eq_true rfl⟩ ⟨Nat.le_of_ble_eq_true rfl, Nat.le_of_ble_eq_true rfl⟩ dX12_findBetter_50 (fun hk => mX12_isGood Y hF _ _ _ _ (kqO hk qa0) h) (fun v M_6 h => ?_)
      obtain ⟨r_7, rfl, h⟩ := h
      refine r_if_eq hC 63 rfl dX12_findBetter_53 (by decide) (fun cq => ?_) (fun cq => ?_)
      · replace h := h.1 cq
        refine r_lload_n hC 1 dX12_findBetter_63 rfl rfl ?_
        refine r_sub [0, 1, 2, 3, 4, 5] rfl ?_
        exact tX12_findBetter_J64 hC hF hL Q _  _ _ _ _ _ _ _ qa0 ih _ h
      · replace h := h.2 cq
        refine r_aload_n hC 0 dX12_findBetter_56 rfl rfl ?_
        refine r_callV (As := []) (st := []) hC cw_X12_220 rfl qa0.1 qa0.2 rfl rfl (Nat.le_of_ble_eq_true rfl) ⟨Nat.le_of_ble_eq_true rfl, Nat.le_of_ble_eq_true rfl⟩ ⟨Nat.le_of_ble_eq_true rfl, Nat.le_of_ble_eq_true rfl⟩ dX12_findBetter_57 (fun hk => mX12_worthNow Y hF _ _ _ _ (kqO hk qa0) h) (fun v M_13 h => ?_)
        obtain ⟨r_14, rfl, h⟩ := h
        refine r_goto hC 64 dX12_findBetter_60 (by decide) ?_
        refine r_sub [0, 1, 2, 3, 4, 5] rfl ?_
        exact tX12_findBetter_J64 hC hF hL Q _  _ _ _ _ _ _ _ qa0 ih _ h
set_option maxHeartbeats 4000000 in
set_option maxRecDepth 100000 in
theorem tX12_findBetter_L13 {X : Cx} {Y : Yx} {M0 : Mem} (hC : OKX X Y RX12 cX12_findBetter 10 (some .boolean) rmX12_findBetter) (hF : Y.2.2.2.2 = true) (hL : Lay M0) (Q : Int → Mem → Prop) (E123 : Int → Mem → Prop) (a0 : Nat) (l1 : Int) (qa0 : 0 < a0 ∧ M0 0 a0 = kO 12) (hE123 : ∀ (x3 : Int) (M : Mem), E123 x3 M → WW X Y 10 rmX12_findBetter (QI Q) M0 0 0 123 [(0, vR Y.1 a0), (3, vI x3)] [] M) : ∀ (N : Nat) (x3 : Int) (l4 : Int) (x6 : Int) (M : Mem) (_ : wX12_findBetter_L13 Q E123 a0 l1 N x3 l4 x6 M), WW X Y 10 rmX12_findBetter (QI Q) M0 0 0 13 [(0, vR Y.1 a0), (1, vL l1), (3, vI x3), (4, vL l4), (6, vI x6)] [] M := by
  intro N
  induction N with
  | zero =>
    intro x3 l4 x6 M h
    exact h.elim
  | succ N ih =>
    intro x3 l4 x6 M h
    unfold wX12_findBetter_L13 at h
    refine r_iload hC 4 dX12_findBetter_13 rfl ?_
    refine r_aload_n hC 0 dX12_findBetter_15 rfl rfl ?_
    refine r_getI hC fg_X12_162 rfl qa0.1 qa0.2 dX12_findBetter_16 ?_
    refine r_icmp_ge hC 123 rfl rfl dX12_findBetter_19 (by decide) (fun cq => ?_) (fun cq => ?_)
    · replace h := h.1 cq
      refine r_sub [0, 2] rfl ?_
      exact hE123 _ _ h
    · replace h := h.2 cq
      refine r_iload hC 4 dX12_findBetter_22 rfl ?_
      refine r_iconst hC dX12_findBetter_24 ?_
      refine r_iadd hC dX12_findBetter_25 ?_
      refine r_nameI h (fun x7_3 h => ?_)
      refine r_istore (lv' := [(7, vI x7_3), (0, vR Y.1 a0), (1, vL l1), (3, vI x3), (4, vL l4), (6, vI x6)]) hC dX12_findBetter_26 (by decide) rfl ?_
      refine r_sub [1, 2, 3, 4, 5, 0] rfl ?_
      obtain ⟨N_20, h⟩ := h
      refine tX12_findBetter_L28 hC hF hL Q _ _ _ _ qa0 ?_ N_20 _ _ _ _ h
      · intro x3_15 l4_16 M_17 h
        refine let_elim h (fun x6_18 e_19 h => ?_)
        refine r_iinc (lv' := [(6, vI x6_18), (0, vR Y.1 a0), (1, vL l1), (3, vI x3_15), (4, vL l4_16)]) hC 4 dX12_findBetter_117 rfl (by decide) e_19 rfl ?_
        refine r_goto hC 13 dX12_findBetter_120 (by decide) ?_
        refine r_sub [1, 2, 3, 4, 0] rfl ?_
        exact ih _ _ _ _ h
set_option maxHeartbeats 4000000 in
set_option maxRecDepth 100000 in
theorem mX12_findBetter (Y : Yx) (hF : Y.2.2.2.2 = true) (l : Launch) (a0 : Nat) (M0 : Mem) (Q : Int → Mem → Prop) (qa0 : 0 < a0 ∧ M0 0 a0 = kO 12) (h : wX12_findBetter a0 M0 Q) : CT Y l yX12_findBetter cX12_findBetter 10 (some .boolean) rmX12_findBetter [vR Y.1 a0] M0 (QI Q) := by
  unfold wX12_findBetter at h
  refine ct_intro (by decide) (Nat.le_of_ble_eq_true rfl) ?_
  intro X hXl hC hL0
  have hL := hL0 hF
  change OKX X Y RX12 cX12_findBetter 10 (some .boolean) rmX12_findBetter at hC
  change WW X Y 10 rmX12_findBetter (QI Q) M0 0 0 0 [(0, vR Y.1 a0)] [] M0
  refine r_aload_n hC 0 dX12_findBetter_0 rfl rfl ?_
  refine r_callV (As := []) (st := []) hC cw_X12_220 rfl qa0.1 qa0.2 rfl rfl (Nat.le_of_ble_eq_true rfl) ⟨Nat.le_of_ble_eq_true rfl, Nat.le_of_ble_eq_true rfl⟩ ⟨Nat.le_of_ble_eq_true rfl, Nat.le_of_ble_eq_true rfl⟩ dX12_findBetter_1 (fun hk => mX12_worthNow Y hF _ _ _ _ (kqO hk qa0) h) (fun v M_1 h => ?_)
  obtain ⟨r_2, rfl, h⟩ := h
  refine r_lstore_n (lv' := [(1, vL r_2), (0, vR Y.1 a0)]) hC dX12_findBetter_4 rfl (by decide) rfl ?_
  refine r_iconst hC dX12_findBetter_5 ?_
  refine r_istore_n (lv' := [(3, vI 0), (1, vL r_2), (0, vR Y.1 a0)]) hC dX12_findBetter_6 rfl (by decide) rfl ?_
  refine r_lconst (a := 0) hC (by decide +kernel) dX12_findBetter_7 ?_
  refine r_lstore (lv' := [(4, vL 0), (3, vI 0), (1, vL r_2), (0, vR Y.1 a0)]) hC dX12_findBetter_8 (by decide) rfl ?_
  refine r_iconst hC dX12_findBetter_10 ?_
  refine r_istore (lv' := [(6, vI 0), (4, vL 0), (3, vI 0), (1, vL r_2), (0, vR Y.1 a0)]) hC dX12_findBetter_11 (by decide) rfl ?_
  refine r_sub [4, 3, 2, 1, 0] rfl ?_
  obtain ⟨N_24, h⟩ := h
  refine tX12_findBetter_L13 hC hF hL Q _ _ _ qa0 ?_ N_24 _ _ _ _ h
  · intro x3_21 M_22 h
    refine r_aload_n hC 0 dX12_findBetter_123 rfl rfl ?_
    refine r_callV (As := []) (st := []) hC cw_X12_211 rfl qa0.1 qa0.2 rfl rfl (Nat.le_of_ble_eq_true rfl) ⟨Nat.le_of_ble_eq_true rfl, Nat.le_of_ble_eq_true rfl⟩ ⟨Nat.le_of_ble_eq_true rfl, Nat.le_of_ble_eq_true rfl⟩ dX12_findBetter_124 (fun hk => mX12_layRow Y hF _ _ _ _ (kqO hk qa0) h) (fun v M_23 h => ?_)
    obtain ⟨rfl, h⟩ := h
    refine r_iload_n hC 1 dX12_findBetter_127 rfl rfl ?_
    exact r_zret hC h.1 (Nat.zero_le _) (Nat.zero_le _) dX12_findBetter_128 ⟨_, rfl, h.2⟩
theorem dX12_better_0 : dec cX12_better 0 1 1 (.iload_n 1) := ⟨by decide +kernel, rfl⟩
theorem dX12_better_1 : dec cX12_better 1 3 4 (.invokestatic 214) := ⟨by decide +kernel, rfl⟩
theorem dX12_better_4 : dec cX12_better 4 3 7 (.ifCond .ne 9) := ⟨by decide +kernel, rfl⟩
theorem dX12_better_7 : dec cX12_better 7 1 8 (.aload_n 0) := ⟨by decide +kernel, rfl⟩
theorem dX12_better_8 : dec cX12_better 8 1 9 (.iconst 1) := ⟨by decide +kernel, rfl⟩
theorem dX12_better_9 : dec cX12_better 9 3 12 (.invokevirtual 83) := ⟨by decide +kernel, rfl⟩
theorem dX12_better_12 : dec cX12_better 12 1 13 (.ireturn) := ⟨by decide +kernel, rfl⟩
theorem dX12_better_13 : dec cX12_better 13 1 14 (.aload_n 0) := ⟨by decide +kernel, rfl⟩
theorem dX12_better_14 : dec cX12_better 14 1 15 (.iload_n 1) := ⟨by decide +kernel, rfl⟩
theorem dX12_better_15 : dec cX12_better 15 1 16 (.iload_n 2) := ⟨by decide +kernel, rfl⟩
theorem dX12_better_16 : dec cX12_better 16 3 19 (.invokevirtual 217) := ⟨by decide +kernel, rfl⟩
theorem dX12_better_19 : dec cX12_better 19 1 20 (.istore_n 3) := ⟨by decide +kernel, rfl⟩
theorem dX12_better_20 : dec cX12_better 20 1 21 (.iload_n 3) := ⟨by decide +kernel, rfl⟩
theorem dX12_better_21 : dec cX12_better 21 3 24 (.ifCond .le 9) := ⟨by decide +kernel, rfl⟩
theorem dX12_better_24 : dec cX12_better 24 1 25 (.aload_n 0) := ⟨by decide +kernel, rfl⟩
theorem dX12_better_25 : dec cX12_better 25 1 26 (.iload_n 3) := ⟨by decide +kernel, rfl⟩
theorem dX12_better_26 : dec cX12_better 26 3 29 (.invokevirtual 83) := ⟨by decide +kernel, rfl⟩
theorem dX12_better_29 : dec cX12_better 29 1 30 (.ireturn) := ⟨by decide +kernel, rfl⟩
theorem dX12_better_30 : dec cX12_better 30 1 31 (.aload_n 0) := ⟨by decide +kernel, rfl⟩
theorem dX12_better_31 : dec cX12_better 31 3 34 (.invokevirtual 289) := ⟨by decide +kernel, rfl⟩
theorem dX12_better_34 : dec cX12_better 34 3 37 (.ifCond .eq 18) := ⟨by decide +kernel, rfl⟩
theorem dX12_better_37 : dec cX12_better 37 2 39 (.bipush 100) := ⟨by decide +kernel, rfl⟩
theorem dX12_better_39 : dec cX12_better 39 1 40 (.aload_n 0) := ⟨by decide +kernel, rfl⟩
theorem dX12_better_40 : dec cX12_better 40 3 43 (.getfield 283) := ⟨by decide +kernel, rfl⟩
theorem dX12_better_43 : dec cX12_better 43 1 44 (.imul) := ⟨by decide +kernel, rfl⟩
theorem dX12_better_44 : dec cX12_better 44 1 45 (.aload_n 0) := ⟨by decide +kernel, rfl⟩
theorem dX12_better_45 : dec cX12_better 45 3 48 (.getfield 286) := ⟨by decide +kernel, rfl⟩
theorem dX12_better_48 : dec cX12_better 48 1 49 (.iadd) := ⟨by decide +kernel, rfl⟩
theorem dX12_better_49 : dec cX12_better 49 3 52 (.goto 8) := ⟨by decide +kernel, rfl⟩
theorem dX12_better_52 : dec cX12_better 52 1 53 (.aload_n 0) := ⟨by decide +kernel, rfl⟩
theorem dX12_better_53 : dec cX12_better 53 1 54 (.iconst 3) := ⟨by decide +kernel, rfl⟩
theorem dX12_better_54 : dec cX12_better 54 3 57 (.invokevirtual 83) := ⟨by decide +kernel, rfl⟩
theorem dX12_better_57 : dec cX12_better 57 1 58 (.ireturn) := ⟨by decide +kernel, rfl⟩
set_option maxHeartbeats 4000000 in
set_option maxRecDepth 100000 in
theorem mX12_better (Y : Yx) (hF : Y.2.2.2.2 = true) (l : Launch) (a0 : Nat) (x1 : Int) (x2 : Int) (M0 : Mem) (Q : Int → Mem → Prop) (qa0 : 0 < a0 ∧ M0 0 a0 = kO 12) (h : wX12_better a0 x1 x2 M0 Q) : CT Y l yX12_better cX12_better 4 (some .int) rmX12_better [vR Y.1 a0, vI x1, vI x2] M0 (QI Q) := by
  unfold wX12_better at h
  refine ct_intro (by decide) (Nat.le_of_ble_eq_true rfl) ?_
  intro X hXl hC hL0
  have hL := hL0 hF
  change OKX X Y RX12 cX12_better 4 (some .int) rmX12_better at hC
  change WW X Y 4 rmX12_better (QI Q) M0 0 0 0 [(0, vR Y.1 a0), (1, vI x1), (2, vI x2)] [] M0
  refine r_iload_n hC 1 dX12_better_0 rfl rfl ?_
  refine r_callS (As := [vI x1]) (st := []) hC cw_X12_214 rfl rfl (Nat.le_of_ble_eq_true rfl) ⟨Nat.le_of_ble_eq_true rfl, Nat.le_of_ble_eq_true rfl⟩ ⟨Nat.le_of_ble_eq_true rfl, Nat.le_of_ble_eq_true rfl⟩ dX12_better_1 (fun hk => mX12_isSheet Y hF _ _ _ _  h) (fun v M_1 h => ?_)
  obtain ⟨r_2, rfl, h⟩ := h
  refine r_if_ne hC 13 rfl dX12_better_4 (by decide) (fun cq => ?_) (fun cq => ?_)
  · replace h := h.2 cq
    refine r_aload_n hC 0 dX12_better_13 rfl rfl ?_
    refine r_iload_n hC 1 dX12_better_14 rfl rfl ?_
    refine r_iload_n hC 2 dX12_better_15 rfl rfl ?_
    refine r_callV (As := [vI x1, vI x2]) (st := []) hC cw_X12_217 rfl qa0.1 qa0.2 rfl rfl (Nat.le_of_ble_eq_true rfl) ⟨Nat.le_of_ble_eq_true rfl, Nat.le_of_ble_eq_true rfl⟩ ⟨Nat.le_of_ble_eq_true rfl, Nat.le_of_ble_eq_true rfl⟩ dX12_better_16 (fun hk => mX12_take Y hF _ _ _ _ _ _ (kqO hk qa0) h) (fun v M_3 h => ?_)
    obtain ⟨r_4, rfl, h⟩ := h
    refine r_istore_n (lv' := [(3, vI r_4), (0, vR Y.1 a0), (1, vI x1), (2, vI x2)]) hC dX12_better_19 rfl (by decide) rfl ?_
    refine r_iload_n hC 0 dX12_better_20 rfl rfl ?_
    refine r_if_le hC 30 rfl dX12_better_21 (by decide) (fun cq => ?_) (fun cq => ?_)
    · replace h := h.1 cq
      refine r_aload_n hC 1 dX12_better_30 rfl rfl ?_
      refine r_callV (As := []) (st := []) hC cw_X12_289 rfl qa0.1 qa0.2 rfl rfl (Nat.le_of_ble_eq_true rfl) ⟨Nat.le_of_ble_eq_true rfl, Nat.le_of_ble_eq_true rfl⟩ ⟨Nat.le_of_ble_eq_true rfl, Nat.le_of_ble_eq_true rfl⟩ dX12_better_31 (fun hk => mX12_findBetter Y hF _ _ _ _ (kqO hk qa0) h) (fun v M_5 h => ?_)
      obtain ⟨r_6, rfl, h⟩ := h
      refine r_if_eq hC 52 rfl dX12_better_34 (by decide) (fun cq => ?_) (fun cq => ?_)
      · replace h := h.1 cq
        refine r_aload_n hC 1 dX12_better_52 rfl rfl ?_
        refine r_iconst hC dX12_better_53 ?_
        refine r_callV (As := [vI 3]) (st := []) hC cw_X12_83 rfl qa0.1 qa0.2 rfl rfl (Nat.le_of_ble_eq_true rfl) ⟨Nat.le_of_ble_eq_true rfl, Nat.le_of_ble_eq_true rfl⟩ ⟨Nat.le_of_ble_eq_true rfl, Nat.le_of_ble_eq_true rfl⟩ dX12_better_54 (fun hk => mX12_error Y hF _ _ _ _ _ (kqO hk qa0) h) (fun v M_7 h => ?_)
        obtain ⟨r_8, rfl, h⟩ := h
        exact r_iret hC (Nat.zero_le _) (Nat.zero_le _) dX12_better_57 ⟨_, rfl, h⟩
      · replace h := h.2 cq
        refine r_bipush hC (by decide +kernel) dX12_better_37 ?_
        refine r_aload_n hC 1 dX12_better_39 rfl rfl ?_
        refine r_getI hC fg_X12_283 rfl qa0.1 qa0.2 dX12_better_40 ?_
        refine r_imul hC dX12_better_43 ?_
        refine r_aload_n hC 1 dX12_better_44 rfl rfl ?_
        refine r_getI hC fg_X12_286 rfl qa0.1 qa0.2 dX12_better_45 ?_
        refine r_iadd hC dX12_better_48 ?_
        refine r_goto hC 57 dX12_better_49 (by decide) ?_
        exact r_iret hC (Nat.zero_le _) (Nat.zero_le _) dX12_better_57 ⟨_, rfl, h⟩
    · replace h := h.2 cq
      refine r_aload_n hC 1 dX12_better_24 rfl rfl ?_
      refine r_iload_n hC 0 dX12_better_25 rfl rfl ?_
      refine r_callV (As := [vI r_4]) (st := []) hC cw_X12_83 rfl qa0.1 qa0.2 rfl rfl (Nat.le_of_ble_eq_true rfl) ⟨Nat.le_of_ble_eq_true rfl, Nat.le_of_ble_eq_true rfl⟩ ⟨Nat.le_of_ble_eq_true rfl, Nat.le_of_ble_eq_true rfl⟩ dX12_better_26 (fun hk => mX12_error Y hF _ _ _ _ _ (kqO hk qa0) h) (fun v M_9 h => ?_)
      obtain ⟨r_10, rfl, h⟩ := h
      exact r_iret hC (Nat.zero_le _) (Nat.zero_le _) dX12_better_29 ⟨_, rfl, h⟩
  · replace h := h.1 cq
    refine r_aload_n hC 0 dX12_better_7 rfl rfl ?_
    refine r_iconst hC dX12_better_8 ?_
    refine r_callV (As := [vI 1]) (st := []) hC cw_X12_83 rfl qa0.1 qa0.2 rfl rfl (Nat.le_of_ble_eq_true rfl) ⟨Nat.le_of_ble_eq_true rfl, Nat.le_of_ble_eq_true rfl⟩ ⟨Nat.le_of_ble_eq_true rfl, Nat.le_of_ble_eq_true rfl⟩ dX12_better_9 (fun hk => mX12_error Y hF _ _ _ _ _ (kqO hk qa0) h) (fun v M_11 h => ?_)
    obtain ⟨r_12, rfl, h⟩ := h
    exact r_iret hC (Nat.zero_le _) (Nat.zero_le _) dX12_better_12 ⟨_, rfl, h⟩
theorem dX12_slides_0 : dec cX12_slides 0 1 1 (.iload_n 1) := ⟨by decide +kernel, rfl⟩
theorem dX12_slides_1 : dec cX12_slides 1 3 4 (.invokestatic 214) := ⟨by decide +kernel, rfl⟩
theorem dX12_slides_4 : dec cX12_slides 4 3 7 (.ifCond .eq 13) := ⟨by decide +kernel, rfl⟩
theorem dX12_slides_7 : dec cX12_slides 7 1 8 (.iload_n 3) := ⟨by decide +kernel, rfl⟩
theorem dX12_slides_8 : dec cX12_slides 8 1 9 (.iconst 1) := ⟨by decide +kernel, rfl⟩
theorem dX12_slides_9 : dec cX12_slides 9 2 11 (.bipush 20) := ⟨by decide +kernel, rfl⟩
theorem dX12_slides_11 : dec cX12_slides 11 3 14 (.invokestatic 79) := ⟨by decide +kernel, rfl⟩
theorem dX12_slides_14 : dec cX12_slides 14 3 17 (.ifCond .ne 9) := ⟨by decide +kernel, rfl⟩
theorem dX12_slides_17 : dec cX12_slides 17 1 18 (.aload_n 0) := ⟨by decide +kernel, rfl⟩
theorem dX12_slides_18 : dec cX12_slides 18 1 19 (.iconst 1) := ⟨by decide +kernel, rfl⟩
theorem dX12_slides_19 : dec cX12_slides 19 3 22 (.invokevirtual 83) := ⟨by decide +kernel, rfl⟩
theorem dX12_slides_22 : dec cX12_slides 22 1 23 (.ireturn) := ⟨by decide +kernel, rfl⟩
theorem dX12_slides_23 : dec cX12_slides 23 1 24 (.aload_n 0) := ⟨by decide +kernel, rfl⟩
theorem dX12_slides_24 : dec cX12_slides 24 1 25 (.iload_n 1) := ⟨by decide +kernel, rfl⟩
theorem dX12_slides_25 : dec cX12_slides 25 1 26 (.iload_n 2) := ⟨by decide +kernel, rfl⟩
theorem dX12_slides_26 : dec cX12_slides 26 3 29 (.invokevirtual 217) := ⟨by decide +kernel, rfl⟩
theorem dX12_slides_29 : dec cX12_slides 29 2 31 (.istore 4) := ⟨by decide +kernel, rfl⟩
theorem dX12_slides_31 : dec cX12_slides 31 2 33 (.iload 4) := ⟨by decide +kernel, rfl⟩
theorem dX12_slides_33 : dec cX12_slides 33 3 36 (.ifCond .le 10) := ⟨by decide +kernel, rfl⟩
theorem dX12_slides_36 : dec cX12_slides 36 1 37 (.aload_n 0) := ⟨by decide +kernel, rfl⟩
theorem dX12_slides_37 : dec cX12_slides 37 2 39 (.iload 4) := ⟨by decide +kernel, rfl⟩
theorem dX12_slides_39 : dec cX12_slides 39 3 42 (.invokevirtual 83) := ⟨by decide +kernel, rfl⟩
theorem dX12_slides_42 : dec cX12_slides 42 1 43 (.ireturn) := ⟨by decide +kernel, rfl⟩
theorem dX12_slides_43 : dec cX12_slides 43 1 44 (.iconst 0) := ⟨by decide +kernel, rfl⟩
theorem dX12_slides_44 : dec cX12_slides 44 2 46 (.istore 5) := ⟨by decide +kernel, rfl⟩
theorem dX12_slides_46 : dec cX12_slides 46 2 48 (.iload 5) := ⟨by decide +kernel, rfl⟩
theorem dX12_slides_48 : dec cX12_slides 48 1 49 (.iload_n 3) := ⟨by decide +kernel, rfl⟩
theorem dX12_slides_49 : dec cX12_slides 49 3 52 (.if_icmp .ge 32) := ⟨by decide +kernel, rfl⟩
theorem dX12_slides_52 : dec cX12_slides 52 1 53 (.aload_n 0) := ⟨by decide +kernel, rfl⟩
theorem dX12_slides_53 : dec cX12_slides 53 3 56 (.invokevirtual 289) := ⟨by decide +kernel, rfl⟩
theorem dX12_slides_56 : dec cX12_slides 56 3 59 (.ifCond .eq 25) := ⟨by decide +kernel, rfl⟩
theorem dX12_slides_59 : dec cX12_slides 59 1 60 (.aload_n 0) := ⟨by decide +kernel, rfl⟩
theorem dX12_slides_60 : dec cX12_slides 60 1 61 (.aload_n 0) := ⟨by decide +kernel, rfl⟩
theorem dX12_slides_61 : dec cX12_slides 61 3 64 (.getfield 283) := ⟨by decide +kernel, rfl⟩
theorem dX12_slides_64 : dec cX12_slides 64 1 65 (.aload_n 0) := ⟨by decide +kernel, rfl⟩
theorem dX12_slides_65 : dec cX12_slides 65 3 68 (.getfield 286) := ⟨by decide +kernel, rfl⟩
theorem dX12_slides_68 : dec cX12_slides 68 3 71 (.invokevirtual 231) := ⟨by decide +kernel, rfl⟩
theorem dX12_slides_71 : dec cX12_slides 71 1 72 (.aload_n 0) := ⟨by decide +kernel, rfl⟩
theorem dX12_slides_72 : dec cX12_slides 72 3 75 (.invokevirtual 211) := ⟨by decide +kernel, rfl⟩
theorem dX12_slides_75 : dec cX12_slides 75 3 78 (.iinc 5 1) := ⟨by decide +kernel, rfl⟩
theorem dX12_slides_78 : dec cX12_slides 78 3 81 (.goto (-32)) := ⟨by decide +kernel, rfl⟩
theorem dX12_slides_81 : dec cX12_slides 81 1 82 (.iconst 0) := ⟨by decide +kernel, rfl⟩
theorem dX12_slides_82 : dec cX12_slides 82 2 84 (.istore 6) := ⟨by decide +kernel, rfl⟩
theorem dX12_slides_84 : dec cX12_slides 84 2 86 (.iload 6) := ⟨by decide +kernel, rfl⟩
theorem dX12_slides_86 : dec cX12_slides 86 1 87 (.aload_n 0) := ⟨by decide +kernel, rfl⟩
theorem dX12_slides_87 : dec cX12_slides 87 3 90 (.getfield 162) := ⟨by decide +kernel, rfl⟩
theorem dX12_slides_90 : dec cX12_slides 90 3 93 (.if_icmp .ge 28) := ⟨by decide +kernel, rfl⟩
theorem dX12_slides_93 : dec cX12_slides 93 1 94 (.aload_n 0) := ⟨by decide +kernel, rfl⟩
theorem dX12_slides_94 : dec cX12_slides 94 3 97 (.getfield 72) := ⟨by decide +kernel, rfl⟩
theorem dX12_slides_97 : dec cX12_slides 97 2 99 (.bipush 24) := ⟨by decide +kernel, rfl⟩
theorem dX12_slides_99 : dec cX12_slides 99 1 100 (.iload_n 1) := ⟨by decide +kernel, rfl⟩
theorem dX12_slides_100 : dec cX12_slides 100 1 101 (.imul) := ⟨by decide +kernel, rfl⟩
theorem dX12_slides_101 : dec cX12_slides 101 2 103 (.iload 6) := ⟨by decide +kernel, rfl⟩
theorem dX12_slides_103 : dec cX12_slides 103 1 104 (.iadd) := ⟨by decide +kernel, rfl⟩
theorem dX12_slides_104 : dec cX12_slides 104 1 105 (.aload_n 0) := ⟨by decide +kernel, rfl⟩
theorem dX12_slides_105 : dec cX12_slides 105 3 108 (.getfield 28) := ⟨by decide +kernel, rfl⟩
theorem dX12_slides_108 : dec cX12_slides 108 2 110 (.iload 6) := ⟨by decide +kernel, rfl⟩
theorem dX12_slides_110 : dec cX12_slides 110 1 111 (.iaload) := ⟨by decide +kernel, rfl⟩
theorem dX12_slides_111 : dec cX12_slides 111 1 112 (.iastore) := ⟨by decide +kernel, rfl⟩
theorem dX12_slides_112 : dec cX12_slides 112 3 115 (.iinc 6 1) := ⟨by decide +kernel, rfl⟩
theorem dX12_slides_115 : dec cX12_slides 115 3 118 (.goto (-31)) := ⟨by decide +kernel, rfl⟩
theorem dX12_slides_118 : dec cX12_slides 118 2 120 (.iload 5) := ⟨by decide +kernel, rfl⟩
theorem dX12_slides_120 : dec cX12_slides 120 1 121 (.ireturn) := ⟨by decide +kernel, rfl⟩
set_option maxHeartbeats 4000000 in
set_option maxRecDepth 100000 in
theorem tX12_slides_J17 {X : Cx} {Y : Yx} {M0 : Mem} (hC : OKX X Y RX12 cX12_slides 7 (some .int) rmX12_slides) (hF : Y.2.2.2.2 = true) (hL : Lay M0) (Q : Int → Mem → Prop)   (a0 : Nat) (qa0 : 0 < a0 ∧ M0 0 a0 = kO 12)  (M : Mem) (h : wX12_slides_J17 Q  a0 M) : WW X Y 7 rmX12_slides (QI Q) M0 0 0 17 [(0, vR Y.1 a0)] [] M := by
  unfold wX12_slides_J17 at h
  refine r_aload_n hC 0 dX12_slides_17 rfl rfl ?_
  refine r_iconst hC dX12_slides_18 ?_
  refine r_callV (As := [vI 1]) (st := []) hC cw_X12_83 rfl qa0.1 qa0.2 rfl rfl (Nat.le_of_ble_eq_true rfl) ⟨Nat.le_of_ble_eq_true rfl, Nat.le_of_ble_eq_true rfl⟩ ⟨Nat.le_of_ble_eq_true rfl, Nat.le_of_ble_eq_true rfl⟩ dX12_slides_19 (fun hk => mX12_error Y hF _ _ _ _ _ (kqO hk qa0) h) (fun v M_3 h => ?_)
  obtain ⟨r_4, rfl, h⟩ := h
  exact r_iret hC (Nat.zero_le _) (Nat.zero_le _) dX12_slides_22 ⟨_, rfl, h⟩
set_option maxHeartbeats 4000000 in
set_option maxRecDepth 100000 in
theorem tX12_slides_L46 {X : Cx} {Y : Yx} {M0 : Mem} (hC : OKX X Y RX12 cX12_slides 7 (some .int) rmX12_slides) (hF : Y.2.2.2.2 = true) (hL : Lay M0) (Q : Int → Mem → Prop) (E81 : Int → Mem → Prop) (a0 : Nat) (x1 : Int) (x3 : Int) (qa0 : 0 < a0 ∧ M0 0 a0 = kO 12) (hE81 : ∀ (x5 : Int) (M : Mem), E81 x5 M → WW X Y 7 rmX12_slides (QI Q) M0 0 0 81 [(0, vR Y.1 a0), (1, vI x1), (5, vI x5)] [] M) : ∀ (N : Nat) (x5 : Int) (M : Mem) (_ : wX12_slides_L46 Q E81 a0 x1 x3 N x5 M), WW X Y 7 rmX12_slides (QI Q) M0 0 0 46 [(0, vR Y.1 a0), (1, vI x1), (3, vI x3), (5, vI x5)] [] M := by
  intro N
  induction N with
  | zero =>
    intro x5 M h
    exact h.elim
  | succ N ih =>
    intro x5 M h
    unfold wX12_slides_L46 at h
    refine r_iload hC 3 dX12_slides_46 rfl ?_
    refine r_iload_n hC 2 dX12_slides_48 rfl rfl ?_
    refine r_icmp_ge hC 81 rfl rfl dX12_slides_49 (by decide) (fun cq => ?_) (fun cq => ?_)
    · replace h := h.1 cq
      refine r_sub [0, 1, 3] rfl ?_
      exact hE81 _ _ h
    · replace h := h.2 cq
      refine r_aload_n hC 0 dX12_slides_52 rfl rfl ?_
      refine r_callV (As := []) (st := []) hC cw_X12_289 rfl qa0.1 qa0.2 rfl rfl (Nat.le_of_ble_eq_true rfl) ⟨Nat.le_of_ble_eq_true rfl, Nat.le_of_ble_eq_true rfl⟩ ⟨Nat.le_of_ble_eq_true rfl, Nat.le_of_ble_eq_true rfl⟩ dX12_slides_53 (fun hk => mX12_findBetter Y hF _ _ _ _ (kqO hk qa0) h) (fun v M_9 h => ?_)
      obtain ⟨r_10, rfl, h⟩ := h
      refine r_if_eq hC 81 rfl dX12_slides_56 (by decide) (fun cq => ?_) (fun cq => ?_)
      · replace h := h.1 cq
        refine r_sub [0, 1, 3] rfl ?_
        exact hE81 _ _ h
      · replace h := h.2 cq
        refine r_aload_n hC 0 dX12_slides_59 rfl rfl ?_
        refine r_aload_n hC 0 dX12_slides_60 rfl rfl ?_
        refine r_getI hC fg_X12_283 rfl qa0.1 qa0.2 dX12_slides_61 ?_
        refine r_aload_n hC 0 dX12_slides_64 rfl rfl ?_
        refine r_getI hC fg_X12_286 rfl qa0.1 qa0.2 dX12_slides_65 ?_
        refine r_callV (As := [vI (M_9 a0 28), vI (M_9 a0 29)]) (st := []) hC cw_X12_231 rfl qa0.1 qa0.2 rfl rfl (Nat.le_of_ble_eq_true rfl) ⟨Nat.le_of_ble_eq_true rfl, Nat.le_of_ble_eq_true rfl⟩ ⟨Nat.le_of_ble_eq_true rfl, Nat.le_of_ble_eq_true rfl⟩ dX12_slides_68 (fun hk => mX12_swap Y hF _ _ _ _ _ _ (kqO hk qa0) h) (fun v M_11 h => ?_)
        obtain ⟨rfl, h⟩ := h
        refine r_aload_n hC 0 dX12_slides_71 rfl rfl ?_
        refine r_callV (As := []) (st := []) hC cw_X12_211 rfl qa0.1 qa0.2 rfl rfl (Nat.le_of_ble_eq_true rfl) ⟨Nat.le_of_ble_eq_true rfl, Nat.le_of_ble_eq_true rfl⟩ ⟨Nat.le_of_ble_eq_true rfl, Nat.le_of_ble_eq_true rfl⟩ dX12_slides_72 (fun hk => mX12_layRow Y hF _ _ _ _ (kqO hk qa0) h) (fun v M_12 h => ?_)
        obtain ⟨rfl, h⟩ := h
        refine let_elim h (fun x5_13 e_14 h => ?_)
        refine r_iinc (lv' := [(5, vI x5_13), (0, vR Y.1 a0), (1, vI x1), (3, vI x3)]) hC 3 dX12_slides_75 rfl (by decide) e_14 rfl ?_
        refine r_goto hC 46 dX12_slides_78 (by decide) ?_
        refine r_sub [1, 2, 3, 0] rfl ?_
        exact ih _ _ h
set_option maxHeartbeats 4000000 in
set_option maxRecDepth 100000 in
theorem tX12_slides_L84 {X : Cx} {Y : Yx} {M0 : Mem} (hC : OKX X Y RX12 cX12_slides 7 (some .int) rmX12_slides) (hF : Y.2.2.2.2 = true) (hL : Lay M0) (Q : Int → Mem → Prop)  (a0 : Nat) (x1 : Int) (x5 : Int) (qa0 : 0 < a0 ∧ M0 0 a0 = kO 12)  : ∀ (N : Nat) (x6 : Int) (M : Mem) (_ : wX12_slides_L84 Q  a0 x1 x5 N x6 M), WW X Y 7 rmX12_slides (QI Q) M0 0 0 84 [(0, vR Y.1 a0), (1, vI x1), (5, vI x5), (6, vI x6)] [] M := by
  intro N
  induction N with
  | zero =>
    intro x6 M h
    exact h.elim
  | succ N ih =>
    intro x6 M h
    unfold wX12_slides_L84 at h
    refine r_iload hC 3 dX12_slides_84 rfl ?_
    refine r_aload_n hC 0 dX12_slides_86 rfl rfl ?_
    refine r_getI hC fg_X12_162 rfl qa0.1 qa0.2 dX12_slides_87 ?_
    refine r_icmp_ge hC 118 rfl rfl dX12_slides_90 (by decide) (fun cq => ?_) (fun cq => ?_)
    · replace h := h.1 cq
      refine r_iload hC 2 dX12_slides_118 rfl ?_
      exact r_iret hC (Nat.zero_le _) (Nat.zero_le _) dX12_slides_120 ⟨_, rfl, h⟩
    · replace h := h.2 cq
      refine r_aload_n hC 0 dX12_slides_93 rfl rfl ?_
      have q_17 : 0 < a0 + 21 ∧ M0 0 (a0 + 21) = kA 0 96 := lay_f0 (a := a0) hL qa0 fm_12_38
      refine r_getR0 (a' := a0 + 21) hC fg_X12_72 rfl hF fm_12_38 qa0.1 qa0.2 rfl dX12_slides_94 ?_
      refine r_bipush hC (by decide +kernel) dX12_slides_97 ?_
      refine r_iload_n hC 1 dX12_slides_99 rfl rfl ?_
      refine r_imul hC dX12_slides_100 ?_
      refine r_iload hC 3 dX12_slides_101 rfl ?_
      refine r_iadd hC dX12_slides_103 ?_
      refine r_aload_n hC 0 dX12_slides_104 rfl rfl ?_
      have q_18 : 0 < a0 + 7 ∧ M0 0 (a0 + 7) = kA 0 12 := lay_f0 (a := a0) hL qa0 fm_12_12
      refine r_getR0 (a' := a0 + 7) hC fg_X12_28 rfl hF fm_12_12 qa0.1 qa0.2 rfl dX12_slides_105 ?_
      refine r_iload hC 3 dX12_slides_108 rfl ?_
      obtain ⟨i_19, h⟩ := h
      refine r_iald hC i_19 q_18.1 q_18.2 (by decide) dX12_slides_110 ?_
      obtain ⟨i_20, h⟩ := h
      refine r_iast hC i_20 q_17.1 q_17.2 (by decide) dX12_slides_111 ?_
      refine r_nameM h (fun M_21 h => ?_)
      refine let_elim h (fun x6_22 e_23 h => ?_)
      refine r_iinc (lv' := [(6, vI x6_22), (0, vR Y.1 a0), (1, vI x1), (5, vI x5)]) hC 3 dX12_slides_112 rfl (by decide) e_23 rfl ?_
      refine r_goto hC 84 dX12_slides_115 (by decide) ?_
      refine r_sub [1, 2, 3, 0] rfl ?_
      exact ih _ _ h
set_option maxHeartbeats 4000000 in
set_option maxRecDepth 100000 in
theorem tX12_slides_J81 {X : Cx} {Y : Yx} {M0 : Mem} (hC : OKX X Y RX12 cX12_slides 7 (some .int) rmX12_slides) (hF : Y.2.2.2.2 = true) (hL : Lay M0) (Q : Int → Mem → Prop)   (a0 : Nat) (x1 : Int) (x5 : Int) (qa0 : 0 < a0 ∧ M0 0 a0 = kO 12)  (M : Mem) (h : wX12_slides_J81 Q  a0 x1 x5 M) : WW X Y 7 rmX12_slides (QI Q) M0 0 0 81 [(0, vR Y.1 a0), (1, vI x1), (5, vI x5)] [] M := by
  unfold wX12_slides_J81 at h
  refine r_iconst hC dX12_slides_81 ?_
  refine r_istore (lv' := [(6, vI 0), (0, vR Y.1 a0), (1, vI x1), (5, vI x5)]) hC dX12_slides_82 (by decide) rfl ?_
  refine r_sub [1, 2, 3, 0] rfl ?_
  obtain ⟨N_24, h⟩ := h
  refine tX12_slides_L84 hC hF hL Q  _ _ _ qa0  N_24 _ _ h
set_option maxHeartbeats 4000000 in
set_option maxRecDepth 100000 in
theorem mX12_slides (Y : Yx) (hF : Y.2.2.2.2 = true) (l : Launch) (a0 : Nat) (x1 : Int) (x2 : Int) (x3 : Int) (M0 : Mem) (Q : Int → Mem → Prop) (qa0 : 0 < a0 ∧ M0 0 a0 = kO 12) (h : wX12_slides a0 x1 x2 x3 M0 Q) : CT Y l yX12_slides cX12_slides 7 (some .int) rmX12_slides [vR Y.1 a0, vI x1, vI x2, vI x3] M0 (QI Q) := by
  unfold wX12_slides at h
  refine ct_intro (by decide) (Nat.le_of_ble_eq_true rfl) ?_
  intro X hXl hC hL0
  have hL := hL0 hF
  change OKX X Y RX12 cX12_slides 7 (some .int) rmX12_slides at hC
  change WW X Y 7 rmX12_slides (QI Q) M0 0 0 0 [(0, vR Y.1 a0), (1, vI x1), (2, vI x2), (3, vI x3)] [] M0
  refine r_iload_n hC 1 dX12_slides_0 rfl rfl ?_
  refine r_callS (As := [vI x1]) (st := []) hC cw_X12_214 rfl rfl (Nat.le_of_ble_eq_true rfl) ⟨Nat.le_of_ble_eq_true rfl, Nat.le_of_ble_eq_true rfl⟩ ⟨Nat.le_of_ble_eq_true rfl, Nat.le_of_ble_eq_true rfl⟩ dX12_slides_1 (fun hk => mX12_isSheet Y hF _ _ _ _  h) (fun v M_1 h => ?_)
  obtain ⟨r_2, rfl, h⟩ := h
  refine r_if_eq hC 17 rfl dX12_slides_4 (by decide) (fun cq => ?_) (fun cq => ?_)
  · replace h := h.1 cq
    refine r_sub [0] rfl ?_
    exact tX12_slides_J17 hC hF hL Q   _ qa0  _ h
  · replace h := h.2 cq
    refine r_iload_n hC 3 dX12_slides_7 rfl rfl ?_
    refine r_iconst hC dX12_slides_8 ?_
    refine r_bipush hC (by decide +kernel) dX12_slides_9 ?_
    refine r_callS (As := [vI x3, vI 1, vI 20]) (st := []) hC cw_X12_79 rfl rfl (Nat.le_of_ble_eq_true rfl) ⟨Nat.le_of_ble_eq_true rfl, Nat.le_of_ble_eq_true rfl⟩ ⟨Nat.le_of_ble_eq_true rfl, Nat.le_of_ble_eq_true rfl⟩ dX12_slides_11 (fun hk => mX12_in Y hF _ _ _ _ _ _  h) (fun v M_5 h => ?_)
    obtain ⟨r_6, rfl, h⟩ := h
    refine r_if_ne hC 23 rfl dX12_slides_14 (by decide) (fun cq => ?_) (fun cq => ?_)
    · replace h := h.2 cq
      refine r_aload_n hC 0 dX12_slides_23 rfl rfl ?_
      refine r_iload_n hC 1 dX12_slides_24 rfl rfl ?_
      refine r_iload_n hC 2 dX12_slides_25 rfl rfl ?_
      refine r_callV (As := [vI x1, vI x2]) (st := []) hC cw_X12_217 rfl qa0.1 qa0.2 rfl rfl (Nat.le_of_ble_eq_true rfl) ⟨Nat.le_of_ble_eq_true rfl, Nat.le_of_ble_eq_true rfl⟩ ⟨Nat.le_of_ble_eq_true rfl, Nat.le_of_ble_eq_true rfl⟩ dX12_slides_26 (fun hk => mX12_take Y hF _ _ _ _ _ _ (kqO hk qa0) h) (fun v M_7 h => ?_)
      obtain ⟨r_8, rfl, h⟩ := h
      refine r_istore (lv' := [(4, vI r_8), (0, vR Y.1 a0), (1, vI x1), (2, vI x2), (3, vI x3)]) hC dX12_slides_29 (by decide) rfl ?_
      refine r_iload hC 0 dX12_slides_31 rfl ?_
      refine r_if_le hC 43 rfl dX12_slides_33 (by decide) (fun cq => ?_) (fun cq => ?_)
      · replace h := h.1 cq
        refine r_iconst hC dX12_slides_43 ?_
        refine r_istore (lv' := [(5, vI 0), (4, vI r_8), (0, vR Y.1 a0), (1, vI x1), (2, vI x2), (3, vI x3)]) hC dX12_slides_44 (by decide) rfl ?_
        refine r_sub [2, 3, 5, 0] rfl ?_
        obtain ⟨N_25, h⟩ := h
        refine tX12_slides_L46 hC hF hL Q _ _ _ _ qa0 ?_ N_25 _ _ h
        · intro x5_15 M_16 h
          refine r_sub [0, 1, 2] rfl ?_
          exact tX12_slides_J81 hC hF hL Q   _ _ _ qa0  _ h
      · replace h := h.2 cq
        refine r_aload_n hC 1 dX12_slides_36 rfl rfl ?_
        refine r_iload hC 0 dX12_slides_37 rfl ?_
        refine r_callV (As := [vI r_8]) (st := []) hC cw_X12_83 rfl qa0.1 qa0.2 rfl rfl (Nat.le_of_ble_eq_true rfl) ⟨Nat.le_of_ble_eq_true rfl, Nat.le_of_ble_eq_true rfl⟩ ⟨Nat.le_of_ble_eq_true rfl, Nat.le_of_ble_eq_true rfl⟩ dX12_slides_39 (fun hk => mX12_error Y hF _ _ _ _ _ (kqO hk qa0) h) (fun v M_26 h => ?_)
        obtain ⟨r_27, rfl, h⟩ := h
        exact r_iret hC (Nat.zero_le _) (Nat.zero_le _) dX12_slides_42 ⟨_, rfl, h⟩
    · replace h := h.1 cq
      refine r_sub [0] rfl ?_
      exact tX12_slides_J17 hC hF hL Q   _ qa0  _ h
