theorem dX11_judge_0 : dec cX11_judge 0 1 1 (.aload_n 0) := ⟨by decide +kernel, rfl⟩
theorem dX11_judge_1 : dec cX11_judge 1 1 2 (.iload_n 1) := ⟨by decide +kernel, rfl⟩
theorem dX11_judge_2 : dec cX11_judge 2 1 3 (.iload_n 2) := ⟨by decide +kernel, rfl⟩
theorem dX11_judge_3 : dec cX11_judge 3 1 4 (.iload_n 3) := ⟨by decide +kernel, rfl⟩
theorem dX11_judge_4 : dec cX11_judge 4 1 5 (.iconst 0) := ⟨by decide +kernel, rfl⟩
theorem dX11_judge_5 : dec cX11_judge 5 1 6 (.iconst 4) := ⟨by decide +kernel, rfl⟩
theorem dX11_judge_6 : dec cX11_judge 6 3 9 (.invokestatic 87) := ⟨by decide +kernel, rfl⟩
theorem dX11_judge_9 : dec cX11_judge 9 3 12 (.invokevirtual 213) := ⟨by decide +kernel, rfl⟩
theorem dX11_judge_12 : dec cX11_judge 12 2 14 (.istore 4) := ⟨by decide +kernel, rfl⟩
theorem dX11_judge_14 : dec cX11_judge 14 2 16 (.iload 4) := ⟨by decide +kernel, rfl⟩
theorem dX11_judge_16 : dec cX11_judge 16 3 19 (.ifCond .eq 10) := ⟨by decide +kernel, rfl⟩
theorem dX11_judge_19 : dec cX11_judge 19 1 20 (.aload_n 0) := ⟨by decide +kernel, rfl⟩
theorem dX11_judge_20 : dec cX11_judge 20 2 22 (.iload 4) := ⟨by decide +kernel, rfl⟩
theorem dX11_judge_22 : dec cX11_judge 22 3 25 (.invokevirtual 91) := ⟨by decide +kernel, rfl⟩
theorem dX11_judge_25 : dec cX11_judge 25 1 26 (.ireturn) := ⟨by decide +kernel, rfl⟩
theorem dX11_judge_26 : dec cX11_judge 26 1 27 (.aload_n 0) := ⟨by decide +kernel, rfl⟩
theorem dX11_judge_27 : dec cX11_judge 27 3 30 (.getfield 48) := ⟨by decide +kernel, rfl⟩
theorem dX11_judge_30 : dec cX11_judge 30 1 31 (.aload_n 0) := ⟨by decide +kernel, rfl⟩
theorem dX11_judge_31 : dec cX11_judge 31 3 34 (.getfield 36) := ⟨by decide +kernel, rfl⟩
theorem dX11_judge_34 : dec cX11_judge 34 1 35 (.iconst 0) := ⟨by decide +kernel, rfl⟩
theorem dX11_judge_35 : dec cX11_judge 35 3 38 (.invokevirtual 221) := ⟨by decide +kernel, rfl⟩
theorem dX11_judge_38 : dec cX11_judge 38 1 39 (.iload_n 3) := ⟨by decide +kernel, rfl⟩
theorem dX11_judge_39 : dec cX11_judge 39 29 68 (.tableswitch 93 0 3 #[29, 45, 61, 77]) := ⟨by decide +kernel, rfl⟩
theorem dX11_judge_68 : dec cX11_judge 68 1 69 (.aload_n 0) := ⟨by decide +kernel, rfl⟩
theorem dX11_judge_69 : dec cX11_judge 69 3 72 (.getfield 48) := ⟨by decide +kernel, rfl⟩
theorem dX11_judge_72 : dec cX11_judge 72 3 75 (.getfield 242) := ⟨by decide +kernel, rfl⟩
theorem dX11_judge_75 : dec cX11_judge 75 1 76 (.aload_n 0) := ⟨by decide +kernel, rfl⟩
theorem dX11_judge_76 : dec cX11_judge 76 3 79 (.getfield 36) := ⟨by decide +kernel, rfl⟩
theorem dX11_judge_79 : dec cX11_judge 79 3 82 (.getfield 236) := ⟨by decide +kernel, rfl⟩
theorem dX11_judge_82 : dec cX11_judge 82 1 83 (.iaload) := ⟨by decide +kernel, rfl⟩
theorem dX11_judge_83 : dec cX11_judge 83 1 84 (.ireturn) := ⟨by decide +kernel, rfl⟩
theorem dX11_judge_84 : dec cX11_judge 84 1 85 (.aload_n 0) := ⟨by decide +kernel, rfl⟩
theorem dX11_judge_85 : dec cX11_judge 85 3 88 (.getfield 48) := ⟨by decide +kernel, rfl⟩
theorem dX11_judge_88 : dec cX11_judge 88 3 91 (.getfield 245) := ⟨by decide +kernel, rfl⟩
theorem dX11_judge_91 : dec cX11_judge 91 1 92 (.aload_n 0) := ⟨by decide +kernel, rfl⟩
theorem dX11_judge_92 : dec cX11_judge 92 3 95 (.getfield 36) := ⟨by decide +kernel, rfl⟩
theorem dX11_judge_95 : dec cX11_judge 95 3 98 (.getfield 236) := ⟨by decide +kernel, rfl⟩
theorem dX11_judge_98 : dec cX11_judge 98 1 99 (.iaload) := ⟨by decide +kernel, rfl⟩
theorem dX11_judge_99 : dec cX11_judge 99 1 100 (.ireturn) := ⟨by decide +kernel, rfl⟩
theorem dX11_judge_100 : dec cX11_judge 100 1 101 (.aload_n 0) := ⟨by decide +kernel, rfl⟩
theorem dX11_judge_101 : dec cX11_judge 101 3 104 (.getfield 48) := ⟨by decide +kernel, rfl⟩
theorem dX11_judge_104 : dec cX11_judge 104 3 107 (.getfield 248) := ⟨by decide +kernel, rfl⟩
theorem dX11_judge_107 : dec cX11_judge 107 1 108 (.aload_n 0) := ⟨by decide +kernel, rfl⟩
theorem dX11_judge_108 : dec cX11_judge 108 3 111 (.getfield 36) := ⟨by decide +kernel, rfl⟩
theorem dX11_judge_111 : dec cX11_judge 111 3 114 (.getfield 236) := ⟨by decide +kernel, rfl⟩
theorem dX11_judge_114 : dec cX11_judge 114 1 115 (.iaload) := ⟨by decide +kernel, rfl⟩
theorem dX11_judge_115 : dec cX11_judge 115 1 116 (.ireturn) := ⟨by decide +kernel, rfl⟩
theorem dX11_judge_116 : dec cX11_judge 116 1 117 (.aload_n 0) := ⟨by decide +kernel, rfl⟩
theorem dX11_judge_117 : dec cX11_judge 117 3 120 (.getfield 48) := ⟨by decide +kernel, rfl⟩
theorem dX11_judge_120 : dec cX11_judge 120 3 123 (.getfield 251) := ⟨by decide +kernel, rfl⟩
theorem dX11_judge_123 : dec cX11_judge 123 1 124 (.aload_n 0) := ⟨by decide +kernel, rfl⟩
theorem dX11_judge_124 : dec cX11_judge 124 3 127 (.getfield 36) := ⟨by decide +kernel, rfl⟩
theorem dX11_judge_127 : dec cX11_judge 127 3 130 (.getfield 236) := ⟨by decide +kernel, rfl⟩
theorem dX11_judge_130 : dec cX11_judge 130 1 131 (.iaload) := ⟨by decide +kernel, rfl⟩
theorem dX11_judge_131 : dec cX11_judge 131 1 132 (.ireturn) := ⟨by decide +kernel, rfl⟩
theorem dX11_judge_132 : dec cX11_judge 132 1 133 (.aload_n 0) := ⟨by decide +kernel, rfl⟩
theorem dX11_judge_133 : dec cX11_judge 133 3 136 (.getfield 48) := ⟨by decide +kernel, rfl⟩
theorem dX11_judge_136 : dec cX11_judge 136 1 137 (.aload_n 0) := ⟨by decide +kernel, rfl⟩
theorem dX11_judge_137 : dec cX11_judge 137 3 140 (.getfield 36) := ⟨by decide +kernel, rfl⟩
theorem dX11_judge_140 : dec cX11_judge 140 3 143 (.getfield 236) := ⟨by decide +kernel, rfl⟩
theorem dX11_judge_143 : dec cX11_judge 143 3 146 (.invokevirtual 254) := ⟨by decide +kernel, rfl⟩
theorem dX11_judge_146 : dec cX11_judge 146 3 149 (.ifCond .eq 7) := ⟨by decide +kernel, rfl⟩
theorem dX11_judge_149 : dec cX11_judge 149 1 150 (.iconst 1) := ⟨by decide +kernel, rfl⟩
theorem dX11_judge_150 : dec cX11_judge 150 3 153 (.goto 4) := ⟨by decide +kernel, rfl⟩
theorem dX11_judge_153 : dec cX11_judge 153 1 154 (.iconst 0) := ⟨by decide +kernel, rfl⟩
theorem dX11_judge_154 : dec cX11_judge 154 1 155 (.ireturn) := ⟨by decide +kernel, rfl⟩
set_option maxHeartbeats 4000000 in
set_option maxRecDepth 100000 in
theorem mX11_judge (Y : Yx) (hF : Y.2.2.2.2 = true) (l : Launch) (a0 : Nat) (x1 : Int) (x2 : Int) (x3 : Int) (M0 : Mem) (Q : Int → Mem → Prop) (qa0 : 0 < a0 ∧ M0 0 a0 = kO 11) (h : wX11_judge a0 x1 x2 x3 M0 Q) : CT Y l yX11_judge cX11_judge 5 (some .int) rmX11_judge [vR Y.1 a0, vI x1, vI x2, vI x3] M0 (QI Q) := by
  unfold wX11_judge at h
  refine ct_intro (by decide) (Nat.le_of_ble_eq_true rfl) ?_
  intro X hXl hC hL0
  have hL := hL0 hF
  change OKX X Y RX11 cX11_judge 5 (some .int) rmX11_judge at hC
  change WW X Y 5 rmX11_judge (QI Q) M0 0 0 0 [(0, vR Y.1 a0), (1, vI x1), (2, vI x2), (3, vI x3)] [] M0
  refine r_aload_n hC 0 dX11_judge_0 rfl rfl ?_
  refine r_iload_n hC 1 dX11_judge_1 rfl rfl ?_
  refine r_iload_n hC 2 dX11_judge_2 rfl rfl ?_
  refine r_iload_n hC 3 dX11_judge_3 rfl rfl ?_
  refine r_iconst hC dX11_judge_4 ?_
  refine r_iconst hC dX11_judge_5 ?_
  refine r_callS (As := [vI x3, vI 0, vI 4]) (st := [vI x2, vI x1, vR Y.1 a0]) hC cw_X11_87 rfl rfl (Nat.le_of_ble_eq_true rfl) ⟨Nat.le_of_ble_eq_true rfl, Nat.le_of_ble_eq_true rfl⟩ ⟨Nat.le_of_ble_eq_true rfl, Nat.le_of_ble_eq_true rfl⟩ dX11_judge_6 (fun hk => mX11_within Y hF _ _ _ _ _ _  h) (fun v M_1 h => ?_)
  obtain ⟨r_2, rfl, h⟩ := h
  refine r_callV (As := [vI x1, vI x2, vI r_2]) (st := []) hC cw_X11_213 rfl qa0.1 qa0.2 rfl rfl (Nat.le_of_ble_eq_true rfl) ⟨Nat.le_of_ble_eq_true rfl, Nat.le_of_ble_eq_true rfl⟩ ⟨Nat.le_of_ble_eq_true rfl, Nat.le_of_ble_eq_true rfl⟩ dX11_judge_9 (fun hk => mX11_rowFault Y hF _ _ _ _ _ _ _ (kqO hk qa0) h) (fun v M_3 h => ?_)
  obtain ⟨r_4, rfl, h⟩ := h
  refine r_istore (lv' := [(4, vI r_4), (0, vR Y.1 a0), (1, vI x1), (2, vI x2), (3, vI x3)]) hC dX11_judge_12 (by decide) rfl ?_
  refine r_iload hC 0 dX11_judge_14 rfl ?_
  refine r_if_eq hC 26 rfl dX11_judge_16 (by decide) (fun cq => ?_) (fun cq => ?_)
  · replace h := h.1 cq
    refine r_aload_n hC 1 dX11_judge_26 rfl rfl ?_
    have q_5 : 0 < a0 + 90 ∧ M0 0 (a0 + 90) = kO 10 := lay_f0 (a := a0) hL qa0 fm_11_7
    refine r_getR0 (a' := a0 + 90) hC fg_X11_48 rfl hF fm_11_7 qa0.1 qa0.2 rfl dX11_judge_27 ?_
    refine r_aload_n hC 1 dX11_judge_30 rfl rfl ?_
    have q_6 : 0 < a0 + 86 ∧ M0 0 (a0 + 86) = kO 5 := lay_f0 (a := a0) hL qa0 fm_11_5
    refine r_getR0 (a' := a0 + 86) hC fg_X11_36 rfl hF fm_11_5 qa0.1 qa0.2 rfl dX11_judge_31 ?_
    refine r_iconst hC dX11_judge_34 ?_
    refine r_callV (As := [vR Y.1 (a0 + 86), vI 0]) (st := []) hC cw_X11_221 rfl q_5.1 q_5.2 rfl rfl (Nat.le_of_ble_eq_true rfl) ⟨Nat.le_of_ble_eq_true rfl, Nat.le_of_ble_eq_true rfl⟩ ⟨Nat.le_of_ble_eq_true rfl, Nat.le_of_ble_eq_true rfl⟩ dX11_judge_35 (fun hk => mX10_along Y hF _ _ _ _ _ _ (kqO hk q_5) (kqO hk q_6) h) (fun v M_7 h => ?_)
    obtain ⟨rfl, h⟩ := h
    refine r_iload_n hC 4 dX11_judge_38 rfl rfl ?_
    by_cases c0 : bm x3 = 0
    · replace h := h.1 c0
      refine r_tabIn hC 68 0 dX11_judge_39 c0 (by decide) (by decide) rfl (by decide) ?_
      refine r_aload_n hC 1 dX11_judge_68 rfl rfl ?_
      have q_8 : 0 < a0 + 90 ∧ M0 0 (a0 + 90) = kO 10 := lay_f0 (a := a0) hL qa0 fm_11_7
      refine r_getR0 (a' := a0 + 90) hC fg_X11_48 rfl hF fm_11_7 qa0.1 qa0.2 rfl dX11_judge_69 ?_
      have q_9 : 0 < a0 + 93 ∧ M0 0 (a0 + 93) = kA 0 13 := lay_f0 (a := a0 + 90) hL q_8 fm_10_6
      refine r_getR0 (a' := a0 + 93) hC fg_X11_242 rfl hF fm_10_6 q_8.1 q_8.2 rfl dX11_judge_72 ?_
      refine r_aload_n hC 1 dX11_judge_75 rfl rfl ?_
      have q_10 : 0 < a0 + 86 ∧ M0 0 (a0 + 86) = kO 5 := lay_f0 (a := a0) hL qa0 fm_11_5
      refine r_getR0 (a' := a0 + 86) hC fg_X11_36 rfl hF fm_11_5 qa0.1 qa0.2 rfl dX11_judge_76 ?_
      refine r_getI hC fg_X11_236 rfl q_10.1 q_10.2 dX11_judge_79 ?_
      obtain ⟨i_11, h⟩ := h
      refine r_iald hC i_11 q_9.1 q_9.2 (by decide) dX11_judge_82 ?_
      exact r_iret hC (Nat.zero_le _) (Nat.zero_le _) dX11_judge_83 ⟨_, rfl, h⟩
    · replace h := h.2 c0
      by_cases c1 : bm x3 = 1
      · replace h := h.1 c1
        refine r_tabIn hC 84 1 dX11_judge_39 c1 (by decide) (by decide) rfl (by decide) ?_
        refine r_aload_n hC 1 dX11_judge_84 rfl rfl ?_
        have q_12 : 0 < a0 + 90 ∧ M0 0 (a0 + 90) = kO 10 := lay_f0 (a := a0) hL qa0 fm_11_7
        refine r_getR0 (a' := a0 + 90) hC fg_X11_48 rfl hF fm_11_7 qa0.1 qa0.2 rfl dX11_judge_85 ?_
        have q_13 : 0 < a0 + 94 ∧ M0 0 (a0 + 94) = kA 0 13 := lay_f0 (a := a0 + 90) hL q_12 fm_10_7
        refine r_getR0 (a' := a0 + 94) hC fg_X11_245 rfl hF fm_10_7 q_12.1 q_12.2 rfl dX11_judge_88 ?_
        refine r_aload_n hC 1 dX11_judge_91 rfl rfl ?_
        have q_14 : 0 < a0 + 86 ∧ M0 0 (a0 + 86) = kO 5 := lay_f0 (a := a0) hL qa0 fm_11_5
        refine r_getR0 (a' := a0 + 86) hC fg_X11_36 rfl hF fm_11_5 qa0.1 qa0.2 rfl dX11_judge_92 ?_
        refine r_getI hC fg_X11_236 rfl q_14.1 q_14.2 dX11_judge_95 ?_
        obtain ⟨i_15, h⟩ := h
        refine r_iald hC i_15 q_13.1 q_13.2 (by decide) dX11_judge_98 ?_
        exact r_iret hC (Nat.zero_le _) (Nat.zero_le _) dX11_judge_99 ⟨_, rfl, h⟩
      · replace h := h.2 c1
        by_cases c2 : bm x3 = 2
        · replace h := h.1 c2
          refine r_tabIn hC 100 2 dX11_judge_39 c2 (by decide) (by decide) rfl (by decide) ?_
          refine r_aload_n hC 1 dX11_judge_100 rfl rfl ?_
          have q_16 : 0 < a0 + 90 ∧ M0 0 (a0 + 90) = kO 10 := lay_f0 (a := a0) hL qa0 fm_11_7
          refine r_getR0 (a' := a0 + 90) hC fg_X11_48 rfl hF fm_11_7 qa0.1 qa0.2 rfl dX11_judge_101 ?_
          have q_17 : 0 < a0 + 97 ∧ M0 0 (a0 + 97) = kA 0 13 := lay_f0 (a := a0 + 90) hL q_16 fm_10_10
          refine r_getR0 (a' := a0 + 97) hC fg_X11_248 rfl hF fm_10_10 q_16.1 q_16.2 rfl dX11_judge_104 ?_
          refine r_aload_n hC 1 dX11_judge_107 rfl rfl ?_
          have q_18 : 0 < a0 + 86 ∧ M0 0 (a0 + 86) = kO 5 := lay_f0 (a := a0) hL qa0 fm_11_5
          refine r_getR0 (a' := a0 + 86) hC fg_X11_36 rfl hF fm_11_5 qa0.1 qa0.2 rfl dX11_judge_108 ?_
          refine r_getI hC fg_X11_236 rfl q_18.1 q_18.2 dX11_judge_111 ?_
          obtain ⟨i_19, h⟩ := h
          refine r_iald hC i_19 q_17.1 q_17.2 (by decide) dX11_judge_114 ?_
          exact r_iret hC (Nat.zero_le _) (Nat.zero_le _) dX11_judge_115 ⟨_, rfl, h⟩
        · replace h := h.2 c2
          by_cases c3 : bm x3 = 3
          · replace h := h.1 c3
            refine r_tabIn hC 116 3 dX11_judge_39 c3 (by decide) (by decide) rfl (by decide) ?_
            refine r_aload_n hC 1 dX11_judge_116 rfl rfl ?_
            have q_20 : 0 < a0 + 90 ∧ M0 0 (a0 + 90) = kO 10 := lay_f0 (a := a0) hL qa0 fm_11_7
            refine r_getR0 (a' := a0 + 90) hC fg_X11_48 rfl hF fm_11_7 qa0.1 qa0.2 rfl dX11_judge_117 ?_
            have q_21 : 0 < a0 + 96 ∧ M0 0 (a0 + 96) = kA 0 13 := lay_f0 (a := a0 + 90) hL q_20 fm_10_9
            refine r_getR0 (a' := a0 + 96) hC fg_X11_251 rfl hF fm_10_9 q_20.1 q_20.2 rfl dX11_judge_120 ?_
            refine r_aload_n hC 1 dX11_judge_123 rfl rfl ?_
            have q_22 : 0 < a0 + 86 ∧ M0 0 (a0 + 86) = kO 5 := lay_f0 (a := a0) hL qa0 fm_11_5
            refine r_getR0 (a' := a0 + 86) hC fg_X11_36 rfl hF fm_11_5 qa0.1 qa0.2 rfl dX11_judge_124 ?_
            refine r_getI hC fg_X11_236 rfl q_22.1 q_22.2 dX11_judge_127 ?_
            obtain ⟨i_23, h⟩ := h
            refine r_iald hC i_23 q_21.1 q_21.2 (by decide) dX11_judge_130 ?_
            exact r_iret hC (Nat.zero_le _) (Nat.zero_le _) dX11_judge_131 ⟨_, rfl, h⟩
          · replace h := h.2 c3
            refine r_tabOut hC 132 dX11_judge_39 (by omega) (by decide) ?_
            refine r_aload_n hC 1 dX11_judge_132 rfl rfl ?_
            have q_24 : 0 < a0 + 90 ∧ M0 0 (a0 + 90) = kO 10 := lay_f0 (a := a0) hL qa0 fm_11_7
            refine r_getR0 (a' := a0 + 90) hC fg_X11_48 rfl hF fm_11_7 qa0.1 qa0.2 rfl dX11_judge_133 ?_
            refine r_aload_n hC 1 dX11_judge_136 rfl rfl ?_
            have q_25 : 0 < a0 + 86 ∧ M0 0 (a0 + 86) = kO 5 := lay_f0 (a := a0) hL qa0 fm_11_5
            refine r_getR0 (a' := a0 + 86) hC fg_X11_36 rfl hF fm_11_5 qa0.1 qa0.2 rfl dX11_judge_137 ?_
            refine r_getI hC fg_X11_236 rfl q_25.1 q_25.2 dX11_judge_140 ?_
            refine r_callV (As := [vI (M_7 (a0 + 86) 1)]) (st := []) hC cw_X11_254 rfl q_24.1 q_24.2 rfl rfl (Nat.le_of_ble_eq_true rfl) ⟨Nat.le_of_ble_eq_true rfl, Nat.le_of_ble_eq_true rfl⟩ ⟨Nat.le_of_ble_eq_true rfl, Nat.le_of_ble_eq_true rfl⟩ dX11_judge_143 (fun hk => mX10_isGood Y hF _ _ _ _ _ (kqO hk q_24) h) (fun v M_26 h => ?_)
            obtain ⟨r_27, rfl, h⟩ := h
            refine r_if_eq hC 153 rfl dX11_judge_146 (by decide) (fun cq => ?_) (fun cq => ?_)
            · replace h := h.1 cq
              refine r_iconst hC dX11_judge_153 ?_
              exact r_iret hC (Nat.zero_le _) (Nat.zero_le _) dX11_judge_154 ⟨_, rfl, h⟩
            · replace h := h.2 cq
              refine r_iconst hC dX11_judge_149 ?_
              refine r_goto hC 154 dX11_judge_150 (by decide) ?_
              exact r_iret hC (Nat.zero_le _) (Nat.zero_le _) dX11_judge_154 ⟨_, rfl, h⟩
  · replace h := h.2 cq
    refine r_aload_n hC 1 dX11_judge_19 rfl rfl ?_
    refine r_iload hC 0 dX11_judge_20 rfl ?_
    refine r_callV (As := [vI r_4]) (st := []) hC cw_X11_91 rfl qa0.1 qa0.2 rfl rfl (Nat.le_of_ble_eq_true rfl) ⟨Nat.le_of_ble_eq_true rfl, Nat.le_of_ble_eq_true rfl⟩ ⟨Nat.le_of_ble_eq_true rfl, Nat.le_of_ble_eq_true rfl⟩ dX11_judge_22 (fun hk => mX11_error Y hF _ _ _ _ _ (kqO hk qa0) h) (fun v M_28 h => ?_)
    obtain ⟨r_29, rfl, h⟩ := h
    exact r_iret hC (Nat.zero_le _) (Nat.zero_le _) dX11_judge_25 ⟨_, rfl, h⟩
theorem dX11_begins_0 : dec cX11_begins 0 1 1 (.aload_n 0) := ⟨by decide +kernel, rfl⟩
theorem dX11_begins_1 : dec cX11_begins 1 1 2 (.iload_n 1) := ⟨by decide +kernel, rfl⟩
theorem dX11_begins_2 : dec cX11_begins 2 1 3 (.iload_n 2) := ⟨by decide +kernel, rfl⟩
theorem dX11_begins_3 : dec cX11_begins 3 1 4 (.iconst 1) := ⟨by decide +kernel, rfl⟩
theorem dX11_begins_4 : dec cX11_begins 4 3 7 (.invokevirtual 213) := ⟨by decide +kernel, rfl⟩
theorem dX11_begins_7 : dec cX11_begins 7 2 9 (.istore 4) := ⟨by decide +kernel, rfl⟩
theorem dX11_begins_9 : dec cX11_begins 9 2 11 (.iload 4) := ⟨by decide +kernel, rfl⟩
theorem dX11_begins_11 : dec cX11_begins 11 3 14 (.ifCond .ne 23) := ⟨by decide +kernel, rfl⟩
theorem dX11_begins_14 : dec cX11_begins 14 1 15 (.iload_n 3) := ⟨by decide +kernel, rfl⟩
theorem dX11_begins_15 : dec cX11_begins 15 1 16 (.iconst 0) := ⟨by decide +kernel, rfl⟩
theorem dX11_begins_16 : dec cX11_begins 16 1 17 (.aload_n 0) := ⟨by decide +kernel, rfl⟩
theorem dX11_begins_17 : dec cX11_begins 17 3 20 (.getfield 36) := ⟨by decide +kernel, rfl⟩
theorem dX11_begins_20 : dec cX11_begins 20 3 23 (.getfield 236) := ⟨by decide +kernel, rfl⟩
theorem dX11_begins_23 : dec cX11_begins 23 1 24 (.iconst 1) := ⟨by decide +kernel, rfl⟩
theorem dX11_begins_24 : dec cX11_begins 24 1 25 (.isub) := ⟨by decide +kernel, rfl⟩
theorem dX11_begins_25 : dec cX11_begins 25 3 28 (.invokestatic 87) := ⟨by decide +kernel, rfl⟩
theorem dX11_begins_28 : dec cX11_begins 28 3 31 (.ifCond .ne 6) := ⟨by decide +kernel, rfl⟩
theorem dX11_begins_31 : dec cX11_begins 31 1 32 (.iconst 1) := ⟨by decide +kernel, rfl⟩
theorem dX11_begins_32 : dec cX11_begins 32 2 34 (.istore 4) := ⟨by decide +kernel, rfl⟩
theorem dX11_begins_34 : dec cX11_begins 34 2 36 (.iload 4) := ⟨by decide +kernel, rfl⟩
theorem dX11_begins_36 : dec cX11_begins 36 3 39 (.ifCond .eq 10) := ⟨by decide +kernel, rfl⟩
theorem dX11_begins_39 : dec cX11_begins 39 1 40 (.aload_n 0) := ⟨by decide +kernel, rfl⟩
theorem dX11_begins_40 : dec cX11_begins 40 2 42 (.iload 4) := ⟨by decide +kernel, rfl⟩
theorem dX11_begins_42 : dec cX11_begins 42 3 45 (.invokevirtual 91) := ⟨by decide +kernel, rfl⟩
theorem dX11_begins_45 : dec cX11_begins 45 1 46 (.ireturn) := ⟨by decide +kernel, rfl⟩
theorem dX11_begins_46 : dec cX11_begins 46 1 47 (.aload_n 0) := ⟨by decide +kernel, rfl⟩
theorem dX11_begins_47 : dec cX11_begins 47 3 50 (.getfield 48) := ⟨by decide +kernel, rfl⟩
theorem dX11_begins_50 : dec cX11_begins 50 1 51 (.aload_n 0) := ⟨by decide +kernel, rfl⟩
theorem dX11_begins_51 : dec cX11_begins 51 3 54 (.getfield 36) := ⟨by decide +kernel, rfl⟩
theorem dX11_begins_54 : dec cX11_begins 54 1 55 (.iconst 0) := ⟨by decide +kernel, rfl⟩
theorem dX11_begins_55 : dec cX11_begins 55 3 58 (.invokevirtual 221) := ⟨by decide +kernel, rfl⟩
theorem dX11_begins_58 : dec cX11_begins 58 1 59 (.aload_n 0) := ⟨by decide +kernel, rfl⟩
theorem dX11_begins_59 : dec cX11_begins 59 3 62 (.getfield 48) := ⟨by decide +kernel, rfl⟩
theorem dX11_begins_62 : dec cX11_begins 62 3 65 (.getfield 257) := ⟨by decide +kernel, rfl⟩
theorem dX11_begins_65 : dec cX11_begins 65 1 66 (.iload_n 3) := ⟨by decide +kernel, rfl⟩
theorem dX11_begins_66 : dec cX11_begins 66 1 67 (.iaload) := ⟨by decide +kernel, rfl⟩
theorem dX11_begins_67 : dec cX11_begins 67 1 68 (.ireturn) := ⟨by decide +kernel, rfl⟩
set_option maxHeartbeats 4000000 in
set_option maxRecDepth 100000 in
theorem tX11_begins_J34 {X : Cx} {Y : Yx} {M0 : Mem} (hC : OKX X Y RX11 cX11_begins 5 (some .int) rmX11_begins) (hF : Y.2.2.2.2 = true) (hL : Lay M0) (Q : Int → Mem → Prop)   (a0 : Nat) (x3 : Int) (x4 : Int) (qa0 : 0 < a0 ∧ M0 0 a0 = kO 11)  (M : Mem) (h : wX11_begins_J34 Q  a0 x3 x4 M) : WW X Y 5 rmX11_begins (QI Q) M0 0 0 34 [(0, vR Y.1 a0), (3, vI x3), (4, vI x4)] [] M := by
  unfold wX11_begins_J34 at h
  refine r_iload hC 2 dX11_begins_34 rfl ?_
  refine r_if_eq hC 46 rfl dX11_begins_36 (by decide) (fun cq => ?_) (fun cq => ?_)
  · replace h := h.1 cq
    refine r_aload_n hC 0 dX11_begins_46 rfl rfl ?_
    have q_3 : 0 < a0 + 90 ∧ M0 0 (a0 + 90) = kO 10 := lay_f0 (a := a0) hL qa0 fm_11_7
    refine r_getR0 (a' := a0 + 90) hC fg_X11_48 rfl hF fm_11_7 qa0.1 qa0.2 rfl dX11_begins_47 ?_
    refine r_aload_n hC 0 dX11_begins_50 rfl rfl ?_
    have q_4 : 0 < a0 + 86 ∧ M0 0 (a0 + 86) = kO 5 := lay_f0 (a := a0) hL qa0 fm_11_5
    refine r_getR0 (a' := a0 + 86) hC fg_X11_36 rfl hF fm_11_5 qa0.1 qa0.2 rfl dX11_begins_51 ?_
    refine r_iconst hC dX11_begins_54 ?_
    refine r_callV (As := [vR Y.1 (a0 + 86), vI 0]) (st := []) hC cw_X11_221 rfl q_3.1 q_3.2 rfl rfl (Nat.le_of_ble_eq_true rfl) ⟨Nat.le_of_ble_eq_true rfl, Nat.le_of_ble_eq_true rfl⟩ ⟨Nat.le_of_ble_eq_true rfl, Nat.le_of_ble_eq_true rfl⟩ dX11_begins_55 (fun hk => mX10_along Y hF _ _ _ _ _ _ (kqO hk q_3) (kqO hk q_4) h) (fun v M_5 h => ?_)
    obtain ⟨rfl, h⟩ := h
    refine r_aload_n hC 0 dX11_begins_58 rfl rfl ?_
    have q_6 : 0 < a0 + 90 ∧ M0 0 (a0 + 90) = kO 10 := lay_f0 (a := a0) hL qa0 fm_11_7
    refine r_getR0 (a' := a0 + 90) hC fg_X11_48 rfl hF fm_11_7 qa0.1 qa0.2 rfl dX11_begins_59 ?_
    have q_7 : 0 < a0 + 92 ∧ M0 0 (a0 + 92) = kA 0 12 := lay_f0 (a := a0 + 90) hL q_6 fm_10_5
    refine r_getR0 (a' := a0 + 92) hC fg_X11_257 rfl hF fm_10_5 q_6.1 q_6.2 rfl dX11_begins_62 ?_
    refine r_iload_n hC 1 dX11_begins_65 rfl rfl ?_
    obtain ⟨i_8, h⟩ := h
    refine r_iald hC i_8 q_7.1 q_7.2 (by decide) dX11_begins_66 ?_
    exact r_iret hC (Nat.zero_le _) (Nat.zero_le _) dX11_begins_67 ⟨_, rfl, h⟩
  · replace h := h.2 cq
    refine r_aload_n hC 0 dX11_begins_39 rfl rfl ?_
    refine r_iload hC 2 dX11_begins_40 rfl ?_
    refine r_callV (As := [vI x4]) (st := []) hC cw_X11_91 rfl qa0.1 qa0.2 rfl rfl (Nat.le_of_ble_eq_true rfl) ⟨Nat.le_of_ble_eq_true rfl, Nat.le_of_ble_eq_true rfl⟩ ⟨Nat.le_of_ble_eq_true rfl, Nat.le_of_ble_eq_true rfl⟩ dX11_begins_42 (fun hk => mX11_error Y hF _ _ _ _ _ (kqO hk qa0) h) (fun v M_9 h => ?_)
    obtain ⟨r_10, rfl, h⟩ := h
    exact r_iret hC (Nat.zero_le _) (Nat.zero_le _) dX11_begins_45 ⟨_, rfl, h⟩
set_option maxHeartbeats 4000000 in
set_option maxRecDepth 100000 in
theorem mX11_begins (Y : Yx) (hF : Y.2.2.2.2 = true) (l : Launch) (a0 : Nat) (x1 : Int) (x2 : Int) (x3 : Int) (M0 : Mem) (Q : Int → Mem → Prop) (qa0 : 0 < a0 ∧ M0 0 a0 = kO 11) (h : wX11_begins a0 x1 x2 x3 M0 Q) : CT Y l yX11_begins cX11_begins 5 (some .int) rmX11_begins [vR Y.1 a0, vI x1, vI x2, vI x3] M0 (QI Q) := by
  unfold wX11_begins at h
  refine ct_intro (by decide) (Nat.le_of_ble_eq_true rfl) ?_
  intro X hXl hC hL0
  have hL := hL0 hF
  change OKX X Y RX11 cX11_begins 5 (some .int) rmX11_begins at hC
  change WW X Y 5 rmX11_begins (QI Q) M0 0 0 0 [(0, vR Y.1 a0), (1, vI x1), (2, vI x2), (3, vI x3)] [] M0
  refine r_aload_n hC 0 dX11_begins_0 rfl rfl ?_
  refine r_iload_n hC 1 dX11_begins_1 rfl rfl ?_
  refine r_iload_n hC 2 dX11_begins_2 rfl rfl ?_
  refine r_iconst hC dX11_begins_3 ?_
  refine r_callV (As := [vI x1, vI x2, vI 1]) (st := []) hC cw_X11_213 rfl qa0.1 qa0.2 rfl rfl (Nat.le_of_ble_eq_true rfl) ⟨Nat.le_of_ble_eq_true rfl, Nat.le_of_ble_eq_true rfl⟩ ⟨Nat.le_of_ble_eq_true rfl, Nat.le_of_ble_eq_true rfl⟩ dX11_begins_4 (fun hk => mX11_rowFault Y hF _ _ _ _ _ _ _ (kqO hk qa0) h) (fun v M_1 h => ?_)
  obtain ⟨r_2, rfl, h⟩ := h
  refine r_istore (lv' := [(4, vI r_2), (0, vR Y.1 a0), (1, vI x1), (2, vI x2), (3, vI x3)]) hC dX11_begins_7 (by decide) rfl ?_
  refine r_iload hC 0 dX11_begins_9 rfl ?_
  refine r_if_ne hC 34 rfl dX11_begins_11 (by decide) (fun cq => ?_) (fun cq => ?_)
  · replace h := h.2 cq
    refine r_sub [1, 4, 0] rfl ?_
    exact tX11_begins_J34 hC hF hL Q   _ _ _ qa0  _ h
  · replace h := h.1 cq
    refine r_iload_n hC 4 dX11_begins_14 rfl rfl ?_
    refine r_iconst hC dX11_begins_15 ?_
    refine r_aload_n hC 1 dX11_begins_16 rfl rfl ?_
    have q_11 : 0 < a0 + 86 ∧ M0 0 (a0 + 86) = kO 5 := lay_f0 (a := a0) hL qa0 fm_11_5
    refine r_getR0 (a' := a0 + 86) hC fg_X11_36 rfl hF fm_11_5 qa0.1 qa0.2 rfl dX11_begins_17 ?_
    refine r_getI hC fg_X11_236 rfl q_11.1 q_11.2 dX11_begins_20 ?_
    refine r_iconst hC dX11_begins_23 ?_
    refine r_isub hC dX11_begins_24 ?_
    refine r_callS (As := [vI x3, vI 0, vI ((M_1 (a0 + 86) 1) - 1)]) (st := []) hC cw_X11_87 rfl rfl (Nat.le_of_ble_eq_true rfl) ⟨Nat.le_of_ble_eq_true rfl, Nat.le_of_ble_eq_true rfl⟩ ⟨Nat.le_of_ble_eq_true rfl, Nat.le_of_ble_eq_true rfl⟩ dX11_begins_25 (fun hk => mX11_within Y hF _ _ _ _ _ _  h) (fun v M_12 h => ?_)
    obtain ⟨r_13, rfl, h⟩ := h
    refine r_if_ne hC 34 rfl dX11_begins_28 (by decide) (fun cq => ?_) (fun cq => ?_)
    · replace h := h.2 cq
      refine r_sub [1, 4, 0] rfl ?_
      exact tX11_begins_J34 hC hF hL Q   _ _ _ qa0  _ h
    · replace h := h.1 cq
      refine r_iconst hC dX11_begins_31 ?_
      refine r_istore (lv' := [(4, vI 1), (0, vR Y.1 a0), (1, vI x1), (2, vI x2), (3, vI x3)]) hC dX11_begins_32 (by decide) rfl ?_
      refine r_sub [1, 4, 0] rfl ?_
      exact tX11_begins_J34 hC hF hL Q   _ _ _ qa0  _ h
theorem dX11_setFault_0 : dec cX11_setFault 0 1 1 (.iload_n 1) := ⟨by decide +kernel, rfl⟩
theorem dX11_setFault_1 : dec cX11_setFault 1 1 2 (.aload_n 0) := ⟨by decide +kernel, rfl⟩
theorem dX11_setFault_2 : dec cX11_setFault 2 3 5 (.getfield 10) := ⟨by decide +kernel, rfl⟩
theorem dX11_setFault_5 : dec cX11_setFault 5 3 8 (.getfield 95) := ⟨by decide +kernel, rfl⟩
theorem dX11_setFault_8 : dec cX11_setFault 8 1 9 (.iushr) := ⟨by decide +kernel, rfl⟩
theorem dX11_setFault_9 : dec cX11_setFault 9 3 12 (.ifCond .eq 5) := ⟨by decide +kernel, rfl⟩
theorem dX11_setFault_12 : dec cX11_setFault 12 1 13 (.iconst 1) := ⟨by decide +kernel, rfl⟩
theorem dX11_setFault_13 : dec cX11_setFault 13 1 14 (.ireturn) := ⟨by decide +kernel, rfl⟩
theorem dX11_setFault_14 : dec cX11_setFault 14 1 15 (.iload_n 1) := ⟨by decide +kernel, rfl⟩
theorem dX11_setFault_15 : dec cX11_setFault 15 3 18 (.ifCond .eq 11) := ⟨by decide +kernel, rfl⟩
theorem dX11_setFault_18 : dec cX11_setFault 18 1 19 (.iload_n 1) := ⟨by decide +kernel, rfl⟩
theorem dX11_setFault_19 : dec cX11_setFault 19 3 22 (.invokestatic 295) := ⟨by decide +kernel, rfl⟩
theorem dX11_setFault_22 : dec cX11_setFault 22 1 23 (.iload_n 2) := ⟨by decide +kernel, rfl⟩
theorem dX11_setFault_23 : dec cX11_setFault 23 3 26 (.if_icmp .le 7) := ⟨by decide +kernel, rfl⟩
theorem dX11_setFault_26 : dec cX11_setFault 26 1 27 (.iconst 5) := ⟨by decide +kernel, rfl⟩
theorem dX11_setFault_27 : dec cX11_setFault 27 3 30 (.goto 4) := ⟨by decide +kernel, rfl⟩
theorem dX11_setFault_30 : dec cX11_setFault 30 1 31 (.iconst 0) := ⟨by decide +kernel, rfl⟩
theorem dX11_setFault_31 : dec cX11_setFault 31 1 32 (.ireturn) := ⟨by decide +kernel, rfl⟩
set_option maxHeartbeats 4000000 in
set_option maxRecDepth 100000 in
theorem mX11_setFault (Y : Yx) (hF : Y.2.2.2.2 = true) (l : Launch) (a0 : Nat) (x1 : Int) (x2 : Int) (M0 : Mem) (Q : Int → Mem → Prop) (qa0 : 0 < a0 ∧ M0 0 a0 = kO 11) (h : wX11_setFault a0 x1 x2 M0 Q) : CT Y l yX11_setFault cX11_setFault 3 (some .int) rmX11_setFault [vR Y.1 a0, vI x1, vI x2] M0 (QI Q) := by
  unfold wX11_setFault at h
  refine ct_intro (by decide) (Nat.le_of_ble_eq_true rfl) ?_
  intro X hXl hC hL0
  have hL := hL0 hF
  change OKX X Y RX11 cX11_setFault 3 (some .int) rmX11_setFault at hC
  change WW X Y 3 rmX11_setFault (QI Q) M0 0 0 0 [(0, vR Y.1 a0), (1, vI x1), (2, vI x2)] [] M0
  refine r_iload_n hC 1 dX11_setFault_0 rfl rfl ?_
  refine r_aload_n hC 0 dX11_setFault_1 rfl rfl ?_
  have q_1 : 0 < a0 + 1 ∧ M0 0 (a0 + 1) = kO 0 := lay_f0 (a := a0) hL qa0 fm_11_0
  refine r_getR0 (a' := a0 + 1) hC fg_X11_10 rfl hF fm_11_0 qa0.1 qa0.2 rfl dX11_setFault_2 ?_
  refine r_getI hC fg_X11_95 rfl q_1.1 q_1.2 dX11_setFault_5 ?_
  refine r_iushr hC dX11_setFault_8 ?_
  refine r_if_eq hC 14 rfl dX11_setFault_9 (by decide) (fun cq => ?_) (fun cq => ?_)
  · replace h := h.1 cq
    refine r_iload_n hC 1 dX11_setFault_14 rfl rfl ?_
    refine r_if_eq hC 26 rfl dX11_setFault_15 (by decide) (fun cq => ?_) (fun cq => ?_)
    · replace h := h.1 cq
      refine r_iconst hC dX11_setFault_26 ?_
      refine r_goto hC 31 dX11_setFault_27 (by decide) ?_
      exact r_iret hC (Nat.zero_le _) (Nat.zero_le _) dX11_setFault_31 ⟨_, rfl, h⟩
    · replace h := h.2 cq
      refine r_iload_n hC 1 dX11_setFault_18 rfl rfl ?_
      refine r_callS (As := [vI x1]) (st := []) hC cw_X11_295 rfl rfl (Nat.le_of_ble_eq_true rfl) ⟨Nat.le_of_ble_eq_true rfl, Nat.le_of_ble_eq_true rfl⟩ ⟨Nat.le_of_ble_eq_true rfl, Nat.le_of_ble_eq_true rfl⟩ dX11_setFault_19 (fun hk => mJ6_bitCount_0f7a4 Y hF _ _ _ _  h) (fun v M_2 h => ?_)
      obtain ⟨r_3, rfl, h⟩ := h
      refine r_iload_n hC 2 dX11_setFault_22 rfl rfl ?_
      refine r_icmp_le hC 30 rfl rfl dX11_setFault_23 (by decide) (fun cq => ?_) (fun cq => ?_)
      · replace h := h.1 cq
        refine r_iconst hC dX11_setFault_30 ?_
        exact r_iret hC (Nat.zero_le _) (Nat.zero_le _) dX11_setFault_31 ⟨_, rfl, h⟩
      · replace h := h.2 cq
        refine r_iconst hC dX11_setFault_26 ?_
        refine r_goto hC 31 dX11_setFault_27 (by decide) ?_
        exact r_iret hC (Nat.zero_le _) (Nat.zero_le _) dX11_setFault_31 ⟨_, rfl, h⟩
  · replace h := h.2 cq
    refine r_iconst hC dX11_setFault_12 ?_
    exact r_iret hC (Nat.zero_le _) (Nat.zero_le _) dX11_setFault_13 ⟨_, rfl, h⟩
theorem dX11_searchFault_0 : dec cX11_searchFault 0 1 1 (.iload_n 2) := ⟨by decide +kernel, rfl⟩
theorem dX11_searchFault_1 : dec cX11_searchFault 1 3 4 (.ifCond .eq 13) := ⟨by decide +kernel, rfl⟩
theorem dX11_searchFault_4 : dec cX11_searchFault 4 1 5 (.aload_n 0) := ⟨by decide +kernel, rfl⟩
theorem dX11_searchFault_5 : dec cX11_searchFault 5 1 6 (.iload_n 1) := ⟨by decide +kernel, rfl⟩
theorem dX11_searchFault_6 : dec cX11_searchFault 6 2 8 (.bipush 6) := ⟨by decide +kernel, rfl⟩
theorem dX11_searchFault_8 : dec cX11_searchFault 8 3 11 (.invokevirtual 291) := ⟨by decide +kernel, rfl⟩
theorem dX11_searchFault_11 : dec cX11_searchFault 11 3 14 (.goto 4) := ⟨by decide +kernel, rfl⟩
theorem dX11_searchFault_14 : dec cX11_searchFault 14 1 15 (.iconst 1) := ⟨by decide +kernel, rfl⟩
theorem dX11_searchFault_15 : dec cX11_searchFault 15 1 16 (.istore_n 3) := ⟨by decide +kernel, rfl⟩
theorem dX11_searchFault_16 : dec cX11_searchFault 16 1 17 (.iload_n 3) := ⟨by decide +kernel, rfl⟩
theorem dX11_searchFault_17 : dec cX11_searchFault 17 3 20 (.ifCond .ne 11) := ⟨by decide +kernel, rfl⟩
theorem dX11_searchFault_20 : dec cX11_searchFault 20 1 21 (.aload_n 0) := ⟨by decide +kernel, rfl⟩
theorem dX11_searchFault_21 : dec cX11_searchFault 21 3 24 (.getfield 57) := ⟨by decide +kernel, rfl⟩
theorem dX11_searchFault_24 : dec cX11_searchFault 24 1 25 (.iload_n 1) := ⟨by decide +kernel, rfl⟩
theorem dX11_searchFault_25 : dec cX11_searchFault 25 3 28 (.invokevirtual 410) := ⟨by decide +kernel, rfl⟩
theorem dX11_searchFault_28 : dec cX11_searchFault 28 1 29 (.iload_n 3) := ⟨by decide +kernel, rfl⟩
theorem dX11_searchFault_29 : dec cX11_searchFault 29 1 30 (.ireturn) := ⟨by decide +kernel, rfl⟩
set_option maxHeartbeats 4000000 in
set_option maxRecDepth 100000 in
theorem tX11_searchFault_J15 {X : Cx} {Y : Yx} {M0 : Mem} (hC : OKX X Y RX11 cX11_searchFault 4 (some .int) rmX11_searchFault) (hF : Y.2.2.2.2 = true) (hL : Lay M0) (Q : Int → Mem → Prop)   (a0 : Nat) (x1 : Int) (xs0 : Int) (qa0 : 0 < a0 ∧ M0 0 a0 = kO 11)  (M : Mem) (h : wX11_searchFault_J15 Q  a0 x1 xs0 M) : WW X Y 4 rmX11_searchFault (QI Q) M0 0 0 15 [(0, vR Y.1 a0), (1, vI x1)] [vI xs0] M := by
  unfold wX11_searchFault_J15 at h
  refine r_istore_n (lv' := [(3, vI xs0), (0, vR Y.1 a0), (1, vI x1)]) hC dX11_searchFault_15 rfl (by decide) rfl ?_
  refine r_iload_n hC 0 dX11_searchFault_16 rfl rfl ?_
  refine r_if_ne hC 28 rfl dX11_searchFault_17 (by decide) (fun cq => ?_) (fun cq => ?_)
  · replace h := h.2 cq
    refine r_iload_n hC 0 dX11_searchFault_28 rfl rfl ?_
    exact r_iret hC (Nat.zero_le _) (Nat.zero_le _) dX11_searchFault_29 ⟨_, rfl, h⟩
  · replace h := h.1 cq
    refine r_aload_n hC 1 dX11_searchFault_20 rfl rfl ?_
    have q_1 : 0 < a0 + 102 ∧ M0 0 (a0 + 102) = kO 6 := lay_f0 (a := a0) hL qa0 fm_11_8
    refine r_getR0 (a' := a0 + 102) hC fg_X11_57 rfl hF fm_11_8 qa0.1 qa0.2 rfl dX11_searchFault_21 ?_
    refine r_iload_n hC 2 dX11_searchFault_24 rfl rfl ?_
    refine r_callV (As := [vI x1]) (st := []) hC cw_X11_410 rfl q_1.1 q_1.2 rfl rfl (Nat.le_of_ble_eq_true rfl) ⟨Nat.le_of_ble_eq_true rfl, Nat.le_of_ble_eq_true rfl⟩ ⟨Nat.le_of_ble_eq_true rfl, Nat.le_of_ble_eq_true rfl⟩ dX11_searchFault_25 (fun hk => mX6_find Y hF _ _ _ _ _ (kqO hk q_1) h) (fun v M_2 h => ?_)
    obtain ⟨rfl, h⟩ := h
    refine r_iload_n hC 0 dX11_searchFault_28 rfl rfl ?_
    exact r_iret hC (Nat.zero_le _) (Nat.zero_le _) dX11_searchFault_29 ⟨_, rfl, h⟩
set_option maxHeartbeats 4000000 in
set_option maxRecDepth 100000 in
theorem mX11_searchFault (Y : Yx) (hF : Y.2.2.2.2 = true) (l : Launch) (a0 : Nat) (x1 : Int) (x2 : Int) (M0 : Mem) (Q : Int → Mem → Prop) (qa0 : 0 < a0 ∧ M0 0 a0 = kO 11) (h : wX11_searchFault a0 x1 x2 M0 Q) : CT Y l yX11_searchFault cX11_searchFault 4 (some .int) rmX11_searchFault [vR Y.1 a0, vI x1, vI x2] M0 (QI Q) := by
  unfold wX11_searchFault at h
  refine ct_intro (by decide) (Nat.le_of_ble_eq_true rfl) ?_
  intro X hXl hC hL0
  have hL := hL0 hF
  change OKX X Y RX11 cX11_searchFault 4 (some .int) rmX11_searchFault at hC
  change WW X Y 4 rmX11_searchFault (QI Q) M0 0 0 0 [(0, vR Y.1 a0), (1, vI x1), (2, vI x2)] [] M0
  refine r_iload_n hC 2 dX11_searchFault_0 rfl rfl ?_
  refine r_if_eq hC 14 rfl dX11_searchFault_1 (by decide) (fun cq => ?_) (fun cq => ?_)
  · replace h := h.1 cq
    refine r_iconst hC dX11_searchFault_14 ?_
    refine r_sub [0, 1] rfl ?_
    exact tX11_searchFault_J15 hC hF hL Q   _ _ _ qa0  _ h
  · replace h := h.2 cq
    refine r_aload_n hC 0 dX11_searchFault_4 rfl rfl ?_
    refine r_iload_n hC 1 dX11_searchFault_5 rfl rfl ?_
    refine r_bipush hC (by decide +kernel) dX11_searchFault_6 ?_
    refine r_callV (As := [vI x1, vI 6]) (st := []) hC cw_X11_291 rfl qa0.1 qa0.2 rfl rfl (Nat.le_of_ble_eq_true rfl) ⟨Nat.le_of_ble_eq_true rfl, Nat.le_of_ble_eq_true rfl⟩ ⟨Nat.le_of_ble_eq_true rfl, Nat.le_of_ble_eq_true rfl⟩ dX11_searchFault_8 (fun hk => mX11_setFault Y hF _ _ _ _ _ _ (kqO hk qa0) h) (fun v M_3 h => ?_)
    obtain ⟨r_4, rfl, h⟩ := h
    refine r_goto hC 15 dX11_searchFault_11 (by decide) ?_
    refine r_sub [0, 1] rfl ?_
    exact tX11_searchFault_J15 hC hF hL Q   _ _ _ qa0  _ h
theorem dX11_best_0 : dec cX11_best 0 1 1 (.aload_n 0) := ⟨by decide +kernel, rfl⟩
theorem dX11_best_1 : dec cX11_best 1 1 2 (.iload_n 1) := ⟨by decide +kernel, rfl⟩
theorem dX11_best_2 : dec cX11_best 2 1 3 (.iload_n 2) := ⟨by decide +kernel, rfl⟩
theorem dX11_best_3 : dec cX11_best 3 1 4 (.iconst (-1)) := ⟨by decide +kernel, rfl⟩
theorem dX11_best_4 : dec cX11_best 4 3 7 (.if_icmp .lt 7) := ⟨by decide +kernel, rfl⟩
theorem dX11_best_7 : dec cX11_best 7 1 8 (.iconst 1) := ⟨by decide +kernel, rfl⟩
theorem dX11_best_8 : dec cX11_best 8 3 11 (.goto 4) := ⟨by decide +kernel, rfl⟩
theorem dX11_best_11 : dec cX11_best 11 1 12 (.iconst 0) := ⟨by decide +kernel, rfl⟩
theorem dX11_best_12 : dec cX11_best 12 3 15 (.invokevirtual 260) := ⟨by decide +kernel, rfl⟩
theorem dX11_best_15 : dec cX11_best 15 1 16 (.istore_n 3) := ⟨by decide +kernel, rfl⟩
theorem dX11_best_16 : dec cX11_best 16 1 17 (.iload_n 3) := ⟨by decide +kernel, rfl⟩
theorem dX11_best_17 : dec cX11_best 17 3 20 (.ifCond .ne 26) := ⟨by decide +kernel, rfl⟩
theorem dX11_best_20 : dec cX11_best 20 1 21 (.aload_n 0) := ⟨by decide +kernel, rfl⟩
theorem dX11_best_21 : dec cX11_best 21 3 24 (.getfield 57) := ⟨by decide +kernel, rfl⟩
theorem dX11_best_24 : dec cX11_best 24 3 27 (.getfield 264) := ⟨by decide +kernel, rfl⟩
theorem dX11_best_27 : dec cX11_best 27 3 30 (.ifCond .eq 14) := ⟨by decide +kernel, rfl⟩
theorem dX11_best_30 : dec cX11_best 30 1 31 (.iload_n 2) := ⟨by decide +kernel, rfl⟩
theorem dX11_best_31 : dec cX11_best 31 1 32 (.aload_n 0) := ⟨by decide +kernel, rfl⟩
theorem dX11_best_32 : dec cX11_best 32 3 35 (.getfield 57) := ⟨by decide +kernel, rfl⟩
theorem dX11_best_35 : dec cX11_best 35 3 38 (.getfield 267) := ⟨by decide +kernel, rfl⟩
theorem dX11_best_38 : dec cX11_best 38 3 41 (.if_icmp .lt 5) := ⟨by decide +kernel, rfl⟩
theorem dX11_best_41 : dec cX11_best 41 1 42 (.iconst 2) := ⟨by decide +kernel, rfl⟩
theorem dX11_best_42 : dec cX11_best 42 1 43 (.istore_n 3) := ⟨by decide +kernel, rfl⟩
theorem dX11_best_43 : dec cX11_best 43 1 44 (.iload_n 3) := ⟨by decide +kernel, rfl⟩
theorem dX11_best_44 : dec cX11_best 44 3 47 (.ifCond .eq 9) := ⟨by decide +kernel, rfl⟩
theorem dX11_best_47 : dec cX11_best 47 1 48 (.aload_n 0) := ⟨by decide +kernel, rfl⟩
theorem dX11_best_48 : dec cX11_best 48 1 49 (.iload_n 3) := ⟨by decide +kernel, rfl⟩
theorem dX11_best_49 : dec cX11_best 49 3 52 (.invokevirtual 91) := ⟨by decide +kernel, rfl⟩
theorem dX11_best_52 : dec cX11_best 52 1 53 (.ireturn) := ⟨by decide +kernel, rfl⟩
theorem dX11_best_53 : dec cX11_best 53 1 54 (.iload_n 2) := ⟨by decide +kernel, rfl⟩
theorem dX11_best_54 : dec cX11_best 54 3 57 (.ifCond .ge 16) := ⟨by decide +kernel, rfl⟩
theorem dX11_best_57 : dec cX11_best 57 1 58 (.aload_n 0) := ⟨by decide +kernel, rfl⟩
theorem dX11_best_58 : dec cX11_best 58 3 61 (.getfield 57) := ⟨by decide +kernel, rfl⟩
theorem dX11_best_61 : dec cX11_best 61 3 64 (.getfield 270) := ⟨by decide +kernel, rfl⟩
theorem dX11_best_64 : dec cX11_best 64 3 67 (.getfield 273) := ⟨by decide +kernel, rfl⟩
theorem dX11_best_67 : dec cX11_best 67 3 70 (.goto 15) := ⟨by decide +kernel, rfl⟩
theorem dX11_best_70 : dec cX11_best 70 1 71 (.aload_n 0) := ⟨by decide +kernel, rfl⟩
theorem dX11_best_71 : dec cX11_best 71 3 74 (.getfield 57) := ⟨by decide +kernel, rfl⟩
theorem dX11_best_74 : dec cX11_best 74 3 77 (.getfield 270) := ⟨by decide +kernel, rfl⟩
theorem dX11_best_77 : dec cX11_best 77 3 80 (.getfield 276) := ⟨by decide +kernel, rfl⟩
theorem dX11_best_80 : dec cX11_best 80 1 81 (.iload_n 2) := ⟨by decide +kernel, rfl⟩
theorem dX11_best_81 : dec cX11_best 81 1 82 (.iaload) := ⟨by decide +kernel, rfl⟩
theorem dX11_best_82 : dec cX11_best 82 1 83 (.ireturn) := ⟨by decide +kernel, rfl⟩
set_option maxHeartbeats 4000000 in
set_option maxRecDepth 100000 in
theorem tX11_best_J43 {X : Cx} {Y : Yx} {M0 : Mem} (hC : OKX X Y RX11 cX11_best 4 (some .int) rmX11_best) (hF : Y.2.2.2.2 = true) (hL : Lay M0) (Q : Int → Mem → Prop)   (a0 : Nat) (x2 : Int) (x3 : Int) (qa0 : 0 < a0 ∧ M0 0 a0 = kO 11)  (M : Mem) (h : wX11_best_J43 Q  a0 x2 x3 M) : WW X Y 4 rmX11_best (QI Q) M0 0 0 43 [(0, vR Y.1 a0), (2, vI x2), (3, vI x3)] [] M := by
  unfold wX11_best_J43 at h
  refine r_iload_n hC 2 dX11_best_43 rfl rfl ?_
  refine r_if_eq hC 53 rfl dX11_best_44 (by decide) (fun cq => ?_) (fun cq => ?_)
  · replace h := h.1 cq
    refine r_iload_n hC 1 dX11_best_53 rfl rfl ?_
    refine r_if_ge hC 70 rfl dX11_best_54 (by decide) (fun cq => ?_) (fun cq => ?_)
    · replace h := h.1 cq
      refine r_aload_n hC 0 dX11_best_70 rfl rfl ?_
      have q_3 : 0 < a0 + 102 ∧ M0 0 (a0 + 102) = kO 6 := lay_f0 (a := a0) hL qa0 fm_11_8
      refine r_getR0 (a' := a0 + 102) hC fg_X11_57 rfl hF fm_11_8 qa0.1 qa0.2 rfl dX11_best_71 ?_
      have q_4 : 0 < a0 + 104 ∧ M0 0 (a0 + 104) = kO 5 := lay_f0 (a := a0 + 102) hL q_3 fm_6_11
      refine r_getR0 (a' := a0 + 104) hC fg_X11_270 rfl hF fm_6_11 q_3.1 q_3.2 rfl dX11_best_74 ?_
      have q_5 : 0 < a0 + 105 ∧ M0 0 (a0 + 105) = kA 0 12 := lay_f0 (a := a0 + 104) hL q_4 fm_5_0
      refine r_getR0 (a' := a0 + 105) hC fg_X11_276 rfl hF fm_5_0 q_4.1 q_4.2 rfl dX11_best_77 ?_
      refine r_iload_n hC 1 dX11_best_80 rfl rfl ?_
      obtain ⟨i_6, h⟩ := h
      refine r_iald hC i_6 q_5.1 q_5.2 (by decide) dX11_best_81 ?_
      exact r_iret hC (Nat.zero_le _) (Nat.zero_le _) dX11_best_82 ⟨_, rfl, h⟩
    · replace h := h.2 cq
      refine r_aload_n hC 0 dX11_best_57 rfl rfl ?_
      have q_7 : 0 < a0 + 102 ∧ M0 0 (a0 + 102) = kO 6 := lay_f0 (a := a0) hL qa0 fm_11_8
      refine r_getR0 (a' := a0 + 102) hC fg_X11_57 rfl hF fm_11_8 qa0.1 qa0.2 rfl dX11_best_58 ?_
      have q_8 : 0 < a0 + 104 ∧ M0 0 (a0 + 104) = kO 5 := lay_f0 (a := a0 + 102) hL q_7 fm_6_11
      refine r_getR0 (a' := a0 + 104) hC fg_X11_270 rfl hF fm_6_11 q_7.1 q_7.2 rfl dX11_best_61 ?_
      refine r_getI hC fg_X11_273 rfl q_8.1 q_8.2 dX11_best_64 ?_
      refine r_goto hC 82 dX11_best_67 (by decide) ?_
      exact r_iret hC (Nat.zero_le _) (Nat.zero_le _) dX11_best_82 ⟨_, rfl, h⟩
  · replace h := h.2 cq
    refine r_aload_n hC 0 dX11_best_47 rfl rfl ?_
    refine r_iload_n hC 2 dX11_best_48 rfl rfl ?_
    refine r_callV (As := [vI x3]) (st := []) hC cw_X11_91 rfl qa0.1 qa0.2 rfl rfl (Nat.le_of_ble_eq_true rfl) ⟨Nat.le_of_ble_eq_true rfl, Nat.le_of_ble_eq_true rfl⟩ ⟨Nat.le_of_ble_eq_true rfl, Nat.le_of_ble_eq_true rfl⟩ dX11_best_49 (fun hk => mX11_error Y hF _ _ _ _ _ (kqO hk qa0) h) (fun v M_9 h => ?_)
    obtain ⟨r_10, rfl, h⟩ := h
    exact r_iret hC (Nat.zero_le _) (Nat.zero_le _) dX11_best_52 ⟨_, rfl, h⟩
set_option maxHeartbeats 4000000 in
set_option maxRecDepth 100000 in
theorem tX11_best_J41 {X : Cx} {Y : Yx} {M0 : Mem} (hC : OKX X Y RX11 cX11_best 4 (some .int) rmX11_best) (hF : Y.2.2.2.2 = true) (hL : Lay M0) (Q : Int → Mem → Prop)   (a0 : Nat) (x2 : Int) (qa0 : 0 < a0 ∧ M0 0 a0 = kO 11)  (M : Mem) (h : wX11_best_J41 Q  a0 x2 M) : WW X Y 4 rmX11_best (QI Q) M0 0 0 41 [(0, vR Y.1 a0), (2, vI x2)] [] M := by
  unfold wX11_best_J41 at h
  refine r_iconst hC dX11_best_41 ?_
  refine r_istore_n (lv' := [(3, vI 2), (0, vR Y.1 a0), (2, vI x2)]) hC dX11_best_42 rfl (by decide) rfl ?_
  refine r_sub [1, 2, 0] rfl ?_
  exact tX11_best_J43 hC hF hL Q   _ _ _ qa0  _ h
set_option maxHeartbeats 4000000 in
set_option maxRecDepth 100000 in
theorem tX11_best_J12 {X : Cx} {Y : Yx} {M0 : Mem} (hC : OKX X Y RX11 cX11_best 4 (some .int) rmX11_best) (hF : Y.2.2.2.2 = true) (hL : Lay M0) (Q : Int → Mem → Prop)   (a0 : Nat) (x2 : Int) (xs0 : Int) (xs1 : Int) (as2 : Nat) (qa0 : 0 < a0 ∧ M0 0 a0 = kO 11) (qas2 : 0 < as2 ∧ M0 0 as2 = kO 11)  (M : Mem) (h : wX11_best_J12 Q  a0 x2 xs0 xs1 as2 M) : WW X Y 4 rmX11_best (QI Q) M0 0 0 12 [(0, vR Y.1 a0), (2, vI x2)] [vI xs0, vI xs1, vR Y.1 as2] M := by
  unfold wX11_best_J12 at h
  refine r_callV (As := [vI xs1, vI xs0]) (st := []) hC cw_X11_260 rfl qas2.1 qas2.2 rfl rfl (Nat.le_of_ble_eq_true rfl) ⟨Nat.le_of_ble_eq_true rfl, Nat.le_of_ble_eq_true rfl⟩ ⟨Nat.le_of_ble_eq_true rfl, Nat.le_of_ble_eq_true rfl⟩ dX11_best_12 (fun hk => mX11_searchFault Y hF _ _ _ _ _ _ (kqO hk qas2) h) (fun v M_1 h => ?_)
  obtain ⟨r_2, rfl, h⟩ := h
  refine r_istore_n (lv' := [(3, vI r_2), (0, vR Y.1 a0), (2, vI x2)]) hC dX11_best_15 rfl (by decide) rfl ?_
  refine r_iload_n hC 0 dX11_best_16 rfl rfl ?_
  refine r_if_ne hC 43 rfl dX11_best_17 (by decide) (fun cq => ?_) (fun cq => ?_)
  · replace h := h.2 cq
    refine r_sub [1, 2, 0] rfl ?_
    exact tX11_best_J43 hC hF hL Q   _ _ _ qa0  _ h
  · replace h := h.1 cq
    refine r_aload_n hC 1 dX11_best_20 rfl rfl ?_
    have q_11 : 0 < a0 + 102 ∧ M0 0 (a0 + 102) = kO 6 := lay_f0 (a := a0) hL qa0 fm_11_8
    refine r_getR0 (a' := a0 + 102) hC fg_X11_57 rfl hF fm_11_8 qa0.1 qa0.2 rfl dX11_best_21 ?_
    refine r_getI hC fg_X11_264 rfl q_11.1 q_11.2 dX11_best_24 ?_
    refine r_if_eq hC 41 rfl dX11_best_27 (by decide) (fun cq => ?_) (fun cq => ?_)
    · replace h := h.1 cq
      refine r_sub [1, 2] rfl ?_
      exact tX11_best_J41 hC hF hL Q   _ _ qa0  _ h
    · replace h := h.2 cq
      refine r_iload_n hC 2 dX11_best_30 rfl rfl ?_
      refine r_aload_n hC 1 dX11_best_31 rfl rfl ?_
      have q_12 : 0 < a0 + 102 ∧ M0 0 (a0 + 102) = kO 6 := lay_f0 (a := a0) hL qa0 fm_11_8
      refine r_getR0 (a' := a0 + 102) hC fg_X11_57 rfl hF fm_11_8 qa0.1 qa0.2 rfl dX11_best_32 ?_
      refine r_getI hC fg_X11_267 rfl q_12.1 q_12.2 dX11_best_35 ?_
      refine r_icmp_lt hC 43 rfl rfl dX11_best_38 (by decide) (fun cq => ?_) (fun cq => ?_)
      · replace h := h.1 cq
        refine r_sub [1, 2, 0] rfl ?_
        exact tX11_best_J43 hC hF hL Q   _ _ _ qa0  _ h
      · replace h := h.2 cq
        refine r_sub [1, 2] rfl ?_
        exact tX11_best_J41 hC hF hL Q   _ _ qa0  _ h
set_option maxHeartbeats 4000000 in
set_option maxRecDepth 100000 in
theorem mX11_best (Y : Yx) (hF : Y.2.2.2.2 = true) (l : Launch) (a0 : Nat) (x1 : Int) (x2 : Int) (M0 : Mem) (Q : Int → Mem → Prop) (qa0 : 0 < a0 ∧ M0 0 a0 = kO 11) (h : wX11_best a0 x1 x2 M0 Q) : CT Y l yX11_best cX11_best 4 (some .int) rmX11_best [vR Y.1 a0, vI x1, vI x2] M0 (QI Q) := by
  unfold wX11_best at h
  refine ct_intro (by decide) (Nat.le_of_ble_eq_true rfl) ?_
  intro X hXl hC hL0
  have hL := hL0 hF
  change OKX X Y RX11 cX11_best 4 (some .int) rmX11_best at hC
  change WW X Y 4 rmX11_best (QI Q) M0 0 0 0 [(0, vR Y.1 a0), (1, vI x1), (2, vI x2)] [] M0
  refine r_aload_n hC 0 dX11_best_0 rfl rfl ?_
  refine r_iload_n hC 1 dX11_best_1 rfl rfl ?_
  refine r_iload_n hC 2 dX11_best_2 rfl rfl ?_
  refine r_iconst hC dX11_best_3 ?_
  refine r_icmp_lt hC 11 rfl bmL_m1 dX11_best_4 (by decide) (fun cq => ?_) (fun cq => ?_)
  · replace h := h.1 cq
    refine r_iconst hC dX11_best_11 ?_
    refine r_sub [0, 2] rfl ?_
    exact tX11_best_J12 hC hF hL Q   _ _ _ _ _ qa0 qa0  _ h
  · replace h := h.2 cq
    refine r_iconst hC dX11_best_7 ?_
    refine r_goto hC 12 dX11_best_8 (by decide) ?_
    refine r_sub [0, 2] rfl ?_
    exact tX11_best_J12 hC hF hL Q   _ _ _ _ _ qa0 qa0  _ h
theorem dX11_most_0 : dec cX11_most 0 1 1 (.aload_n 0) := ⟨by decide +kernel, rfl⟩
theorem dX11_most_1 : dec cX11_most 1 1 2 (.iload_n 1) := ⟨by decide +kernel, rfl⟩
theorem dX11_most_2 : dec cX11_most 2 1 3 (.iload_n 2) := ⟨by decide +kernel, rfl⟩
theorem dX11_most_3 : dec cX11_most 3 1 4 (.iconst 0) := ⟨by decide +kernel, rfl⟩
theorem dX11_most_4 : dec cX11_most 4 1 5 (.iconst 1) := ⟨by decide +kernel, rfl⟩
theorem dX11_most_5 : dec cX11_most 5 3 8 (.invokestatic 87) := ⟨by decide +kernel, rfl⟩
theorem dX11_most_8 : dec cX11_most 8 3 11 (.invokevirtual 260) := ⟨by decide +kernel, rfl⟩
theorem dX11_most_11 : dec cX11_most 11 1 12 (.istore_n 3) := ⟨by decide +kernel, rfl⟩
theorem dX11_most_12 : dec cX11_most 12 1 13 (.iload_n 3) := ⟨by decide +kernel, rfl⟩
theorem dX11_most_13 : dec cX11_most 13 3 16 (.ifCond .ne 15) := ⟨by decide +kernel, rfl⟩
theorem dX11_most_16 : dec cX11_most 16 1 17 (.aload_n 0) := ⟨by decide +kernel, rfl⟩
theorem dX11_most_17 : dec cX11_most 17 3 20 (.getfield 57) := ⟨by decide +kernel, rfl⟩
theorem dX11_most_20 : dec cX11_most 20 3 23 (.getfield 264) := ⟨by decide +kernel, rfl⟩
theorem dX11_most_23 : dec cX11_most 23 3 26 (.ifCond .ne 5) := ⟨by decide +kernel, rfl⟩
theorem dX11_most_26 : dec cX11_most 26 1 27 (.iconst 2) := ⟨by decide +kernel, rfl⟩
theorem dX11_most_27 : dec cX11_most 27 1 28 (.istore_n 3) := ⟨by decide +kernel, rfl⟩
theorem dX11_most_28 : dec cX11_most 28 1 29 (.iload_n 3) := ⟨by decide +kernel, rfl⟩
theorem dX11_most_29 : dec cX11_most 29 3 32 (.ifCond .eq 12) := ⟨by decide +kernel, rfl⟩
theorem dX11_most_32 : dec cX11_most 32 1 33 (.aload_n 0) := ⟨by decide +kernel, rfl⟩
theorem dX11_most_33 : dec cX11_most 33 1 34 (.iload_n 3) := ⟨by decide +kernel, rfl⟩
theorem dX11_most_34 : dec cX11_most 34 3 37 (.invokevirtual 91) := ⟨by decide +kernel, rfl⟩
theorem dX11_most_37 : dec cX11_most 37 1 38 (.i2l) := ⟨by decide +kernel, rfl⟩
theorem dX11_most_38 : dec cX11_most 38 3 41 (.goto 14) := ⟨by decide +kernel, rfl⟩
theorem dX11_most_41 : dec cX11_most 41 1 42 (.aload_n 0) := ⟨by decide +kernel, rfl⟩
theorem dX11_most_42 : dec cX11_most 42 3 45 (.getfield 57) := ⟨by decide +kernel, rfl⟩
theorem dX11_most_45 : dec cX11_most 45 3 48 (.getfield 278) := ⟨by decide +kernel, rfl⟩
theorem dX11_most_48 : dec cX11_most 48 1 49 (.iload_n 2) := ⟨by decide +kernel, rfl⟩
theorem dX11_most_49 : dec cX11_most 49 3 52 (.invokestatic 229) := ⟨by decide +kernel, rfl⟩
theorem dX11_most_52 : dec cX11_most 52 1 53 (.lreturn) := ⟨by decide +kernel, rfl⟩
set_option maxHeartbeats 4000000 in
set_option maxRecDepth 100000 in
theorem tX11_most_J28 {X : Cx} {Y : Yx} {M0 : Mem} (hC : OKX X Y RX11 cX11_most 4 (some .long) rmX11_most) (hF : Y.2.2.2.2 = true) (hL : Lay M0) (Q : Int → Mem → Prop)   (a0 : Nat) (x2 : Int) (x3 : Int) (qa0 : 0 < a0 ∧ M0 0 a0 = kO 11)  (M : Mem) (h : wX11_most_J28 Q  a0 x2 x3 M) : WW X Y 4 rmX11_most (QL Q) M0 0 0 28 [(0, vR Y.1 a0), (2, vI x2), (3, vI x3)] [] M := by
  unfold wX11_most_J28 at h
  refine r_iload_n hC 2 dX11_most_28 rfl rfl ?_
  refine r_if_eq hC 41 rfl dX11_most_29 (by decide) (fun cq => ?_) (fun cq => ?_)
  · replace h := h.1 cq
    refine r_aload_n hC 0 dX11_most_41 rfl rfl ?_
    have q_5 : 0 < a0 + 102 ∧ M0 0 (a0 + 102) = kO 6 := lay_f0 (a := a0) hL qa0 fm_11_8
    refine r_getR0 (a' := a0 + 102) hC fg_X11_57 rfl hF fm_11_8 qa0.1 qa0.2 rfl dX11_most_42 ?_
    refine r_getL hC fg_X11_278 rfl q_5.1 q_5.2 dX11_most_45 ?_
    refine r_iload_n hC 1 dX11_most_48 rfl rfl ?_
    refine r_callS (As := [vL (M (a0 + 102) 9), vI x2]) (st := []) hC cw_X11_229 rfl rfl (Nat.le_of_ble_eq_true rfl) ⟨Nat.le_of_ble_eq_true rfl, Nat.le_of_ble_eq_true rfl⟩ ⟨Nat.le_of_ble_eq_true rfl, Nat.le_of_ble_eq_true rfl⟩ dX11_most_49 (fun hk => mX11_partOf Y hF _ _ _ _ _  h) (fun v M_6 h => ?_)
    obtain ⟨r_7, rfl, h⟩ := h
    exact r_lret hC (Nat.zero_le _) (Nat.zero_le _) dX11_most_52 ⟨_, rfl, h⟩
  · replace h := h.2 cq
    refine r_aload_n hC 0 dX11_most_32 rfl rfl ?_
    refine r_iload_n hC 2 dX11_most_33 rfl rfl ?_
    refine r_callV (As := [vI x3]) (st := []) hC cw_X11_91 rfl qa0.1 qa0.2 rfl rfl (Nat.le_of_ble_eq_true rfl) ⟨Nat.le_of_ble_eq_true rfl, Nat.le_of_ble_eq_true rfl⟩ ⟨Nat.le_of_ble_eq_true rfl, Nat.le_of_ble_eq_true rfl⟩ dX11_most_34 (fun hk => mX11_error Y hF _ _ _ _ _ (kqO hk qa0) h) (fun v M_8 h => ?_)
    obtain ⟨r_9, rfl, h⟩ := h
    refine r_i2l hC dX11_most_37 ?_
    refine r_goto hC 52 dX11_most_38 (by decide) ?_
    exact r_lret hC (Nat.zero_le _) (Nat.zero_le _) dX11_most_52 ⟨_, rfl, h⟩
set_option maxHeartbeats 4000000 in
set_option maxRecDepth 100000 in
theorem mX11_most (Y : Yx) (hF : Y.2.2.2.2 = true) (l : Launch) (a0 : Nat) (x1 : Int) (x2 : Int) (M0 : Mem) (Q : Int → Mem → Prop) (qa0 : 0 < a0 ∧ M0 0 a0 = kO 11) (h : wX11_most a0 x1 x2 M0 Q) : CT Y l yX11_most cX11_most 4 (some .long) rmX11_most [vR Y.1 a0, vI x1, vI x2] M0 (QL Q) := by
  unfold wX11_most at h
  refine ct_intro (by decide) (Nat.le_of_ble_eq_true rfl) ?_
  intro X hXl hC hL0
  have hL := hL0 hF
  change OKX X Y RX11 cX11_most 4 (some .long) rmX11_most at hC
  change WW X Y 4 rmX11_most (QL Q) M0 0 0 0 [(0, vR Y.1 a0), (1, vI x1), (2, vI x2)] [] M0
  refine r_aload_n hC 0 dX11_most_0 rfl rfl ?_
  refine r_iload_n hC 1 dX11_most_1 rfl rfl ?_
  refine r_iload_n hC 2 dX11_most_2 rfl rfl ?_
  refine r_iconst hC dX11_most_3 ?_
  refine r_iconst hC dX11_most_4 ?_
  refine r_callS (As := [vI x2, vI 0, vI 1]) (st := [vI x1, vR Y.1 a0]) hC cw_X11_87 rfl rfl (Nat.le_of_ble_eq_true rfl) ⟨Nat.le_of_ble_eq_true rfl, Nat.le_of_ble_eq_true rfl⟩ ⟨Nat.le_of_ble_eq_true rfl, Nat.le_of_ble_eq_true rfl⟩ dX11_most_5 (fun hk => mX11_within Y hF _ _ _ _ _ _  h) (fun v M_1 h => ?_)
  obtain ⟨r_2, rfl, h⟩ := h
  refine r_callV (As := [vI x1, vI r_2]) (st := []) hC cw_X11_260 rfl qa0.1 qa0.2 rfl rfl (Nat.le_of_ble_eq_true rfl) ⟨Nat.le_of_ble_eq_true rfl, Nat.le_of_ble_eq_true rfl⟩ ⟨Nat.le_of_ble_eq_true rfl, Nat.le_of_ble_eq_true rfl⟩ dX11_most_8 (fun hk => mX11_searchFault Y hF _ _ _ _ _ _ (kqO hk qa0) h) (fun v M_3 h => ?_)
  obtain ⟨r_4, rfl, h⟩ := h
  refine r_istore_n (lv' := [(3, vI r_4), (0, vR Y.1 a0), (1, vI x1), (2, vI x2)]) hC dX11_most_11 rfl (by decide) rfl ?_
  refine r_iload_n hC 0 dX11_most_12 rfl rfl ?_
  refine r_if_ne hC 28 rfl dX11_most_13 (by decide) (fun cq => ?_) (fun cq => ?_)
  · replace h := h.2 cq
    refine r_sub [1, 3, 0] rfl ?_
    exact tX11_most_J28 hC hF hL Q   _ _ _ qa0  _ h
  · replace h := h.1 cq
    refine r_aload_n hC 1 dX11_most_16 rfl rfl ?_
    have q_10 : 0 < a0 + 102 ∧ M0 0 (a0 + 102) = kO 6 := lay_f0 (a := a0) hL qa0 fm_11_8
    refine r_getR0 (a' := a0 + 102) hC fg_X11_57 rfl hF fm_11_8 qa0.1 qa0.2 rfl dX11_most_17 ?_
    refine r_getI hC fg_X11_264 rfl q_10.1 q_10.2 dX11_most_20 ?_
    refine r_if_ne hC 28 rfl dX11_most_23 (by decide) (fun cq => ?_) (fun cq => ?_)
    · replace h := h.2 cq
      refine r_sub [1, 3, 0] rfl ?_
      exact tX11_most_J28 hC hF hL Q   _ _ _ qa0  _ h
    · replace h := h.1 cq
      refine r_iconst hC dX11_most_26 ?_
      refine r_istore_n (lv' := [(3, vI 2), (0, vR Y.1 a0), (1, vI x1), (2, vI x2)]) hC dX11_most_27 rfl (by decide) rfl ?_
      refine r_sub [1, 3, 0] rfl ?_
      exact tX11_most_J28 hC hF hL Q   _ _ _ qa0  _ h
theorem dX11_equals_0 : dec cX11_equals 0 1 1 (.aload_n 0) := ⟨by decide +kernel, rfl⟩
theorem dX11_equals_1 : dec cX11_equals 1 1 2 (.iload_n 1) := ⟨by decide +kernel, rfl⟩
theorem dX11_equals_2 : dec cX11_equals 2 1 3 (.iload_n 2) := ⟨by decide +kernel, rfl⟩
theorem dX11_equals_3 : dec cX11_equals 3 1 4 (.iconst 0) := ⟨by decide +kernel, rfl⟩
theorem dX11_equals_4 : dec cX11_equals 4 1 5 (.iconst 2) := ⟨by decide +kernel, rfl⟩
theorem dX11_equals_5 : dec cX11_equals 5 3 8 (.invokestatic 87) := ⟨by decide +kernel, rfl⟩
theorem dX11_equals_8 : dec cX11_equals 8 3 11 (.invokevirtual 260) := ⟨by decide +kernel, rfl⟩
theorem dX11_equals_11 : dec cX11_equals 11 1 12 (.istore_n 3) := ⟨by decide +kernel, rfl⟩
theorem dX11_equals_12 : dec cX11_equals 12 1 13 (.iload_n 3) := ⟨by decide +kernel, rfl⟩
theorem dX11_equals_13 : dec cX11_equals 13 3 16 (.ifCond .eq 9) := ⟨by decide +kernel, rfl⟩
theorem dX11_equals_16 : dec cX11_equals 16 1 17 (.aload_n 0) := ⟨by decide +kernel, rfl⟩
theorem dX11_equals_17 : dec cX11_equals 17 1 18 (.iload_n 3) := ⟨by decide +kernel, rfl⟩
theorem dX11_equals_18 : dec cX11_equals 18 3 21 (.invokevirtual 91) := ⟨by decide +kernel, rfl⟩
theorem dX11_equals_21 : dec cX11_equals 21 1 22 (.ireturn) := ⟨by decide +kernel, rfl⟩
theorem dX11_equals_22 : dec cX11_equals 22 1 23 (.iload_n 2) := ⟨by decide +kernel, rfl⟩
theorem dX11_equals_23 : dec cX11_equals 23 3 26 (.ifCond .ne 13) := ⟨by decide +kernel, rfl⟩
theorem dX11_equals_26 : dec cX11_equals 26 1 27 (.aload_n 0) := ⟨by decide +kernel, rfl⟩
theorem dX11_equals_27 : dec cX11_equals 27 3 30 (.getfield 57) := ⟨by decide +kernel, rfl⟩
theorem dX11_equals_30 : dec cX11_equals 30 3 33 (.getfield 264) := ⟨by decide +kernel, rfl⟩
theorem dX11_equals_33 : dec cX11_equals 33 3 36 (.goto 25) := ⟨by decide +kernel, rfl⟩
theorem dX11_equals_36 : dec cX11_equals 36 1 37 (.iload_n 2) := ⟨by decide +kernel, rfl⟩
theorem dX11_equals_37 : dec cX11_equals 37 1 38 (.iconst 1) := ⟨by decide +kernel, rfl⟩
theorem dX11_equals_38 : dec cX11_equals 38 3 41 (.if_icmp .ne 13) := ⟨by decide +kernel, rfl⟩
theorem dX11_equals_41 : dec cX11_equals 41 1 42 (.aload_n 0) := ⟨by decide +kernel, rfl⟩
theorem dX11_equals_42 : dec cX11_equals 42 3 45 (.getfield 57) := ⟨by decide +kernel, rfl⟩
theorem dX11_equals_45 : dec cX11_equals 45 3 48 (.getfield 282) := ⟨by decide +kernel, rfl⟩
theorem dX11_equals_48 : dec cX11_equals 48 3 51 (.goto 10) := ⟨by decide +kernel, rfl⟩
theorem dX11_equals_51 : dec cX11_equals 51 1 52 (.aload_n 0) := ⟨by decide +kernel, rfl⟩
theorem dX11_equals_52 : dec cX11_equals 52 3 55 (.getfield 57) := ⟨by decide +kernel, rfl⟩
theorem dX11_equals_55 : dec cX11_equals 55 3 58 (.getfield 285) := ⟨by decide +kernel, rfl⟩
theorem dX11_equals_58 : dec cX11_equals 58 1 59 (.ireturn) := ⟨by decide +kernel, rfl⟩
set_option maxHeartbeats 4000000 in
set_option maxRecDepth 100000 in
theorem mX11_equals (Y : Yx) (hF : Y.2.2.2.2 = true) (l : Launch) (a0 : Nat) (x1 : Int) (x2 : Int) (M0 : Mem) (Q : Int → Mem → Prop) (qa0 : 0 < a0 ∧ M0 0 a0 = kO 11) (h : wX11_equals a0 x1 x2 M0 Q) : CT Y l yX11_equals cX11_equals 4 (some .int) rmX11_equals [vR Y.1 a0, vI x1, vI x2] M0 (QI Q) := by
  unfold wX11_equals at h
  refine ct_intro (by decide) (Nat.le_of_ble_eq_true rfl) ?_
  intro X hXl hC hL0
  have hL := hL0 hF
  change OKX X Y RX11 cX11_equals 4 (some .int) rmX11_equals at hC
  change WW X Y 4 rmX11_equals (QI Q) M0 0 0 0 [(0, vR Y.1 a0), (1, vI x1), (2, vI x2)] [] M0
  refine r_aload_n hC 0 dX11_equals_0 rfl rfl ?_
  refine r_iload_n hC 1 dX11_equals_1 rfl rfl ?_
  refine r_iload_n hC 2 dX11_equals_2 rfl rfl ?_
  refine r_iconst hC dX11_equals_3 ?_
  refine r_iconst hC dX11_equals_4 ?_
  refine r_callS (As := [vI x2, vI 0, vI 2]) (st := [vI x1, vR Y.1 a0]) hC cw_X11_87 rfl rfl (Nat.le_of_ble_eq_true rfl) ⟨Nat.le_of_ble_eq_true rfl, Nat.le_of_ble_eq_true rfl⟩ ⟨Nat.le_of_ble_eq_true rfl, Nat.le_of_ble_eq_true rfl⟩ dX11_equals_5 (fun hk => mX11_within Y hF _ _ _ _ _ _  h) (fun v M_1 h => ?_)
  obtain ⟨r_2, rfl, h⟩ := h
  refine r_callV (As := [vI x1, vI r_2]) (st := []) hC cw_X11_260 rfl qa0.1 qa0.2 rfl rfl (Nat.le_of_ble_eq_true rfl) ⟨Nat.le_of_ble_eq_true rfl, Nat.le_of_ble_eq_true rfl⟩ ⟨Nat.le_of_ble_eq_true rfl, Nat.le_of_ble_eq_true rfl⟩ dX11_equals_8 (fun hk => mX11_searchFault Y hF _ _ _ _ _ _ (kqO hk qa0) h) (fun v M_3 h => ?_)
  obtain ⟨r_4, rfl, h⟩ := h
  refine r_istore_n (lv' := [(3, vI r_4), (0, vR Y.1 a0), (1, vI x1), (2, vI x2)]) hC dX11_equals_11 rfl (by decide) rfl ?_
  refine r_iload_n hC 0 dX11_equals_12 rfl rfl ?_
  refine r_if_eq hC 22 rfl dX11_equals_13 (by decide) (fun cq => ?_) (fun cq => ?_)
  · replace h := h.1 cq
    refine r_iload_n hC 3 dX11_equals_22 rfl rfl ?_
    refine r_if_ne hC 36 rfl dX11_equals_23 (by decide) (fun cq => ?_) (fun cq => ?_)
    · replace h := h.2 cq
      refine r_iload_n hC 3 dX11_equals_36 rfl rfl ?_
      refine r_iconst hC dX11_equals_37 ?_
      refine r_icmp_ne hC 51 rfl bmL_1 dX11_equals_38 (by decide) (fun cq => ?_) (fun cq => ?_)
      · replace h := h.2 cq
        refine r_aload_n hC 1 dX11_equals_51 rfl rfl ?_
        have q_5 : 0 < a0 + 102 ∧ M0 0 (a0 + 102) = kO 6 := lay_f0 (a := a0) hL qa0 fm_11_8
        refine r_getR0 (a' := a0 + 102) hC fg_X11_57 rfl hF fm_11_8 qa0.1 qa0.2 rfl dX11_equals_52 ?_
        refine r_getI hC fg_X11_285 rfl q_5.1 q_5.2 dX11_equals_55 ?_
        exact r_iret hC (Nat.zero_le _) (Nat.zero_le _) dX11_equals_58 ⟨_, rfl, h⟩
      · replace h := h.1 cq
        refine r_aload_n hC 1 dX11_equals_41 rfl rfl ?_
        have q_6 : 0 < a0 + 102 ∧ M0 0 (a0 + 102) = kO 6 := lay_f0 (a := a0) hL qa0 fm_11_8
        refine r_getR0 (a' := a0 + 102) hC fg_X11_57 rfl hF fm_11_8 qa0.1 qa0.2 rfl dX11_equals_42 ?_
        refine r_getI hC fg_X11_282 rfl q_6.1 q_6.2 dX11_equals_45 ?_
        refine r_goto hC 58 dX11_equals_48 (by decide) ?_
        exact r_iret hC (Nat.zero_le _) (Nat.zero_le _) dX11_equals_58 ⟨_, rfl, h⟩
    · replace h := h.1 cq
      refine r_aload_n hC 1 dX11_equals_26 rfl rfl ?_
      have q_7 : 0 < a0 + 102 ∧ M0 0 (a0 + 102) = kO 6 := lay_f0 (a := a0) hL qa0 fm_11_8
      refine r_getR0 (a' := a0 + 102) hC fg_X11_57 rfl hF fm_11_8 qa0.1 qa0.2 rfl dX11_equals_27 ?_
      refine r_getI hC fg_X11_264 rfl q_7.1 q_7.2 dX11_equals_30 ?_
      refine r_goto hC 58 dX11_equals_33 (by decide) ?_
      exact r_iret hC (Nat.zero_le _) (Nat.zero_le _) dX11_equals_58 ⟨_, rfl, h⟩
  · replace h := h.2 cq
    refine r_aload_n hC 1 dX11_equals_16 rfl rfl ?_
    refine r_iload_n hC 0 dX11_equals_17 rfl rfl ?_
    refine r_callV (As := [vI r_4]) (st := []) hC cw_X11_91 rfl qa0.1 qa0.2 rfl rfl (Nat.le_of_ble_eq_true rfl) ⟨Nat.le_of_ble_eq_true rfl, Nat.le_of_ble_eq_true rfl⟩ ⟨Nat.le_of_ble_eq_true rfl, Nat.le_of_ble_eq_true rfl⟩ dX11_equals_18 (fun hk => mX11_error Y hF _ _ _ _ _ (kqO hk qa0) h) (fun v M_8 h => ?_)
    obtain ⟨r_9, rfl, h⟩ := h
    exact r_iret hC (Nat.zero_le _) (Nat.zero_le _) dX11_equals_21 ⟨_, rfl, h⟩
theorem dX11_bars_0 : dec cX11_bars 0 1 1 (.aload_n 0) := ⟨by decide +kernel, rfl⟩
theorem dX11_bars_1 : dec cX11_bars 1 1 2 (.iload_n 1) := ⟨by decide +kernel, rfl⟩
theorem dX11_bars_2 : dec cX11_bars 2 1 3 (.iconst 1) := ⟨by decide +kernel, rfl⟩
theorem dX11_bars_3 : dec cX11_bars 3 3 6 (.invokevirtual 260) := ⟨by decide +kernel, rfl⟩
theorem dX11_bars_6 : dec cX11_bars 6 1 7 (.istore_n 2) := ⟨by decide +kernel, rfl⟩
theorem dX11_bars_7 : dec cX11_bars 7 1 8 (.iload_n 2) := ⟨by decide +kernel, rfl⟩
theorem dX11_bars_8 : dec cX11_bars 8 3 11 (.ifCond .ne 15) := ⟨by decide +kernel, rfl⟩
theorem dX11_bars_11 : dec cX11_bars 11 1 12 (.aload_n 0) := ⟨by decide +kernel, rfl⟩
theorem dX11_bars_12 : dec cX11_bars 12 3 15 (.getfield 57) := ⟨by decide +kernel, rfl⟩
theorem dX11_bars_15 : dec cX11_bars 15 3 18 (.getfield 264) := ⟨by decide +kernel, rfl⟩
theorem dX11_bars_18 : dec cX11_bars 18 3 21 (.ifCond .le 5) := ⟨by decide +kernel, rfl⟩
theorem dX11_bars_21 : dec cX11_bars 21 1 22 (.iconst 3) := ⟨by decide +kernel, rfl⟩
theorem dX11_bars_22 : dec cX11_bars 22 1 23 (.istore_n 2) := ⟨by decide +kernel, rfl⟩
theorem dX11_bars_23 : dec cX11_bars 23 1 24 (.iload_n 2) := ⟨by decide +kernel, rfl⟩
theorem dX11_bars_24 : dec cX11_bars 24 3 27 (.ifCond .eq 11) := ⟨by decide +kernel, rfl⟩
theorem dX11_bars_27 : dec cX11_bars 27 1 28 (.aload_n 0) := ⟨by decide +kernel, rfl⟩
theorem dX11_bars_28 : dec cX11_bars 28 1 29 (.iload_n 2) := ⟨by decide +kernel, rfl⟩
theorem dX11_bars_29 : dec cX11_bars 29 3 32 (.invokevirtual 91) := ⟨by decide +kernel, rfl⟩
theorem dX11_bars_32 : dec cX11_bars 32 3 35 (.goto 10) := ⟨by decide +kernel, rfl⟩
theorem dX11_bars_35 : dec cX11_bars 35 1 36 (.aload_n 0) := ⟨by decide +kernel, rfl⟩
theorem dX11_bars_36 : dec cX11_bars 36 3 39 (.getfield 57) := ⟨by decide +kernel, rfl⟩
theorem dX11_bars_39 : dec cX11_bars 39 3 42 (.invokevirtual 288) := ⟨by decide +kernel, rfl⟩
theorem dX11_bars_42 : dec cX11_bars 42 1 43 (.ireturn) := ⟨by decide +kernel, rfl⟩
set_option maxHeartbeats 4000000 in
set_option maxRecDepth 100000 in
theorem tX11_bars_J23 {X : Cx} {Y : Yx} {M0 : Mem} (hC : OKX X Y RX11 cX11_bars 3 (some .int) rmX11_bars) (hF : Y.2.2.2.2 = true) (hL : Lay M0) (Q : Int → Mem → Prop)   (a0 : Nat) (x2 : Int) (qa0 : 0 < a0 ∧ M0 0 a0 = kO 11)  (M : Mem) (h : wX11_bars_J23 Q  a0 x2 M) : WW X Y 3 rmX11_bars (QI Q) M0 0 0 23 [(0, vR Y.1 a0), (2, vI x2)] [] M := by
  unfold wX11_bars_J23 at h
  refine r_iload_n hC 1 dX11_bars_23 rfl rfl ?_
  refine r_if_eq hC 35 rfl dX11_bars_24 (by decide) (fun cq => ?_) (fun cq => ?_)
  · replace h := h.1 cq
    refine r_aload_n hC 0 dX11_bars_35 rfl rfl ?_
    have q_3 : 0 < a0 + 102 ∧ M0 0 (a0 + 102) = kO 6 := lay_f0 (a := a0) hL qa0 fm_11_8
    refine r_getR0 (a' := a0 + 102) hC fg_X11_57 rfl hF fm_11_8 qa0.1 qa0.2 rfl dX11_bars_36 ?_
    refine r_callV (As := []) (st := []) hC cw_X11_288 rfl q_3.1 q_3.2 rfl rfl (Nat.le_of_ble_eq_true rfl) ⟨Nat.le_of_ble_eq_true rfl, Nat.le_of_ble_eq_true rfl⟩ ⟨Nat.le_of_ble_eq_true rfl, Nat.le_of_ble_eq_true rfl⟩ dX11_bars_39 (fun hk => mX6_barring Y hF _ _ _ _ (kqO hk q_3) h) (fun v M_4 h => ?_)
    obtain ⟨r_5, rfl, h⟩ := h
    exact r_iret hC (Nat.le_of_ble_eq_true rfl) (Nat.le_of_ble_eq_true rfl) dX11_bars_42 ⟨_, rfl, h⟩
  · replace h := h.2 cq
    refine r_aload_n hC 0 dX11_bars_27 rfl rfl ?_
    refine r_iload_n hC 1 dX11_bars_28 rfl rfl ?_
    refine r_callV (As := [vI x2]) (st := []) hC cw_X11_91 rfl qa0.1 qa0.2 rfl rfl (Nat.le_of_ble_eq_true rfl) ⟨Nat.le_of_ble_eq_true rfl, Nat.le_of_ble_eq_true rfl⟩ ⟨Nat.le_of_ble_eq_true rfl, Nat.le_of_ble_eq_true rfl⟩ dX11_bars_29 (fun hk => mX11_error Y hF _ _ _ _ _ (kqO hk qa0) h) (fun v M_6 h => ?_)
    obtain ⟨r_7, rfl, h⟩ := h
    refine r_goto hC 42 dX11_bars_32 (by decide) ?_
    exact r_iret hC (Nat.zero_le _) (Nat.zero_le _) dX11_bars_42 ⟨_, rfl, h⟩
set_option maxHeartbeats 4000000 in
set_option maxRecDepth 100000 in
theorem mX11_bars (Y : Yx) (hF : Y.2.2.2.2 = true) (l : Launch) (a0 : Nat) (x1 : Int) (M0 : Mem) (Q : Int → Mem → Prop) (qa0 : 0 < a0 ∧ M0 0 a0 = kO 11) (h : wX11_bars a0 x1 M0 Q) : CT Y l yX11_bars cX11_bars 3 (some .int) rmX11_bars [vR Y.1 a0, vI x1] M0 (QI Q) := by
  unfold wX11_bars at h
  refine ct_intro (by decide) (Nat.le_of_ble_eq_true rfl) ?_
  intro X hXl hC hL0
  have hL := hL0 hF
  change OKX X Y RX11 cX11_bars 3 (some .int) rmX11_bars at hC
  change WW X Y 3 rmX11_bars (QI Q) M0 0 0 0 [(0, vR Y.1 a0), (1, vI x1)] [] M0
  refine r_aload_n hC 0 dX11_bars_0 rfl rfl ?_
  refine r_iload_n hC 1 dX11_bars_1 rfl rfl ?_
  refine r_iconst hC dX11_bars_2 ?_
  refine r_callV (As := [vI x1, vI 1]) (st := []) hC cw_X11_260 rfl qa0.1 qa0.2 rfl rfl (Nat.le_of_ble_eq_true rfl) ⟨Nat.le_of_ble_eq_true rfl, Nat.le_of_ble_eq_true rfl⟩ ⟨Nat.le_of_ble_eq_true rfl, Nat.le_of_ble_eq_true rfl⟩ dX11_bars_3 (fun hk => mX11_searchFault Y hF _ _ _ _ _ _ (kqO hk qa0) h) (fun v M_1 h => ?_)
  obtain ⟨r_2, rfl, h⟩ := h
  refine r_istore_n (lv' := [(2, vI r_2), (0, vR Y.1 a0), (1, vI x1)]) hC dX11_bars_6 rfl (by decide) rfl ?_
  refine r_iload_n hC 0 dX11_bars_7 rfl rfl ?_
  refine r_if_ne hC 23 rfl dX11_bars_8 (by decide) (fun cq => ?_) (fun cq => ?_)
  · replace h := h.2 cq
    refine r_sub [1, 0] rfl ?_
    exact tX11_bars_J23 hC hF hL Q   _ _ qa0  _ h
  · replace h := h.1 cq
    refine r_aload_n hC 1 dX11_bars_11 rfl rfl ?_
    have q_8 : 0 < a0 + 102 ∧ M0 0 (a0 + 102) = kO 6 := lay_f0 (a := a0) hL qa0 fm_11_8
    refine r_getR0 (a' := a0 + 102) hC fg_X11_57 rfl hF fm_11_8 qa0.1 qa0.2 rfl dX11_bars_12 ?_
    refine r_getI hC fg_X11_264 rfl q_8.1 q_8.2 dX11_bars_15 ?_
    refine r_if_le hC 23 rfl dX11_bars_18 (by decide) (fun cq => ?_) (fun cq => ?_)
    · replace h := h.1 cq
      refine r_sub [1, 0] rfl ?_
      exact tX11_bars_J23 hC hF hL Q   _ _ qa0  _ h
    · replace h := h.2 cq
      refine r_iconst hC dX11_bars_21 ?_
      refine r_istore_n (lv' := [(2, vI 3), (0, vR Y.1 a0), (1, vI x1)]) hC dX11_bars_22 rfl (by decide) rfl ?_
      refine r_sub [1, 0] rfl ?_
      exact tX11_bars_J23 hC hF hL Q   _ _ qa0  _ h
theorem dX11_fewest_0 : dec cX11_fewest 0 1 1 (.iload_n 2) := ⟨by decide +kernel, rfl⟩
theorem dX11_fewest_1 : dec cX11_fewest 1 1 2 (.iconst (-1)) := ⟨by decide +kernel, rfl⟩
theorem dX11_fewest_2 : dec cX11_fewest 2 3 5 (.if_icmp .ge 7) := ⟨by decide +kernel, rfl⟩
theorem dX11_fewest_5 : dec cX11_fewest 5 1 6 (.iconst 1) := ⟨by decide +kernel, rfl⟩
theorem dX11_fewest_6 : dec cX11_fewest 6 3 9 (.goto 10) := ⟨by decide +kernel, rfl⟩
theorem dX11_fewest_9 : dec cX11_fewest 9 1 10 (.aload_n 0) := ⟨by decide +kernel, rfl⟩
theorem dX11_fewest_10 : dec cX11_fewest 10 1 11 (.iload_n 1) := ⟨by decide +kernel, rfl⟩
theorem dX11_fewest_11 : dec cX11_fewest 11 2 13 (.bipush 10) := ⟨by decide +kernel, rfl⟩
theorem dX11_fewest_13 : dec cX11_fewest 13 3 16 (.invokevirtual 291) := ⟨by decide +kernel, rfl⟩
theorem dX11_fewest_16 : dec cX11_fewest 16 1 17 (.istore_n 3) := ⟨by decide +kernel, rfl⟩
theorem dX11_fewest_17 : dec cX11_fewest 17 1 18 (.iload_n 3) := ⟨by decide +kernel, rfl⟩
theorem dX11_fewest_18 : dec cX11_fewest 18 3 21 (.ifCond .ne 13) := ⟨by decide +kernel, rfl⟩
theorem dX11_fewest_21 : dec cX11_fewest 21 1 22 (.iload_n 2) := ⟨by decide +kernel, rfl⟩
theorem dX11_fewest_22 : dec cX11_fewest 22 1 23 (.iload_n 1) := ⟨by decide +kernel, rfl⟩
theorem dX11_fewest_23 : dec cX11_fewest 23 3 26 (.invokestatic 295) := ⟨by decide +kernel, rfl⟩
theorem dX11_fewest_26 : dec cX11_fewest 26 3 29 (.if_icmp .lt 5) := ⟨by decide +kernel, rfl⟩
theorem dX11_fewest_29 : dec cX11_fewest 29 1 30 (.iconst 2) := ⟨by decide +kernel, rfl⟩
theorem dX11_fewest_30 : dec cX11_fewest 30 1 31 (.istore_n 3) := ⟨by decide +kernel, rfl⟩
theorem dX11_fewest_31 : dec cX11_fewest 31 1 32 (.iload_n 3) := ⟨by decide +kernel, rfl⟩
theorem dX11_fewest_32 : dec cX11_fewest 32 3 35 (.ifCond .eq 9) := ⟨by decide +kernel, rfl⟩
theorem dX11_fewest_35 : dec cX11_fewest 35 1 36 (.aload_n 0) := ⟨by decide +kernel, rfl⟩
theorem dX11_fewest_36 : dec cX11_fewest 36 1 37 (.iload_n 3) := ⟨by decide +kernel, rfl⟩
theorem dX11_fewest_37 : dec cX11_fewest 37 3 40 (.invokevirtual 91) := ⟨by decide +kernel, rfl⟩
theorem dX11_fewest_40 : dec cX11_fewest 40 1 41 (.ireturn) := ⟨by decide +kernel, rfl⟩
theorem dX11_fewest_41 : dec cX11_fewest 41 1 42 (.aload_n 0) := ⟨by decide +kernel, rfl⟩
theorem dX11_fewest_42 : dec cX11_fewest 42 3 45 (.getfield 64) := ⟨by decide +kernel, rfl⟩
theorem dX11_fewest_45 : dec cX11_fewest 45 1 46 (.iload_n 1) := ⟨by decide +kernel, rfl⟩
theorem dX11_fewest_46 : dec cX11_fewest 46 3 49 (.invokevirtual 300) := ⟨by decide +kernel, rfl⟩
theorem dX11_fewest_49 : dec cX11_fewest 49 1 50 (.iload_n 2) := ⟨by decide +kernel, rfl⟩
theorem dX11_fewest_50 : dec cX11_fewest 50 3 53 (.ifCond .ge 13) := ⟨by decide +kernel, rfl⟩
theorem dX11_fewest_53 : dec cX11_fewest 53 1 54 (.aload_n 0) := ⟨by decide +kernel, rfl⟩
theorem dX11_fewest_54 : dec cX11_fewest 54 3 57 (.getfield 64) := ⟨by decide +kernel, rfl⟩
theorem dX11_fewest_57 : dec cX11_fewest 57 3 60 (.getfield 304) := ⟨by decide +kernel, rfl⟩
theorem dX11_fewest_60 : dec cX11_fewest 60 3 63 (.goto 12) := ⟨by decide +kernel, rfl⟩
theorem dX11_fewest_63 : dec cX11_fewest 63 1 64 (.aload_n 0) := ⟨by decide +kernel, rfl⟩
theorem dX11_fewest_64 : dec cX11_fewest 64 3 67 (.getfield 64) := ⟨by decide +kernel, rfl⟩
theorem dX11_fewest_67 : dec cX11_fewest 67 3 70 (.getfield 307) := ⟨by decide +kernel, rfl⟩
theorem dX11_fewest_70 : dec cX11_fewest 70 1 71 (.iload_n 2) := ⟨by decide +kernel, rfl⟩
theorem dX11_fewest_71 : dec cX11_fewest 71 1 72 (.iaload) := ⟨by decide +kernel, rfl⟩
theorem dX11_fewest_72 : dec cX11_fewest 72 1 73 (.ireturn) := ⟨by decide +kernel, rfl⟩
set_option maxHeartbeats 4000000 in
set_option maxRecDepth 100000 in
theorem tX11_fewest_J31 {X : Cx} {Y : Yx} {M0 : Mem} (hC : OKX X Y RX11 cX11_fewest 4 (some .int) rmX11_fewest) (hF : Y.2.2.2.2 = true) (hL : Lay M0) (Q : Int → Mem → Prop)   (a0 : Nat) (x1 : Int) (x2 : Int) (x3 : Int) (qa0 : 0 < a0 ∧ M0 0 a0 = kO 11)  (M : Mem) (h : wX11_fewest_J31 Q  a0 x1 x2 x3 M) : WW X Y 4 rmX11_fewest (QI Q) M0 0 0 31 [(0, vR Y.1 a0), (1, vI x1), (2, vI x2), (3, vI x3)] [] M := by
  unfold wX11_fewest_J31 at h
  refine r_iload_n hC 3 dX11_fewest_31 rfl rfl ?_
  refine r_if_eq hC 41 rfl dX11_fewest_32 (by decide) (fun cq => ?_) (fun cq => ?_)
  · replace h := h.1 cq
    refine r_aload_n hC 0 dX11_fewest_41 rfl rfl ?_
    have q_3 : 0 < a0 + 107 ∧ M0 0 (a0 + 107) = kO 7 := lay_f0 (a := a0) hL qa0 fm_11_9
    refine r_getR0 (a' := a0 + 107) hC fg_X11_64 rfl hF fm_11_9 qa0.1 qa0.2 rfl dX11_fewest_42 ?_
    refine r_iload_n hC 1 dX11_fewest_45 rfl rfl ?_
    refine r_callV (As := [vI x1]) (st := []) hC cw_X11_300 rfl q_3.1 q_3.2 rfl rfl (Nat.le_of_ble_eq_true rfl) ⟨Nat.le_of_ble_eq_true rfl, Nat.le_of_ble_eq_true rfl⟩ ⟨Nat.le_of_ble_eq_true rfl, Nat.le_of_ble_eq_true rfl⟩ dX11_fewest_46 (fun hk => mX7_orderFewest Y hF _ _ _ _ _ (kqO hk q_3) h) (fun v M_4 h => ?_)
    obtain ⟨rfl, h⟩ := h
    refine r_iload_n hC 2 dX11_fewest_49 rfl rfl ?_
    refine r_if_ge hC 63 rfl dX11_fewest_50 (by decide) (fun cq => ?_) (fun cq => ?_)
    · replace h := h.1 cq
      refine r_aload_n hC 0 dX11_fewest_63 rfl rfl ?_
      have q_5 : 0 < a0 + 107 ∧ M0 0 (a0 + 107) = kO 7 := lay_f0 (a := a0) hL qa0 fm_11_9
      refine r_getR0 (a' := a0 + 107) hC fg_X11_64 rfl hF fm_11_9 qa0.1 qa0.2 rfl dX11_fewest_64 ?_
      have q_6 : 0 < a0 + 108 ∧ M0 0 (a0 + 108) = kA 0 12 := lay_f0 (a := a0 + 107) hL q_5 fm_7_5
      refine r_getR0 (a' := a0 + 108) hC fg_X11_307 rfl hF fm_7_5 q_5.1 q_5.2 rfl dX11_fewest_67 ?_
      refine r_iload_n hC 2 dX11_fewest_70 rfl rfl ?_
      obtain ⟨i_7, h⟩ := h
      refine r_iald hC i_7 q_6.1 q_6.2 (by decide) dX11_fewest_71 ?_
      exact r_iret hC (Nat.le_of_ble_eq_true rfl) (Nat.le_of_ble_eq_true rfl) dX11_fewest_72 ⟨_, rfl, h⟩
    · replace h := h.2 cq
      refine r_aload_n hC 0 dX11_fewest_53 rfl rfl ?_
      have q_8 : 0 < a0 + 107 ∧ M0 0 (a0 + 107) = kO 7 := lay_f0 (a := a0) hL qa0 fm_11_9
      refine r_getR0 (a' := a0 + 107) hC fg_X11_64 rfl hF fm_11_9 qa0.1 qa0.2 rfl dX11_fewest_54 ?_
      refine r_getI hC fg_X11_304 rfl q_8.1 q_8.2 dX11_fewest_57 ?_
      refine r_goto hC 72 dX11_fewest_60 (by decide) ?_
      exact r_iret hC (Nat.le_of_ble_eq_true rfl) (Nat.le_of_ble_eq_true rfl) dX11_fewest_72 ⟨_, rfl, h⟩
  · replace h := h.2 cq
    refine r_aload_n hC 0 dX11_fewest_35 rfl rfl ?_
    refine r_iload_n hC 3 dX11_fewest_36 rfl rfl ?_
    refine r_callV (As := [vI x3]) (st := []) hC cw_X11_91 rfl qa0.1 qa0.2 rfl rfl (Nat.le_of_ble_eq_true rfl) ⟨Nat.le_of_ble_eq_true rfl, Nat.le_of_ble_eq_true rfl⟩ ⟨Nat.le_of_ble_eq_true rfl, Nat.le_of_ble_eq_true rfl⟩ dX11_fewest_37 (fun hk => mX11_error Y hF _ _ _ _ _ (kqO hk qa0) h) (fun v M_9 h => ?_)
    obtain ⟨r_10, rfl, h⟩ := h
    exact r_iret hC (Nat.zero_le _) (Nat.zero_le _) dX11_fewest_40 ⟨_, rfl, h⟩
set_option maxHeartbeats 4000000 in
set_option maxRecDepth 100000 in
theorem tX11_fewest_J16 {X : Cx} {Y : Yx} {M0 : Mem} (hC : OKX X Y RX11 cX11_fewest 4 (some .int) rmX11_fewest) (hF : Y.2.2.2.2 = true) (hL : Lay M0) (Q : Int → Mem → Prop)   (a0 : Nat) (x1 : Int) (x2 : Int) (xs0 : Int) (qa0 : 0 < a0 ∧ M0 0 a0 = kO 11)  (M : Mem) (h : wX11_fewest_J16 Q  a0 x1 x2 xs0 M) : WW X Y 4 rmX11_fewest (QI Q) M0 0 0 16 [(0, vR Y.1 a0), (1, vI x1), (2, vI x2)] [vI xs0] M := by
  unfold wX11_fewest_J16 at h
  refine r_istore_n (lv' := [(3, vI xs0), (0, vR Y.1 a0), (1, vI x1), (2, vI x2)]) hC dX11_fewest_16 rfl (by decide) rfl ?_
  refine r_iload_n hC 0 dX11_fewest_17 rfl rfl ?_
  refine r_if_ne hC 31 rfl dX11_fewest_18 (by decide) (fun cq => ?_) (fun cq => ?_)
  · replace h := h.2 cq
    refine r_sub [1, 2, 3, 0] rfl ?_
    exact tX11_fewest_J31 hC hF hL Q   _ _ _ _ qa0  _ h
  · replace h := h.1 cq
    refine r_iload_n hC 3 dX11_fewest_21 rfl rfl ?_
    refine r_iload_n hC 2 dX11_fewest_22 rfl rfl ?_
    refine r_callS (As := [vI x1]) (st := [vI x2]) hC cw_X11_295 rfl rfl (Nat.le_of_ble_eq_true rfl) ⟨Nat.le_of_ble_eq_true rfl, Nat.le_of_ble_eq_true rfl⟩ ⟨Nat.le_of_ble_eq_true rfl, Nat.le_of_ble_eq_true rfl⟩ dX11_fewest_23 (fun hk => mJ6_bitCount_0f7a4 Y hF _ _ _ _  h) (fun v M_11 h => ?_)
    obtain ⟨r_12, rfl, h⟩ := h
    refine r_icmp_lt hC 31 rfl rfl dX11_fewest_26 (by decide) (fun cq => ?_) (fun cq => ?_)
    · replace h := h.1 cq
      refine r_sub [1, 2, 3, 0] rfl ?_
      exact tX11_fewest_J31 hC hF hL Q   _ _ _ _ qa0  _ h
    · replace h := h.2 cq
      refine r_iconst hC dX11_fewest_29 ?_
      refine r_istore_n (lv' := [(3, vI 2), (0, vR Y.1 a0), (1, vI x1), (2, vI x2)]) hC dX11_fewest_30 rfl (by decide) rfl ?_
      refine r_sub [1, 2, 3, 0] rfl ?_
      exact tX11_fewest_J31 hC hF hL Q   _ _ _ _ qa0  _ h
set_option maxHeartbeats 4000000 in
set_option maxRecDepth 100000 in
theorem mX11_fewest (Y : Yx) (hF : Y.2.2.2.2 = true) (l : Launch) (a0 : Nat) (x1 : Int) (x2 : Int) (M0 : Mem) (Q : Int → Mem → Prop) (qa0 : 0 < a0 ∧ M0 0 a0 = kO 11) (h : wX11_fewest a0 x1 x2 M0 Q) : CT Y l yX11_fewest cX11_fewest 4 (some .int) rmX11_fewest [vR Y.1 a0, vI x1, vI x2] M0 (QI Q) := by
  unfold wX11_fewest at h
  refine ct_intro (by decide) (Nat.le_of_ble_eq_true rfl) ?_
  intro X hXl hC hL0
  have hL := hL0 hF
  change OKX X Y RX11 cX11_fewest 4 (some .int) rmX11_fewest at hC
  change WW X Y 4 rmX11_fewest (QI Q) M0 0 0 0 [(0, vR Y.1 a0), (1, vI x1), (2, vI x2)] [] M0
  refine r_iload_n hC 2 dX11_fewest_0 rfl rfl ?_
  refine r_iconst hC dX11_fewest_1 ?_
  refine r_icmp_ge hC 9 rfl bmL_m1 dX11_fewest_2 (by decide) (fun cq => ?_) (fun cq => ?_)
  · replace h := h.1 cq
    refine r_aload_n hC 0 dX11_fewest_9 rfl rfl ?_
    refine r_iload_n hC 1 dX11_fewest_10 rfl rfl ?_
    refine r_bipush hC (by decide +kernel) dX11_fewest_11 ?_
    refine r_callV (As := [vI x1, vI 10]) (st := []) hC cw_X11_291 rfl qa0.1 qa0.2 rfl rfl (Nat.le_of_ble_eq_true rfl) ⟨Nat.le_of_ble_eq_true rfl, Nat.le_of_ble_eq_true rfl⟩ ⟨Nat.le_of_ble_eq_true rfl, Nat.le_of_ble_eq_true rfl⟩ dX11_fewest_13 (fun hk => mX11_setFault Y hF _ _ _ _ _ _ (kqO hk qa0) h) (fun v M_1 h => ?_)
    obtain ⟨r_2, rfl, h⟩ := h
    refine r_sub [0, 1, 2] rfl ?_
    exact tX11_fewest_J16 hC hF hL Q   _ _ _ _ qa0  _ h
  · replace h := h.2 cq
    refine r_iconst hC dX11_fewest_5 ?_
    refine r_goto hC 16 dX11_fewest_6 (by decide) ?_
    refine r_sub [0, 1, 2] rfl ?_
    exact tX11_fewest_J16 hC hF hL Q   _ _ _ _ qa0  _ h
theorem dX11_better_0 : dec cX11_better 0 1 1 (.aload_n 0) := ⟨by decide +kernel, rfl⟩
theorem dX11_better_1 : dec cX11_better 1 1 2 (.iload_n 1) := ⟨by decide +kernel, rfl⟩
theorem dX11_better_2 : dec cX11_better 2 1 3 (.iload_n 2) := ⟨by decide +kernel, rfl⟩
theorem dX11_better_3 : dec cX11_better 3 1 4 (.iconst 1) := ⟨by decide +kernel, rfl⟩
theorem dX11_better_4 : dec cX11_better 4 3 7 (.invokevirtual 213) := ⟨by decide +kernel, rfl⟩
theorem dX11_better_7 : dec cX11_better 7 1 8 (.istore_n 3) := ⟨by decide +kernel, rfl⟩
theorem dX11_better_8 : dec cX11_better 8 1 9 (.iload_n 3) := ⟨by decide +kernel, rfl⟩
theorem dX11_better_9 : dec cX11_better 9 3 12 (.ifCond .eq 9) := ⟨by decide +kernel, rfl⟩
theorem dX11_better_12 : dec cX11_better 12 1 13 (.aload_n 0) := ⟨by decide +kernel, rfl⟩
theorem dX11_better_13 : dec cX11_better 13 1 14 (.iload_n 3) := ⟨by decide +kernel, rfl⟩
theorem dX11_better_14 : dec cX11_better 14 3 17 (.invokevirtual 91) := ⟨by decide +kernel, rfl⟩
theorem dX11_better_17 : dec cX11_better 17 1 18 (.ireturn) := ⟨by decide +kernel, rfl⟩
theorem dX11_better_18 : dec cX11_better 18 1 19 (.aload_n 0) := ⟨by decide +kernel, rfl⟩
theorem dX11_better_19 : dec cX11_better 19 3 22 (.getfield 57) := ⟨by decide +kernel, rfl⟩
theorem dX11_better_22 : dec cX11_better 22 1 23 (.aload_n 0) := ⟨by decide +kernel, rfl⟩
theorem dX11_better_23 : dec cX11_better 23 3 26 (.getfield 36) := ⟨by decide +kernel, rfl⟩
theorem dX11_better_26 : dec cX11_better 26 3 29 (.invokevirtual 310) := ⟨by decide +kernel, rfl⟩
theorem dX11_better_29 : dec cX11_better 29 2 31 (.istore 4) := ⟨by decide +kernel, rfl⟩
theorem dX11_better_31 : dec cX11_better 31 2 33 (.iload 4) := ⟨by decide +kernel, rfl⟩
theorem dX11_better_33 : dec cX11_better 33 3 36 (.ifCond .ge 11) := ⟨by decide +kernel, rfl⟩
theorem dX11_better_36 : dec cX11_better 36 1 37 (.aload_n 0) := ⟨by decide +kernel, rfl⟩
theorem dX11_better_37 : dec cX11_better 37 1 38 (.iconst 3) := ⟨by decide +kernel, rfl⟩
theorem dX11_better_38 : dec cX11_better 38 3 41 (.invokevirtual 91) := ⟨by decide +kernel, rfl⟩
theorem dX11_better_41 : dec cX11_better 41 3 44 (.goto 5) := ⟨by decide +kernel, rfl⟩
theorem dX11_better_44 : dec cX11_better 44 2 46 (.iload 4) := ⟨by decide +kernel, rfl⟩
theorem dX11_better_46 : dec cX11_better 46 1 47 (.ireturn) := ⟨by decide +kernel, rfl⟩
set_option maxHeartbeats 4000000 in
set_option maxRecDepth 100000 in
theorem mX11_better (Y : Yx) (hF : Y.2.2.2.2 = true) (l : Launch) (a0 : Nat) (x1 : Int) (x2 : Int) (M0 : Mem) (Q : Int → Mem → Prop) (qa0 : 0 < a0 ∧ M0 0 a0 = kO 11) (h : wX11_better a0 x1 x2 M0 Q) : CT Y l yX11_better cX11_better 5 (some .int) rmX11_better [vR Y.1 a0, vI x1, vI x2] M0 (QI Q) := by
  unfold wX11_better at h
  refine ct_intro (by decide) (Nat.le_of_ble_eq_true rfl) ?_
  intro X hXl hC hL0
  have hL := hL0 hF
  change OKX X Y RX11 cX11_better 5 (some .int) rmX11_better at hC
  change WW X Y 5 rmX11_better (QI Q) M0 0 0 0 [(0, vR Y.1 a0), (1, vI x1), (2, vI x2)] [] M0
  refine r_aload_n hC 0 dX11_better_0 rfl rfl ?_
  refine r_iload_n hC 1 dX11_better_1 rfl rfl ?_
  refine r_iload_n hC 2 dX11_better_2 rfl rfl ?_
  refine r_iconst hC dX11_better_3 ?_
  refine r_callV (As := [vI x1, vI x2, vI 1]) (st := []) hC cw_X11_213 rfl qa0.1 qa0.2 rfl rfl (Nat.le_of_ble_eq_true rfl) ⟨Nat.le_of_ble_eq_true rfl, Nat.le_of_ble_eq_true rfl⟩ ⟨Nat.le_of_ble_eq_true rfl, Nat.le_of_ble_eq_true rfl⟩ dX11_better_4 (fun hk => mX11_rowFault Y hF _ _ _ _ _ _ _ (kqO hk qa0) h) (fun v M_1 h => ?_)
  obtain ⟨r_2, rfl, h⟩ := h
  refine r_istore_n (lv' := [(3, vI r_2), (0, vR Y.1 a0), (1, vI x1), (2, vI x2)]) hC dX11_better_7 rfl (by decide) rfl ?_
  refine r_iload_n hC 0 dX11_better_8 rfl rfl ?_
  refine r_if_eq hC 18 rfl dX11_better_9 (by decide) (fun cq => ?_) (fun cq => ?_)
  · replace h := h.1 cq
    refine r_aload_n hC 1 dX11_better_18 rfl rfl ?_
    have q_3 : 0 < a0 + 102 ∧ M0 0 (a0 + 102) = kO 6 := lay_f0 (a := a0) hL qa0 fm_11_8
    refine r_getR0 (a' := a0 + 102) hC fg_X11_57 rfl hF fm_11_8 qa0.1 qa0.2 rfl dX11_better_19 ?_
    refine r_aload_n hC 1 dX11_better_22 rfl rfl ?_
    have q_4 : 0 < a0 + 86 ∧ M0 0 (a0 + 86) = kO 5 := lay_f0 (a := a0) hL qa0 fm_11_5
    refine r_getR0 (a' := a0 + 86) hC fg_X11_36 rfl hF fm_11_5 qa0.1 qa0.2 rfl dX11_better_23 ?_
    refine r_callV (As := [vR Y.1 (a0 + 86)]) (st := []) hC cw_X11_310 rfl q_3.1 q_3.2 rfl rfl (Nat.le_of_ble_eq_true rfl) ⟨Nat.le_of_ble_eq_true rfl, Nat.le_of_ble_eq_true rfl⟩ ⟨Nat.le_of_ble_eq_true rfl, Nat.le_of_ble_eq_true rfl⟩ dX11_better_26 (fun hk => mX6_changeOfTwo Y hF _ _ _ _ _ (kqO hk q_3) (kqO hk q_4) h) (fun v M_5 h => ?_)
    obtain ⟨r_6, rfl, h⟩ := h
    refine r_istore (lv' := [(4, vI r_6), (3, vI r_2), (0, vR Y.1 a0), (1, vI x1), (2, vI x2)]) hC dX11_better_29 (by decide) rfl ?_
    refine r_iload hC 0 dX11_better_31 rfl ?_
    refine r_if_ge hC 44 rfl dX11_better_33 (by decide) (fun cq => ?_) (fun cq => ?_)
    · replace h := h.1 cq
      refine r_iload hC 0 dX11_better_44 rfl ?_
      exact r_iret hC (Nat.zero_le _) (Nat.zero_le _) dX11_better_46 ⟨_, rfl, h⟩
    · replace h := h.2 cq
      refine r_aload_n hC 2 dX11_better_36 rfl rfl ?_
      refine r_iconst hC dX11_better_37 ?_
      refine r_callV (As := [vI 3]) (st := []) hC cw_X11_91 rfl qa0.1 qa0.2 rfl rfl (Nat.le_of_ble_eq_true rfl) ⟨Nat.le_of_ble_eq_true rfl, Nat.le_of_ble_eq_true rfl⟩ ⟨Nat.le_of_ble_eq_true rfl, Nat.le_of_ble_eq_true rfl⟩ dX11_better_38 (fun hk => mX11_error Y hF _ _ _ _ _ (kqO hk qa0) h) (fun v M_7 h => ?_)
      obtain ⟨r_8, rfl, h⟩ := h
      refine r_goto hC 46 dX11_better_41 (by decide) ?_
      exact r_iret hC (Nat.zero_le _) (Nat.zero_le _) dX11_better_46 ⟨_, rfl, h⟩
  · replace h := h.2 cq
    refine r_aload_n hC 1 dX11_better_12 rfl rfl ?_
    refine r_iload_n hC 0 dX11_better_13 rfl rfl ?_
    refine r_callV (As := [vI r_2]) (st := []) hC cw_X11_91 rfl qa0.1 qa0.2 rfl rfl (Nat.le_of_ble_eq_true rfl) ⟨Nat.le_of_ble_eq_true rfl, Nat.le_of_ble_eq_true rfl⟩ ⟨Nat.le_of_ble_eq_true rfl, Nat.le_of_ble_eq_true rfl⟩ dX11_better_14 (fun hk => mX11_error Y hF _ _ _ _ _ (kqO hk qa0) h) (fun v M_9 h => ?_)
    obtain ⟨r_10, rfl, h⟩ := h
    exact r_iret hC (Nat.zero_le _) (Nat.zero_le _) dX11_better_17 ⟨_, rfl, h⟩
theorem dX11_slides_0 : dec cX11_slides 0 1 1 (.aload_n 0) := ⟨by decide +kernel, rfl⟩
theorem dX11_slides_1 : dec cX11_slides 1 1 2 (.iload_n 1) := ⟨by decide +kernel, rfl⟩
theorem dX11_slides_2 : dec cX11_slides 2 1 3 (.iload_n 2) := ⟨by decide +kernel, rfl⟩
theorem dX11_slides_3 : dec cX11_slides 3 1 4 (.iload_n 3) := ⟨by decide +kernel, rfl⟩
theorem dX11_slides_4 : dec cX11_slides 4 1 5 (.iconst 1) := ⟨by decide +kernel, rfl⟩
theorem dX11_slides_5 : dec cX11_slides 5 2 7 (.bipush 20) := ⟨by decide +kernel, rfl⟩
theorem dX11_slides_7 : dec cX11_slides 7 3 10 (.invokestatic 87) := ⟨by decide +kernel, rfl⟩
theorem dX11_slides_10 : dec cX11_slides 10 3 13 (.invokevirtual 213) := ⟨by decide +kernel, rfl⟩
theorem dX11_slides_13 : dec cX11_slides 13 2 15 (.istore 4) := ⟨by decide +kernel, rfl⟩
theorem dX11_slides_15 : dec cX11_slides 15 2 17 (.iload 4) := ⟨by decide +kernel, rfl⟩
theorem dX11_slides_17 : dec cX11_slides 17 3 20 (.ifCond .eq 10) := ⟨by decide +kernel, rfl⟩
theorem dX11_slides_20 : dec cX11_slides 20 1 21 (.aload_n 0) := ⟨by decide +kernel, rfl⟩
theorem dX11_slides_21 : dec cX11_slides 21 2 23 (.iload 4) := ⟨by decide +kernel, rfl⟩
theorem dX11_slides_23 : dec cX11_slides 23 3 26 (.invokevirtual 91) := ⟨by decide +kernel, rfl⟩
theorem dX11_slides_26 : dec cX11_slides 26 1 27 (.ireturn) := ⟨by decide +kernel, rfl⟩
theorem dX11_slides_27 : dec cX11_slides 27 1 28 (.iconst 0) := ⟨by decide +kernel, rfl⟩
theorem dX11_slides_28 : dec cX11_slides 28 2 30 (.istore 5) := ⟨by decide +kernel, rfl⟩
theorem dX11_slides_30 : dec cX11_slides 30 1 31 (.iconst 0) := ⟨by decide +kernel, rfl⟩
theorem dX11_slides_31 : dec cX11_slides 31 2 33 (.istore 6) := ⟨by decide +kernel, rfl⟩
theorem dX11_slides_33 : dec cX11_slides 33 2 35 (.iload 6) := ⟨by decide +kernel, rfl⟩
theorem dX11_slides_35 : dec cX11_slides 35 1 36 (.iload_n 3) := ⟨by decide +kernel, rfl⟩
theorem dX11_slides_36 : dec cX11_slides 36 3 39 (.if_icmp .ge 50) := ⟨by decide +kernel, rfl⟩
theorem dX11_slides_39 : dec cX11_slides 39 1 40 (.aload_n 0) := ⟨by decide +kernel, rfl⟩
theorem dX11_slides_40 : dec cX11_slides 40 3 43 (.getfield 57) := ⟨by decide +kernel, rfl⟩
theorem dX11_slides_43 : dec cX11_slides 43 1 44 (.aload_n 0) := ⟨by decide +kernel, rfl⟩
theorem dX11_slides_44 : dec cX11_slides 44 3 47 (.getfield 36) := ⟨by decide +kernel, rfl⟩
theorem dX11_slides_47 : dec cX11_slides 47 3 50 (.invokevirtual 310) := ⟨by decide +kernel, rfl⟩
theorem dX11_slides_50 : dec cX11_slides 50 2 52 (.istore 7) := ⟨by decide +kernel, rfl⟩
theorem dX11_slides_52 : dec cX11_slides 52 2 54 (.iload 7) := ⟨by decide +kernel, rfl⟩
theorem dX11_slides_54 : dec cX11_slides 54 3 57 (.ifCond .ge 6) := ⟨by decide +kernel, rfl⟩
theorem dX11_slides_57 : dec cX11_slides 57 3 60 (.goto 29) := ⟨by decide +kernel, rfl⟩
theorem dX11_slides_60 : dec cX11_slides 60 1 61 (.aload_n 0) := ⟨by decide +kernel, rfl⟩
theorem dX11_slides_61 : dec cX11_slides 61 3 64 (.getfield 36) := ⟨by decide +kernel, rfl⟩
theorem dX11_slides_64 : dec cX11_slides 64 2 66 (.iload 7) := ⟨by decide +kernel, rfl⟩
theorem dX11_slides_66 : dec cX11_slides 66 2 68 (.bipush 100) := ⟨by decide +kernel, rfl⟩
theorem dX11_slides_68 : dec cX11_slides 68 1 69 (.idiv) := ⟨by decide +kernel, rfl⟩
theorem dX11_slides_69 : dec cX11_slides 69 2 71 (.iload 7) := ⟨by decide +kernel, rfl⟩
theorem dX11_slides_71 : dec cX11_slides 71 2 73 (.bipush 100) := ⟨by decide +kernel, rfl⟩
theorem dX11_slides_73 : dec cX11_slides 73 1 74 (.irem) := ⟨by decide +kernel, rfl⟩
theorem dX11_slides_74 : dec cX11_slides 74 3 77 (.invokevirtual 314) := ⟨by decide +kernel, rfl⟩
theorem dX11_slides_77 : dec cX11_slides 77 3 80 (.iinc 5 1) := ⟨by decide +kernel, rfl⟩
theorem dX11_slides_80 : dec cX11_slides 80 3 83 (.iinc 6 1) := ⟨by decide +kernel, rfl⟩
theorem dX11_slides_83 : dec cX11_slides 83 3 86 (.goto (-50)) := ⟨by decide +kernel, rfl⟩
theorem dX11_slides_86 : dec cX11_slides 86 1 87 (.aload_n 0) := ⟨by decide +kernel, rfl⟩
theorem dX11_slides_87 : dec cX11_slides 87 3 90 (.getfield 25) := ⟨by decide +kernel, rfl⟩
theorem dX11_slides_90 : dec cX11_slides 90 1 91 (.iload_n 1) := ⟨by decide +kernel, rfl⟩
theorem dX11_slides_91 : dec cX11_slides 91 1 92 (.aaload) := ⟨by decide +kernel, rfl⟩
theorem dX11_slides_92 : dec cX11_slides 92 1 93 (.aload_n 0) := ⟨by decide +kernel, rfl⟩
theorem dX11_slides_93 : dec cX11_slides 93 3 96 (.getfield 36) := ⟨by decide +kernel, rfl⟩
theorem dX11_slides_96 : dec cX11_slides 96 3 99 (.invokevirtual 318) := ⟨by decide +kernel, rfl⟩
theorem dX11_slides_99 : dec cX11_slides 99 2 101 (.iload 5) := ⟨by decide +kernel, rfl⟩
theorem dX11_slides_101 : dec cX11_slides 101 1 102 (.ireturn) := ⟨by decide +kernel, rfl⟩
set_option maxHeartbeats 4000000 in
set_option maxRecDepth 100000 in
theorem tX11_slides_L33 {X : Cx} {Y : Yx} {M0 : Mem} (hC : OKX X Y RX11 cX11_slides 8 (some .int) rmX11_slides) (hF : Y.2.2.2.2 = true) (hL : Lay M0) (Q : Int → Mem → Prop) (E57 : Int → Mem → Prop) (E86 : Int → Mem → Prop) (a0 : Nat) (x1 : Int) (x3 : Int) (qa0 : 0 < a0 ∧ M0 0 a0 = kO 11) (hE57 : ∀ (x5 : Int) (M : Mem), E57 x5 M → WW X Y 8 rmX11_slides (QI Q) M0 0 0 57 [(0, vR Y.1 a0), (1, vI x1), (5, vI x5)] [] M) (hE86 : ∀ (x5 : Int) (M : Mem), E86 x5 M → WW X Y 8 rmX11_slides (QI Q) M0 0 0 86 [(0, vR Y.1 a0), (1, vI x1), (5, vI x5)] [] M) : ∀ (N : Nat) (x5 : Int) (x6 : Int) (M : Mem) (_ : wX11_slides_L33 Q E57 E86 a0 x1 x3 N x5 x6 M), WW X Y 8 rmX11_slides (QI Q) M0 0 0 33 [(0, vR Y.1 a0), (1, vI x1), (3, vI x3), (5, vI x5), (6, vI x6)] [] M := by
  intro N
  induction N with
  | zero =>
    intro x5 x6 M h
    exact h.elim
  | succ N ih =>
    intro x5 x6 M h
    unfold wX11_slides_L33 at h
    refine r_iload hC 4 dX11_slides_33 rfl ?_
    refine r_iload_n hC 2 dX11_slides_35 rfl rfl ?_
    refine r_icmp_ge hC 86 rfl rfl dX11_slides_36 (by decide) (fun cq => ?_) (fun cq => ?_)
    · replace h := h.1 cq
      refine r_sub [0, 1, 3] rfl ?_
      exact hE86 _ _ h
    · replace h := h.2 cq
      refine r_aload_n hC 0 dX11_slides_39 rfl rfl ?_
      have q_5 : 0 < a0 + 102 ∧ M0 0 (a0 + 102) = kO 6 := lay_f0 (a := a0) hL qa0 fm_11_8
      refine r_getR0 (a' := a0 + 102) hC fg_X11_57 rfl hF fm_11_8 qa0.1 qa0.2 rfl dX11_slides_40 ?_
      refine r_aload_n hC 0 dX11_slides_43 rfl rfl ?_
      have q_6 : 0 < a0 + 86 ∧ M0 0 (a0 + 86) = kO 5 := lay_f0 (a := a0) hL qa0 fm_11_5
      refine r_getR0 (a' := a0 + 86) hC fg_X11_36 rfl hF fm_11_5 qa0.1 qa0.2 rfl dX11_slides_44 ?_
      refine r_callV (As := [vR Y.1 (a0 + 86)]) (st := []) hC cw_X11_310 rfl q_5.1 q_5.2 rfl rfl (Nat.le_of_ble_eq_true rfl) ⟨Nat.le_of_ble_eq_true rfl, Nat.le_of_ble_eq_true rfl⟩ ⟨Nat.le_of_ble_eq_true rfl, Nat.le_of_ble_eq_true rfl⟩ dX11_slides_47 (fun hk => mX6_changeOfTwo Y hF _ _ _ _ _ (kqO hk q_5) (kqO hk q_6) h) (fun v M_7 h => ?_)
      obtain ⟨r_8, rfl, h⟩ := h
      refine r_istore (lv' := [(7, vI r_8), (0, vR Y.1 a0), (1, vI x1), (3, vI x3), (5, vI x5), (6, vI x6)]) hC dX11_slides_50 (by decide) rfl ?_
      refine r_iload hC 0 dX11_slides_52 rfl ?_
      refine r_if_ge hC 60 rfl dX11_slides_54 (by decide) (fun cq => ?_) (fun cq => ?_)
      · replace h := h.1 cq
        refine r_aload_n hC 1 dX11_slides_60 rfl rfl ?_
        have q_9 : 0 < a0 + 86 ∧ M0 0 (a0 + 86) = kO 5 := lay_f0 (a := a0) hL qa0 fm_11_5
        refine r_getR0 (a' := a0 + 86) hC fg_X11_36 rfl hF fm_11_5 qa0.1 qa0.2 rfl dX11_slides_61 ?_
        refine r_iload hC 0 dX11_slides_64 rfl ?_
        refine r_bipush hC (by decide +kernel) dX11_slides_66 ?_
        refine r_idiv hC (by decide +kernel) dX11_slides_68 ?_
        refine r_iload hC 0 dX11_slides_69 rfl ?_
        refine r_bipush hC (by decide +kernel) dX11_slides_71 ?_
        refine r_irem hC (by decide +kernel) dX11_slides_73 ?_
        refine r_callV (As := [vI (iDiv r_8 100), vI (iRem r_8 100)]) (st := []) hC cw_X11_314 rfl q_9.1 q_9.2 rfl rfl (Nat.le_of_ble_eq_true rfl) ⟨Nat.le_of_ble_eq_true rfl, Nat.le_of_ble_eq_true rfl⟩ ⟨Nat.le_of_ble_eq_true rfl, Nat.le_of_ble_eq_true rfl⟩ dX11_slides_74 (fun hk => mX5_swap Y hF _ _ _ _ _ _ (kqO hk q_9) h) (fun v M_10 h => ?_)
        obtain ⟨rfl, h⟩ := h
        refine let_elim h (fun x5_11 e_12 h => ?_)
        refine r_iinc (lv' := [(5, vI x5_11), (7, vI r_8), (0, vR Y.1 a0), (1, vI x1), (3, vI x3), (6, vI x6)]) hC 4 dX11_slides_77 rfl (by decide) e_12 rfl ?_
        refine let_elim h (fun x6_13 e_14 h => ?_)
        refine r_iinc (lv' := [(6, vI x6_13), (5, vI x5_11), (7, vI r_8), (0, vR Y.1 a0), (1, vI x1), (3, vI x3)]) hC 5 dX11_slides_80 rfl (by decide) e_14 rfl ?_
        refine r_goto hC 33 dX11_slides_83 (by decide) ?_
        refine r_sub [3, 4, 5, 1, 0] rfl ?_
        exact ih _ _ _ h
      · replace h := h.2 cq
        refine r_sub [1, 2, 4] rfl ?_
        exact hE57 _ _ h
set_option maxHeartbeats 4000000 in
set_option maxRecDepth 100000 in
theorem tX11_slides_J86 {X : Cx} {Y : Yx} {M0 : Mem} (hC : OKX X Y RX11 cX11_slides 8 (some .int) rmX11_slides) (hF : Y.2.2.2.2 = true) (hL : Lay M0) (Q : Int → Mem → Prop)   (a0 : Nat) (x1 : Int) (x5 : Int) (qa0 : 0 < a0 ∧ M0 0 a0 = kO 11)  (M : Mem) (h : wX11_slides_J86 Q  a0 x1 x5 M) : WW X Y 8 rmX11_slides (QI Q) M0 0 0 86 [(0, vR Y.1 a0), (1, vI x1), (5, vI x5)] [] M := by
  unfold wX11_slides_J86 at h
  refine r_aload_n hC 0 dX11_slides_86 rfl rfl ?_
  have q_17 : 0 < a0 + 84 ∧ M0 0 (a0 + 84) = kA 9 4 := lay_f0 (a := a0) hL qa0 fm_11_3
  refine r_getR0 (a' := a0 + 84) hC fg_X11_25 rfl hF fm_11_3 qa0.1 qa0.2 rfl dX11_slides_87 ?_
  refine r_iload_n hC 1 dX11_slides_90 rfl rfl ?_
  obtain ⟨i_18, h⟩ := h
  have q_19 : 0 < a0 + 116 + 2 * (bm x1).toNat ∧ M0 0 (a0 + 116 + 2 * (bm x1).toNat) = kO 8 := lay_a9 (a := a0 + 84) hL q_17 (inb_nat i_18)
  refine r_aald9 hC hF i_18 q_17.1 q_17.2 dX11_slides_91 ?_
  refine r_aload_n hC 0 dX11_slides_92 rfl rfl ?_
  have q_20 : 0 < a0 + 86 ∧ M0 0 (a0 + 86) = kO 5 := lay_f0 (a := a0) hL qa0 fm_11_5
  refine r_getR0 (a' := a0 + 86) hC fg_X11_36 rfl hF fm_11_5 qa0.1 qa0.2 rfl dX11_slides_93 ?_
  refine r_callV (As := [vR Y.1 (a0 + 86)]) (st := []) hC cw_X11_318 rfl q_19.1 q_19.2 rfl rfl (Nat.le_of_ble_eq_true rfl) ⟨Nat.le_of_ble_eq_true rfl, Nat.le_of_ble_eq_true rfl⟩ ⟨Nat.le_of_ble_eq_true rfl, Nat.le_of_ble_eq_true rfl⟩ dX11_slides_96 (fun hk => mX8_takePieces Y hF _ _ _ _ _ (kqO hk q_19) (kqO hk q_20) h) (fun v M_21 h => ?_)
  obtain ⟨rfl, h⟩ := h
  refine r_iload hC 2 dX11_slides_99 rfl ?_
  exact r_iret hC (Nat.zero_le _) (Nat.zero_le _) dX11_slides_101 ⟨_, rfl, h⟩
set_option maxHeartbeats 4000000 in
set_option maxRecDepth 100000 in
theorem mX11_slides (Y : Yx) (hF : Y.2.2.2.2 = true) (l : Launch) (a0 : Nat) (x1 : Int) (x2 : Int) (x3 : Int) (M0 : Mem) (Q : Int → Mem → Prop) (qa0 : 0 < a0 ∧ M0 0 a0 = kO 11) (h : wX11_slides a0 x1 x2 x3 M0 Q) : CT Y l yX11_slides cX11_slides 8 (some .int) rmX11_slides [vR Y.1 a0, vI x1, vI x2, vI x3] M0 (QI Q) := by
  unfold wX11_slides at h
  refine ct_intro (by decide) (Nat.le_of_ble_eq_true rfl) ?_
  intro X hXl hC hL0
  have hL := hL0 hF
  change OKX X Y RX11 cX11_slides 8 (some .int) rmX11_slides at hC
  change WW X Y 8 rmX11_slides (QI Q) M0 0 0 0 [(0, vR Y.1 a0), (1, vI x1), (2, vI x2), (3, vI x3)] [] M0
  refine r_aload_n hC 0 dX11_slides_0 rfl rfl ?_
  refine r_iload_n hC 1 dX11_slides_1 rfl rfl ?_
  refine r_iload_n hC 2 dX11_slides_2 rfl rfl ?_
  refine r_iload_n hC 3 dX11_slides_3 rfl rfl ?_
  refine r_iconst hC dX11_slides_4 ?_
  refine r_bipush hC (by decide +kernel) dX11_slides_5 ?_
  refine r_callS (As := [vI x3, vI 1, vI 20]) (st := [vI x2, vI x1, vR Y.1 a0]) hC cw_X11_87 rfl rfl (Nat.le_of_ble_eq_true rfl) ⟨Nat.le_of_ble_eq_true rfl, Nat.le_of_ble_eq_true rfl⟩ ⟨Nat.le_of_ble_eq_true rfl, Nat.le_of_ble_eq_true rfl⟩ dX11_slides_7 (fun hk => mX11_within Y hF _ _ _ _ _ _  h) (fun v M_1 h => ?_)
  obtain ⟨r_2, rfl, h⟩ := h
  refine r_callV (As := [vI x1, vI x2, vI r_2]) (st := []) hC cw_X11_213 rfl qa0.1 qa0.2 rfl rfl (Nat.le_of_ble_eq_true rfl) ⟨Nat.le_of_ble_eq_true rfl, Nat.le_of_ble_eq_true rfl⟩ ⟨Nat.le_of_ble_eq_true rfl, Nat.le_of_ble_eq_true rfl⟩ dX11_slides_10 (fun hk => mX11_rowFault Y hF _ _ _ _ _ _ _ (kqO hk qa0) h) (fun v M_3 h => ?_)
  obtain ⟨r_4, rfl, h⟩ := h
  refine r_istore (lv' := [(4, vI r_4), (0, vR Y.1 a0), (1, vI x1), (2, vI x2), (3, vI x3)]) hC dX11_slides_13 (by decide) rfl ?_
  refine r_iload hC 0 dX11_slides_15 rfl ?_
  refine r_if_eq hC 27 rfl dX11_slides_17 (by decide) (fun cq => ?_) (fun cq => ?_)
  · replace h := h.1 cq
    refine r_iconst hC dX11_slides_27 ?_
    refine r_istore (lv' := [(5, vI 0), (4, vI r_4), (0, vR Y.1 a0), (1, vI x1), (2, vI x2), (3, vI x3)]) hC dX11_slides_28 (by decide) rfl ?_
    refine r_iconst hC dX11_slides_30 ?_
    refine r_istore (lv' := [(6, vI 0), (5, vI 0), (4, vI r_4), (0, vR Y.1 a0), (1, vI x1), (2, vI x2), (3, vI x3)]) hC dX11_slides_31 (by decide) rfl ?_
    refine r_sub [3, 4, 6, 1, 0] rfl ?_
    obtain ⟨N_24, h⟩ := h
    refine tX11_slides_L33 hC hF hL Q _ _ _ _ _ qa0 ?_ ?_ N_24 _ _ _ h
    · intro x5_15 M_16 h
      refine r_goto hC 86 dX11_slides_57 (by decide) ?_
      refine r_sub [0, 1, 2] rfl ?_
      exact tX11_slides_J86 hC hF hL Q   _ _ _ qa0  _ h
    · intro x5_22 M_23 h
      refine r_sub [0, 1, 2] rfl ?_
      exact tX11_slides_J86 hC hF hL Q   _ _ _ qa0  _ h
  · replace h := h.2 cq
    refine r_aload_n hC 1 dX11_slides_20 rfl rfl ?_
    refine r_iload hC 0 dX11_slides_21 rfl ?_
    refine r_callV (As := [vI r_4]) (st := []) hC cw_X11_91 rfl qa0.1 qa0.2 rfl rfl (Nat.le_of_ble_eq_true rfl) ⟨Nat.le_of_ble_eq_true rfl, Nat.le_of_ble_eq_true rfl⟩ ⟨Nat.le_of_ble_eq_true rfl, Nat.le_of_ble_eq_true rfl⟩ dX11_slides_23 (fun hk => mX11_error Y hF _ _ _ _ _ (kqO hk qa0) h) (fun v M_25 h => ?_)
    obtain ⟨r_26, rfl, h⟩ := h
    exact r_iret hC (Nat.zero_le _) (Nat.zero_le _) dX11_slides_26 ⟨_, rfl, h⟩
