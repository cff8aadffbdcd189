theorem dX11_ill_0 : dec cX11_ill 0 1 1 (.aload_n 0) := ⟨by decide +kernel, rfl⟩
theorem dX11_ill_1 : dec cX11_ill 1 1 2 (.iload_n 1) := ⟨by decide +kernel, rfl⟩
theorem dX11_ill_2 : dec cX11_ill 2 1 3 (.iload_n 2) := ⟨by decide +kernel, rfl⟩
theorem dX11_ill_3 : dec cX11_ill 3 2 5 (.iload 4) := ⟨by decide +kernel, rfl⟩
theorem dX11_ill_5 : dec cX11_ill 5 2 7 (.bipush (-2)) := ⟨by decide +kernel, rfl⟩
theorem dX11_ill_7 : dec cX11_ill 7 3 10 (.if_icmp .lt 7) := ⟨by decide +kernel, rfl⟩
theorem dX11_ill_10 : dec cX11_ill 10 1 11 (.iconst 1) := ⟨by decide +kernel, rfl⟩
theorem dX11_ill_11 : dec cX11_ill 11 3 14 (.goto 4) := ⟨by decide +kernel, rfl⟩
theorem dX11_ill_14 : dec cX11_ill 14 1 15 (.iconst 0) := ⟨by decide +kernel, rfl⟩
theorem dX11_ill_15 : dec cX11_ill 15 3 18 (.invokevirtual 213) := ⟨by decide +kernel, rfl⟩
theorem dX11_ill_18 : dec cX11_ill 18 2 20 (.istore 5) := ⟨by decide +kernel, rfl⟩
theorem dX11_ill_20 : dec cX11_ill 20 2 22 (.iload 5) := ⟨by decide +kernel, rfl⟩
theorem dX11_ill_22 : dec cX11_ill 22 3 25 (.ifCond .ne 22) := ⟨by decide +kernel, rfl⟩
theorem dX11_ill_25 : dec cX11_ill 25 1 26 (.aload_n 0) := ⟨by decide +kernel, rfl⟩
theorem dX11_ill_26 : dec cX11_ill 26 3 29 (.getfield 36) := ⟨by decide +kernel, rfl⟩
theorem dX11_ill_29 : dec cX11_ill 29 3 32 (.getfield 236) := ⟨by decide +kernel, rfl⟩
theorem dX11_ill_32 : dec cX11_ill 32 1 33 (.iconst 2) := ⟨by decide +kernel, rfl⟩
theorem dX11_ill_33 : dec cX11_ill 33 2 35 (.bipush 7) := ⟨by decide +kernel, rfl⟩
theorem dX11_ill_35 : dec cX11_ill 35 3 38 (.invokestatic 87) := ⟨by decide +kernel, rfl⟩
theorem dX11_ill_38 : dec cX11_ill 38 3 41 (.ifCond .ne 6) := ⟨by decide +kernel, rfl⟩
theorem dX11_ill_41 : dec cX11_ill 41 1 42 (.iconst 5) := ⟨by decide +kernel, rfl⟩
theorem dX11_ill_42 : dec cX11_ill 42 2 44 (.istore 5) := ⟨by decide +kernel, rfl⟩
theorem dX11_ill_44 : dec cX11_ill 44 2 46 (.iload 5) := ⟨by decide +kernel, rfl⟩
theorem dX11_ill_46 : dec cX11_ill 46 3 49 (.ifCond .ne 23) := ⟨by decide +kernel, rfl⟩
theorem dX11_ill_49 : dec cX11_ill 49 1 50 (.iload_n 3) := ⟨by decide +kernel, rfl⟩
theorem dX11_ill_50 : dec cX11_ill 50 1 51 (.iconst 0) := ⟨by decide +kernel, rfl⟩
theorem dX11_ill_51 : dec cX11_ill 51 1 52 (.aload_n 0) := ⟨by decide +kernel, rfl⟩
theorem dX11_ill_52 : dec cX11_ill 52 3 55 (.getfield 36) := ⟨by decide +kernel, rfl⟩
theorem dX11_ill_55 : dec cX11_ill 55 3 58 (.getfield 236) := ⟨by decide +kernel, rfl⟩
theorem dX11_ill_58 : dec cX11_ill 58 1 59 (.iconst 1) := ⟨by decide +kernel, rfl⟩
theorem dX11_ill_59 : dec cX11_ill 59 1 60 (.isub) := ⟨by decide +kernel, rfl⟩
theorem dX11_ill_60 : dec cX11_ill 60 3 63 (.invokestatic 87) := ⟨by decide +kernel, rfl⟩
theorem dX11_ill_63 : dec cX11_ill 63 3 66 (.ifCond .ne 6) := ⟨by decide +kernel, rfl⟩
theorem dX11_ill_66 : dec cX11_ill 66 1 67 (.iconst 1) := ⟨by decide +kernel, rfl⟩
theorem dX11_ill_67 : dec cX11_ill 67 2 69 (.istore 5) := ⟨by decide +kernel, rfl⟩
theorem dX11_ill_69 : dec cX11_ill 69 2 71 (.iload 5) := ⟨by decide +kernel, rfl⟩
theorem dX11_ill_71 : dec cX11_ill 71 3 74 (.ifCond .ne 40) := ⟨by decide +kernel, rfl⟩
theorem dX11_ill_74 : dec cX11_ill 74 1 75 (.aload_n 0) := ⟨by decide +kernel, rfl⟩
theorem dX11_ill_75 : dec cX11_ill 75 3 78 (.getfield 57) := ⟨by decide +kernel, rfl⟩
theorem dX11_ill_78 : dec cX11_ill 78 1 79 (.aload_n 0) := ⟨by decide +kernel, rfl⟩
theorem dX11_ill_79 : dec cX11_ill 79 3 82 (.getfield 36) := ⟨by decide +kernel, rfl⟩
theorem dX11_ill_82 : dec cX11_ill 82 1 83 (.iload_n 3) := ⟨by decide +kernel, rfl⟩
theorem dX11_ill_83 : dec cX11_ill 83 3 86 (.invokevirtual 322) := ⟨by decide +kernel, rfl⟩
theorem dX11_ill_86 : dec cX11_ill 86 1 87 (.aload_n 0) := ⟨by decide +kernel, rfl⟩
theorem dX11_ill_87 : dec cX11_ill 87 3 90 (.getfield 57) := ⟨by decide +kernel, rfl⟩
theorem dX11_ill_90 : dec cX11_ill 90 3 93 (.getfield 264) := ⟨by decide +kernel, rfl⟩
theorem dX11_ill_93 : dec cX11_ill 93 3 96 (.ifCond .eq 15) := ⟨by decide +kernel, rfl⟩
theorem dX11_ill_96 : dec cX11_ill 96 2 98 (.iload 4) := ⟨by decide +kernel, rfl⟩
theorem dX11_ill_98 : dec cX11_ill 98 1 99 (.aload_n 0) := ⟨by decide +kernel, rfl⟩
theorem dX11_ill_99 : dec cX11_ill 99 3 102 (.getfield 57) := ⟨by decide +kernel, rfl⟩
theorem dX11_ill_102 : dec cX11_ill 102 3 105 (.getfield 267) := ⟨by decide +kernel, rfl⟩
theorem dX11_ill_105 : dec cX11_ill 105 3 108 (.if_icmp .lt 6) := ⟨by decide +kernel, rfl⟩
theorem dX11_ill_108 : dec cX11_ill 108 1 109 (.iconst 2) := ⟨by decide +kernel, rfl⟩
theorem dX11_ill_109 : dec cX11_ill 109 2 111 (.istore 5) := ⟨by decide +kernel, rfl⟩
theorem dX11_ill_111 : dec cX11_ill 111 2 113 (.iload 5) := ⟨by decide +kernel, rfl⟩
theorem dX11_ill_113 : dec cX11_ill 113 3 116 (.ifCond .eq 10) := ⟨by decide +kernel, rfl⟩
theorem dX11_ill_116 : dec cX11_ill 116 1 117 (.aload_n 0) := ⟨by decide +kernel, rfl⟩
theorem dX11_ill_117 : dec cX11_ill 117 2 119 (.iload 5) := ⟨by decide +kernel, rfl⟩
theorem dX11_ill_119 : dec cX11_ill 119 3 122 (.invokevirtual 91) := ⟨by decide +kernel, rfl⟩
theorem dX11_ill_122 : dec cX11_ill 122 1 123 (.ireturn) := ⟨by decide +kernel, rfl⟩
theorem dX11_ill_123 : dec cX11_ill 123 2 125 (.iload 4) := ⟨by decide +kernel, rfl⟩
theorem dX11_ill_125 : dec cX11_ill 125 1 126 (.iconst (-1)) := ⟨by decide +kernel, rfl⟩
theorem dX11_ill_126 : dec cX11_ill 126 3 129 (.if_icmp .ne 13) := ⟨by decide +kernel, rfl⟩
theorem dX11_ill_129 : dec cX11_ill 129 1 130 (.aload_n 0) := ⟨by decide +kernel, rfl⟩
theorem dX11_ill_130 : dec cX11_ill 130 3 133 (.getfield 57) := ⟨by decide +kernel, rfl⟩
theorem dX11_ill_133 : dec cX11_ill 133 3 136 (.getfield 325) := ⟨by decide +kernel, rfl⟩
theorem dX11_ill_136 : dec cX11_ill 136 3 139 (.goto 36) := ⟨by decide +kernel, rfl⟩
theorem dX11_ill_139 : dec cX11_ill 139 2 141 (.iload 4) := ⟨by decide +kernel, rfl⟩
theorem dX11_ill_141 : dec cX11_ill 141 2 143 (.bipush (-2)) := ⟨by decide +kernel, rfl⟩
theorem dX11_ill_143 : dec cX11_ill 143 3 146 (.if_icmp .ne 16) := ⟨by decide +kernel, rfl⟩
theorem dX11_ill_146 : dec cX11_ill 146 1 147 (.aload_n 0) := ⟨by decide +kernel, rfl⟩
theorem dX11_ill_147 : dec cX11_ill 147 3 150 (.getfield 57) := ⟨by decide +kernel, rfl⟩
theorem dX11_ill_150 : dec cX11_ill 150 3 153 (.getfield 270) := ⟨by decide +kernel, rfl⟩
theorem dX11_ill_153 : dec cX11_ill 153 3 156 (.getfield 273) := ⟨by decide +kernel, rfl⟩
theorem dX11_ill_156 : dec cX11_ill 156 3 159 (.goto 16) := ⟨by decide +kernel, rfl⟩
theorem dX11_ill_159 : dec cX11_ill 159 1 160 (.aload_n 0) := ⟨by decide +kernel, rfl⟩
theorem dX11_ill_160 : dec cX11_ill 160 3 163 (.getfield 57) := ⟨by decide +kernel, rfl⟩
theorem dX11_ill_163 : dec cX11_ill 163 3 166 (.getfield 270) := ⟨by decide +kernel, rfl⟩
theorem dX11_ill_166 : dec cX11_ill 166 3 169 (.getfield 276) := ⟨by decide +kernel, rfl⟩
theorem dX11_ill_169 : dec cX11_ill 169 2 171 (.iload 4) := ⟨by decide +kernel, rfl⟩
theorem dX11_ill_171 : dec cX11_ill 171 1 172 (.iaload) := ⟨by decide +kernel, rfl⟩
theorem dX11_ill_172 : dec cX11_ill 172 1 173 (.ireturn) := ⟨by decide +kernel, rfl⟩
set_option maxHeartbeats 4000000 in
set_option maxRecDepth 100000 in
theorem tX11_ill_J111 {X : Cx} {Y : Yx} {M0 : Mem} (hC : OKX X Y RX11 cX11_ill 6 (some .int) rmX11_ill) (hF : Y.2.2.2.2 = true) (hL : Lay M0) (Q : Int → Mem → Prop)   (a0 : Nat) (x4 : Int) (x5 : Int) (qa0 : 0 < a0 ∧ M0 0 a0 = kO 11)  (M : Mem) (h : wX11_ill_J111 Q  a0 x4 x5 M) : WW X Y 6 rmX11_ill (QI Q) M0 0 0 111 [(0, vR Y.1 a0), (4, vI x4), (5, vI x5)] [] M := by
  unfold wX11_ill_J111 at h
  refine r_iload hC 2 dX11_ill_111 rfl ?_
  refine r_if_eq hC 123 rfl dX11_ill_113 (by decide) (fun cq => ?_) (fun cq => ?_)
  · replace h := h.1 cq
    refine r_iload hC 1 dX11_ill_123 rfl ?_
    refine r_iconst hC dX11_ill_125 ?_
    refine r_icmp_ne hC 139 rfl bmL_m1 dX11_ill_126 (by decide) (fun cq => ?_) (fun cq => ?_)
    · replace h := h.2 cq
      refine r_iload hC 1 dX11_ill_139 rfl ?_
      refine r_bipush hC (by decide +kernel) dX11_ill_141 ?_
      refine r_icmp_ne hC 159 rfl bmL_m2 dX11_ill_143 (by decide) (fun cq => ?_) (fun cq => ?_)
      · replace h := h.2 cq
        refine r_aload_n hC 0 dX11_ill_159 rfl rfl ?_
        have q_3 : 0 < a0 + 102 ∧ M0 0 (a0 + 102) = kO 6 := lay_f0 (a := a0) hL qa0 fm_11_8
        refine r_getR0 (a' := a0 + 102) hC fg_X11_57 rfl hF fm_11_8 qa0.1 qa0.2 rfl dX11_ill_160 ?_
        have q_4 : 0 < a0 + 104 ∧ M0 0 (a0 + 104) = kO 5 := lay_f0 (a := a0 + 102) hL q_3 fm_6_11
        refine r_getR0 (a' := a0 + 104) hC fg_X11_270 rfl hF fm_6_11 q_3.1 q_3.2 rfl dX11_ill_163 ?_
        have q_5 : 0 < a0 + 105 ∧ M0 0 (a0 + 105) = kA 0 12 := lay_f0 (a := a0 + 104) hL q_4 fm_5_0
        refine r_getR0 (a' := a0 + 105) hC fg_X11_276 rfl hF fm_5_0 q_4.1 q_4.2 rfl dX11_ill_166 ?_
        refine r_iload hC 1 dX11_ill_169 rfl ?_
        obtain ⟨i_6, h⟩ := h
        refine r_iald hC i_6 q_5.1 q_5.2 (by decide) dX11_ill_171 ?_
        exact r_iret hC (Nat.zero_le _) (Nat.zero_le _) dX11_ill_172 ⟨_, rfl, h⟩
      · replace h := h.1 cq
        refine r_aload_n hC 0 dX11_ill_146 rfl rfl ?_
        have q_7 : 0 < a0 + 102 ∧ M0 0 (a0 + 102) = kO 6 := lay_f0 (a := a0) hL qa0 fm_11_8
        refine r_getR0 (a' := a0 + 102) hC fg_X11_57 rfl hF fm_11_8 qa0.1 qa0.2 rfl dX11_ill_147 ?_
        have q_8 : 0 < a0 + 104 ∧ M0 0 (a0 + 104) = kO 5 := lay_f0 (a := a0 + 102) hL q_7 fm_6_11
        refine r_getR0 (a' := a0 + 104) hC fg_X11_270 rfl hF fm_6_11 q_7.1 q_7.2 rfl dX11_ill_150 ?_
        refine r_getI hC fg_X11_273 rfl q_8.1 q_8.2 dX11_ill_153 ?_
        refine r_goto hC 172 dX11_ill_156 (by decide) ?_
        exact r_iret hC (Nat.zero_le _) (Nat.zero_le _) dX11_ill_172 ⟨_, rfl, h⟩
    · replace h := h.1 cq
      refine r_aload_n hC 0 dX11_ill_129 rfl rfl ?_
      have q_9 : 0 < a0 + 102 ∧ M0 0 (a0 + 102) = kO 6 := lay_f0 (a := a0) hL qa0 fm_11_8
      refine r_getR0 (a' := a0 + 102) hC fg_X11_57 rfl hF fm_11_8 qa0.1 qa0.2 rfl dX11_ill_130 ?_
      refine r_getI hC fg_X11_325 rfl q_9.1 q_9.2 dX11_ill_133 ?_
      refine r_goto hC 172 dX11_ill_136 (by decide) ?_
      exact r_iret hC (Nat.zero_le _) (Nat.zero_le _) dX11_ill_172 ⟨_, rfl, h⟩
  · replace h := h.2 cq
    refine r_aload_n hC 0 dX11_ill_116 rfl rfl ?_
    refine r_iload hC 2 dX11_ill_117 rfl ?_
    refine r_callV (As := [vI x5]) (st := []) hC cw_X11_91 rfl qa0.1 qa0.2 rfl rfl (Nat.le_of_ble_eq_true rfl) ⟨Nat.le_of_ble_eq_true rfl, Nat.le_of_ble_eq_true rfl⟩ ⟨Nat.le_of_ble_eq_true rfl, Nat.le_of_ble_eq_true rfl⟩ dX11_ill_119 (fun hk => mX11_error Y hF _ _ _ _ _ (kqO hk qa0) h) (fun v M_10 h => ?_)
    obtain ⟨r_11, rfl, h⟩ := h
    exact r_iret hC (Nat.zero_le _) (Nat.zero_le _) dX11_ill_122 ⟨_, rfl, h⟩
set_option maxHeartbeats 4000000 in
set_option maxRecDepth 100000 in
theorem tX11_ill_J108 {X : Cx} {Y : Yx} {M0 : Mem} (hC : OKX X Y RX11 cX11_ill 6 (some .int) rmX11_ill) (hF : Y.2.2.2.2 = true) (hL : Lay M0) (Q : Int → Mem → Prop)   (a0 : Nat) (x4 : Int) (qa0 : 0 < a0 ∧ M0 0 a0 = kO 11)  (M : Mem) (h : wX11_ill_J108 Q  a0 x4 M) : WW X Y 6 rmX11_ill (QI Q) M0 0 0 108 [(0, vR Y.1 a0), (4, vI x4)] [] M := by
  unfold wX11_ill_J108 at h
  refine r_iconst hC dX11_ill_108 ?_
  refine r_istore (lv' := [(5, vI 2), (0, vR Y.1 a0), (4, vI x4)]) hC dX11_ill_109 (by decide) rfl ?_
  refine r_sub [1, 2, 0] rfl ?_
  exact tX11_ill_J111 hC hF hL Q   _ _ _ qa0  _ h
set_option maxHeartbeats 4000000 in
set_option maxRecDepth 100000 in
theorem tX11_ill_J69 {X : Cx} {Y : Yx} {M0 : Mem} (hC : OKX X Y RX11 cX11_ill 6 (some .int) rmX11_ill) (hF : Y.2.2.2.2 = true) (hL : Lay M0) (Q : Int → Mem → Prop)   (a0 : Nat) (x3 : Int) (x4 : Int) (x5 : Int) (qa0 : 0 < a0 ∧ M0 0 a0 = kO 11)  (M : Mem) (h : wX11_ill_J69 Q  a0 x3 x4 x5 M) : WW X Y 6 rmX11_ill (QI Q) M0 0 0 69 [(0, vR Y.1 a0), (3, vI x3), (4, vI x4), (5, vI x5)] [] M := by
  unfold wX11_ill_J69 at h
  refine r_iload hC 3 dX11_ill_69 rfl ?_
  refine r_if_ne hC 111 rfl dX11_ill_71 (by decide) (fun cq => ?_) (fun cq => ?_)
  · replace h := h.2 cq
    refine r_sub [0, 2, 3] rfl ?_
    exact tX11_ill_J111 hC hF hL Q   _ _ _ qa0  _ h
  · replace h := h.1 cq
    refine r_aload_n hC 0 dX11_ill_74 rfl rfl ?_
    have q_12 : 0 < a0 + 102 ∧ M0 0 (a0 + 102) = kO 6 := lay_f0 (a := a0) hL qa0 fm_11_8
    refine r_getR0 (a' := a0 + 102) hC fg_X11_57 rfl hF fm_11_8 qa0.1 qa0.2 rfl dX11_ill_75 ?_
    refine r_aload_n hC 0 dX11_ill_78 rfl rfl ?_
    have q_13 : 0 < a0 + 86 ∧ M0 0 (a0 + 86) = kO 5 := lay_f0 (a := a0) hL qa0 fm_11_5
    refine r_getR0 (a' := a0 + 86) hC fg_X11_36 rfl hF fm_11_5 qa0.1 qa0.2 rfl dX11_ill_79 ?_
    refine r_iload_n hC 1 dX11_ill_82 rfl rfl ?_
    refine r_callV (As := [vR Y.1 (a0 + 86), vI x3]) (st := []) hC cw_X11_322 rfl q_12.1 q_12.2 rfl rfl (Nat.le_of_ble_eq_true rfl) ⟨Nat.le_of_ble_eq_true rfl, Nat.le_of_ble_eq_true rfl⟩ ⟨Nat.le_of_ble_eq_true rfl, Nat.le_of_ble_eq_true rfl⟩ dX11_ill_83 (fun hk => mX6_moveLeast Y hF _ _ _ _ _ _ (kqO hk q_12) (kqO hk q_13) h) (fun v M_14 h => ?_)
    obtain ⟨rfl, h⟩ := h
    refine r_aload_n hC 0 dX11_ill_86 rfl rfl ?_
    have q_15 : 0 < a0 + 102 ∧ M0 0 (a0 + 102) = kO 6 := lay_f0 (a := a0) hL qa0 fm_11_8
    refine r_getR0 (a' := a0 + 102) hC fg_X11_57 rfl hF fm_11_8 qa0.1 qa0.2 rfl dX11_ill_87 ?_
    refine r_getI hC fg_X11_264 rfl q_15.1 q_15.2 dX11_ill_90 ?_
    refine r_if_eq hC 108 rfl dX11_ill_93 (by decide) (fun cq => ?_) (fun cq => ?_)
    · replace h := h.1 cq
      refine r_sub [0, 2] rfl ?_
      exact tX11_ill_J108 hC hF hL Q   _ _ qa0  _ h
    · replace h := h.2 cq
      refine r_iload hC 2 dX11_ill_96 rfl ?_
      refine r_aload_n hC 0 dX11_ill_98 rfl rfl ?_
      have q_16 : 0 < a0 + 102 ∧ M0 0 (a0 + 102) = kO 6 := lay_f0 (a := a0) hL qa0 fm_11_8
      refine r_getR0 (a' := a0 + 102) hC fg_X11_57 rfl hF fm_11_8 qa0.1 qa0.2 rfl dX11_ill_99 ?_
      refine r_getI hC fg_X11_267 rfl q_16.1 q_16.2 dX11_ill_102 ?_
      refine r_icmp_lt hC 111 rfl rfl dX11_ill_105 (by decide) (fun cq => ?_) (fun cq => ?_)
      · replace h := h.1 cq
        refine r_sub [0, 2, 3] rfl ?_
        exact tX11_ill_J111 hC hF hL Q   _ _ _ qa0  _ h
      · replace h := h.2 cq
        refine r_sub [0, 2] rfl ?_
        exact tX11_ill_J108 hC hF hL Q   _ _ qa0  _ h
set_option maxHeartbeats 4000000 in
set_option maxRecDepth 100000 in
theorem tX11_ill_J44 {X : Cx} {Y : Yx} {M0 : Mem} (hC : OKX X Y RX11 cX11_ill 6 (some .int) rmX11_ill) (hF : Y.2.2.2.2 = true) (hL : Lay M0) (Q : Int → Mem → Prop)   (a0 : Nat) (x3 : Int) (x4 : Int) (x5 : Int) (qa0 : 0 < a0 ∧ M0 0 a0 = kO 11)  (M : Mem) (h : wX11_ill_J44 Q  a0 x3 x4 x5 M) : WW X Y 6 rmX11_ill (QI Q) M0 0 0 44 [(0, vR Y.1 a0), (3, vI x3), (4, vI x4), (5, vI x5)] [] M := by
  unfold wX11_ill_J44 at h
  refine r_iload hC 3 dX11_ill_44 rfl ?_
  refine r_if_ne hC 69 rfl dX11_ill_46 (by decide) (fun cq => ?_) (fun cq => ?_)
  · replace h := h.2 cq
    refine r_sub [0, 1, 2, 3] rfl ?_
    exact tX11_ill_J69 hC hF hL Q   _ _ _ _ qa0  _ h
  · replace h := h.1 cq
    refine r_iload_n hC 1 dX11_ill_49 rfl rfl ?_
    refine r_iconst hC dX11_ill_50 ?_
    refine r_aload_n hC 0 dX11_ill_51 rfl rfl ?_
    have q_17 : 0 < a0 + 86 ∧ M0 0 (a0 + 86) = kO 5 := lay_f0 (a := a0) hL qa0 fm_11_5
    refine r_getR0 (a' := a0 + 86) hC fg_X11_36 rfl hF fm_11_5 qa0.1 qa0.2 rfl dX11_ill_52 ?_
    refine r_getI hC fg_X11_236 rfl q_17.1 q_17.2 dX11_ill_55 ?_
    refine r_iconst hC dX11_ill_58 ?_
    refine r_isub hC dX11_ill_59 ?_
    refine r_callS (As := [vI x3, vI 0, vI ((M (a0 + 86) 1) - 1)]) (st := []) hC cw_X11_87 rfl rfl (Nat.le_of_ble_eq_true rfl) ⟨Nat.le_of_ble_eq_true rfl, Nat.le_of_ble_eq_true rfl⟩ ⟨Nat.le_of_ble_eq_true rfl, Nat.le_of_ble_eq_true rfl⟩ dX11_ill_60 (fun hk => mX11_within Y hF _ _ _ _ _ _  h) (fun v M_18 h => ?_)
    obtain ⟨r_19, rfl, h⟩ := h
    refine r_if_ne hC 69 rfl dX11_ill_63 (by decide) (fun cq => ?_) (fun cq => ?_)
    · replace h := h.2 cq
      refine r_sub [0, 1, 2, 3] rfl ?_
      exact tX11_ill_J69 hC hF hL Q   _ _ _ _ qa0  _ h
    · replace h := h.1 cq
      refine r_iconst hC dX11_ill_66 ?_
      refine r_istore (lv' := [(5, vI 1), (0, vR Y.1 a0), (3, vI x3), (4, vI x4)]) hC dX11_ill_67 (by decide) rfl ?_
      refine r_sub [1, 2, 3, 0] rfl ?_
      exact tX11_ill_J69 hC hF hL Q   _ _ _ _ qa0  _ h
set_option maxHeartbeats 4000000 in
set_option maxRecDepth 100000 in
theorem tX11_ill_J15 {X : Cx} {Y : Yx} {M0 : Mem} (hC : OKX X Y RX11 cX11_ill 6 (some .int) rmX11_ill) (hF : Y.2.2.2.2 = true) (hL : Lay M0) (Q : Int → Mem → Prop)   (a0 : Nat) (x3 : Int) (x4 : Int) (xs0 : Int) (xs1 : Int) (xs2 : Int) (as3 : Nat) (qa0 : 0 < a0 ∧ M0 0 a0 = kO 11) (qas3 : 0 < as3 ∧ M0 0 as3 = kO 11)  (M : Mem) (h : wX11_ill_J15 Q  a0 x3 x4 xs0 xs1 xs2 as3 M) : WW X Y 6 rmX11_ill (QI Q) M0 0 0 15 [(0, vR Y.1 a0), (3, vI x3), (4, vI x4)] [vI xs0, vI xs1, vI xs2, vR Y.1 as3] M := by
  unfold wX11_ill_J15 at h
  refine r_callV (As := [vI xs2, vI xs1, vI xs0]) (st := []) hC cw_X11_213 rfl qas3.1 qas3.2 rfl rfl (Nat.le_of_ble_eq_true rfl) ⟨Nat.le_of_ble_eq_true rfl, Nat.le_of_ble_eq_true rfl⟩ ⟨Nat.le_of_ble_eq_true rfl, Nat.le_of_ble_eq_true rfl⟩ dX11_ill_15 (fun hk => mX11_rowFault Y hF _ _ _ _ _ _ _ (kqO hk qas3) h) (fun v M_1 h => ?_)
  obtain ⟨r_2, rfl, h⟩ := h
  refine r_istore (lv' := [(5, vI r_2), (0, vR Y.1 a0), (3, vI x3), (4, vI x4)]) hC dX11_ill_18 (by decide) rfl ?_
  refine r_iload hC 0 dX11_ill_20 rfl ?_
  refine r_if_ne hC 44 rfl dX11_ill_22 (by decide) (fun cq => ?_) (fun cq => ?_)
  · replace h := h.2 cq
    refine r_sub [1, 2, 3, 0] rfl ?_
    exact tX11_ill_J44 hC hF hL Q   _ _ _ _ qa0  _ h
  · replace h := h.1 cq
    refine r_aload_n hC 1 dX11_ill_25 rfl rfl ?_
    have q_20 : 0 < a0 + 86 ∧ M0 0 (a0 + 86) = kO 5 := lay_f0 (a := a0) hL qa0 fm_11_5
    refine r_getR0 (a' := a0 + 86) hC fg_X11_36 rfl hF fm_11_5 qa0.1 qa0.2 rfl dX11_ill_26 ?_
    refine r_getI hC fg_X11_236 rfl q_20.1 q_20.2 dX11_ill_29 ?_
    refine r_iconst hC dX11_ill_32 ?_
    refine r_bipush hC (by decide +kernel) dX11_ill_33 ?_
    refine r_callS (As := [vI (M_1 (a0 + 86) 1), vI 2, vI 7]) (st := []) hC cw_X11_87 rfl rfl (Nat.le_of_ble_eq_true rfl) ⟨Nat.le_of_ble_eq_true rfl, Nat.le_of_ble_eq_true rfl⟩ ⟨Nat.le_of_ble_eq_true rfl, Nat.le_of_ble_eq_true rfl⟩ dX11_ill_35 (fun hk => mX11_within Y hF _ _ _ _ _ _  h) (fun v M_21 h => ?_)
    obtain ⟨r_22, rfl, h⟩ := h
    refine r_if_ne hC 44 rfl dX11_ill_38 (by decide) (fun cq => ?_) (fun cq => ?_)
    · replace h := h.2 cq
      refine r_sub [1, 2, 3, 0] rfl ?_
      exact tX11_ill_J44 hC hF hL Q   _ _ _ _ qa0  _ h
    · replace h := h.1 cq
      refine r_iconst hC dX11_ill_41 ?_
      refine r_istore (lv' := [(5, vI 5), (0, vR Y.1 a0), (3, vI x3), (4, vI x4)]) hC dX11_ill_42 (by decide) rfl ?_
      refine r_sub [1, 2, 3, 0] rfl ?_
      exact tX11_ill_J44 hC hF hL Q   _ _ _ _ qa0  _ h
set_option maxHeartbeats 4000000 in
set_option maxRecDepth 100000 in
theorem mX11_ill (Y : Yx) (hF : Y.2.2.2.2 = true) (l : Launch) (a0 : Nat) (x1 : Int) (x2 : Int) (x3 : Int) (x4 : Int) (M0 : Mem) (Q : Int → Mem → Prop) (qa0 : 0 < a0 ∧ M0 0 a0 = kO 11) (h : wX11_ill a0 x1 x2 x3 x4 M0 Q) : CT Y l yX11_ill cX11_ill 6 (some .int) rmX11_ill [vR Y.1 a0, vI x1, vI x2, vI x3, vI x4] M0 (QI Q) := by
  unfold wX11_ill at h
  refine ct_intro (by decide) (Nat.le_of_ble_eq_true rfl) ?_
  intro X hXl hC hL0
  have hL := hL0 hF
  change OKX X Y RX11 cX11_ill 6 (some .int) rmX11_ill at hC
  change WW X Y 6 rmX11_ill (QI Q) M0 0 0 0 [(0, vR Y.1 a0), (1, vI x1), (2, vI x2), (3, vI x3), (4, vI x4)] [] M0
  refine r_aload_n hC 0 dX11_ill_0 rfl rfl ?_
  refine r_iload_n hC 1 dX11_ill_1 rfl rfl ?_
  refine r_iload_n hC 2 dX11_ill_2 rfl rfl ?_
  refine r_iload hC 4 dX11_ill_3 rfl ?_
  refine r_bipush hC (by decide +kernel) dX11_ill_5 ?_
  refine r_icmp_lt hC 14 rfl bmL_m2 dX11_ill_7 (by decide) (fun cq => ?_) (fun cq => ?_)
  · replace h := h.1 cq
    refine r_iconst hC dX11_ill_14 ?_
    refine r_sub [0, 3, 4] rfl ?_
    exact tX11_ill_J15 hC hF hL Q   _ _ _ _ _ _ _ qa0 qa0  _ h
  · replace h := h.2 cq
    refine r_iconst hC dX11_ill_10 ?_
    refine r_goto hC 15 dX11_ill_11 (by decide) ?_
    refine r_sub [0, 3, 4] rfl ?_
    exact tX11_ill_J15 hC hF hL Q   _ _ _ _ _ _ _ qa0 qa0  _ h
theorem dX11_two_0 : dec cX11_two 0 1 1 (.iload_n 1) := ⟨by decide +kernel, rfl⟩
theorem dX11_two_1 : dec cX11_two 1 1 2 (.iconst 1) := ⟨by decide +kernel, rfl⟩
theorem dX11_two_2 : dec cX11_two 2 3 5 (.sipush 999) := ⟨by decide +kernel, rfl⟩
theorem dX11_two_5 : dec cX11_two 5 3 8 (.invokestatic 87) := ⟨by decide +kernel, rfl⟩
theorem dX11_two_8 : dec cX11_two 8 3 11 (.ifCond .ne 9) := ⟨by decide +kernel, rfl⟩
theorem dX11_two_11 : dec cX11_two 11 1 12 (.aload_n 0) := ⟨by decide +kernel, rfl⟩
theorem dX11_two_12 : dec cX11_two 12 1 13 (.iconst 1) := ⟨by decide +kernel, rfl⟩
theorem dX11_two_13 : dec cX11_two 13 3 16 (.invokevirtual 91) := ⟨by decide +kernel, rfl⟩
theorem dX11_two_16 : dec cX11_two 16 1 17 (.ireturn) := ⟨by decide +kernel, rfl⟩
theorem dX11_two_17 : dec cX11_two 17 1 18 (.aload_n 0) := ⟨by decide +kernel, rfl⟩
theorem dX11_two_18 : dec cX11_two 18 3 21 (.getfield 64) := ⟨by decide +kernel, rfl⟩
theorem dX11_two_21 : dec cX11_two 21 1 22 (.iload_n 1) := ⟨by decide +kernel, rfl⟩
theorem dX11_two_22 : dec cX11_two 22 3 25 (.invokevirtual 328) := ⟨by decide +kernel, rfl⟩
theorem dX11_two_25 : dec cX11_two 25 1 26 (.istore_n 2) := ⟨by decide +kernel, rfl⟩
theorem dX11_two_26 : dec cX11_two 26 1 27 (.iload_n 2) := ⟨by decide +kernel, rfl⟩
theorem dX11_two_27 : dec cX11_two 27 3 30 (.ifCond .ge 11) := ⟨by decide +kernel, rfl⟩
theorem dX11_two_30 : dec cX11_two 30 1 31 (.aload_n 0) := ⟨by decide +kernel, rfl⟩
theorem dX11_two_31 : dec cX11_two 31 1 32 (.iconst 2) := ⟨by decide +kernel, rfl⟩
theorem dX11_two_32 : dec cX11_two 32 3 35 (.invokevirtual 91) := ⟨by decide +kernel, rfl⟩
theorem dX11_two_35 : dec cX11_two 35 3 38 (.goto 4) := ⟨by decide +kernel, rfl⟩
theorem dX11_two_38 : dec cX11_two 38 1 39 (.iload_n 2) := ⟨by decide +kernel, rfl⟩
theorem dX11_two_39 : dec cX11_two 39 1 40 (.ireturn) := ⟨by decide +kernel, rfl⟩
set_option maxHeartbeats 4000000 in
set_option maxRecDepth 100000 in
theorem mX11_two (Y : Yx) (hF : Y.2.2.2.2 = true) (l : Launch) (a0 : Nat) (x1 : Int) (M0 : Mem) (Q : Int → Mem → Prop) (qa0 : 0 < a0 ∧ M0 0 a0 = kO 11) (h : wX11_two a0 x1 M0 Q) : CT Y l yX11_two cX11_two 3 (some .int) rmX11_two [vR Y.1 a0, vI x1] M0 (QI Q) := by
  unfold wX11_two at h
  refine ct_intro (by decide) (Nat.le_of_ble_eq_true rfl) ?_
  intro X hXl hC hL0
  have hL := hL0 hF
  change OKX X Y RX11 cX11_two 3 (some .int) rmX11_two at hC
  change WW X Y 3 rmX11_two (QI Q) M0 0 0 0 [(0, vR Y.1 a0), (1, vI x1)] [] M0
  refine r_iload_n hC 1 dX11_two_0 rfl rfl ?_
  refine r_iconst hC dX11_two_1 ?_
  refine r_sipush hC (by decide +kernel) dX11_two_2 ?_
  refine r_callS (As := [vI x1, vI 1, vI 999]) (st := []) hC cw_X11_87 rfl rfl (Nat.le_of_ble_eq_true rfl) ⟨Nat.le_of_ble_eq_true rfl, Nat.le_of_ble_eq_true rfl⟩ ⟨Nat.le_of_ble_eq_true rfl, Nat.le_of_ble_eq_true rfl⟩ dX11_two_5 (fun hk => mX11_within Y hF _ _ _ _ _ _  h) (fun v M_1 h => ?_)
  obtain ⟨r_2, rfl, h⟩ := h
  refine r_if_ne hC 17 rfl dX11_two_8 (by decide) (fun cq => ?_) (fun cq => ?_)
  · replace h := h.2 cq
    refine r_aload_n hC 0 dX11_two_17 rfl rfl ?_
    have q_3 : 0 < a0 + 107 ∧ M0 0 (a0 + 107) = kO 7 := lay_f0 (a := a0) hL qa0 fm_11_9
    refine r_getR0 (a' := a0 + 107) hC fg_X11_64 rfl hF fm_11_9 qa0.1 qa0.2 rfl dX11_two_18 ?_
    refine r_iload_n hC 1 dX11_two_21 rfl rfl ?_
    refine r_callV (As := [vI x1]) (st := []) hC cw_X11_328 rfl q_3.1 q_3.2 rfl rfl (Nat.le_of_ble_eq_true rfl) ⟨Nat.le_of_ble_eq_true rfl, Nat.le_of_ble_eq_true rfl⟩ ⟨Nat.le_of_ble_eq_true rfl, Nat.le_of_ble_eq_true rfl⟩ dX11_two_22 (fun hk => mX7_firstEvening Y hF _ _ _ _ _ (kqO hk q_3) h) (fun v M_4 h => ?_)
    obtain ⟨r_5, rfl, h⟩ := h
    refine r_istore_n (lv' := [(2, vI r_5), (0, vR Y.1 a0), (1, vI x1)]) hC dX11_two_25 rfl (by decide) rfl ?_
    refine r_iload_n hC 0 dX11_two_26 rfl rfl ?_
    refine r_if_ge hC 38 rfl dX11_two_27 (by decide) (fun cq => ?_) (fun cq => ?_)
    · replace h := h.1 cq
      refine r_iload_n hC 0 dX11_two_38 rfl rfl ?_
      exact r_iret hC (Nat.zero_le _) (Nat.zero_le _) dX11_two_39 ⟨_, rfl, h⟩
    · replace h := h.2 cq
      refine r_aload_n hC 1 dX11_two_30 rfl rfl ?_
      refine r_iconst hC dX11_two_31 ?_
      refine r_callV (As := [vI 2]) (st := []) hC cw_X11_91 rfl qa0.1 qa0.2 rfl rfl (Nat.le_of_ble_eq_true rfl) ⟨Nat.le_of_ble_eq_true rfl, Nat.le_of_ble_eq_true rfl⟩ ⟨Nat.le_of_ble_eq_true rfl, Nat.le_of_ble_eq_true rfl⟩ dX11_two_32 (fun hk => mX11_error Y hF _ _ _ _ _ (kqO hk qa0) h) (fun v M_6 h => ?_)
      obtain ⟨r_7, rfl, h⟩ := h
      refine r_goto hC 39 dX11_two_35 (by decide) ?_
      exact r_iret hC (Nat.zero_le _) (Nat.zero_le _) dX11_two_39 ⟨_, rfl, h⟩
  · replace h := h.1 cq
    refine r_aload_n hC 0 dX11_two_11 rfl rfl ?_
    refine r_iconst hC dX11_two_12 ?_
    refine r_callV (As := [vI 1]) (st := []) hC cw_X11_91 rfl qa0.1 qa0.2 rfl rfl (Nat.le_of_ble_eq_true rfl) ⟨Nat.le_of_ble_eq_true rfl, Nat.le_of_ble_eq_true rfl⟩ ⟨Nat.le_of_ble_eq_true rfl, Nat.le_of_ble_eq_true rfl⟩ dX11_two_13 (fun hk => mX11_error Y hF _ _ _ _ _ (kqO hk qa0) h) (fun v M_8 h => ?_)
    obtain ⟨r_9, rfl, h⟩ := h
    exact r_iret hC (Nat.zero_le _) (Nat.zero_le _) dX11_two_16 ⟨_, rfl, h⟩
theorem dX11_past_0 : dec cX11_past 0 1 1 (.iload_n 1) := ⟨by decide +kernel, rfl⟩
theorem dX11_past_1 : dec cX11_past 1 3 4 (.invokestatic 331) := ⟨by decide +kernel, rfl⟩
theorem dX11_past_4 : dec cX11_past 4 3 7 (.ifCond .ne 10) := ⟨by decide +kernel, rfl⟩
theorem dX11_past_7 : dec cX11_past 7 1 8 (.iload_n 2) := ⟨by decide +kernel, rfl⟩
theorem dX11_past_8 : dec cX11_past 8 3 11 (.invokestatic 331) := ⟨by decide +kernel, rfl⟩
theorem dX11_past_11 : dec cX11_past 11 3 14 (.ifCond .eq 9) := ⟨by decide +kernel, rfl⟩
theorem dX11_past_14 : dec cX11_past 14 1 15 (.aload_n 0) := ⟨by decide +kernel, rfl⟩
theorem dX11_past_15 : dec cX11_past 15 1 16 (.iconst 1) := ⟨by decide +kernel, rfl⟩
theorem dX11_past_16 : dec cX11_past 16 3 19 (.invokevirtual 91) := ⟨by decide +kernel, rfl⟩
theorem dX11_past_19 : dec cX11_past 19 1 20 (.ireturn) := ⟨by decide +kernel, rfl⟩
theorem dX11_past_20 : dec cX11_past 20 1 21 (.aload_n 0) := ⟨by decide +kernel, rfl⟩
theorem dX11_past_21 : dec cX11_past 21 3 24 (.getfield 25) := ⟨by decide +kernel, rfl⟩
theorem dX11_past_24 : dec cX11_past 24 1 25 (.iload_n 1) := ⟨by decide +kernel, rfl⟩
theorem dX11_past_25 : dec cX11_past 25 1 26 (.aaload) := ⟨by decide +kernel, rfl⟩
theorem dX11_past_26 : dec cX11_past 26 3 29 (.getfield 334) := ⟨by decide +kernel, rfl⟩
theorem dX11_past_29 : dec cX11_past 29 3 32 (.ifCond .eq 15) := ⟨by decide +kernel, rfl⟩
theorem dX11_past_32 : dec cX11_past 32 1 33 (.aload_n 0) := ⟨by decide +kernel, rfl⟩
theorem dX11_past_33 : dec cX11_past 33 3 36 (.getfield 25) := ⟨by decide +kernel, rfl⟩
theorem dX11_past_36 : dec cX11_past 36 1 37 (.iload_n 2) := ⟨by decide +kernel, rfl⟩
theorem dX11_past_37 : dec cX11_past 37 1 38 (.aaload) := ⟨by decide +kernel, rfl⟩
theorem dX11_past_38 : dec cX11_past 38 3 41 (.getfield 334) := ⟨by decide +kernel, rfl⟩
theorem dX11_past_41 : dec cX11_past 41 3 44 (.ifCond .ne 9) := ⟨by decide +kernel, rfl⟩
theorem dX11_past_44 : dec cX11_past 44 1 45 (.aload_n 0) := ⟨by decide +kernel, rfl⟩
theorem dX11_past_45 : dec cX11_past 45 1 46 (.iconst 2) := ⟨by decide +kernel, rfl⟩
theorem dX11_past_46 : dec cX11_past 46 3 49 (.invokevirtual 91) := ⟨by decide +kernel, rfl⟩
theorem dX11_past_49 : dec cX11_past 49 1 50 (.ireturn) := ⟨by decide +kernel, rfl⟩
theorem dX11_past_50 : dec cX11_past 50 1 51 (.aload_n 0) := ⟨by decide +kernel, rfl⟩
theorem dX11_past_51 : dec cX11_past 51 3 54 (.getfield 36) := ⟨by decide +kernel, rfl⟩
theorem dX11_past_54 : dec cX11_past 54 1 55 (.aload_n 0) := ⟨by decide +kernel, rfl⟩
theorem dX11_past_55 : dec cX11_past 55 3 58 (.getfield 25) := ⟨by decide +kernel, rfl⟩
theorem dX11_past_58 : dec cX11_past 58 1 59 (.iload_n 1) := ⟨by decide +kernel, rfl⟩
theorem dX11_past_59 : dec cX11_past 59 1 60 (.aaload) := ⟨by decide +kernel, rfl⟩
theorem dX11_past_60 : dec cX11_past 60 1 61 (.iload_n 3) := ⟨by decide +kernel, rfl⟩
theorem dX11_past_61 : dec cX11_past 61 1 62 (.aload_n 0) := ⟨by decide +kernel, rfl⟩
theorem dX11_past_62 : dec cX11_past 62 3 65 (.getfield 10) := ⟨by decide +kernel, rfl⟩
theorem dX11_past_65 : dec cX11_past 65 3 68 (.getfield 95) := ⟨by decide +kernel, rfl⟩
theorem dX11_past_68 : dec cX11_past 68 3 71 (.invokevirtual 337) := ⟨by decide +kernel, rfl⟩
theorem dX11_past_71 : dec cX11_past 71 3 74 (.ifCond .eq 31) := ⟨by decide +kernel, rfl⟩
theorem dX11_past_74 : dec cX11_past 74 1 75 (.aload_n 0) := ⟨by decide +kernel, rfl⟩
theorem dX11_past_75 : dec cX11_past 75 3 78 (.getfield 40) := ⟨by decide +kernel, rfl⟩
theorem dX11_past_78 : dec cX11_past 78 1 79 (.aload_n 0) := ⟨by decide +kernel, rfl⟩
theorem dX11_past_79 : dec cX11_past 79 3 82 (.getfield 25) := ⟨by decide +kernel, rfl⟩
theorem dX11_past_82 : dec cX11_past 82 1 83 (.iload_n 2) := ⟨by decide +kernel, rfl⟩
theorem dX11_past_83 : dec cX11_past 83 1 84 (.aaload) := ⟨by decide +kernel, rfl⟩
theorem dX11_past_84 : dec cX11_past 84 1 85 (.iload_n 3) := ⟨by decide +kernel, rfl⟩
theorem dX11_past_85 : dec cX11_past 85 1 86 (.aload_n 0) := ⟨by decide +kernel, rfl⟩
theorem dX11_past_86 : dec cX11_past 86 3 89 (.getfield 10) := ⟨by decide +kernel, rfl⟩
theorem dX11_past_89 : dec cX11_past 89 3 92 (.getfield 95) := ⟨by decide +kernel, rfl⟩
theorem dX11_past_92 : dec cX11_past 92 3 95 (.invokevirtual 337) := ⟨by decide +kernel, rfl⟩
theorem dX11_past_95 : dec cX11_past 95 3 98 (.ifCond .eq 7) := ⟨by decide +kernel, rfl⟩
theorem dX11_past_98 : dec cX11_past 98 1 99 (.iconst 1) := ⟨by decide +kernel, rfl⟩
theorem dX11_past_99 : dec cX11_past 99 3 102 (.goto 4) := ⟨by decide +kernel, rfl⟩
theorem dX11_past_102 : dec cX11_past 102 1 103 (.iconst 0) := ⟨by decide +kernel, rfl⟩
theorem dX11_past_103 : dec cX11_past 103 2 105 (.istore 4) := ⟨by decide +kernel, rfl⟩
theorem dX11_past_105 : dec cX11_past 105 2 107 (.iload 4) := ⟨by decide +kernel, rfl⟩
theorem dX11_past_107 : dec cX11_past 107 3 110 (.ifCond .ne 9) := ⟨by decide +kernel, rfl⟩
theorem dX11_past_110 : dec cX11_past 110 1 111 (.aload_n 0) := ⟨by decide +kernel, rfl⟩
theorem dX11_past_111 : dec cX11_past 111 1 112 (.iconst 5) := ⟨by decide +kernel, rfl⟩
theorem dX11_past_112 : dec cX11_past 112 3 115 (.invokevirtual 91) := ⟨by decide +kernel, rfl⟩
theorem dX11_past_115 : dec cX11_past 115 1 116 (.ireturn) := ⟨by decide +kernel, rfl⟩
theorem dX11_past_116 : dec cX11_past 116 1 117 (.aload_n 0) := ⟨by decide +kernel, rfl⟩
theorem dX11_past_117 : dec cX11_past 117 3 120 (.getfield 10) := ⟨by decide +kernel, rfl⟩
theorem dX11_past_120 : dec cX11_past 120 3 123 (.getfield 341) := ⟨by decide +kernel, rfl⟩
theorem dX11_past_123 : dec cX11_past 123 2 125 (.bipush 8) := ⟨by decide +kernel, rfl⟩
theorem dX11_past_125 : dec cX11_past 125 3 128 (.if_icmp .lt 9) := ⟨by decide +kernel, rfl⟩
theorem dX11_past_128 : dec cX11_past 128 1 129 (.aload_n 0) := ⟨by decide +kernel, rfl⟩
theorem dX11_past_129 : dec cX11_past 129 1 130 (.iconst 4) := ⟨by decide +kernel, rfl⟩
theorem dX11_past_130 : dec cX11_past 130 3 133 (.invokevirtual 91) := ⟨by decide +kernel, rfl⟩
theorem dX11_past_133 : dec cX11_past 133 1 134 (.ireturn) := ⟨by decide +kernel, rfl⟩
theorem dX11_past_134 : dec cX11_past 134 1 135 (.aload_n 0) := ⟨by decide +kernel, rfl⟩
theorem dX11_past_135 : dec cX11_past 135 3 138 (.getfield 10) := ⟨by decide +kernel, rfl⟩
theorem dX11_past_138 : dec cX11_past 138 3 141 (.getfield 344) := ⟨by decide +kernel, rfl⟩
theorem dX11_past_141 : dec cX11_past 141 1 142 (.aload_n 0) := ⟨by decide +kernel, rfl⟩
theorem dX11_past_142 : dec cX11_past 142 3 145 (.getfield 10) := ⟨by decide +kernel, rfl⟩
theorem dX11_past_145 : dec cX11_past 145 3 148 (.getfield 341) := ⟨by decide +kernel, rfl⟩
theorem dX11_past_148 : dec cX11_past 148 1 149 (.aaload) := ⟨by decide +kernel, rfl⟩
theorem dX11_past_149 : dec cX11_past 149 1 150 (.aload_n 0) := ⟨by decide +kernel, rfl⟩
theorem dX11_past_150 : dec cX11_past 150 3 153 (.getfield 36) := ⟨by decide +kernel, rfl⟩
theorem dX11_past_153 : dec cX11_past 153 3 156 (.invokevirtual 348) := ⟨by decide +kernel, rfl⟩
theorem dX11_past_156 : dec cX11_past 156 1 157 (.aload_n 0) := ⟨by decide +kernel, rfl⟩
theorem dX11_past_157 : dec cX11_past 157 3 160 (.getfield 10) := ⟨by decide +kernel, rfl⟩
theorem dX11_past_160 : dec cX11_past 160 3 163 (.getfield 351) := ⟨by decide +kernel, rfl⟩
theorem dX11_past_163 : dec cX11_past 163 1 164 (.aload_n 0) := ⟨by decide +kernel, rfl⟩
theorem dX11_past_164 : dec cX11_past 164 3 167 (.getfield 10) := ⟨by decide +kernel, rfl⟩
theorem dX11_past_167 : dec cX11_past 167 3 170 (.getfield 341) := ⟨by decide +kernel, rfl⟩
theorem dX11_past_170 : dec cX11_past 170 1 171 (.aaload) := ⟨by decide +kernel, rfl⟩
theorem dX11_past_171 : dec cX11_past 171 1 172 (.aload_n 0) := ⟨by decide +kernel, rfl⟩
theorem dX11_past_172 : dec cX11_past 172 3 175 (.getfield 40) := ⟨by decide +kernel, rfl⟩
theorem dX11_past_175 : dec cX11_past 175 3 178 (.invokevirtual 348) := ⟨by decide +kernel, rfl⟩
theorem dX11_past_178 : dec cX11_past 178 1 179 (.aload_n 0) := ⟨by decide +kernel, rfl⟩
theorem dX11_past_179 : dec cX11_past 179 3 182 (.getfield 10) := ⟨by decide +kernel, rfl⟩
theorem dX11_past_182 : dec cX11_past 182 1 183 (.dup) := ⟨by decide +kernel, rfl⟩
theorem dX11_past_183 : dec cX11_past 183 3 186 (.getfield 341) := ⟨by decide +kernel, rfl⟩
theorem dX11_past_186 : dec cX11_past 186 1 187 (.iconst 1) := ⟨by decide +kernel, rfl⟩
theorem dX11_past_187 : dec cX11_past 187 1 188 (.iadd) := ⟨by decide +kernel, rfl⟩
theorem dX11_past_188 : dec cX11_past 188 3 191 (.putfield 341) := ⟨by decide +kernel, rfl⟩
theorem dX11_past_191 : dec cX11_past 191 1 192 (.aload_n 0) := ⟨by decide +kernel, rfl⟩
theorem dX11_past_192 : dec cX11_past 192 3 195 (.getfield 10) := ⟨by decide +kernel, rfl⟩
theorem dX11_past_195 : dec cX11_past 195 3 198 (.getfield 341) := ⟨by decide +kernel, rfl⟩
theorem dX11_past_198 : dec cX11_past 198 1 199 (.ireturn) := ⟨by decide +kernel, rfl⟩
set_option maxHeartbeats 4000000 in
set_option maxRecDepth 100000 in
theorem tX11_past_J14 {X : Cx} {Y : Yx} {M0 : Mem} (hC : OKX X Y RX11 cX11_past 5 (some .int) rmX11_past) (hF : Y.2.2.2.2 = true) (hL : Lay M0) (Q : Int → Mem → Prop)   (a0 : Nat) (qa0 : 0 < a0 ∧ M0 0 a0 = kO 11)  (M : Mem) (h : wX11_past_J14 Q  a0 M) : WW X Y 5 rmX11_past (QI Q) M0 0 0 14 [(0, vR Y.1 a0)] [] M := by
  unfold wX11_past_J14 at h
  refine r_aload_n hC 0 dX11_past_14 rfl rfl ?_
  refine r_iconst hC dX11_past_15 ?_
  refine r_callV (As := [vI 1]) (st := []) hC cw_X11_91 rfl qa0.1 qa0.2 rfl rfl (Nat.le_of_ble_eq_true rfl) ⟨Nat.le_of_ble_eq_true rfl, Nat.le_of_ble_eq_true rfl⟩ ⟨Nat.le_of_ble_eq_true rfl, Nat.le_of_ble_eq_true rfl⟩ dX11_past_16 (fun hk => mX11_error Y hF _ _ _ _ _ (kqO hk qa0) h) (fun v M_3 h => ?_)
  obtain ⟨r_4, rfl, h⟩ := h
  exact r_iret hC (Nat.zero_le _) (Nat.zero_le _) dX11_past_19 ⟨_, rfl, h⟩
set_option maxHeartbeats 4000000 in
set_option maxRecDepth 100000 in
theorem tX11_past_J44 {X : Cx} {Y : Yx} {M0 : Mem} (hC : OKX X Y RX11 cX11_past 5 (some .int) rmX11_past) (hF : Y.2.2.2.2 = true) (hL : Lay M0) (Q : Int → Mem → Prop)   (a0 : Nat) (qa0 : 0 < a0 ∧ M0 0 a0 = kO 11)  (M : Mem) (h : wX11_past_J44 Q  a0 M) : WW X Y 5 rmX11_past (QI Q) M0 0 0 44 [(0, vR Y.1 a0)] [] M := by
  unfold wX11_past_J44 at h
  refine r_aload_n hC 0 dX11_past_44 rfl rfl ?_
  refine r_iconst hC dX11_past_45 ?_
  refine r_callV (As := [vI 2]) (st := []) hC cw_X11_91 rfl qa0.1 qa0.2 rfl rfl (Nat.le_of_ble_eq_true rfl) ⟨Nat.le_of_ble_eq_true rfl, Nat.le_of_ble_eq_true rfl⟩ ⟨Nat.le_of_ble_eq_true rfl, Nat.le_of_ble_eq_true rfl⟩ dX11_past_46 (fun hk => mX11_error Y hF _ _ _ _ _ (kqO hk qa0) h) (fun v M_10 h => ?_)
  obtain ⟨r_11, rfl, h⟩ := h
  exact r_iret hC (Nat.zero_le _) (Nat.zero_le _) dX11_past_49 ⟨_, rfl, h⟩
set_option maxHeartbeats 4000000 in
set_option maxRecDepth 100000 in
theorem tX11_past_J103 {X : Cx} {Y : Yx} {M0 : Mem} (hC : OKX X Y RX11 cX11_past 5 (some .int) rmX11_past) (hF : Y.2.2.2.2 = true) (hL : Lay M0) (Q : Int → Mem → Prop)   (a0 : Nat) (xs0 : Int) (qa0 : 0 < a0 ∧ M0 0 a0 = kO 11)  (M : Mem) (h : wX11_past_J103 Q  a0 xs0 M) : WW X Y 5 rmX11_past (QI Q) M0 0 0 103 [(0, vR Y.1 a0)] [vI xs0] M := by
  unfold wX11_past_J103 at h
  refine r_istore (lv' := [(4, vI xs0), (0, vR Y.1 a0)]) hC dX11_past_103 (by decide) rfl ?_
  refine r_iload hC 0 dX11_past_105 rfl ?_
  refine r_if_ne hC 116 rfl dX11_past_107 (by decide) (fun cq => ?_) (fun cq => ?_)
  · replace h := h.2 cq
    refine r_aload_n hC 1 dX11_past_116 rfl rfl ?_
    have q_22 : 0 < a0 + 1 ∧ M0 0 (a0 + 1) = kO 0 := lay_f0 (a := a0) hL qa0 fm_11_0
    refine r_getR0 (a' := a0 + 1) hC fg_X11_10 rfl hF fm_11_0 qa0.1 qa0.2 rfl dX11_past_117 ?_
    refine r_getI hC fg_X11_341 rfl q_22.1 q_22.2 dX11_past_120 ?_
    refine r_bipush hC (by decide +kernel) dX11_past_123 ?_
    refine r_icmp_lt hC 134 rfl bmL_8 dX11_past_125 (by decide) (fun cq => ?_) (fun cq => ?_)
    · replace h := h.1 cq
      refine r_aload_n hC 1 dX11_past_134 rfl rfl ?_
      have q_23 : 0 < a0 + 1 ∧ M0 0 (a0 + 1) = kO 0 := lay_f0 (a := a0) hL qa0 fm_11_0
      refine r_getR0 (a' := a0 + 1) hC fg_X11_10 rfl hF fm_11_0 qa0.1 qa0.2 rfl dX11_past_135 ?_
      have q_24 : 0 < a0 + 7 ∧ M0 0 (a0 + 7) = kA 7 8 := lay_f0 (a := a0 + 1) hL q_23 fm_0_9
      refine r_getR0 (a' := a0 + 7) hC fg_X11_344 rfl hF fm_0_9 q_23.1 q_23.2 rfl dX11_past_138 ?_
      refine r_aload_n hC 1 dX11_past_141 rfl rfl ?_
      have q_25 : 0 < a0 + 1 ∧ M0 0 (a0 + 1) = kO 0 := lay_f0 (a := a0) hL qa0 fm_11_0
      refine r_getR0 (a' := a0 + 1) hC fg_X11_10 rfl hF fm_11_0 qa0.1 qa0.2 rfl dX11_past_142 ?_
      refine r_getI hC fg_X11_341 rfl q_25.1 q_25.2 dX11_past_145 ?_
      obtain ⟨i_26, h⟩ := h
      have q_27 : 0 < a0 + 52 + 4 * (bm (M (a0 + 1) 11)).toNat ∧ M0 0 (a0 + 52 + 4 * (bm (M (a0 + 1) 11)).toNat) = kO 5 := lay_a7 (a := a0 + 7) hL q_24 (inb_nat i_26)
      refine r_aald7 hC hF i_26 q_24.1 q_24.2 dX11_past_148 ?_
      refine r_aload_n hC 1 dX11_past_149 rfl rfl ?_
      have q_28 : 0 < a0 + 86 ∧ M0 0 (a0 + 86) = kO 5 := lay_f0 (a := a0) hL qa0 fm_11_5
      refine r_getR0 (a' := a0 + 86) hC fg_X11_36 rfl hF fm_11_5 qa0.1 qa0.2 rfl dX11_past_150 ?_
      refine r_callV (As := [vR Y.1 (a0 + 86)]) (st := []) hC cw_X11_348 rfl q_27.1 q_27.2 rfl rfl (Nat.le_of_ble_eq_true rfl) ⟨Nat.le_of_ble_eq_true rfl, Nat.le_of_ble_eq_true rfl⟩ ⟨Nat.le_of_ble_eq_true rfl, Nat.le_of_ble_eq_true rfl⟩ dX11_past_153 (fun hk => mX5_copyFrom Y hF _ _ _ _ _ (kqO hk q_27) (kqO hk q_28) h) (fun v M_29 h => ?_)
      obtain ⟨rfl, h⟩ := h
      refine r_aload_n hC 1 dX11_past_156 rfl rfl ?_
      have q_30 : 0 < a0 + 1 ∧ M0 0 (a0 + 1) = kO 0 := lay_f0 (a := a0) hL qa0 fm_11_0
      refine r_getR0 (a' := a0 + 1) hC fg_X11_10 rfl hF fm_11_0 qa0.1 qa0.2 rfl dX11_past_157 ?_
      have q_31 : 0 < a0 + 8 ∧ M0 0 (a0 + 8) = kA 8 8 := lay_f0 (a := a0 + 1) hL q_30 fm_0_10
      refine r_getR0 (a' := a0 + 8) hC fg_X11_351 rfl hF fm_0_10 q_30.1 q_30.2 rfl dX11_past_160 ?_
      refine r_aload_n hC 1 dX11_past_163 rfl rfl ?_
      have q_32 : 0 < a0 + 1 ∧ M0 0 (a0 + 1) = kO 0 := lay_f0 (a := a0) hL qa0 fm_11_0
      refine r_getR0 (a' := a0 + 1) hC fg_X11_10 rfl hF fm_11_0 qa0.1 qa0.2 rfl dX11_past_164 ?_
      refine r_getI hC fg_X11_341 rfl q_32.1 q_32.2 dX11_past_167 ?_
      obtain ⟨i_33, h⟩ := h
      have q_34 : 0 < a0 + 54 + 4 * (bm (M_29 (a0 + 1) 11)).toNat ∧ M0 0 (a0 + 54 + 4 * (bm (M_29 (a0 + 1) 11)).toNat) = kO 5 := lay_a8 (a := a0 + 8) hL q_31 (inb_nat i_33)
      refine r_aald8 hC hF i_33 q_31.1 q_31.2 dX11_past_170 ?_
      refine r_aload_n hC 1 dX11_past_171 rfl rfl ?_
      have q_35 : 0 < a0 + 88 ∧ M0 0 (a0 + 88) = kO 5 := lay_f0 (a := a0) hL qa0 fm_11_6
      refine r_getR0 (a' := a0 + 88) hC fg_X11_40 rfl hF fm_11_6 qa0.1 qa0.2 rfl dX11_past_172 ?_
      refine r_callV (As := [vR Y.1 (a0 + 88)]) (st := []) hC cw_X11_348 rfl q_34.1 q_34.2 rfl rfl (Nat.le_of_ble_eq_true rfl) ⟨Nat.le_of_ble_eq_true rfl, Nat.le_of_ble_eq_true rfl⟩ ⟨Nat.le_of_ble_eq_true rfl, Nat.le_of_ble_eq_true rfl⟩ dX11_past_175 (fun hk => mX5_copyFrom Y hF _ _ _ _ _ (kqO hk q_34) (kqO hk q_35) h) (fun v M_36 h => ?_)
      obtain ⟨rfl, h⟩ := h
      refine r_aload_n hC 1 dX11_past_178 rfl rfl ?_
      have q_37 : 0 < a0 + 1 ∧ M0 0 (a0 + 1) = kO 0 := lay_f0 (a := a0) hL qa0 fm_11_0
      refine r_getR0 (a' := a0 + 1) hC fg_X11_10 rfl hF fm_11_0 qa0.1 qa0.2 rfl dX11_past_179 ?_
      refine r_dup hC rfl dX11_past_182 ?_
      refine r_getI hC fg_X11_341 rfl q_37.1 q_37.2 dX11_past_183 ?_
      refine r_iconst hC dX11_past_186 ?_
      refine r_iadd hC dX11_past_187 ?_
      refine r_putI hC fp_X11_341 rfl q_37.1 q_37.2 dX11_past_188 ?_
      refine r_nameM h (fun M_38 h => ?_)
      refine r_aload_n hC 1 dX11_past_191 rfl rfl ?_
      have q_39 : 0 < a0 + 1 ∧ M0 0 (a0 + 1) = kO 0 := lay_f0 (a := a0) hL qa0 fm_11_0
      refine r_getR0 (a' := a0 + 1) hC fg_X11_10 rfl hF fm_11_0 qa0.1 qa0.2 rfl dX11_past_192 ?_
      refine r_getI hC fg_X11_341 rfl q_39.1 q_39.2 dX11_past_195 ?_
      exact r_iret hC (Nat.zero_le _) (Nat.zero_le _) dX11_past_198 ⟨_, rfl, h⟩
    · replace h := h.2 cq
      refine r_aload_n hC 1 dX11_past_128 rfl rfl ?_
      refine r_iconst hC dX11_past_129 ?_
      refine r_callV (As := [vI 4]) (st := []) hC cw_X11_91 rfl qa0.1 qa0.2 rfl rfl (Nat.le_of_ble_eq_true rfl) ⟨Nat.le_of_ble_eq_true rfl, Nat.le_of_ble_eq_true rfl⟩ ⟨Nat.le_of_ble_eq_true rfl, Nat.le_of_ble_eq_true rfl⟩ dX11_past_130 (fun hk => mX11_error Y hF _ _ _ _ _ (kqO hk qa0) h) (fun v M_40 h => ?_)
      obtain ⟨r_41, rfl, h⟩ := h
      exact r_iret hC (Nat.zero_le _) (Nat.zero_le _) dX11_past_133 ⟨_, rfl, h⟩
  · replace h := h.1 cq
    refine r_aload_n hC 1 dX11_past_110 rfl rfl ?_
    refine r_iconst hC dX11_past_111 ?_
    refine r_callV (As := [vI 5]) (st := []) hC cw_X11_91 rfl qa0.1 qa0.2 rfl rfl (Nat.le_of_ble_eq_true rfl) ⟨Nat.le_of_ble_eq_true rfl, Nat.le_of_ble_eq_true rfl⟩ ⟨Nat.le_of_ble_eq_true rfl, Nat.le_of_ble_eq_true rfl⟩ dX11_past_112 (fun hk => mX11_error Y hF _ _ _ _ _ (kqO hk qa0) h) (fun v M_42 h => ?_)
    obtain ⟨r_43, rfl, h⟩ := h
    exact r_iret hC (Nat.zero_le _) (Nat.zero_le _) dX11_past_115 ⟨_, rfl, h⟩
set_option maxHeartbeats 4000000 in
set_option maxRecDepth 100000 in
theorem tX11_past_J102 {X : Cx} {Y : Yx} {M0 : Mem} (hC : OKX X Y RX11 cX11_past 5 (some .int) rmX11_past) (hF : Y.2.2.2.2 = true) (hL : Lay M0) (Q : Int → Mem → Prop)   (a0 : Nat) (qa0 : 0 < a0 ∧ M0 0 a0 = kO 11)  (M : Mem) (h : wX11_past_J102 Q  a0 M) : WW X Y 5 rmX11_past (QI Q) M0 0 0 102 [(0, vR Y.1 a0)] [] M := by
  unfold wX11_past_J102 at h
  refine r_iconst hC dX11_past_102 ?_
  refine r_sub [0] rfl ?_
  exact tX11_past_J103 hC hF hL Q   _ _ qa0  _ h
set_option maxHeartbeats 4000000 in
set_option maxRecDepth 100000 in
theorem mX11_past (Y : Yx) (hF : Y.2.2.2.2 = true) (l : Launch) (a0 : Nat) (x1 : Int) (x2 : Int) (x3 : Int) (M0 : Mem) (Q : Int → Mem → Prop) (qa0 : 0 < a0 ∧ M0 0 a0 = kO 11) (h : wX11_past a0 x1 x2 x3 M0 Q) : CT Y l yX11_past cX11_past 5 (some .int) rmX11_past [vR Y.1 a0, vI x1, vI x2, vI x3] M0 (QI Q) := by
  unfold wX11_past at h
  refine ct_intro (by decide) (Nat.le_of_ble_eq_true rfl) ?_
  intro X hXl hC hL0
  have hL := hL0 hF
  change OKX X Y RX11 cX11_past 5 (some .int) rmX11_past at hC
  change WW X Y 5 rmX11_past (QI Q) M0 0 0 0 [(0, vR Y.1 a0), (1, vI x1), (2, vI x2), (3, vI x3)] [] M0
  refine r_iload_n hC 1 dX11_past_0 rfl rfl ?_
  refine r_callS (As := [vI x1]) (st := []) hC cw_X11_331 rfl rfl (Nat.le_of_ble_eq_true rfl) ⟨Nat.le_of_ble_eq_true rfl, Nat.le_of_ble_eq_true rfl⟩ ⟨Nat.le_of_ble_eq_true rfl, Nat.le_of_ble_eq_true rfl⟩ dX11_past_1 (fun hk => mX11_isNoSheet Y hF _ _ _ _  h) (fun v M_1 h => ?_)
  obtain ⟨r_2, rfl, h⟩ := h
  refine r_if_ne hC 14 rfl dX11_past_4 (by decide) (fun cq => ?_) (fun cq => ?_)
  · replace h := h.2 cq
    refine r_sub [0] rfl ?_
    exact tX11_past_J14 hC hF hL Q   _ qa0  _ h
  · replace h := h.1 cq
    refine r_iload_n hC 2 dX11_past_7 rfl rfl ?_
    refine r_callS (As := [vI x2]) (st := []) hC cw_X11_331 rfl rfl (Nat.le_of_ble_eq_true rfl) ⟨Nat.le_of_ble_eq_true rfl, Nat.le_of_ble_eq_true rfl⟩ ⟨Nat.le_of_ble_eq_true rfl, Nat.le_of_ble_eq_true rfl⟩ dX11_past_8 (fun hk => mX11_isNoSheet Y hF _ _ _ _  h) (fun v M_5 h => ?_)
    obtain ⟨r_6, rfl, h⟩ := h
    refine r_if_eq hC 20 rfl dX11_past_11 (by decide) (fun cq => ?_) (fun cq => ?_)
    · replace h := h.1 cq
      refine r_aload_n hC 0 dX11_past_20 rfl rfl ?_
      have q_7 : 0 < a0 + 84 ∧ M0 0 (a0 + 84) = kA 9 4 := lay_f0 (a := a0) hL qa0 fm_11_3
      refine r_getR0 (a' := a0 + 84) hC fg_X11_25 rfl hF fm_11_3 qa0.1 qa0.2 rfl dX11_past_21 ?_
      refine r_iload_n hC 1 dX11_past_24 rfl rfl ?_
      obtain ⟨i_8, h⟩ := h
      have q_9 : 0 < a0 + 116 + 2 * (bm x1).toNat ∧ M0 0 (a0 + 116 + 2 * (bm x1).toNat) = kO 8 := lay_a9 (a := a0 + 84) hL q_7 (inb_nat i_8)
      refine r_aald9 hC hF i_8 q_7.1 q_7.2 dX11_past_25 ?_
      refine r_getI hC fg_X11_334 rfl q_9.1 q_9.2 dX11_past_26 ?_
      refine r_if_eq hC 44 rfl dX11_past_29 (by decide) (fun cq => ?_) (fun cq => ?_)
      · replace h := h.1 cq
        refine r_sub [0] rfl ?_
        exact tX11_past_J44 hC hF hL Q   _ qa0  _ h
      · replace h := h.2 cq
        refine r_aload_n hC 0 dX11_past_32 rfl rfl ?_
        have q_12 : 0 < a0 + 84 ∧ M0 0 (a0 + 84) = kA 9 4 := lay_f0 (a := a0) hL qa0 fm_11_3
        refine r_getR0 (a' := a0 + 84) hC fg_X11_25 rfl hF fm_11_3 qa0.1 qa0.2 rfl dX11_past_33 ?_
        refine r_iload_n hC 2 dX11_past_36 rfl rfl ?_
        obtain ⟨i_13, h⟩ := h
        have q_14 : 0 < a0 + 116 + 2 * (bm x2).toNat ∧ M0 0 (a0 + 116 + 2 * (bm x2).toNat) = kO 8 := lay_a9 (a := a0 + 84) hL q_12 (inb_nat i_13)
        refine r_aald9 hC hF i_13 q_12.1 q_12.2 dX11_past_37 ?_
        refine r_getI hC fg_X11_334 rfl q_14.1 q_14.2 dX11_past_38 ?_
        refine r_if_ne hC 50 rfl dX11_past_41 (by decide) (fun cq => ?_) (fun cq => ?_)
        · replace h := h.2 cq
          refine r_aload_n hC 0 dX11_past_50 rfl rfl ?_
          have q_15 : 0 < a0 + 86 ∧ M0 0 (a0 + 86) = kO 5 := lay_f0 (a := a0) hL qa0 fm_11_5
          refine r_getR0 (a' := a0 + 86) hC fg_X11_36 rfl hF fm_11_5 qa0.1 qa0.2 rfl dX11_past_51 ?_
          refine r_aload_n hC 0 dX11_past_54 rfl rfl ?_
          have q_16 : 0 < a0 + 84 ∧ M0 0 (a0 + 84) = kA 9 4 := lay_f0 (a := a0) hL qa0 fm_11_3
          refine r_getR0 (a' := a0 + 84) hC fg_X11_25 rfl hF fm_11_3 qa0.1 qa0.2 rfl dX11_past_55 ?_
          refine r_iload_n hC 1 dX11_past_58 rfl rfl ?_
          obtain ⟨i_17, h⟩ := h
          have q_18 : 0 < a0 + 116 + 2 * (bm x1).toNat ∧ M0 0 (a0 + 116 + 2 * (bm x1).toNat) = kO 8 := lay_a9 (a := a0 + 84) hL q_16 (inb_nat i_17)
          refine r_aald9 hC hF i_17 q_16.1 q_16.2 dX11_past_59 ?_
          refine r_iload_n hC 3 dX11_past_60 rfl rfl ?_
          refine r_aload_n hC 0 dX11_past_61 rfl rfl ?_
          have q_19 : 0 < a0 + 1 ∧ M0 0 (a0 + 1) = kO 0 := lay_f0 (a := a0) hL qa0 fm_11_0
          refine r_getR0 (a' := a0 + 1) hC fg_X11_10 rfl hF fm_11_0 qa0.1 qa0.2 rfl dX11_past_62 ?_
          refine r_getI hC fg_X11_95 rfl q_19.1 q_19.2 dX11_past_65 ?_
          refine r_callV (As := [vR Y.1 (a0 + 116 + 2 * (bm x1).toNat), vI x3, vI (M_5 (a0 + 1) 1)]) (st := []) hC cw_X11_337 rfl q_15.1 q_15.2 rfl rfl (Nat.le_of_ble_eq_true rfl) ⟨Nat.le_of_ble_eq_true rfl, Nat.le_of_ble_eq_true rfl⟩ ⟨Nat.le_of_ble_eq_true rfl, Nat.le_of_ble_eq_true rfl⟩ dX11_past_68 (fun hk => mX5_takesSheet Y hF _ _ _ _ _ _ _ (kqO hk q_15) (kqO hk q_18) h) (fun v M_20 h => ?_)
          obtain ⟨r_21, rfl, h⟩ := h
          refine r_if_eq hC 102 rfl dX11_past_71 (by decide) (fun cq => ?_) (fun cq => ?_)
          · replace h := h.1 cq
            refine r_sub [0] rfl ?_
            exact tX11_past_J102 hC hF hL Q   _ qa0  _ h
          · replace h := h.2 cq
            refine r_aload_n hC 0 dX11_past_74 rfl rfl ?_
            have q_44 : 0 < a0 + 88 ∧ M0 0 (a0 + 88) = kO 5 := lay_f0 (a := a0) hL qa0 fm_11_6
            refine r_getR0 (a' := a0 + 88) hC fg_X11_40 rfl hF fm_11_6 qa0.1 qa0.2 rfl dX11_past_75 ?_
            refine r_aload_n hC 0 dX11_past_78 rfl rfl ?_
            have q_45 : 0 < a0 + 84 ∧ M0 0 (a0 + 84) = kA 9 4 := lay_f0 (a := a0) hL qa0 fm_11_3
            refine r_getR0 (a' := a0 + 84) hC fg_X11_25 rfl hF fm_11_3 qa0.1 qa0.2 rfl dX11_past_79 ?_
            refine r_iload_n hC 2 dX11_past_82 rfl rfl ?_
            obtain ⟨i_46, h⟩ := h
            have q_47 : 0 < a0 + 116 + 2 * (bm x2).toNat ∧ M0 0 (a0 + 116 + 2 * (bm x2).toNat) = kO 8 := lay_a9 (a := a0 + 84) hL q_45 (inb_nat i_46)
            refine r_aald9 hC hF i_46 q_45.1 q_45.2 dX11_past_83 ?_
            refine r_iload_n hC 3 dX11_past_84 rfl rfl ?_
            refine r_aload_n hC 0 dX11_past_85 rfl rfl ?_
            have q_48 : 0 < a0 + 1 ∧ M0 0 (a0 + 1) = kO 0 := lay_f0 (a := a0) hL qa0 fm_11_0
            refine r_getR0 (a' := a0 + 1) hC fg_X11_10 rfl hF fm_11_0 qa0.1 qa0.2 rfl dX11_past_86 ?_
            refine r_getI hC fg_X11_95 rfl q_48.1 q_48.2 dX11_past_89 ?_
            refine r_callV (As := [vR Y.1 (a0 + 116 + 2 * (bm x2).toNat), vI x3, vI (M_20 (a0 + 1) 1)]) (st := []) hC cw_X11_337 rfl q_44.1 q_44.2 rfl rfl (Nat.le_of_ble_eq_true rfl) ⟨Nat.le_of_ble_eq_true rfl, Nat.le_of_ble_eq_true rfl⟩ ⟨Nat.le_of_ble_eq_true rfl, Nat.le_of_ble_eq_true rfl⟩ dX11_past_92 (fun hk => mX5_takesSheet Y hF _ _ _ _ _ _ _ (kqO hk q_44) (kqO hk q_47) h) (fun v M_49 h => ?_)
            obtain ⟨r_50, rfl, h⟩ := h
            refine r_if_eq hC 102 rfl dX11_past_95 (by decide) (fun cq => ?_) (fun cq => ?_)
            · replace h := h.1 cq
              refine r_sub [0] rfl ?_
              exact tX11_past_J102 hC hF hL Q   _ qa0  _ h
            · replace h := h.2 cq
              refine r_iconst hC dX11_past_98 ?_
              refine r_goto hC 103 dX11_past_99 (by decide) ?_
              refine r_sub [0] rfl ?_
              exact tX11_past_J103 hC hF hL Q   _ _ qa0  _ h
        · replace h := h.1 cq
          refine r_sub [0] rfl ?_
          exact tX11_past_J44 hC hF hL Q   _ qa0  _ h
    · replace h := h.2 cq
      refine r_sub [0] rfl ?_
      exact tX11_past_J14 hC hF hL Q   _ qa0  _ h
theorem dX11_weighPasts_0 : dec cX11_weighPasts 0 1 1 (.iconst 1) := ⟨by decide +kernel, rfl⟩
theorem dX11_weighPasts_1 : dec cX11_weighPasts 1 1 2 (.aload_n 0) := ⟨by decide +kernel, rfl⟩
theorem dX11_weighPasts_2 : dec cX11_weighPasts 2 3 5 (.getfield 10) := ⟨by decide +kernel, rfl⟩
theorem dX11_weighPasts_5 : dec cX11_weighPasts 5 3 8 (.getfield 131) := ⟨by decide +kernel, rfl⟩
theorem dX11_weighPasts_8 : dec cX11_weighPasts 8 1 9 (.ishl) := ⟨by decide +kernel, rfl⟩
theorem dX11_weighPasts_9 : dec cX11_weighPasts 9 1 10 (.iconst 1) := ⟨by decide +kernel, rfl⟩
theorem dX11_weighPasts_10 : dec cX11_weighPasts 10 1 11 (.isub) := ⟨by decide +kernel, rfl⟩
theorem dX11_weighPasts_11 : dec cX11_weighPasts 11 1 12 (.istore_n 1) := ⟨by decide +kernel, rfl⟩
theorem dX11_weighPasts_12 : dec cX11_weighPasts 12 1 13 (.iconst 0) := ⟨by decide +kernel, rfl⟩
theorem dX11_weighPasts_13 : dec cX11_weighPasts 13 1 14 (.istore_n 2) := ⟨by decide +kernel, rfl⟩
theorem dX11_weighPasts_14 : dec cX11_weighPasts 14 1 15 (.iload_n 2) := ⟨by decide +kernel, rfl⟩
theorem dX11_weighPasts_15 : dec cX11_weighPasts 15 1 16 (.aload_n 0) := ⟨by decide +kernel, rfl⟩
theorem dX11_weighPasts_16 : dec cX11_weighPasts 16 3 19 (.getfield 10) := ⟨by decide +kernel, rfl⟩
theorem dX11_weighPasts_19 : dec cX11_weighPasts 19 3 22 (.getfield 341) := ⟨by decide +kernel, rfl⟩
theorem dX11_weighPasts_22 : dec cX11_weighPasts 22 3 25 (.if_icmp .ge 151) := ⟨by decide +kernel, rfl⟩
theorem dX11_weighPasts_25 : dec cX11_weighPasts 25 1 26 (.aload_n 0) := ⟨by decide +kernel, rfl⟩
theorem dX11_weighPasts_26 : dec cX11_weighPasts 26 3 29 (.getfield 48) := ⟨by decide +kernel, rfl⟩
theorem dX11_weighPasts_29 : dec cX11_weighPasts 29 1 30 (.aload_n 0) := ⟨by decide +kernel, rfl⟩
theorem dX11_weighPasts_30 : dec cX11_weighPasts 30 3 33 (.getfield 10) := ⟨by decide +kernel, rfl⟩
theorem dX11_weighPasts_33 : dec cX11_weighPasts 33 3 36 (.getfield 344) := ⟨by decide +kernel, rfl⟩
theorem dX11_weighPasts_36 : dec cX11_weighPasts 36 1 37 (.iload_n 2) := ⟨by decide +kernel, rfl⟩
theorem dX11_weighPasts_37 : dec cX11_weighPasts 37 1 38 (.aaload) := ⟨by decide +kernel, rfl⟩
theorem dX11_weighPasts_38 : dec cX11_weighPasts 38 1 39 (.iload_n 1) := ⟨by decide +kernel, rfl⟩
theorem dX11_weighPasts_39 : dec cX11_weighPasts 39 3 42 (.invokevirtual 221) := ⟨by decide +kernel, rfl⟩
theorem dX11_weighPasts_42 : dec cX11_weighPasts 42 1 43 (.iconst 0) := ⟨by decide +kernel, rfl⟩
theorem dX11_weighPasts_43 : dec cX11_weighPasts 43 1 44 (.istore_n 3) := ⟨by decide +kernel, rfl⟩
theorem dX11_weighPasts_44 : dec cX11_weighPasts 44 1 45 (.iload_n 3) := ⟨by decide +kernel, rfl⟩
theorem dX11_weighPasts_45 : dec cX11_weighPasts 45 1 46 (.aload_n 0) := ⟨by decide +kernel, rfl⟩
theorem dX11_weighPasts_46 : dec cX11_weighPasts 46 3 49 (.getfield 10) := ⟨by decide +kernel, rfl⟩
theorem dX11_weighPasts_49 : dec cX11_weighPasts 49 3 52 (.getfield 131) := ⟨by decide +kernel, rfl⟩
theorem dX11_weighPasts_52 : dec cX11_weighPasts 52 3 55 (.if_icmp .ge 29) := ⟨by decide +kernel, rfl⟩
theorem dX11_weighPasts_55 : dec cX11_weighPasts 55 1 56 (.aload_n 0) := ⟨by decide +kernel, rfl⟩
theorem dX11_weighPasts_56 : dec cX11_weighPasts 56 3 59 (.getfield 82) := ⟨by decide +kernel, rfl⟩
theorem dX11_weighPasts_59 : dec cX11_weighPasts 59 1 60 (.iload_n 2) := ⟨by decide +kernel, rfl⟩
theorem dX11_weighPasts_60 : dec cX11_weighPasts 60 2 62 (.bipush 10) := ⟨by decide +kernel, rfl⟩
theorem dX11_weighPasts_62 : dec cX11_weighPasts 62 1 63 (.imul) := ⟨by decide +kernel, rfl⟩
theorem dX11_weighPasts_63 : dec cX11_weighPasts 63 1 64 (.iload_n 3) := ⟨by decide +kernel, rfl⟩
theorem dX11_weighPasts_64 : dec cX11_weighPasts 64 1 65 (.iadd) := ⟨by decide +kernel, rfl⟩
theorem dX11_weighPasts_65 : dec cX11_weighPasts 65 1 66 (.aload_n 0) := ⟨by decide +kernel, rfl⟩
theorem dX11_weighPasts_66 : dec cX11_weighPasts 66 3 69 (.getfield 48) := ⟨by decide +kernel, rfl⟩
theorem dX11_weighPasts_69 : dec cX11_weighPasts 69 1 70 (.iload_n 3) := ⟨by decide +kernel, rfl⟩
theorem dX11_weighPasts_70 : dec cX11_weighPasts 70 3 73 (.invokevirtual 233) := ⟨by decide +kernel, rfl⟩
theorem dX11_weighPasts_73 : dec cX11_weighPasts 73 1 74 (.i2l) := ⟨by decide +kernel, rfl⟩
theorem dX11_weighPasts_74 : dec cX11_weighPasts 74 1 75 (.lastore) := ⟨by decide +kernel, rfl⟩
theorem dX11_weighPasts_75 : dec cX11_weighPasts 75 3 78 (.iinc 3 1) := ⟨by decide +kernel, rfl⟩
theorem dX11_weighPasts_78 : dec cX11_weighPasts 78 3 81 (.goto (-34)) := ⟨by decide +kernel, rfl⟩
theorem dX11_weighPasts_81 : dec cX11_weighPasts 81 1 82 (.aload_n 0) := ⟨by decide +kernel, rfl⟩
theorem dX11_weighPasts_82 : dec cX11_weighPasts 82 3 85 (.getfield 48) := ⟨by decide +kernel, rfl⟩
theorem dX11_weighPasts_85 : dec cX11_weighPasts 85 1 86 (.aload_n 0) := ⟨by decide +kernel, rfl⟩
theorem dX11_weighPasts_86 : dec cX11_weighPasts 86 3 89 (.getfield 10) := ⟨by decide +kernel, rfl⟩
theorem dX11_weighPasts_89 : dec cX11_weighPasts 89 3 92 (.getfield 351) := ⟨by decide +kernel, rfl⟩
theorem dX11_weighPasts_92 : dec cX11_weighPasts 92 1 93 (.iload_n 2) := ⟨by decide +kernel, rfl⟩
theorem dX11_weighPasts_93 : dec cX11_weighPasts 93 1 94 (.aaload) := ⟨by decide +kernel, rfl⟩
theorem dX11_weighPasts_94 : dec cX11_weighPasts 94 1 95 (.iload_n 1) := ⟨by decide +kernel, rfl⟩
theorem dX11_weighPasts_95 : dec cX11_weighPasts 95 3 98 (.invokevirtual 221) := ⟨by decide +kernel, rfl⟩
theorem dX11_weighPasts_98 : dec cX11_weighPasts 98 1 99 (.iconst 0) := ⟨by decide +kernel, rfl⟩
theorem dX11_weighPasts_99 : dec cX11_weighPasts 99 1 100 (.istore_n 3) := ⟨by decide +kernel, rfl⟩
theorem dX11_weighPasts_100 : dec cX11_weighPasts 100 1 101 (.iload_n 3) := ⟨by decide +kernel, rfl⟩
theorem dX11_weighPasts_101 : dec cX11_weighPasts 101 1 102 (.aload_n 0) := ⟨by decide +kernel, rfl⟩
theorem dX11_weighPasts_102 : dec cX11_weighPasts 102 3 105 (.getfield 10) := ⟨by decide +kernel, rfl⟩
theorem dX11_weighPasts_105 : dec cX11_weighPasts 105 3 108 (.getfield 131) := ⟨by decide +kernel, rfl⟩
theorem dX11_weighPasts_108 : dec cX11_weighPasts 108 3 111 (.if_icmp .ge 59) := ⟨by decide +kernel, rfl⟩
theorem dX11_weighPasts_111 : dec cX11_weighPasts 111 1 112 (.aload_n 0) := ⟨by decide +kernel, rfl⟩
theorem dX11_weighPasts_112 : dec cX11_weighPasts 112 3 115 (.getfield 82) := ⟨by decide +kernel, rfl⟩
theorem dX11_weighPasts_115 : dec cX11_weighPasts 115 1 116 (.iload_n 2) := ⟨by decide +kernel, rfl⟩
theorem dX11_weighPasts_116 : dec cX11_weighPasts 116 2 118 (.bipush 10) := ⟨by decide +kernel, rfl⟩
theorem dX11_weighPasts_118 : dec cX11_weighPasts 118 1 119 (.imul) := ⟨by decide +kernel, rfl⟩
theorem dX11_weighPasts_119 : dec cX11_weighPasts 119 1 120 (.iload_n 3) := ⟨by decide +kernel, rfl⟩
theorem dX11_weighPasts_120 : dec cX11_weighPasts 120 1 121 (.iadd) := ⟨by decide +kernel, rfl⟩
theorem dX11_weighPasts_121 : dec cX11_weighPasts 121 1 122 (.laload) := ⟨by decide +kernel, rfl⟩
theorem dX11_weighPasts_122 : dec cX11_weighPasts 122 1 123 (.aload_n 0) := ⟨by decide +kernel, rfl⟩
theorem dX11_weighPasts_123 : dec cX11_weighPasts 123 3 126 (.getfield 48) := ⟨by decide +kernel, rfl⟩
theorem dX11_weighPasts_126 : dec cX11_weighPasts 126 1 127 (.iload_n 3) := ⟨by decide +kernel, rfl⟩
theorem dX11_weighPasts_127 : dec cX11_weighPasts 127 3 130 (.invokevirtual 233) := ⟨by decide +kernel, rfl⟩
theorem dX11_weighPasts_130 : dec cX11_weighPasts 130 1 131 (.i2l) := ⟨by decide +kernel, rfl⟩
theorem dX11_weighPasts_131 : dec cX11_weighPasts 131 1 132 (.lsub) := ⟨by decide +kernel, rfl⟩
theorem dX11_weighPasts_132 : dec cX11_weighPasts 132 2 134 (.lstore 4) := ⟨by decide +kernel, rfl⟩
theorem dX11_weighPasts_134 : dec cX11_weighPasts 134 1 135 (.aload_n 0) := ⟨by decide +kernel, rfl⟩
theorem dX11_weighPasts_135 : dec cX11_weighPasts 135 3 138 (.getfield 82) := ⟨by decide +kernel, rfl⟩
theorem dX11_weighPasts_138 : dec cX11_weighPasts 138 1 139 (.iload_n 2) := ⟨by decide +kernel, rfl⟩
theorem dX11_weighPasts_139 : dec cX11_weighPasts 139 2 141 (.bipush 10) := ⟨by decide +kernel, rfl⟩
theorem dX11_weighPasts_141 : dec cX11_weighPasts 141 1 142 (.imul) := ⟨by decide +kernel, rfl⟩
theorem dX11_weighPasts_142 : dec cX11_weighPasts 142 1 143 (.iload_n 3) := ⟨by decide +kernel, rfl⟩
theorem dX11_weighPasts_143 : dec cX11_weighPasts 143 1 144 (.iadd) := ⟨by decide +kernel, rfl⟩
theorem dX11_weighPasts_144 : dec cX11_weighPasts 144 2 146 (.lload 4) := ⟨by decide +kernel, rfl⟩
theorem dX11_weighPasts_146 : dec cX11_weighPasts 146 1 147 (.aload_n 0) := ⟨by decide +kernel, rfl⟩
theorem dX11_weighPasts_147 : dec cX11_weighPasts 147 3 150 (.getfield 10) := ⟨by decide +kernel, rfl⟩
theorem dX11_weighPasts_150 : dec cX11_weighPasts 150 3 153 (.getfield 134) := ⟨by decide +kernel, rfl⟩
theorem dX11_weighPasts_153 : dec cX11_weighPasts 153 1 154 (.iload_n 3) := ⟨by decide +kernel, rfl⟩
theorem dX11_weighPasts_154 : dec cX11_weighPasts 154 1 155 (.aaload) := ⟨by decide +kernel, rfl⟩
theorem dX11_weighPasts_155 : dec cX11_weighPasts 155 3 158 (.getfield 413) := ⟨by decide +kernel, rfl⟩
theorem dX11_weighPasts_158 : dec cX11_weighPasts 158 1 159 (.i2l) := ⟨by decide +kernel, rfl⟩
theorem dX11_weighPasts_159 : dec cX11_weighPasts 159 1 160 (.lmul) := ⟨by decide +kernel, rfl⟩
theorem dX11_weighPasts_160 : dec cX11_weighPasts 160 1 161 (.lastore) := ⟨by decide +kernel, rfl⟩
theorem dX11_weighPasts_161 : dec cX11_weighPasts 161 3 164 (.iinc 3 1) := ⟨by decide +kernel, rfl⟩
theorem dX11_weighPasts_164 : dec cX11_weighPasts 164 3 167 (.goto (-64)) := ⟨by decide +kernel, rfl⟩
theorem dX11_weighPasts_167 : dec cX11_weighPasts 167 3 170 (.iinc 2 1) := ⟨by decide +kernel, rfl⟩
theorem dX11_weighPasts_170 : dec cX11_weighPasts 170 3 173 (.goto (-156)) := ⟨by decide +kernel, rfl⟩
theorem dX11_weighPasts_173 : dec cX11_weighPasts 173 1 174 (.return_) := ⟨by decide +kernel, rfl⟩
set_option maxHeartbeats 4000000 in
set_option maxRecDepth 100000 in
theorem tX11_weighPasts_L44 {X : Cx} {Y : Yx} {M0 : Mem} (hC : OKX X Y RX11 cX11_weighPasts 6 none rmX11_weighPasts) (hF : Y.2.2.2.2 = true) (hL : Lay M0) (Q : Mem → Prop) (E81 : Mem → Prop) (a0 : Nat) (x1 : Int) (x2 : Int) (qa0 : 0 < a0 ∧ M0 0 a0 = kO 11) (hE81 : ∀  (M : Mem), E81  M → WW X Y 6 rmX11_weighPasts (QV Q) M0 0 0 81 [(0, vR Y.1 a0), (1, vI x1), (2, vI x2)] [] M) : ∀ (N : Nat) (x3 : Int) (M : Mem) (_ : wX11_weighPasts_L44 Q E81 a0 x1 x2 N x3 M), WW X Y 6 rmX11_weighPasts (QV Q) M0 0 0 44 [(0, vR Y.1 a0), (1, vI x1), (2, vI x2), (3, vI x3)] [] M := by
  intro N
  induction N with
  | zero =>
    intro x3 M h
    exact h.elim
  | succ N ih =>
    intro x3 M h
    unfold wX11_weighPasts_L44 at h
    refine r_iload_n hC 3 dX11_weighPasts_44 rfl rfl ?_
    refine r_aload_n hC 0 dX11_weighPasts_45 rfl rfl ?_
    have q_10 : 0 < a0 + 1 ∧ M0 0 (a0 + 1) = kO 0 := lay_f0 (a := a0) hL qa0 fm_11_0
    refine r_getR0 (a' := a0 + 1) hC fg_X11_10 rfl hF fm_11_0 qa0.1 qa0.2 rfl dX11_weighPasts_46 ?_
    refine r_getI hC fg_X11_131 rfl q_10.1 q_10.2 dX11_weighPasts_49 ?_
    refine r_icmp_ge hC 81 rfl rfl dX11_weighPasts_52 (by decide) (fun cq => ?_) (fun cq => ?_)
    · replace h := h.1 cq
      refine r_sub [0, 1, 2] rfl ?_
      exact hE81  _ h
    · replace h := h.2 cq
      refine r_aload_n hC 0 dX11_weighPasts_55 rfl rfl ?_
      have q_11 : 0 < a0 + 115 ∧ M0 0 (a0 + 115) = kA 3 80 := lay_f0 (a := a0) hL qa0 fm_11_12
      refine r_getR0 (a' := a0 + 115) hC fg_X11_82 rfl hF fm_11_12 qa0.1 qa0.2 rfl dX11_weighPasts_56 ?_
      refine r_iload_n hC 2 dX11_weighPasts_59 rfl rfl ?_
      refine r_bipush hC (by decide +kernel) dX11_weighPasts_60 ?_
      refine r_imul hC dX11_weighPasts_62 ?_
      refine r_iload_n hC 3 dX11_weighPasts_63 rfl rfl ?_
      refine r_iadd hC dX11_weighPasts_64 ?_
      refine r_aload_n hC 0 dX11_weighPasts_65 rfl rfl ?_
      have q_12 : 0 < a0 + 90 ∧ M0 0 (a0 + 90) = kO 10 := lay_f0 (a := a0) hL qa0 fm_11_7
      refine r_getR0 (a' := a0 + 90) hC fg_X11_48 rfl hF fm_11_7 qa0.1 qa0.2 rfl dX11_weighPasts_66 ?_
      refine r_iload_n hC 3 dX11_weighPasts_69 rfl rfl ?_
      refine r_callV (As := [vI x3]) (st := [vI ((x2 * 10) + x3), vR Y.1 (a0 + 115)]) hC cw_X11_233 rfl q_12.1 q_12.2 rfl rfl (Nat.le_of_ble_eq_true rfl) ⟨Nat.le_of_ble_eq_true rfl, Nat.le_of_ble_eq_true rfl⟩ ⟨Nat.le_of_ble_eq_true rfl, Nat.le_of_ble_eq_true rfl⟩ dX11_weighPasts_70 (fun hk => mX10_totalBy Y hF _ _ _ _ _ (kqO hk q_12) h) (fun v M_13 h => ?_)
      obtain ⟨r_14, rfl, h⟩ := h
      refine r_i2l hC dX11_weighPasts_73 ?_
      obtain ⟨i_15, h⟩ := h
      refine r_last hC i_15 q_11.1 q_11.2 (by decide) dX11_weighPasts_74 ?_
      refine r_nameM h (fun M_16 h => ?_)
      refine let_elim h (fun x3_17 e_18 h => ?_)
      refine r_iinc (lv' := [(3, vI x3_17), (0, vR Y.1 a0), (1, vI x1), (2, vI x2)]) hC 3 dX11_weighPasts_75 rfl (by decide) e_18 rfl ?_
      refine r_goto hC 44 dX11_weighPasts_78 (by decide) ?_
      refine r_sub [1, 2, 3, 0] rfl ?_
      exact ih _ _ h
set_option maxHeartbeats 4000000 in
set_option maxRecDepth 100000 in
theorem tX11_weighPasts_L100 {X : Cx} {Y : Yx} {M0 : Mem} (hC : OKX X Y RX11 cX11_weighPasts 6 none rmX11_weighPasts) (hF : Y.2.2.2.2 = true) (hL : Lay M0) (Q : Mem → Prop) (E167 : Mem → Prop) (a0 : Nat) (x1 : Int) (x2 : Int) (qa0 : 0 < a0 ∧ M0 0 a0 = kO 11) (hE167 : ∀  (M : Mem), E167  M → WW X Y 6 rmX11_weighPasts (QV Q) M0 0 0 167 [(0, vR Y.1 a0), (1, vI x1), (2, vI x2)] [] M) : ∀ (N : Nat) (x3 : Int) (M : Mem) (_ : wX11_weighPasts_L100 Q E167 a0 x1 x2 N x3 M), WW X Y 6 rmX11_weighPasts (QV Q) M0 0 0 100 [(0, vR Y.1 a0), (1, vI x1), (2, vI x2), (3, vI x3)] [] M := by
  intro N
  induction N with
  | zero =>
    intro x3 M h
    exact h.elim
  | succ N ih =>
    intro x3 M h
    unfold wX11_weighPasts_L100 at h
    refine r_iload_n hC 3 dX11_weighPasts_100 rfl rfl ?_
    refine r_aload_n hC 0 dX11_weighPasts_101 rfl rfl ?_
    have q_26 : 0 < a0 + 1 ∧ M0 0 (a0 + 1) = kO 0 := lay_f0 (a := a0) hL qa0 fm_11_0
    refine r_getR0 (a' := a0 + 1) hC fg_X11_10 rfl hF fm_11_0 qa0.1 qa0.2 rfl dX11_weighPasts_102 ?_
    refine r_getI hC fg_X11_131 rfl q_26.1 q_26.2 dX11_weighPasts_105 ?_
    refine r_icmp_ge hC 167 rfl rfl dX11_weighPasts_108 (by decide) (fun cq => ?_) (fun cq => ?_)
    · replace h := h.1 cq
      refine r_sub [0, 1, 2] rfl ?_
      exact hE167  _ h
    · replace h := h.2 cq
      refine r_aload_n hC 0 dX11_weighPasts_111 rfl rfl ?_
      have q_27 : 0 < a0 + 115 ∧ M0 0 (a0 + 115) = kA 3 80 := lay_f0 (a := a0) hL qa0 fm_11_12
      refine r_getR0 (a' := a0 + 115) hC fg_X11_82 rfl hF fm_11_12 qa0.1 qa0.2 rfl dX11_weighPasts_112 ?_
      refine r_iload_n hC 2 dX11_weighPasts_115 rfl rfl ?_
      refine r_bipush hC (by decide +kernel) dX11_weighPasts_116 ?_
      refine r_imul hC dX11_weighPasts_118 ?_
      refine r_iload_n hC 3 dX11_weighPasts_119 rfl rfl ?_
      refine r_iadd hC dX11_weighPasts_120 ?_
      obtain ⟨i_28, h⟩ := h
      refine r_lald hC i_28 q_27.1 q_27.2 (by decide) dX11_weighPasts_121 ?_
      refine r_aload_n hC 0 dX11_weighPasts_122 rfl rfl ?_
      have q_29 : 0 < a0 + 90 ∧ M0 0 (a0 + 90) = kO 10 := lay_f0 (a := a0) hL qa0 fm_11_7
      refine r_getR0 (a' := a0 + 90) hC fg_X11_48 rfl hF fm_11_7 qa0.1 qa0.2 rfl dX11_weighPasts_123 ?_
      refine r_iload_n hC 3 dX11_weighPasts_126 rfl rfl ?_
      refine r_callV (As := [vI x3]) (st := [vL (rd M (a0 + 115) ((x2 * 10) + x3))]) hC cw_X11_233 rfl q_29.1 q_29.2 rfl rfl (Nat.le_of_ble_eq_true rfl) ⟨Nat.le_of_ble_eq_true rfl, Nat.le_of_ble_eq_true rfl⟩ ⟨Nat.le_of_ble_eq_true rfl, Nat.le_of_ble_eq_true rfl⟩ dX11_weighPasts_127 (fun hk => mX10_totalBy Y hF _ _ _ _ _ (kqO hk q_29) h) (fun v M_30 h => ?_)
      obtain ⟨r_31, rfl, h⟩ := h
      refine r_i2l hC dX11_weighPasts_130 ?_
      refine r_lsub hC dX11_weighPasts_131 ?_
      refine r_nameL h (fun x4_32 h => ?_)
      refine r_lstore (lv' := [(4, vL x4_32), (0, vR Y.1 a0), (1, vI x1), (2, vI x2), (3, vI x3)]) hC dX11_weighPasts_132 (by decide) rfl ?_
      refine r_aload_n hC 1 dX11_weighPasts_134 rfl rfl ?_
      have q_33 : 0 < a0 + 115 ∧ M0 0 (a0 + 115) = kA 3 80 := lay_f0 (a := a0) hL qa0 fm_11_12
      refine r_getR0 (a' := a0 + 115) hC fg_X11_82 rfl hF fm_11_12 qa0.1 qa0.2 rfl dX11_weighPasts_135 ?_
      refine r_iload_n hC 3 dX11_weighPasts_138 rfl rfl ?_
      refine r_bipush hC (by decide +kernel) dX11_weighPasts_139 ?_
      refine r_imul hC dX11_weighPasts_141 ?_
      refine r_iload_n hC 4 dX11_weighPasts_142 rfl rfl ?_
      refine r_iadd hC dX11_weighPasts_143 ?_
      refine r_lload hC 0 dX11_weighPasts_144 rfl ?_
      refine r_aload_n hC 1 dX11_weighPasts_146 rfl rfl ?_
      have q_34 : 0 < a0 + 1 ∧ M0 0 (a0 + 1) = kO 0 := lay_f0 (a := a0) hL qa0 fm_11_0
      refine r_getR0 (a' := a0 + 1) hC fg_X11_10 rfl hF fm_11_0 qa0.1 qa0.2 rfl dX11_weighPasts_147 ?_
      have q_35 : 0 < a0 + 4 ∧ M0 0 (a0 + 4) = kA 5 10 := lay_f0 (a := a0 + 1) hL q_34 fm_0_3
      refine r_getR0 (a' := a0 + 4) hC fg_X11_134 rfl hF fm_0_3 q_34.1 q_34.2 rfl dX11_weighPasts_150 ?_
      refine r_iload_n hC 4 dX11_weighPasts_153 rfl rfl ?_
      obtain ⟨i_36, h⟩ := h
      have q_37 : 0 < a0 + 22 + 2 * (bm x3).toNat ∧ M0 0 (a0 + 22 + 2 * (bm x3).toNat) = kO 1 := lay_a5 (a := a0 + 4) hL q_35 (inb_nat i_36)
      refine r_aald5 hC hF i_36 q_35.1 q_35.2 dX11_weighPasts_154 ?_
      refine r_getI hC fg_X11_413 rfl q_37.1 q_37.2 dX11_weighPasts_155 ?_
      refine r_i2l hC dX11_weighPasts_158 ?_
      refine r_lmul hC dX11_weighPasts_159 ?_
      obtain ⟨i_38, h⟩ := h
      refine r_last hC i_38 q_33.1 q_33.2 (by decide) dX11_weighPasts_160 ?_
      refine r_nameM h (fun M_39 h => ?_)
      refine let_elim h (fun x3_40 e_41 h => ?_)
      refine r_iinc (lv' := [(3, vI x3_40), (4, vL x4_32), (0, vR Y.1 a0), (1, vI x1), (2, vI x2)]) hC 4 dX11_weighPasts_161 rfl (by decide) e_41 rfl ?_
      refine r_goto hC 100 dX11_weighPasts_164 (by decide) ?_
      refine r_sub [2, 3, 4, 0] rfl ?_
      exact ih _ _ h
set_option maxHeartbeats 4000000 in
set_option maxRecDepth 100000 in
theorem tX11_weighPasts_L14 {X : Cx} {Y : Yx} {M0 : Mem} (hC : OKX X Y RX11 cX11_weighPasts 6 none rmX11_weighPasts) (hF : Y.2.2.2.2 = true) (hL : Lay M0) (Q : Mem → Prop)  (a0 : Nat) (x1 : Int) (qa0 : 0 < a0 ∧ M0 0 a0 = kO 11)  : ∀ (N : Nat) (x2 : Int) (M : Mem) (_ : wX11_weighPasts_L14 Q  a0 x1 N x2 M), WW X Y 6 rmX11_weighPasts (QV Q) M0 0 0 14 [(0, vR Y.1 a0), (1, vI x1), (2, vI x2)] [] M := by
  intro N
  induction N with
  | zero =>
    intro x2 M h
    exact h.elim
  | succ N ih =>
    intro x2 M h
    unfold wX11_weighPasts_L14 at h
    refine r_iload_n hC 2 dX11_weighPasts_14 rfl rfl ?_
    refine r_aload_n hC 0 dX11_weighPasts_15 rfl rfl ?_
    have q_3 : 0 < a0 + 1 ∧ M0 0 (a0 + 1) = kO 0 := lay_f0 (a := a0) hL qa0 fm_11_0
    refine r_getR0 (a' := a0 + 1) hC fg_X11_10 rfl hF fm_11_0 qa0.1 qa0.2 rfl dX11_weighPasts_16 ?_
    refine r_getI hC fg_X11_341 rfl q_3.1 q_3.2 dX11_weighPasts_19 ?_
    refine r_icmp_ge hC 173 rfl rfl dX11_weighPasts_22 (by decide) (fun cq => ?_) (fun cq => ?_)
    · replace h := h.1 cq
      exact r_vret hC (Nat.zero_le _) (Nat.zero_le _) dX11_weighPasts_173 ⟨rfl, h⟩
    · replace h := h.2 cq
      refine r_aload_n hC 0 dX11_weighPasts_25 rfl rfl ?_
      have q_4 : 0 < a0 + 90 ∧ M0 0 (a0 + 90) = kO 10 := lay_f0 (a := a0) hL qa0 fm_11_7
      refine r_getR0 (a' := a0 + 90) hC fg_X11_48 rfl hF fm_11_7 qa0.1 qa0.2 rfl dX11_weighPasts_26 ?_
      refine r_aload_n hC 0 dX11_weighPasts_29 rfl rfl ?_
      have q_5 : 0 < a0 + 1 ∧ M0 0 (a0 + 1) = kO 0 := lay_f0 (a := a0) hL qa0 fm_11_0
      refine r_getR0 (a' := a0 + 1) hC fg_X11_10 rfl hF fm_11_0 qa0.1 qa0.2 rfl dX11_weighPasts_30 ?_
      have q_6 : 0 < a0 + 7 ∧ M0 0 (a0 + 7) = kA 7 8 := lay_f0 (a := a0 + 1) hL q_5 fm_0_9
      refine r_getR0 (a' := a0 + 7) hC fg_X11_344 rfl hF fm_0_9 q_5.1 q_5.2 rfl dX11_weighPasts_33 ?_
      refine r_iload_n hC 2 dX11_weighPasts_36 rfl rfl ?_
      obtain ⟨i_7, h⟩ := h
      have q_8 : 0 < a0 + 52 + 4 * (bm x2).toNat ∧ M0 0 (a0 + 52 + 4 * (bm x2).toNat) = kO 5 := lay_a7 (a := a0 + 7) hL q_6 (inb_nat i_7)
      refine r_aald7 hC hF i_7 q_6.1 q_6.2 dX11_weighPasts_37 ?_
      refine r_iload_n hC 1 dX11_weighPasts_38 rfl rfl ?_
      refine r_callV (As := [vR Y.1 (a0 + 52 + 4 * (bm x2).toNat), vI x1]) (st := []) hC cw_X11_221 rfl q_4.1 q_4.2 rfl rfl (Nat.le_of_ble_eq_true rfl) ⟨Nat.le_of_ble_eq_true rfl, Nat.le_of_ble_eq_true rfl⟩ ⟨Nat.le_of_ble_eq_true rfl, Nat.le_of_ble_eq_true rfl⟩ dX11_weighPasts_39 (fun hk => mX10_along Y hF _ _ _ _ _ _ (kqO hk q_4) (kqO hk q_8) h) (fun v M_9 h => ?_)
      obtain ⟨rfl, h⟩ := h
      refine r_iconst hC dX11_weighPasts_42 ?_
      refine r_istore_n (lv' := [(3, vI 0), (0, vR Y.1 a0), (1, vI x1), (2, vI x2)]) hC dX11_weighPasts_43 rfl (by decide) rfl ?_
      refine r_sub [1, 2, 3, 0] rfl ?_
      obtain ⟨N_46, h⟩ := h
      refine tX11_weighPasts_L44 hC hF hL Q _ _ _ _ qa0 ?_ N_46 _ _ h
      · intro M_19 h
        refine r_aload_n hC 0 dX11_weighPasts_81 rfl rfl ?_
        have q_20 : 0 < a0 + 90 ∧ M0 0 (a0 + 90) = kO 10 := lay_f0 (a := a0) hL qa0 fm_11_7
        refine r_getR0 (a' := a0 + 90) hC fg_X11_48 rfl hF fm_11_7 qa0.1 qa0.2 rfl dX11_weighPasts_82 ?_
        refine r_aload_n hC 0 dX11_weighPasts_85 rfl rfl ?_
        have q_21 : 0 < a0 + 1 ∧ M0 0 (a0 + 1) = kO 0 := lay_f0 (a := a0) hL qa0 fm_11_0
        refine r_getR0 (a' := a0 + 1) hC fg_X11_10 rfl hF fm_11_0 qa0.1 qa0.2 rfl dX11_weighPasts_86 ?_
        have q_22 : 0 < a0 + 8 ∧ M0 0 (a0 + 8) = kA 8 8 := lay_f0 (a := a0 + 1) hL q_21 fm_0_10
        refine r_getR0 (a' := a0 + 8) hC fg_X11_351 rfl hF fm_0_10 q_21.1 q_21.2 rfl dX11_weighPasts_89 ?_
        refine r_iload_n hC 2 dX11_weighPasts_92 rfl rfl ?_
        obtain ⟨i_23, h⟩ := h
        have q_24 : 0 < a0 + 54 + 4 * (bm x2).toNat ∧ M0 0 (a0 + 54 + 4 * (bm x2).toNat) = kO 5 := lay_a8 (a := a0 + 8) hL q_22 (inb_nat i_23)
        refine r_aald8 hC hF i_23 q_22.1 q_22.2 dX11_weighPasts_93 ?_
        refine r_iload_n hC 1 dX11_weighPasts_94 rfl rfl ?_
        refine r_callV (As := [vR Y.1 (a0 + 54 + 4 * (bm x2).toNat), vI x1]) (st := []) hC cw_X11_221 rfl q_20.1 q_20.2 rfl rfl (Nat.le_of_ble_eq_true rfl) ⟨Nat.le_of_ble_eq_true rfl, Nat.le_of_ble_eq_true rfl⟩ ⟨Nat.le_of_ble_eq_true rfl, Nat.le_of_ble_eq_true rfl⟩ dX11_weighPasts_95 (fun hk => mX10_along Y hF _ _ _ _ _ _ (kqO hk q_20) (kqO hk q_24) h) (fun v M_25 h => ?_)
        obtain ⟨rfl, h⟩ := h
        refine r_iconst hC dX11_weighPasts_98 ?_
        refine r_istore_n (lv' := [(3, vI 0), (0, vR Y.1 a0), (1, vI x1), (2, vI x2)]) hC dX11_weighPasts_99 rfl (by decide) rfl ?_
        refine r_sub [1, 2, 3, 0] rfl ?_
        obtain ⟨N_45, h⟩ := h
        refine tX11_weighPasts_L100 hC hF hL Q _ _ _ _ qa0 ?_ N_45 _ _ h
        · intro M_42 h
          refine let_elim h (fun x2_43 e_44 h => ?_)
          refine r_iinc (lv' := [(2, vI x2_43), (0, vR Y.1 a0), (1, vI x1)]) hC 2 dX11_weighPasts_167 rfl (by decide) e_44 rfl ?_
          refine r_goto hC 14 dX11_weighPasts_170 (by decide) ?_
          refine r_sub [1, 2, 0] rfl ?_
          exact ih _ _ h
set_option maxHeartbeats 4000000 in
set_option maxRecDepth 100000 in
theorem mX11_weighPasts (Y : Yx) (hF : Y.2.2.2.2 = true) (l : Launch) (a0 : Nat) (M0 : Mem) (Q : Mem → Prop) (qa0 : 0 < a0 ∧ M0 0 a0 = kO 11) (h : wX11_weighPasts a0 M0 Q) : CT Y l yX11_weighPasts cX11_weighPasts 6 none rmX11_weighPasts [vR Y.1 a0] M0 (QV Q) := by
  unfold wX11_weighPasts at h
  refine ct_intro (by decide) (Nat.le_of_ble_eq_true rfl) ?_
  intro X hXl hC hL0
  have hL := hL0 hF
  change OKX X Y RX11 cX11_weighPasts 6 none rmX11_weighPasts at hC
  change WW X Y 6 rmX11_weighPasts (QV Q) M0 0 0 0 [(0, vR Y.1 a0)] [] M0
  refine r_iconst hC dX11_weighPasts_0 ?_
  refine r_aload_n hC 0 dX11_weighPasts_1 rfl rfl ?_
  have q_1 : 0 < a0 + 1 ∧ M0 0 (a0 + 1) = kO 0 := lay_f0 (a := a0) hL qa0 fm_11_0
  refine r_getR0 (a' := a0 + 1) hC fg_X11_10 rfl hF fm_11_0 qa0.1 qa0.2 rfl dX11_weighPasts_2 ?_
  refine r_getI hC fg_X11_131 rfl q_1.1 q_1.2 dX11_weighPasts_5 ?_
  refine r_ishl hC dX11_weighPasts_8 ?_
  refine r_iconst hC dX11_weighPasts_9 ?_
  refine r_isub hC dX11_weighPasts_10 ?_
  refine r_nameI h (fun x1_2 h => ?_)
  refine r_istore_n (lv' := [(1, vI x1_2), (0, vR Y.1 a0)]) hC dX11_weighPasts_11 rfl (by decide) rfl ?_
  refine r_iconst hC dX11_weighPasts_12 ?_
  refine r_istore_n (lv' := [(2, vI 0), (1, vI x1_2), (0, vR Y.1 a0)]) hC dX11_weighPasts_13 rfl (by decide) rfl ?_
  refine r_sub [2, 1, 0] rfl ?_
  obtain ⟨N_47, h⟩ := h
  refine tX11_weighPasts_L14 hC hF hL Q  _ _ qa0  N_47 _ _ h
theorem dX11_tellsPasts_0 : dec cX11_tellsPasts 0 1 1 (.iconst 0) := ⟨by decide +kernel, rfl⟩
theorem dX11_tellsPasts_1 : dec cX11_tellsPasts 1 1 2 (.istore_n 2) := ⟨by decide +kernel, rfl⟩
theorem dX11_tellsPasts_2 : dec cX11_tellsPasts 2 1 3 (.iload_n 2) := ⟨by decide +kernel, rfl⟩
theorem dX11_tellsPasts_3 : dec cX11_tellsPasts 3 1 4 (.aload_n 0) := ⟨by decide +kernel, rfl⟩
theorem dX11_tellsPasts_4 : dec cX11_tellsPasts 4 3 7 (.getfield 10) := ⟨by decide +kernel, rfl⟩
theorem dX11_tellsPasts_7 : dec cX11_tellsPasts 7 3 10 (.getfield 341) := ⟨by decide +kernel, rfl⟩
theorem dX11_tellsPasts_10 : dec cX11_tellsPasts 10 3 13 (.if_icmp .ge 64) := ⟨by decide +kernel, rfl⟩
theorem dX11_tellsPasts_13 : dec cX11_tellsPasts 13 1 14 (.lconst 0) := ⟨by decide +kernel, rfl⟩
theorem dX11_tellsPasts_14 : dec cX11_tellsPasts 14 1 15 (.lstore_n 3) := ⟨by decide +kernel, rfl⟩
theorem dX11_tellsPasts_15 : dec cX11_tellsPasts 15 1 16 (.iconst 0) := ⟨by decide +kernel, rfl⟩
theorem dX11_tellsPasts_16 : dec cX11_tellsPasts 16 2 18 (.istore 5) := ⟨by decide +kernel, rfl⟩
theorem dX11_tellsPasts_18 : dec cX11_tellsPasts 18 2 20 (.iload 5) := ⟨by decide +kernel, rfl⟩
theorem dX11_tellsPasts_20 : dec cX11_tellsPasts 20 1 21 (.aload_n 0) := ⟨by decide +kernel, rfl⟩
theorem dX11_tellsPasts_21 : dec cX11_tellsPasts 21 3 24 (.getfield 10) := ⟨by decide +kernel, rfl⟩
theorem dX11_tellsPasts_24 : dec cX11_tellsPasts 24 3 27 (.getfield 131) := ⟨by decide +kernel, rfl⟩
theorem dX11_tellsPasts_27 : dec cX11_tellsPasts 27 3 30 (.if_icmp .ge 33) := ⟨by decide +kernel, rfl⟩
theorem dX11_tellsPasts_30 : dec cX11_tellsPasts 30 1 31 (.iload_n 1) := ⟨by decide +kernel, rfl⟩
theorem dX11_tellsPasts_31 : dec cX11_tellsPasts 31 2 33 (.iload 5) := ⟨by decide +kernel, rfl⟩
theorem dX11_tellsPasts_33 : dec cX11_tellsPasts 33 3 36 (.invokestatic 416) := ⟨by decide +kernel, rfl⟩
theorem dX11_tellsPasts_36 : dec cX11_tellsPasts 36 3 39 (.ifCond .eq 18) := ⟨by decide +kernel, rfl⟩
theorem dX11_tellsPasts_39 : dec cX11_tellsPasts 39 1 40 (.lload_n 3) := ⟨by decide +kernel, rfl⟩
theorem dX11_tellsPasts_40 : dec cX11_tellsPasts 40 1 41 (.aload_n 0) := ⟨by decide +kernel, rfl⟩
theorem dX11_tellsPasts_41 : dec cX11_tellsPasts 41 3 44 (.getfield 82) := ⟨by decide +kernel, rfl⟩
theorem dX11_tellsPasts_44 : dec cX11_tellsPasts 44 1 45 (.iload_n 2) := ⟨by decide +kernel, rfl⟩
theorem dX11_tellsPasts_45 : dec cX11_tellsPasts 45 2 47 (.bipush 10) := ⟨by decide +kernel, rfl⟩
theorem dX11_tellsPasts_47 : dec cX11_tellsPasts 47 1 48 (.imul) := ⟨by decide +kernel, rfl⟩
theorem dX11_tellsPasts_48 : dec cX11_tellsPasts 48 2 50 (.iload 5) := ⟨by decide +kernel, rfl⟩
theorem dX11_tellsPasts_50 : dec cX11_tellsPasts 50 1 51 (.iadd) := ⟨by decide +kernel, rfl⟩
theorem dX11_tellsPasts_51 : dec cX11_tellsPasts 51 1 52 (.laload) := ⟨by decide +kernel, rfl⟩
theorem dX11_tellsPasts_52 : dec cX11_tellsPasts 52 1 53 (.ladd) := ⟨by decide +kernel, rfl⟩
theorem dX11_tellsPasts_53 : dec cX11_tellsPasts 53 1 54 (.lstore_n 3) := ⟨by decide +kernel, rfl⟩
theorem dX11_tellsPasts_54 : dec cX11_tellsPasts 54 3 57 (.iinc 5 1) := ⟨by decide +kernel, rfl⟩
theorem dX11_tellsPasts_57 : dec cX11_tellsPasts 57 3 60 (.goto (-39)) := ⟨by decide +kernel, rfl⟩
theorem dX11_tellsPasts_60 : dec cX11_tellsPasts 60 1 61 (.lload_n 3) := ⟨by decide +kernel, rfl⟩
theorem dX11_tellsPasts_61 : dec cX11_tellsPasts 61 1 62 (.lconst 0) := ⟨by decide +kernel, rfl⟩
theorem dX11_tellsPasts_62 : dec cX11_tellsPasts 62 1 63 (.lcmp) := ⟨by decide +kernel, rfl⟩
theorem dX11_tellsPasts_63 : dec cX11_tellsPasts 63 3 66 (.ifCond .gt 5) := ⟨by decide +kernel, rfl⟩
theorem dX11_tellsPasts_66 : dec cX11_tellsPasts 66 1 67 (.iconst 0) := ⟨by decide +kernel, rfl⟩
theorem dX11_tellsPasts_67 : dec cX11_tellsPasts 67 1 68 (.ireturn) := ⟨by decide +kernel, rfl⟩
theorem dX11_tellsPasts_68 : dec cX11_tellsPasts 68 3 71 (.iinc 2 1) := ⟨by decide +kernel, rfl⟩
theorem dX11_tellsPasts_71 : dec cX11_tellsPasts 71 3 74 (.goto (-69)) := ⟨by decide +kernel, rfl⟩
theorem dX11_tellsPasts_74 : dec cX11_tellsPasts 74 1 75 (.iconst 1) := ⟨by decide +kernel, rfl⟩
theorem dX11_tellsPasts_75 : dec cX11_tellsPasts 75 1 76 (.ireturn) := ⟨by decide +kernel, rfl⟩
set_option maxHeartbeats 4000000 in
set_option maxRecDepth 100000 in
theorem tX11_tellsPasts_L18 {X : Cx} {Y : Yx} {M0 : Mem} (hC : OKX X Y RX11 cX11_tellsPasts 6 (some .boolean) rmX11_tellsPasts) (hF : Y.2.2.2.2 = true) (hL : Lay M0) (Q : Int → Mem → Prop) (E60 : Int → Mem → Prop) (a0 : Nat) (x1 : Int) (x2 : Int) (qa0 : 0 < a0 ∧ M0 0 a0 = kO 11) (hE60 : ∀ (l3 : Int) (M : Mem), E60 l3 M → WW X Y 6 rmX11_tellsPasts (QI Q) M0 0 0 60 [(0, vR Y.1 a0), (1, vI x1), (2, vI x2), (3, vL l3)] [] M) : ∀ (N : Nat) (l3 : Int) (x5 : Int) (M : Mem) (_ : wX11_tellsPasts_L18 Q E60 a0 x1 x2 N l3 x5 M), WW X Y 6 rmX11_tellsPasts (QI Q) M0 0 0 18 [(0, vR Y.1 a0), (1, vI x1), (2, vI x2), (3, vL l3), (5, vI x5)] [] M := by
  intro N
  induction N with
  | zero =>
    intro l3 x5 M h
    exact h.elim
  | succ N ih =>
    intro l3 x5 M h
    unfold wX11_tellsPasts_L18 at h
    refine r_iload hC 4 dX11_tellsPasts_18 rfl ?_
    refine r_aload_n hC 0 dX11_tellsPasts_20 rfl rfl ?_
    have q_2 : 0 < a0 + 1 ∧ M0 0 (a0 + 1) = kO 0 := lay_f0 (a := a0) hL qa0 fm_11_0
    refine r_getR0 (a' := a0 + 1) hC fg_X11_10 rfl hF fm_11_0 qa0.1 qa0.2 rfl dX11_tellsPasts_21 ?_
    refine r_getI hC fg_X11_131 rfl q_2.1 q_2.2 dX11_tellsPasts_24 ?_
    refine r_icmp_ge hC 60 rfl rfl dX11_tellsPasts_27 (by decide) (fun cq => ?_) (fun cq => ?_)
    · replace h := h.1 cq
      refine r_sub [0, 1, 2, 3] rfl ?_
      exact hE60 _ _ h
    · replace h := h.2 cq
      refine r_iload_n hC 1 dX11_tellsPasts_30 rfl rfl ?_
      refine r_iload hC 4 dX11_tellsPasts_31 rfl ?_
      refine r_callS (As := [vI x1, vI x5]) (st := []) hC cw_X11_416 rfl rfl (Nat.le_of_ble_eq_true rfl) ⟨Nat.le_of_ble_eq_true rfl, Nat.le_of_ble_eq_true rfl⟩ ⟨Nat.le_of_ble_eq_true rfl, Nat.le_of_ble_eq_true rfl⟩ dX11_tellsPasts_33 (fun hk => mX11_isIn Y hF _ _ _ _ _  h) (fun v M_3 h => ?_)
      obtain ⟨r_4, rfl, h⟩ := h
      refine r_if_eq hC 54 rfl dX11_tellsPasts_36 (by decide) (fun cq => ?_) (fun cq => ?_)
      · replace h := h.1 cq
        refine let_elim h (fun x5_5 e_6 h => ?_)
        refine r_iinc (lv' := [(5, vI x5_5), (0, vR Y.1 a0), (1, vI x1), (2, vI x2), (3, vL l3)]) hC 4 dX11_tellsPasts_54 rfl (by decide) e_6 rfl ?_
        refine r_goto hC 18 dX11_tellsPasts_57 (by decide) ?_
        refine r_sub [1, 2, 3, 4, 0] rfl ?_
        exact ih _ _ _ h
      · replace h := h.2 cq
        refine r_lload_n hC 3 dX11_tellsPasts_39 rfl rfl ?_
        refine r_aload_n hC 0 dX11_tellsPasts_40 rfl rfl ?_
        have q_7 : 0 < a0 + 115 ∧ M0 0 (a0 + 115) = kA 3 80 := lay_f0 (a := a0) hL qa0 fm_11_12
        refine r_getR0 (a' := a0 + 115) hC fg_X11_82 rfl hF fm_11_12 qa0.1 qa0.2 rfl dX11_tellsPasts_41 ?_
        refine r_iload_n hC 2 dX11_tellsPasts_44 rfl rfl ?_
        refine r_bipush hC (by decide +kernel) dX11_tellsPasts_45 ?_
        refine r_imul hC dX11_tellsPasts_47 ?_
        refine r_iload hC 4 dX11_tellsPasts_48 rfl ?_
        refine r_iadd hC dX11_tellsPasts_50 ?_
        obtain ⟨i_8, h⟩ := h
        refine r_lald hC i_8 q_7.1 q_7.2 (by decide) dX11_tellsPasts_51 ?_
        refine r_ladd hC dX11_tellsPasts_52 ?_
        refine r_nameL h (fun x3_9 h => ?_)
        refine r_lstore_n (lv' := [(3, vL x3_9), (0, vR Y.1 a0), (1, vI x1), (2, vI x2), (5, vI x5)]) hC dX11_tellsPasts_53 rfl (by decide) rfl ?_
        refine let_elim h (fun x5_10 e_11 h => ?_)
        refine r_iinc (lv' := [(5, vI x5_10), (3, vL x3_9), (0, vR Y.1 a0), (1, vI x1), (2, vI x2)]) hC 4 dX11_tellsPasts_54 rfl (by decide) e_11 rfl ?_
        refine r_goto hC 18 dX11_tellsPasts_57 (by decide) ?_
        refine r_sub [2, 3, 4, 1, 0] rfl ?_
        exact ih _ _ _ h
set_option maxHeartbeats 4000000 in
set_option maxRecDepth 100000 in
theorem tX11_tellsPasts_L2 {X : Cx} {Y : Yx} {M0 : Mem} (hC : OKX X Y RX11 cX11_tellsPasts 6 (some .boolean) rmX11_tellsPasts) (hF : Y.2.2.2.2 = true) (hL : Lay M0) (Q : Int → Mem → Prop)  (a0 : Nat) (x1 : Int) (qa0 : 0 < a0 ∧ M0 0 a0 = kO 11)  : ∀ (N : Nat) (x2 : Int) (M : Mem) (_ : wX11_tellsPasts_L2 Q  a0 x1 N x2 M), WW X Y 6 rmX11_tellsPasts (QI Q) M0 0 0 2 [(0, vR Y.1 a0), (1, vI x1), (2, vI x2)] [] M := by
  intro N
  induction N with
  | zero =>
    intro x2 M h
    exact h.elim
  | succ N ih =>
    intro x2 M h
    unfold wX11_tellsPasts_L2 at h
    refine r_iload_n hC 2 dX11_tellsPasts_2 rfl rfl ?_
    refine r_aload_n hC 0 dX11_tellsPasts_3 rfl rfl ?_
    have q_1 : 0 < a0 + 1 ∧ M0 0 (a0 + 1) = kO 0 := lay_f0 (a := a0) hL qa0 fm_11_0
    refine r_getR0 (a' := a0 + 1) hC fg_X11_10 rfl hF fm_11_0 qa0.1 qa0.2 rfl dX11_tellsPasts_4 ?_
    refine r_getI hC fg_X11_341 rfl q_1.1 q_1.2 dX11_tellsPasts_7 ?_
    refine r_icmp_ge hC 74 rfl rfl dX11_tellsPasts_10 (by decide) (fun cq => ?_) (fun cq => ?_)
    · replace h := h.1 cq
      refine r_iconst hC dX11_tellsPasts_74 ?_
      exact r_zret hC (Or.inr rfl) (Nat.zero_le _) (Nat.zero_le _) dX11_tellsPasts_75 ⟨_, rfl, h⟩
    · replace h := h.2 cq
      refine r_lconst (a := 0) hC (by decide +kernel) dX11_tellsPasts_13 ?_
      refine r_lstore_n (lv' := [(3, vL 0), (0, vR Y.1 a0), (1, vI x1), (2, vI x2)]) hC dX11_tellsPasts_14 rfl (by decide) rfl ?_
      refine r_iconst hC dX11_tellsPasts_15 ?_
      refine r_istore (lv' := [(5, vI 0), (3, vL 0), (0, vR Y.1 a0), (1, vI x1), (2, vI x2)]) hC dX11_tellsPasts_16 (by decide) rfl ?_
      refine r_sub [2, 3, 4, 1, 0] rfl ?_
      obtain ⟨N_16, h⟩ := h
      refine tX11_tellsPasts_L18 hC hF hL Q _ _ _ _ qa0 ?_ N_16 _ _ _ h
      · intro l3_12 M_13 h
        refine r_lload_n hC 3 dX11_tellsPasts_60 rfl rfl ?_
        refine r_lconst (a := 0) hC (by decide +kernel) dX11_tellsPasts_61 ?_
        refine r_lcmp hC dX11_tellsPasts_62 ?_
        refine r_if_gt hC 68 rfl dX11_tellsPasts_63 (by decide) (fun cq => ?_) (fun cq => ?_)
        · replace h := h.1 cq
          refine let_elim h (fun x2_14 e_15 h => ?_)
          refine r_iinc (lv' := [(2, vI x2_14), (0, vR Y.1 a0), (1, vI x1), (3, vL l3_12)]) hC 2 dX11_tellsPasts_68 rfl (by decide) e_15 rfl ?_
          refine r_goto hC 2 dX11_tellsPasts_71 (by decide) ?_
          refine r_sub [1, 2, 0] rfl ?_
          exact ih _ _ h
        · replace h := h.2 cq
          refine r_iconst hC dX11_tellsPasts_66 ?_
          exact r_zret hC (Or.inl rfl) (Nat.zero_le _) (Nat.zero_le _) dX11_tellsPasts_67 ⟨_, rfl, h⟩
set_option maxHeartbeats 4000000 in
set_option maxRecDepth 100000 in
theorem mX11_tellsPasts (Y : Yx) (hF : Y.2.2.2.2 = true) (l : Launch) (a0 : Nat) (x1 : Int) (M0 : Mem) (Q : Int → Mem → Prop) (qa0 : 0 < a0 ∧ M0 0 a0 = kO 11) (h : wX11_tellsPasts a0 x1 M0 Q) : CT Y l yX11_tellsPasts cX11_tellsPasts 6 (some .boolean) rmX11_tellsPasts [vR Y.1 a0, vI x1] M0 (QI Q) := by
  unfold wX11_tellsPasts at h
  refine ct_intro (by decide) (Nat.le_of_ble_eq_true rfl) ?_
  intro X hXl hC hL0
  have hL := hL0 hF
  change OKX X Y RX11 cX11_tellsPasts 6 (some .boolean) rmX11_tellsPasts at hC
  change WW X Y 6 rmX11_tellsPasts (QI Q) M0 0 0 0 [(0, vR Y.1 a0), (1, vI x1)] [] M0
  refine r_iconst hC dX11_tellsPasts_0 ?_
  refine r_istore_n (lv' := [(2, vI 0), (0, vR Y.1 a0), (1, vI x1)]) hC dX11_tellsPasts_1 rfl (by decide) rfl ?_
  refine r_sub [1, 2, 0] rfl ?_
  obtain ⟨N_17, h⟩ := h
  refine tX11_tellsPasts_L2 hC hF hL Q  _ _ qa0  N_17 _ _ h
theorem dX11_plain_0 : dec cX11_plain 0 1 1 (.iload_n 1) := ⟨by decide +kernel, rfl⟩
theorem dX11_plain_1 : dec cX11_plain 1 1 2 (.iconst (-1)) := ⟨by decide +kernel, rfl⟩
theorem dX11_plain_2 : dec cX11_plain 2 1 3 (.iconst 0) := ⟨by decide +kernel, rfl⟩
theorem dX11_plain_3 : dec cX11_plain 3 3 6 (.invokestatic 87) := ⟨by decide +kernel, rfl⟩
theorem dX11_plain_6 : dec cX11_plain 6 3 9 (.ifCond .ne 9) := ⟨by decide +kernel, rfl⟩
theorem dX11_plain_9 : dec cX11_plain 9 1 10 (.aload_n 0) := ⟨by decide +kernel, rfl⟩
theorem dX11_plain_10 : dec cX11_plain 10 1 11 (.iconst 1) := ⟨by decide +kernel, rfl⟩
theorem dX11_plain_11 : dec cX11_plain 11 3 14 (.invokevirtual 91) := ⟨by decide +kernel, rfl⟩
theorem dX11_plain_14 : dec cX11_plain 14 1 15 (.ireturn) := ⟨by decide +kernel, rfl⟩
theorem dX11_plain_15 : dec cX11_plain 15 1 16 (.aload_n 0) := ⟨by decide +kernel, rfl⟩
theorem dX11_plain_16 : dec cX11_plain 16 3 19 (.invokevirtual 354) := ⟨by decide +kernel, rfl⟩
theorem dX11_plain_19 : dec cX11_plain 19 1 20 (.iconst 0) := ⟨by decide +kernel, rfl⟩
theorem dX11_plain_20 : dec cX11_plain 20 1 21 (.istore_n 2) := ⟨by decide +kernel, rfl⟩
theorem dX11_plain_21 : dec cX11_plain 21 1 22 (.iconst (-1)) := ⟨by decide +kernel, rfl⟩
theorem dX11_plain_22 : dec cX11_plain 22 1 23 (.istore_n 3) := ⟨by decide +kernel, rfl⟩
theorem dX11_plain_23 : dec cX11_plain 23 1 24 (.iconst 0) := ⟨by decide +kernel, rfl⟩
theorem dX11_plain_24 : dec cX11_plain 24 2 26 (.istore 4) := ⟨by decide +kernel, rfl⟩
theorem dX11_plain_26 : dec cX11_plain 26 2 28 (.iload 4) := ⟨by decide +kernel, rfl⟩
theorem dX11_plain_28 : dec cX11_plain 28 1 29 (.iconst 1) := ⟨by decide +kernel, rfl⟩
theorem dX11_plain_29 : dec cX11_plain 29 1 30 (.aload_n 0) := ⟨by decide +kernel, rfl⟩
theorem dX11_plain_30 : dec cX11_plain 30 3 33 (.getfield 10) := ⟨by decide +kernel, rfl⟩
theorem dX11_plain_33 : dec cX11_plain 33 3 36 (.getfield 131) := ⟨by decide +kernel, rfl⟩
theorem dX11_plain_36 : dec cX11_plain 36 1 37 (.ishl) := ⟨by decide +kernel, rfl⟩
theorem dX11_plain_37 : dec cX11_plain 37 3 40 (.if_icmp .ge 43) := ⟨by decide +kernel, rfl⟩
theorem dX11_plain_40 : dec cX11_plain 40 1 41 (.aload_n 0) := ⟨by decide +kernel, rfl⟩
theorem dX11_plain_41 : dec cX11_plain 41 2 43 (.iload 4) := ⟨by decide +kernel, rfl⟩
theorem dX11_plain_43 : dec cX11_plain 43 3 46 (.invokevirtual 357) := ⟨by decide +kernel, rfl⟩
theorem dX11_plain_46 : dec cX11_plain 46 3 49 (.ifCond .ne 6) := ⟨by decide +kernel, rfl⟩
theorem dX11_plain_49 : dec cX11_plain 49 3 52 (.goto 25) := ⟨by decide +kernel, rfl⟩
theorem dX11_plain_52 : dec cX11_plain 52 3 55 (.iinc 2 1) := ⟨by decide +kernel, rfl⟩
theorem dX11_plain_55 : dec cX11_plain 55 1 56 (.iload_n 3) := ⟨by decide +kernel, rfl⟩
theorem dX11_plain_56 : dec cX11_plain 56 3 59 (.ifCond .lt 15) := ⟨by decide +kernel, rfl⟩
theorem dX11_plain_59 : dec cX11_plain 59 2 61 (.iload 4) := ⟨by decide +kernel, rfl⟩
theorem dX11_plain_61 : dec cX11_plain 61 3 64 (.invokestatic 295) := ⟨by decide +kernel, rfl⟩
theorem dX11_plain_64 : dec cX11_plain 64 1 65 (.iload_n 3) := ⟨by decide +kernel, rfl⟩
theorem dX11_plain_65 : dec cX11_plain 65 3 68 (.invokestatic 295) := ⟨by decide +kernel, rfl⟩
theorem dX11_plain_68 : dec cX11_plain 68 3 71 (.if_icmp .ge 6) := ⟨by decide +kernel, rfl⟩
theorem dX11_plain_71 : dec cX11_plain 71 2 73 (.iload 4) := ⟨by decide +kernel, rfl⟩
theorem dX11_plain_73 : dec cX11_plain 73 1 74 (.istore_n 3) := ⟨by decide +kernel, rfl⟩
theorem dX11_plain_74 : dec cX11_plain 74 3 77 (.iinc 4 1) := ⟨by decide +kernel, rfl⟩
theorem dX11_plain_77 : dec cX11_plain 77 3 80 (.goto (-51)) := ⟨by decide +kernel, rfl⟩
theorem dX11_plain_80 : dec cX11_plain 80 1 81 (.iload_n 1) := ⟨by decide +kernel, rfl⟩
theorem dX11_plain_81 : dec cX11_plain 81 3 84 (.ifCond .ge 5) := ⟨by decide +kernel, rfl⟩
theorem dX11_plain_84 : dec cX11_plain 84 1 85 (.iload_n 2) := ⟨by decide +kernel, rfl⟩
theorem dX11_plain_85 : dec cX11_plain 85 1 86 (.ireturn) := ⟨by decide +kernel, rfl⟩
theorem dX11_plain_86 : dec cX11_plain 86 1 87 (.iload_n 3) := ⟨by decide +kernel, rfl⟩
theorem dX11_plain_87 : dec cX11_plain 87 3 90 (.ifCond .ge 11) := ⟨by decide +kernel, rfl⟩
theorem dX11_plain_90 : dec cX11_plain 90 1 91 (.aload_n 0) := ⟨by decide +kernel, rfl⟩
theorem dX11_plain_91 : dec cX11_plain 91 1 92 (.iconst 2) := ⟨by decide +kernel, rfl⟩
theorem dX11_plain_92 : dec cX11_plain 92 3 95 (.invokevirtual 91) := ⟨by decide +kernel, rfl⟩
theorem dX11_plain_95 : dec cX11_plain 95 3 98 (.goto 4) := ⟨by decide +kernel, rfl⟩
theorem dX11_plain_98 : dec cX11_plain 98 1 99 (.iload_n 3) := ⟨by decide +kernel, rfl⟩
theorem dX11_plain_99 : dec cX11_plain 99 1 100 (.ireturn) := ⟨by decide +kernel, rfl⟩
set_option maxHeartbeats 4000000 in
set_option maxRecDepth 100000 in
theorem tX11_plain_J71 {X : Cx} {Y : Yx} {M0 : Mem} (hC : OKX X Y RX11 cX11_plain 5 (some .int) rmX11_plain) (hF : Y.2.2.2.2 = true) (hL : Lay M0) (Q : Int → Mem → Prop) (C26 : Int → Int → Int → Mem → Prop)  (a0 : Nat) (x1 : Int) (x2 : Int) (x4 : Int) (qa0 : 0 < a0 ∧ M0 0 a0 = kO 11) (hC26 : ∀ (x2 : Int) (x3 : Int) (x4 : Int) (M : Mem), C26 x2 x3 x4 M → WW X Y 5 rmX11_plain (QI Q) M0 0 0 26 [(0, vR Y.1 a0), (1, vI x1), (2, vI x2), (3, vI x3), (4, vI x4)] [] M) (M : Mem) (h : wX11_plain_J71 Q C26 a0 x1 x2 x4 M) : WW X Y 5 rmX11_plain (QI Q) M0 0 0 71 [(0, vR Y.1 a0), (1, vI x1), (2, vI x2), (4, vI x4)] [] M := by
  unfold wX11_plain_J71 at h
  refine r_iload hC 3 dX11_plain_71 rfl ?_
  refine r_istore_n (lv' := [(3, vI x4), (0, vR Y.1 a0), (1, vI x1), (2, vI x2), (4, vI x4)]) hC dX11_plain_73 rfl (by decide) rfl ?_
  refine let_elim h (fun x4_10 e_11 h => ?_)
  refine r_iinc (lv' := [(4, vI x4_10), (3, vI x4), (0, vR Y.1 a0), (1, vI x1), (2, vI x2)]) hC 4 dX11_plain_74 rfl (by decide) e_11 rfl ?_
  refine r_goto hC 26 dX11_plain_77 (by decide) ?_
  refine r_sub [2, 3, 4, 1, 0] rfl ?_
  exact hC26 _ _ _ _ h
set_option maxHeartbeats 4000000 in
set_option maxRecDepth 100000 in
theorem tX11_plain_L26 {X : Cx} {Y : Yx} {M0 : Mem} (hC : OKX X Y RX11 cX11_plain 5 (some .int) rmX11_plain) (hF : Y.2.2.2.2 = true) (hL : Lay M0) (Q : Int → Mem → Prop) (E80 : Int → Int → Mem → Prop) (a0 : Nat) (x1 : Int) (qa0 : 0 < a0 ∧ M0 0 a0 = kO 11) (hE80 : ∀ (x2 : Int) (x3 : Int) (M : Mem), E80 x2 x3 M → WW X Y 5 rmX11_plain (QI Q) M0 0 0 80 [(0, vR Y.1 a0), (1, vI x1), (2, vI x2), (3, vI x3)] [] M) : ∀ (N : Nat) (x2 : Int) (x3 : Int) (x4 : Int) (M : Mem) (_ : wX11_plain_L26 Q E80 a0 x1 N x2 x3 x4 M), WW X Y 5 rmX11_plain (QI Q) M0 0 0 26 [(0, vR Y.1 a0), (1, vI x1), (2, vI x2), (3, vI x3), (4, vI x4)] [] M := by
  intro N
  induction N with
  | zero =>
    intro x2 x3 x4 M h
    exact h.elim
  | succ N ih =>
    intro x2 x3 x4 M h
    unfold wX11_plain_L26 at h
    refine r_iload hC 4 dX11_plain_26 rfl ?_
    refine r_iconst hC dX11_plain_28 ?_
    refine r_aload_n hC 0 dX11_plain_29 rfl rfl ?_
    have q_5 : 0 < a0 + 1 ∧ M0 0 (a0 + 1) = kO 0 := lay_f0 (a := a0) hL qa0 fm_11_0
    refine r_getR0 (a' := a0 + 1) hC fg_X11_10 rfl hF fm_11_0 qa0.1 qa0.2 rfl dX11_plain_30 ?_
    refine r_getI hC fg_X11_131 rfl q_5.1 q_5.2 dX11_plain_33 ?_
    refine r_ishl hC dX11_plain_36 ?_
    refine r_icmp_ge hC 80 rfl rfl dX11_plain_37 (by decide) (fun cq => ?_) (fun cq => ?_)
    · replace h := h.1 cq
      refine r_sub [0, 1, 2, 3] rfl ?_
      exact hE80 _ _ _ h
    · replace h := h.2 cq
      refine r_aload_n hC 0 dX11_plain_40 rfl rfl ?_
      refine r_iload hC 4 dX11_plain_41 rfl ?_
      refine r_callV (As := [vI x4]) (st := []) hC cw_X11_357 rfl qa0.1 qa0.2 rfl rfl (Nat.le_of_ble_eq_true rfl) ⟨Nat.le_of_ble_eq_true rfl, Nat.le_of_ble_eq_true rfl⟩ ⟨Nat.le_of_ble_eq_true rfl, Nat.le_of_ble_eq_true rfl⟩ dX11_plain_43 (fun hk => mX11_tellsPasts Y hF _ _ _ _ _ (kqO hk qa0) h) (fun v M_6 h => ?_)
      obtain ⟨r_7, rfl, h⟩ := h
      refine r_if_ne hC 52 rfl dX11_plain_46 (by decide) (fun cq => ?_) (fun cq => ?_)
      · replace h := h.2 cq
        refine let_elim h (fun x2_8 e_9 h => ?_)
        refine r_iinc (lv' := [(2, vI x2_8), (0, vR Y.1 a0), (1, vI x1), (3, vI x3), (4, vI x4)]) hC 2 dX11_plain_52 rfl (by decide) e_9 rfl ?_
        refine r_iload_n hC 3 dX11_plain_55 rfl rfl ?_
        refine r_if_lt hC 71 rfl dX11_plain_56 (by decide) (fun cq => ?_) (fun cq => ?_)
        · replace h := h.1 cq
          refine r_sub [1, 2, 0, 4] rfl ?_
          exact tX11_plain_J71 hC hF hL Q _  _ _ _ _ qa0 ih _ h
        · replace h := h.2 cq
          refine r_iload hC 4 dX11_plain_59 rfl ?_
          refine r_callS (As := [vI x4]) (st := []) hC cw_X11_295 rfl rfl (Nat.le_of_ble_eq_true rfl) ⟨Nat.le_of_ble_eq_true rfl, Nat.le_of_ble_eq_true rfl⟩ ⟨Nat.le_of_ble_eq_true rfl, Nat.le_of_ble_eq_true rfl⟩ dX11_plain_61 (fun hk => mJ6_bitCount_0f7a4 Y hF _ _ _ _  h) (fun v M_12 h => ?_)
          obtain ⟨r_13, rfl, h⟩ := h
          refine r_iload_n hC 3 dX11_plain_64 rfl rfl ?_
          refine r_callS (As := [vI x3]) (st := [vI r_13]) hC cw_X11_295 rfl rfl (Nat.le_of_ble_eq_true rfl) ⟨Nat.le_of_ble_eq_true rfl, Nat.le_of_ble_eq_true rfl⟩ ⟨Nat.le_of_ble_eq_true rfl, Nat.le_of_ble_eq_true rfl⟩ dX11_plain_65 (fun hk => mJ6_bitCount_0f7a4 Y hF _ _ _ _  h) (fun v M_14 h => ?_)
          obtain ⟨r_15, rfl, h⟩ := h
          refine r_icmp_ge hC 74 rfl rfl dX11_plain_68 (by decide) (fun cq => ?_) (fun cq => ?_)
          · replace h := h.1 cq
            refine let_elim h (fun x4_16 e_17 h => ?_)
            refine r_iinc (lv' := [(4, vI x4_16), (2, vI x2_8), (0, vR Y.1 a0), (1, vI x1), (3, vI x3)]) hC 4 dX11_plain_74 rfl (by decide) e_17 rfl ?_
            refine r_goto hC 26 dX11_plain_77 (by decide) ?_
            refine r_sub [2, 3, 1, 4, 0] rfl ?_
            exact ih _ _ _ _ h
          · replace h := h.2 cq
            refine r_sub [1, 2, 0, 4] rfl ?_
            exact tX11_plain_J71 hC hF hL Q _  _ _ _ _ qa0 ih _ h
      · replace h := h.1 cq
        refine r_goto hC 74 dX11_plain_49 (by decide) ?_
        refine let_elim h (fun x4_18 e_19 h => ?_)
        refine r_iinc (lv' := [(4, vI x4_18), (0, vR Y.1 a0), (1, vI x1), (2, vI x2), (3, vI x3)]) hC 4 dX11_plain_74 rfl (by decide) e_19 rfl ?_
        refine r_goto hC 26 dX11_plain_77 (by decide) ?_
        refine r_sub [1, 2, 3, 4, 0] rfl ?_
        exact ih _ _ _ _ h
set_option maxHeartbeats 4000000 in
set_option maxRecDepth 100000 in
theorem mX11_plain (Y : Yx) (hF : Y.2.2.2.2 = true) (l : Launch) (a0 : Nat) (x1 : Int) (M0 : Mem) (Q : Int → Mem → Prop) (qa0 : 0 < a0 ∧ M0 0 a0 = kO 11) (h : wX11_plain a0 x1 M0 Q) : CT Y l yX11_plain cX11_plain 5 (some .int) rmX11_plain [vR Y.1 a0, vI x1] M0 (QI Q) := by
  unfold wX11_plain at h
  refine ct_intro (by decide) (Nat.le_of_ble_eq_true rfl) ?_
  intro X hXl hC hL0
  have hL := hL0 hF
  change OKX X Y RX11 cX11_plain 5 (some .int) rmX11_plain at hC
  change WW X Y 5 rmX11_plain (QI Q) M0 0 0 0 [(0, vR Y.1 a0), (1, vI x1)] [] M0
  refine r_iload_n hC 1 dX11_plain_0 rfl rfl ?_
  refine r_iconst hC dX11_plain_1 ?_
  refine r_iconst hC dX11_plain_2 ?_
  refine r_callS (As := [vI x1, vI ((-1)), vI 0]) (st := []) hC cw_X11_87 rfl rfl (Nat.le_of_ble_eq_true rfl) ⟨Nat.le_of_ble_eq_true rfl, Nat.le_of_ble_eq_true rfl⟩ ⟨Nat.le_of_ble_eq_true rfl, Nat.le_of_ble_eq_true rfl⟩ dX11_plain_3 (fun hk => mX11_within Y hF _ _ _ _ _ _  h) (fun v M_1 h => ?_)
  obtain ⟨r_2, rfl, h⟩ := h
  refine r_if_ne hC 15 rfl dX11_plain_6 (by decide) (fun cq => ?_) (fun cq => ?_)
  · replace h := h.2 cq
    refine r_aload_n hC 0 dX11_plain_15 rfl rfl ?_
    refine r_callV (As := []) (st := []) hC cw_X11_354 rfl qa0.1 qa0.2 rfl rfl (Nat.le_of_ble_eq_true rfl) ⟨Nat.le_of_ble_eq_true rfl, Nat.le_of_ble_eq_true rfl⟩ ⟨Nat.le_of_ble_eq_true rfl, Nat.le_of_ble_eq_true rfl⟩ dX11_plain_16 (fun hk => mX11_weighPasts Y hF _ _ _ _ (kqO hk qa0) h) (fun v M_3 h => ?_)
    obtain ⟨rfl, h⟩ := h
    refine r_iconst hC dX11_plain_19 ?_
    refine r_istore_n (lv' := [(2, vI 0), (0, vR Y.1 a0), (1, vI x1)]) hC dX11_plain_20 rfl (by decide) rfl ?_
    refine r_iconst hC dX11_plain_21 ?_
    refine r_nameI h (fun x3_4 h => ?_)
    refine r_istore_n (lv' := [(3, vI x3_4), (2, vI 0), (0, vR Y.1 a0), (1, vI x1)]) hC dX11_plain_22 rfl (by decide) rfl ?_
    refine r_iconst hC dX11_plain_23 ?_
    refine r_istore (lv' := [(4, vI 0), (3, vI x3_4), (2, vI 0), (0, vR Y.1 a0), (1, vI x1)]) hC dX11_plain_24 (by decide) rfl ?_
    refine r_sub [3, 4, 2, 1, 0] rfl ?_
    obtain ⟨N_25, h⟩ := h
    refine tX11_plain_L26 hC hF hL Q _ _ _ qa0 ?_ N_25 _ _ _ _ h
    · intro x2_20 x3_21 M_22 h
      refine r_iload_n hC 1 dX11_plain_80 rfl rfl ?_
      refine r_if_ge hC 86 rfl dX11_plain_81 (by decide) (fun cq => ?_) (fun cq => ?_)
      · replace h := h.1 cq
        refine r_iload_n hC 3 dX11_plain_86 rfl rfl ?_
        refine r_if_ge hC 98 rfl dX11_plain_87 (by decide) (fun cq => ?_) (fun cq => ?_)
        · replace h := h.1 cq
          refine r_iload_n hC 3 dX11_plain_98 rfl rfl ?_
          exact r_iret hC (Nat.zero_le _) (Nat.zero_le _) dX11_plain_99 ⟨_, rfl, h⟩
        · replace h := h.2 cq
          refine r_aload_n hC 0 dX11_plain_90 rfl rfl ?_
          refine r_iconst hC dX11_plain_91 ?_
          refine r_callV (As := [vI 2]) (st := []) hC cw_X11_91 rfl qa0.1 qa0.2 rfl rfl (Nat.le_of_ble_eq_true rfl) ⟨Nat.le_of_ble_eq_true rfl, Nat.le_of_ble_eq_true rfl⟩ ⟨Nat.le_of_ble_eq_true rfl, Nat.le_of_ble_eq_true rfl⟩ dX11_plain_92 (fun hk => mX11_error Y hF _ _ _ _ _ (kqO hk qa0) h) (fun v M_23 h => ?_)
          obtain ⟨r_24, rfl, h⟩ := h
          refine r_goto hC 99 dX11_plain_95 (by decide) ?_
          exact r_iret hC (Nat.zero_le _) (Nat.zero_le _) dX11_plain_99 ⟨_, rfl, h⟩
      · replace h := h.2 cq
        refine r_iload_n hC 2 dX11_plain_84 rfl rfl ?_
        exact r_iret hC (Nat.zero_le _) (Nat.zero_le _) dX11_plain_85 ⟨_, rfl, h⟩
  · replace h := h.1 cq
    refine r_aload_n hC 0 dX11_plain_9 rfl rfl ?_
    refine r_iconst hC dX11_plain_10 ?_
    refine r_callV (As := [vI 1]) (st := []) hC cw_X11_91 rfl qa0.1 qa0.2 rfl rfl (Nat.le_of_ble_eq_true rfl) ⟨Nat.le_of_ble_eq_true rfl, Nat.le_of_ble_eq_true rfl⟩ ⟨Nat.le_of_ble_eq_true rfl, Nat.le_of_ble_eq_true rfl⟩ dX11_plain_11 (fun hk => mX11_error Y hF _ _ _ _ _ (kqO hk qa0) h) (fun v M_26 h => ?_)
    obtain ⟨r_27, rfl, h⟩ := h
    exact r_iret hC (Nat.zero_le _) (Nat.zero_le _) dX11_plain_14 ⟨_, rfl, h⟩
theorem dX11_voice_0 : dec cX11_voice 0 1 1 (.aload_n 0) := ⟨by decide +kernel, rfl⟩
theorem dX11_voice_1 : dec cX11_voice 1 1 2 (.iload_n 1) := ⟨by decide +kernel, rfl⟩
theorem dX11_voice_2 : dec cX11_voice 2 3 5 (.invokevirtual 144) := ⟨by decide +kernel, rfl⟩
theorem dX11_voice_5 : dec cX11_voice 5 3 8 (.ifCond .ne 12) := ⟨by decide +kernel, rfl⟩
theorem dX11_voice_8 : dec cX11_voice 8 1 9 (.iload_n 2) := ⟨by decide +kernel, rfl⟩
theorem dX11_voice_9 : dec cX11_voice 9 1 10 (.iconst 0) := ⟨by decide +kernel, rfl⟩
theorem dX11_voice_10 : dec cX11_voice 10 1 11 (.iconst 3) := ⟨by decide +kernel, rfl⟩
theorem dX11_voice_11 : dec cX11_voice 11 3 14 (.invokestatic 87) := ⟨by decide +kernel, rfl⟩
theorem dX11_voice_14 : dec cX11_voice 14 3 17 (.ifCond .ne 9) := ⟨by decide +kernel, rfl⟩
theorem dX11_voice_17 : dec cX11_voice 17 1 18 (.aload_n 0) := ⟨by decide +kernel, rfl⟩
theorem dX11_voice_18 : dec cX11_voice 18 1 19 (.iconst 1) := ⟨by decide +kernel, rfl⟩
theorem dX11_voice_19 : dec cX11_voice 19 3 22 (.invokevirtual 91) := ⟨by decide +kernel, rfl⟩
theorem dX11_voice_22 : dec cX11_voice 22 1 23 (.ireturn) := ⟨by decide +kernel, rfl⟩
theorem dX11_voice_23 : dec cX11_voice 23 1 24 (.aload_n 0) := ⟨by decide +kernel, rfl⟩
theorem dX11_voice_24 : dec cX11_voice 24 3 27 (.getfield 78) := ⟨by decide +kernel, rfl⟩
theorem dX11_voice_27 : dec cX11_voice 27 1 28 (.aload_n 0) := ⟨by decide +kernel, rfl⟩
theorem dX11_voice_28 : dec cX11_voice 28 3 31 (.getfield 10) := ⟨by decide +kernel, rfl⟩
theorem dX11_voice_31 : dec cX11_voice 31 3 34 (.getfield 134) := ⟨by decide +kernel, rfl⟩
theorem dX11_voice_34 : dec cX11_voice 34 1 35 (.iload_n 1) := ⟨by decide +kernel, rfl⟩
theorem dX11_voice_35 : dec cX11_voice 35 1 36 (.aaload) := ⟨by decide +kernel, rfl⟩
theorem dX11_voice_36 : dec cX11_voice 36 1 37 (.iload_n 1) := ⟨by decide +kernel, rfl⟩
theorem dX11_voice_37 : dec cX11_voice 37 1 38 (.iload_n 2) := ⟨by decide +kernel, rfl⟩
theorem dX11_voice_38 : dec cX11_voice 38 1 39 (.iload_n 3) := ⟨by decide +kernel, rfl⟩
theorem dX11_voice_39 : dec cX11_voice 39 3 42 (.invokevirtual 360) := ⟨by decide +kernel, rfl⟩
theorem dX11_voice_42 : dec cX11_voice 42 2 44 (.istore 4) := ⟨by decide +kernel, rfl⟩
theorem dX11_voice_44 : dec cX11_voice 44 1 45 (.aload_n 0) := ⟨by decide +kernel, rfl⟩
theorem dX11_voice_45 : dec cX11_voice 45 3 48 (.getfield 78) := ⟨by decide +kernel, rfl⟩
theorem dX11_voice_48 : dec cX11_voice 48 3 51 (.getfield 364) := ⟨by decide +kernel, rfl⟩
theorem dX11_voice_51 : dec cX11_voice 51 3 54 (.ifCond .eq 12) := ⟨by decide +kernel, rfl⟩
theorem dX11_voice_54 : dec cX11_voice 54 1 55 (.aload_n 0) := ⟨by decide +kernel, rfl⟩
theorem dX11_voice_55 : dec cX11_voice 55 2 57 (.bipush 6) := ⟨by decide +kernel, rfl⟩
theorem dX11_voice_57 : dec cX11_voice 57 3 60 (.invokevirtual 91) := ⟨by decide +kernel, rfl⟩
theorem dX11_voice_60 : dec cX11_voice 60 3 63 (.goto 5) := ⟨by decide +kernel, rfl⟩
theorem dX11_voice_63 : dec cX11_voice 63 2 65 (.iload 4) := ⟨by decide +kernel, rfl⟩
theorem dX11_voice_65 : dec cX11_voice 65 1 66 (.ireturn) := ⟨by decide +kernel, rfl⟩
set_option maxHeartbeats 4000000 in
set_option maxRecDepth 100000 in
theorem tX11_voice_J17 {X : Cx} {Y : Yx} {M0 : Mem} (hC : OKX X Y RX11 cX11_voice 5 (some .int) rmX11_voice) (hF : Y.2.2.2.2 = true) (hL : Lay M0) (Q : Int → Mem → Prop)   (a0 : Nat) (qa0 : 0 < a0 ∧ M0 0 a0 = kO 11)  (M : Mem) (h : wX11_voice_J17 Q  a0 M) : WW X Y 5 rmX11_voice (QI Q) M0 0 0 17 [(0, vR Y.1 a0)] [] M := by
  unfold wX11_voice_J17 at h
  refine r_aload_n hC 0 dX11_voice_17 rfl rfl ?_
  refine r_iconst hC dX11_voice_18 ?_
  refine r_callV (As := [vI 1]) (st := []) hC cw_X11_91 rfl qa0.1 qa0.2 rfl rfl (Nat.le_of_ble_eq_true rfl) ⟨Nat.le_of_ble_eq_true rfl, Nat.le_of_ble_eq_true rfl⟩ ⟨Nat.le_of_ble_eq_true rfl, Nat.le_of_ble_eq_true rfl⟩ dX11_voice_19 (fun hk => mX11_error Y hF _ _ _ _ _ (kqO hk qa0) h) (fun v M_3 h => ?_)
  obtain ⟨r_4, rfl, h⟩ := h
  exact r_iret hC (Nat.zero_le _) (Nat.zero_le _) dX11_voice_22 ⟨_, rfl, h⟩
set_option maxHeartbeats 4000000 in
set_option maxRecDepth 100000 in
theorem mX11_voice (Y : Yx) (hF : Y.2.2.2.2 = true) (l : Launch) (a0 : Nat) (x1 : Int) (x2 : Int) (x3 : Int) (M0 : Mem) (Q : Int → Mem → Prop) (qa0 : 0 < a0 ∧ M0 0 a0 = kO 11) (h : wX11_voice a0 x1 x2 x3 M0 Q) : CT Y l yX11_voice cX11_voice 5 (some .int) rmX11_voice [vR Y.1 a0, vI x1, vI x2, vI x3] M0 (QI Q) := by
  unfold wX11_voice at h
  refine ct_intro (by decide) (Nat.le_of_ble_eq_true rfl) ?_
  intro X hXl hC hL0
  have hL := hL0 hF
  change OKX X Y RX11 cX11_voice 5 (some .int) rmX11_voice at hC
  change WW X Y 5 rmX11_voice (QI Q) M0 0 0 0 [(0, vR Y.1 a0), (1, vI x1), (2, vI x2), (3, vI x3)] [] M0
  refine r_aload_n hC 0 dX11_voice_0 rfl rfl ?_
  refine r_iload_n hC 1 dX11_voice_1 rfl rfl ?_
  refine r_callV (As := [vI x1]) (st := []) hC cw_X11_144 rfl qa0.1 qa0.2 rfl rfl (Nat.le_of_ble_eq_true rfl) ⟨Nat.le_of_ble_eq_true rfl, Nat.le_of_ble_eq_true rfl⟩ ⟨Nat.le_of_ble_eq_true rfl, Nat.le_of_ble_eq_true rfl⟩ dX11_voice_2 (fun hk => mX11_isNoLiking Y hF _ _ _ _ _ (kqO hk qa0) h) (fun v M_1 h => ?_)
  obtain ⟨r_2, rfl, h⟩ := h
  refine r_if_ne hC 17 rfl dX11_voice_5 (by decide) (fun cq => ?_) (fun cq => ?_)
  · replace h := h.2 cq
    refine r_sub [0] rfl ?_
    exact tX11_voice_J17 hC hF hL Q   _ qa0  _ h
  · replace h := h.1 cq
    refine r_iload_n hC 2 dX11_voice_8 rfl rfl ?_
    refine r_iconst hC dX11_voice_9 ?_
    refine r_iconst hC dX11_voice_10 ?_
    refine r_callS (As := [vI x2, vI 0, vI 3]) (st := []) hC cw_X11_87 rfl rfl (Nat.le_of_ble_eq_true rfl) ⟨Nat.le_of_ble_eq_true rfl, Nat.le_of_ble_eq_true rfl⟩ ⟨Nat.le_of_ble_eq_true rfl, Nat.le_of_ble_eq_true rfl⟩ dX11_voice_11 (fun hk => mX11_within Y hF _ _ _ _ _ _  h) (fun v M_5 h => ?_)
    obtain ⟨r_6, rfl, h⟩ := h
    refine r_if_ne hC 23 rfl dX11_voice_14 (by decide) (fun cq => ?_) (fun cq => ?_)
    · replace h := h.2 cq
      refine r_aload_n hC 0 dX11_voice_23 rfl rfl ?_
      have q_7 : 0 < a0 + 113 ∧ M0 0 (a0 + 113) = kO 9 := lay_f0 (a := a0) hL qa0 fm_11_11
      refine r_getR0 (a' := a0 + 113) hC fg_X11_78 rfl hF fm_11_11 qa0.1 qa0.2 rfl dX11_voice_24 ?_
      refine r_aload_n hC 0 dX11_voice_27 rfl rfl ?_
      have q_8 : 0 < a0 + 1 ∧ M0 0 (a0 + 1) = kO 0 := lay_f0 (a := a0) hL qa0 fm_11_0
      refine r_getR0 (a' := a0 + 1) hC fg_X11_10 rfl hF fm_11_0 qa0.1 qa0.2 rfl dX11_voice_28 ?_
      have q_9 : 0 < a0 + 4 ∧ M0 0 (a0 + 4) = kA 5 10 := lay_f0 (a := a0 + 1) hL q_8 fm_0_3
      refine r_getR0 (a' := a0 + 4) hC fg_X11_134 rfl hF fm_0_3 q_8.1 q_8.2 rfl dX11_voice_31 ?_
      refine r_iload_n hC 1 dX11_voice_34 rfl rfl ?_
      obtain ⟨i_10, h⟩ := h
      have q_11 : 0 < a0 + 22 + 2 * (bm x1).toNat ∧ M0 0 (a0 + 22 + 2 * (bm x1).toNat) = kO 1 := lay_a5 (a := a0 + 4) hL q_9 (inb_nat i_10)
      refine r_aald5 hC hF i_10 q_9.1 q_9.2 dX11_voice_35 ?_
      refine r_iload_n hC 1 dX11_voice_36 rfl rfl ?_
      refine r_iload_n hC 2 dX11_voice_37 rfl rfl ?_
      refine r_iload_n hC 3 dX11_voice_38 rfl rfl ?_
      refine r_callV (As := [vR Y.1 (a0 + 22 + 2 * (bm x1).toNat), vI x1, vI x2, vI x3]) (st := []) hC cw_X11_360 rfl q_7.1 q_7.2 rfl rfl (Nat.le_of_ble_eq_true rfl) ⟨Nat.le_of_ble_eq_true rfl, Nat.le_of_ble_eq_true rfl⟩ ⟨Nat.le_of_ble_eq_true rfl, Nat.le_of_ble_eq_true rfl⟩ dX11_voice_39 (fun hk => mX9_speak Y hF _ _ _ _ _ _ _ _ (kqO hk q_7) (kqO hk q_11) h) (fun v M_12 h => ?_)
      obtain ⟨r_13, rfl, h⟩ := h
      refine r_istore (lv' := [(4, vI r_13), (0, vR Y.1 a0), (1, vI x1), (2, vI x2), (3, vI x3)]) hC dX11_voice_42 (by decide) rfl ?_
      refine r_aload_n hC 1 dX11_voice_44 rfl rfl ?_
      have q_14 : 0 < a0 + 113 ∧ M0 0 (a0 + 113) = kO 9 := lay_f0 (a := a0) hL qa0 fm_11_11
      refine r_getR0 (a' := a0 + 113) hC fg_X11_78 rfl hF fm_11_11 qa0.1 qa0.2 rfl dX11_voice_45 ?_
      refine r_getI hC fg_X11_364 rfl q_14.1 q_14.2 dX11_voice_48 ?_
      refine r_if_eq hC 63 rfl dX11_voice_51 (by decide) (fun cq => ?_) (fun cq => ?_)
      · replace h := h.1 cq
        refine r_iload hC 0 dX11_voice_63 rfl ?_
        exact r_iret hC (Nat.zero_le _) (Nat.zero_le _) dX11_voice_65 ⟨_, rfl, h⟩
      · replace h := h.2 cq
        refine r_aload_n hC 1 dX11_voice_54 rfl rfl ?_
        refine r_bipush hC (by decide +kernel) dX11_voice_55 ?_
        refine r_callV (As := [vI 6]) (st := []) hC cw_X11_91 rfl qa0.1 qa0.2 rfl rfl (Nat.le_of_ble_eq_true rfl) ⟨Nat.le_of_ble_eq_true rfl, Nat.le_of_ble_eq_true rfl⟩ ⟨Nat.le_of_ble_eq_true rfl, Nat.le_of_ble_eq_true rfl⟩ dX11_voice_57 (fun hk => mX11_error Y hF _ _ _ _ _ (kqO hk qa0) h) (fun v M_15 h => ?_)
        obtain ⟨r_16, rfl, h⟩ := h
        refine r_goto hC 65 dX11_voice_60 (by decide) ?_
        exact r_iret hC (Nat.zero_le _) (Nat.zero_le _) dX11_voice_65 ⟨_, rfl, h⟩
    · replace h := h.1 cq
      refine r_sub [0] rfl ?_
      exact tX11_voice_J17 hC hF hL Q   _ qa0  _ h
