theorem dX12_past_0 : dec cX12_past 0 1 1 (.iload_n 1) := ⟨by decide +kernel, rfl⟩
theorem dX12_past_1 : dec cX12_past 1 3 4 (.invokestatic 214) := ⟨by decide +kernel, rfl⟩
theorem dX12_past_4 : dec cX12_past 4 3 7 (.ifCond .eq 10) := ⟨by decide +kernel, rfl⟩
theorem dX12_past_7 : dec cX12_past 7 1 8 (.iload_n 2) := ⟨by decide +kernel, rfl⟩
theorem dX12_past_8 : dec cX12_past 8 3 11 (.invokestatic 214) := ⟨by decide +kernel, rfl⟩
theorem dX12_past_11 : dec cX12_past 11 3 14 (.ifCond .ne 9) := ⟨by decide +kernel, rfl⟩
theorem dX12_past_14 : dec cX12_past 14 1 15 (.aload_n 0) := ⟨by decide +kernel, rfl⟩
theorem dX12_past_15 : dec cX12_past 15 1 16 (.iconst 1) := ⟨by decide +kernel, rfl⟩
theorem dX12_past_16 : dec cX12_past 16 3 19 (.invokevirtual 83) := ⟨by decide +kernel, rfl⟩
theorem dX12_past_19 : dec cX12_past 19 1 20 (.ireturn) := ⟨by decide +kernel, rfl⟩
theorem dX12_past_20 : dec cX12_past 20 1 21 (.aload_n 0) := ⟨by decide +kernel, rfl⟩
theorem dX12_past_21 : dec cX12_past 21 3 24 (.getfield 66) := ⟨by decide +kernel, rfl⟩
theorem dX12_past_24 : dec cX12_past 24 1 25 (.iload_n 1) := ⟨by decide +kernel, rfl⟩
theorem dX12_past_25 : dec cX12_past 25 1 26 (.iaload) := ⟨by decide +kernel, rfl⟩
theorem dX12_past_26 : dec cX12_past 26 3 29 (.ifCond .eq 12) := ⟨by decide +kernel, rfl⟩
theorem dX12_past_29 : dec cX12_past 29 1 30 (.aload_n 0) := ⟨by decide +kernel, rfl⟩
theorem dX12_past_30 : dec cX12_past 30 3 33 (.getfield 66) := ⟨by decide +kernel, rfl⟩
theorem dX12_past_33 : dec cX12_past 33 1 34 (.iload_n 2) := ⟨by decide +kernel, rfl⟩
theorem dX12_past_34 : dec cX12_past 34 1 35 (.iaload) := ⟨by decide +kernel, rfl⟩
theorem dX12_past_35 : dec cX12_past 35 3 38 (.ifCond .ne 9) := ⟨by decide +kernel, rfl⟩
theorem dX12_past_38 : dec cX12_past 38 1 39 (.aload_n 0) := ⟨by decide +kernel, rfl⟩
theorem dX12_past_39 : dec cX12_past 39 1 40 (.iconst 2) := ⟨by decide +kernel, rfl⟩
theorem dX12_past_40 : dec cX12_past 40 3 43 (.invokevirtual 83) := ⟨by decide +kernel, rfl⟩
theorem dX12_past_43 : dec cX12_past 43 1 44 (.ireturn) := ⟨by decide +kernel, rfl⟩
theorem dX12_past_44 : dec cX12_past 44 1 45 (.aload_n 0) := ⟨by decide +kernel, rfl⟩
theorem dX12_past_45 : dec cX12_past 45 1 46 (.iload_n 1) := ⟨by decide +kernel, rfl⟩
theorem dX12_past_46 : dec cX12_past 46 1 47 (.iload_n 3) := ⟨by decide +kernel, rfl⟩
theorem dX12_past_47 : dec cX12_past 47 3 50 (.invokevirtual 217) := ⟨by decide +kernel, rfl⟩
theorem dX12_past_50 : dec cX12_past 50 3 53 (.ifCond .gt 12) := ⟨by decide +kernel, rfl⟩
theorem dX12_past_53 : dec cX12_past 53 1 54 (.aload_n 0) := ⟨by decide +kernel, rfl⟩
theorem dX12_past_54 : dec cX12_past 54 1 55 (.iload_n 2) := ⟨by decide +kernel, rfl⟩
theorem dX12_past_55 : dec cX12_past 55 1 56 (.iload_n 3) := ⟨by decide +kernel, rfl⟩
theorem dX12_past_56 : dec cX12_past 56 3 59 (.invokevirtual 217) := ⟨by decide +kernel, rfl⟩
theorem dX12_past_59 : dec cX12_past 59 3 62 (.ifCond .le 9) := ⟨by decide +kernel, rfl⟩
theorem dX12_past_62 : dec cX12_past 62 1 63 (.aload_n 0) := ⟨by decide +kernel, rfl⟩
theorem dX12_past_63 : dec cX12_past 63 1 64 (.iconst 5) := ⟨by decide +kernel, rfl⟩
theorem dX12_past_64 : dec cX12_past 64 3 67 (.invokevirtual 83) := ⟨by decide +kernel, rfl⟩
theorem dX12_past_67 : dec cX12_past 67 1 68 (.ireturn) := ⟨by decide +kernel, rfl⟩
theorem dX12_past_68 : dec cX12_past 68 1 69 (.aload_n 0) := ⟨by decide +kernel, rfl⟩
theorem dX12_past_69 : dec cX12_past 69 3 72 (.getfield 7) := ⟨by decide +kernel, rfl⟩
theorem dX12_past_72 : dec cX12_past 72 1 73 (.iconst 3) := ⟨by decide +kernel, rfl⟩
theorem dX12_past_73 : dec cX12_past 73 1 74 (.iaload) := ⟨by decide +kernel, rfl⟩
theorem dX12_past_74 : dec cX12_past 74 2 76 (.bipush 8) := ⟨by decide +kernel, rfl⟩
theorem dX12_past_76 : dec cX12_past 76 3 79 (.if_icmp .ne 9) := ⟨by decide +kernel, rfl⟩
theorem dX12_past_79 : dec cX12_past 79 1 80 (.aload_n 0) := ⟨by decide +kernel, rfl⟩
theorem dX12_past_80 : dec cX12_past 80 1 81 (.iconst 4) := ⟨by decide +kernel, rfl⟩
theorem dX12_past_81 : dec cX12_past 81 3 84 (.invokevirtual 83) := ⟨by decide +kernel, rfl⟩
theorem dX12_past_84 : dec cX12_past 84 1 85 (.ireturn) := ⟨by decide +kernel, rfl⟩
theorem dX12_past_85 : dec cX12_past 85 3 88 (.sipush 1240) := ⟨by decide +kernel, rfl⟩
theorem dX12_past_88 : dec cX12_past 88 2 90 (.bipush 27) := ⟨by decide +kernel, rfl⟩
theorem dX12_past_90 : dec cX12_past 90 1 91 (.aload_n 0) := ⟨by decide +kernel, rfl⟩
theorem dX12_past_91 : dec cX12_past 91 3 94 (.getfield 7) := ⟨by decide +kernel, rfl⟩
theorem dX12_past_94 : dec cX12_past 94 1 95 (.iconst 3) := ⟨by decide +kernel, rfl⟩
theorem dX12_past_95 : dec cX12_past 95 1 96 (.iaload) := ⟨by decide +kernel, rfl⟩
theorem dX12_past_96 : dec cX12_past 96 1 97 (.imul) := ⟨by decide +kernel, rfl⟩
theorem dX12_past_97 : dec cX12_past 97 1 98 (.iadd) := ⟨by decide +kernel, rfl⟩
theorem dX12_past_98 : dec cX12_past 98 2 100 (.istore 4) := ⟨by decide +kernel, rfl⟩
theorem dX12_past_100 : dec cX12_past 100 1 101 (.aload_n 0) := ⟨by decide +kernel, rfl⟩
theorem dX12_past_101 : dec cX12_past 101 3 104 (.getfield 7) := ⟨by decide +kernel, rfl⟩
theorem dX12_past_104 : dec cX12_past 104 2 106 (.iload 4) := ⟨by decide +kernel, rfl⟩
theorem dX12_past_106 : dec cX12_past 106 1 107 (.iload_n 3) := ⟨by decide +kernel, rfl⟩
theorem dX12_past_107 : dec cX12_past 107 1 108 (.iastore) := ⟨by decide +kernel, rfl⟩
theorem dX12_past_108 : dec cX12_past 108 1 109 (.aload_n 0) := ⟨by decide +kernel, rfl⟩
theorem dX12_past_109 : dec cX12_past 109 2 111 (.iload 4) := ⟨by decide +kernel, rfl⟩
theorem dX12_past_111 : dec cX12_past 111 2 113 (.bipush 14) := ⟨by decide +kernel, rfl⟩
theorem dX12_past_113 : dec cX12_past 113 1 114 (.iadd) := ⟨by decide +kernel, rfl⟩
theorem dX12_past_114 : dec cX12_past 114 3 117 (.invokevirtual 295) := ⟨by decide +kernel, rfl⟩
theorem dX12_past_117 : dec cX12_past 117 1 118 (.aload_n 0) := ⟨by decide +kernel, rfl⟩
theorem dX12_past_118 : dec cX12_past 118 1 119 (.iload_n 1) := ⟨by decide +kernel, rfl⟩
theorem dX12_past_119 : dec cX12_past 119 1 120 (.iload_n 3) := ⟨by decide +kernel, rfl⟩
theorem dX12_past_120 : dec cX12_past 120 3 123 (.invokevirtual 217) := ⟨by decide +kernel, rfl⟩
theorem dX12_past_123 : dec cX12_past 123 2 125 (.istore 5) := ⟨by decide +kernel, rfl⟩
theorem dX12_past_125 : dec cX12_past 125 1 126 (.aload_n 0) := ⟨by decide +kernel, rfl⟩
theorem dX12_past_126 : dec cX12_past 126 2 128 (.iload 4) := ⟨by decide +kernel, rfl⟩
theorem dX12_past_128 : dec cX12_past 128 1 129 (.iconst 1) := ⟨by decide +kernel, rfl⟩
theorem dX12_past_129 : dec cX12_past 129 1 130 (.iadd) := ⟨by decide +kernel, rfl⟩
theorem dX12_past_130 : dec cX12_past 130 3 133 (.invokevirtual 295) := ⟨by decide +kernel, rfl⟩
theorem dX12_past_133 : dec cX12_past 133 1 134 (.aload_n 0) := ⟨by decide +kernel, rfl⟩
theorem dX12_past_134 : dec cX12_past 134 3 137 (.getfield 7) := ⟨by decide +kernel, rfl⟩
theorem dX12_past_137 : dec cX12_past 137 1 138 (.iconst 3) := ⟨by decide +kernel, rfl⟩
theorem dX12_past_138 : dec cX12_past 138 1 139 (.dup2) := ⟨by decide +kernel, rfl⟩
theorem dX12_past_139 : dec cX12_past 139 1 140 (.iaload) := ⟨by decide +kernel, rfl⟩
theorem dX12_past_140 : dec cX12_past 140 1 141 (.iconst 1) := ⟨by decide +kernel, rfl⟩
theorem dX12_past_141 : dec cX12_past 141 1 142 (.iadd) := ⟨by decide +kernel, rfl⟩
theorem dX12_past_142 : dec cX12_past 142 1 143 (.iastore) := ⟨by decide +kernel, rfl⟩
theorem dX12_past_143 : dec cX12_past 143 1 144 (.aload_n 0) := ⟨by decide +kernel, rfl⟩
theorem dX12_past_144 : dec cX12_past 144 3 147 (.getfield 7) := ⟨by decide +kernel, rfl⟩
theorem dX12_past_147 : dec cX12_past 147 1 148 (.iconst 3) := ⟨by decide +kernel, rfl⟩
theorem dX12_past_148 : dec cX12_past 148 1 149 (.iaload) := ⟨by decide +kernel, rfl⟩
theorem dX12_past_149 : dec cX12_past 149 1 150 (.ireturn) := ⟨by decide +kernel, rfl⟩
set_option maxHeartbeats 4000000 in
set_option maxRecDepth 100000 in
theorem tX12_past_J14 {X : Cx} {Y : Yx} {M0 : Mem} (hC : OKX X Y RX12 cX12_past 6 (some .int) rmX12_past) (hF : Y.2.2.2.2 = true) (hL : Lay M0) (Q : Int → Mem → Prop)   (a0 : Nat) (qa0 : 0 < a0 ∧ M0 0 a0 = kO 12)  (M : Mem) (h : wX12_past_J14 Q  a0 M) : WW X Y 6 rmX12_past (QI Q) M0 0 0 14 [(0, vR Y.1 a0)] [] M := by
  unfold wX12_past_J14 at h
  refine r_aload_n hC 0 dX12_past_14 rfl rfl ?_
  refine r_iconst hC dX12_past_15 ?_
  refine r_callV (As := [vI 1]) (st := []) hC cw_X12_83 rfl qa0.1 qa0.2 rfl rfl (Nat.le_of_ble_eq_true rfl) ⟨Nat.le_of_ble_eq_true rfl, Nat.le_of_ble_eq_true rfl⟩ ⟨Nat.le_of_ble_eq_true rfl, Nat.le_of_ble_eq_true rfl⟩ dX12_past_16 (fun hk => mX12_error Y hF _ _ _ _ _ (kqO hk qa0) h) (fun v M_3 h => ?_)
  obtain ⟨r_4, rfl, h⟩ := h
  exact r_iret hC (Nat.zero_le _) (Nat.zero_le _) dX12_past_19 ⟨_, rfl, h⟩
set_option maxHeartbeats 4000000 in
set_option maxRecDepth 100000 in
theorem tX12_past_J38 {X : Cx} {Y : Yx} {M0 : Mem} (hC : OKX X Y RX12 cX12_past 6 (some .int) rmX12_past) (hF : Y.2.2.2.2 = true) (hL : Lay M0) (Q : Int → Mem → Prop)   (a0 : Nat) (qa0 : 0 < a0 ∧ M0 0 a0 = kO 12)  (M : Mem) (h : wX12_past_J38 Q  a0 M) : WW X Y 6 rmX12_past (QI Q) M0 0 0 38 [(0, vR Y.1 a0)] [] M := by
  unfold wX12_past_J38 at h
  refine r_aload_n hC 0 dX12_past_38 rfl rfl ?_
  refine r_iconst hC dX12_past_39 ?_
  refine r_callV (As := [vI 2]) (st := []) hC cw_X12_83 rfl qa0.1 qa0.2 rfl rfl (Nat.le_of_ble_eq_true rfl) ⟨Nat.le_of_ble_eq_true rfl, Nat.le_of_ble_eq_true rfl⟩ ⟨Nat.le_of_ble_eq_true rfl, Nat.le_of_ble_eq_true rfl⟩ dX12_past_40 (fun hk => mX12_error Y hF _ _ _ _ _ (kqO hk qa0) h) (fun v M_9 h => ?_)
  obtain ⟨r_10, rfl, h⟩ := h
  exact r_iret hC (Nat.zero_le _) (Nat.zero_le _) dX12_past_43 ⟨_, rfl, h⟩
set_option maxHeartbeats 4000000 in
set_option maxRecDepth 100000 in
theorem tX12_past_J62 {X : Cx} {Y : Yx} {M0 : Mem} (hC : OKX X Y RX12 cX12_past 6 (some .int) rmX12_past) (hF : Y.2.2.2.2 = true) (hL : Lay M0) (Q : Int → Mem → Prop)   (a0 : Nat) (qa0 : 0 < a0 ∧ M0 0 a0 = kO 12)  (M : Mem) (h : wX12_past_J62 Q  a0 M) : WW X Y 6 rmX12_past (QI Q) M0 0 0 62 [(0, vR Y.1 a0)] [] M := by
  unfold wX12_past_J62 at h
  refine r_aload_n hC 0 dX12_past_62 rfl rfl ?_
  refine r_iconst hC dX12_past_63 ?_
  refine r_callV (As := [vI 5]) (st := []) hC cw_X12_83 rfl qa0.1 qa0.2 rfl rfl (Nat.le_of_ble_eq_true rfl) ⟨Nat.le_of_ble_eq_true rfl, Nat.le_of_ble_eq_true rfl⟩ ⟨Nat.le_of_ble_eq_true rfl, Nat.le_of_ble_eq_true rfl⟩ dX12_past_64 (fun hk => mX12_error Y hF _ _ _ _ _ (kqO hk qa0) h) (fun v M_15 h => ?_)
  obtain ⟨r_16, rfl, h⟩ := h
  exact r_iret hC (Nat.zero_le _) (Nat.zero_le _) dX12_past_67 ⟨_, rfl, h⟩
set_option maxHeartbeats 4000000 in
set_option maxRecDepth 100000 in
theorem mX12_past (Y : Yx) (hF : Y.2.2.2.2 = true) (l : Launch) (a0 : Nat) (x1 : Int) (x2 : Int) (x3 : Int) (M0 : Mem) (Q : Int → Mem → Prop) (qa0 : 0 < a0 ∧ M0 0 a0 = kO 12) (h : wX12_past a0 x1 x2 x3 M0 Q) : CT Y l yX12_past cX12_past 6 (some .int) rmX12_past [vR Y.1 a0, vI x1, vI x2, vI x3] M0 (QI Q) := by
  unfold wX12_past at h
  refine ct_intro (by decide) (Nat.le_of_ble_eq_true rfl) ?_
  intro X hXl hC hL0
  have hL := hL0 hF
  change OKX X Y RX12 cX12_past 6 (some .int) rmX12_past at hC
  change WW X Y 6 rmX12_past (QI Q) M0 0 0 0 [(0, vR Y.1 a0), (1, vI x1), (2, vI x2), (3, vI x3)] [] M0
  refine r_iload_n hC 1 dX12_past_0 rfl rfl ?_
  refine r_callS (As := [vI x1]) (st := []) hC cw_X12_214 rfl rfl (Nat.le_of_ble_eq_true rfl) ⟨Nat.le_of_ble_eq_true rfl, Nat.le_of_ble_eq_true rfl⟩ ⟨Nat.le_of_ble_eq_true rfl, Nat.le_of_ble_eq_true rfl⟩ dX12_past_1 (fun hk => mX12_isSheet Y hF _ _ _ _  h) (fun v M_1 h => ?_)
  obtain ⟨r_2, rfl, h⟩ := h
  refine r_if_eq hC 14 rfl dX12_past_4 (by decide) (fun cq => ?_) (fun cq => ?_)
  · replace h := h.1 cq
    refine r_sub [0] rfl ?_
    exact tX12_past_J14 hC hF hL Q   _ qa0  _ h
  · replace h := h.2 cq
    refine r_iload_n hC 2 dX12_past_7 rfl rfl ?_
    refine r_callS (As := [vI x2]) (st := []) hC cw_X12_214 rfl rfl (Nat.le_of_ble_eq_true rfl) ⟨Nat.le_of_ble_eq_true rfl, Nat.le_of_ble_eq_true rfl⟩ ⟨Nat.le_of_ble_eq_true rfl, Nat.le_of_ble_eq_true rfl⟩ dX12_past_8 (fun hk => mX12_isSheet Y hF _ _ _ _  h) (fun v M_5 h => ?_)
    obtain ⟨r_6, rfl, h⟩ := h
    refine r_if_ne hC 20 rfl dX12_past_11 (by decide) (fun cq => ?_) (fun cq => ?_)
    · replace h := h.2 cq
      refine r_aload_n hC 0 dX12_past_20 rfl rfl ?_
      have q_7 : 0 < a0 + 19 ∧ M0 0 (a0 + 19) = kA 0 4 := lay_f0 (a := a0) hL qa0 fm_12_36
      refine r_getR0 (a' := a0 + 19) hC fg_X12_66 rfl hF fm_12_36 qa0.1 qa0.2 rfl dX12_past_21 ?_
      refine r_iload_n hC 1 dX12_past_24 rfl rfl ?_
      obtain ⟨i_8, h⟩ := h
      refine r_iald hC i_8 q_7.1 q_7.2 (by decide) dX12_past_25 ?_
      refine r_if_eq hC 38 rfl dX12_past_26 (by decide) (fun cq => ?_) (fun cq => ?_)
      · replace h := h.1 cq
        refine r_sub [0] rfl ?_
        exact tX12_past_J38 hC hF hL Q   _ qa0  _ h
      · replace h := h.2 cq
        refine r_aload_n hC 0 dX12_past_29 rfl rfl ?_
        have q_11 : 0 < a0 + 19 ∧ M0 0 (a0 + 19) = kA 0 4 := lay_f0 (a := a0) hL qa0 fm_12_36
        refine r_getR0 (a' := a0 + 19) hC fg_X12_66 rfl hF fm_12_36 qa0.1 qa0.2 rfl dX12_past_30 ?_
        refine r_iload_n hC 2 dX12_past_33 rfl rfl ?_
        obtain ⟨i_12, h⟩ := h
        refine r_iald hC i_12 q_11.1 q_11.2 (by decide) dX12_past_34 ?_
        refine r_if_ne hC 44 rfl dX12_past_35 (by decide) (fun cq => ?_) (fun cq => ?_)
        · replace h := h.2 cq
          refine r_aload_n hC 0 dX12_past_44 rfl rfl ?_
          refine r_iload_n hC 1 dX12_past_45 rfl rfl ?_
          refine r_iload_n hC 3 dX12_past_46 rfl rfl ?_
          refine r_callV (As := [vI x1, vI x3]) (st := []) hC cw_X12_217 rfl qa0.1 qa0.2 rfl rfl (Nat.le_of_ble_eq_true rfl) ⟨Nat.le_of_ble_eq_true rfl, Nat.le_of_ble_eq_true rfl⟩ ⟨Nat.le_of_ble_eq_true rfl, Nat.le_of_ble_eq_true rfl⟩ dX12_past_47 (fun hk => mX12_take Y hF _ _ _ _ _ _ (kqO hk qa0) h) (fun v M_13 h => ?_)
          obtain ⟨r_14, rfl, h⟩ := h
          refine r_if_gt hC 62 rfl dX12_past_50 (by decide) (fun cq => ?_) (fun cq => ?_)
          · replace h := h.1 cq
            refine r_sub [0] rfl ?_
            exact tX12_past_J62 hC hF hL Q   _ qa0  _ h
          · replace h := h.2 cq
            refine r_aload_n hC 0 dX12_past_53 rfl rfl ?_
            refine r_iload_n hC 2 dX12_past_54 rfl rfl ?_
            refine r_iload_n hC 3 dX12_past_55 rfl rfl ?_
            refine r_callV (As := [vI x2, vI x3]) (st := []) hC cw_X12_217 rfl qa0.1 qa0.2 rfl rfl (Nat.le_of_ble_eq_true rfl) ⟨Nat.le_of_ble_eq_true rfl, Nat.le_of_ble_eq_true rfl⟩ ⟨Nat.le_of_ble_eq_true rfl, Nat.le_of_ble_eq_true rfl⟩ dX12_past_56 (fun hk => mX12_take Y hF _ _ _ _ _ _ (kqO hk qa0) h) (fun v M_17 h => ?_)
            obtain ⟨r_18, rfl, h⟩ := h
            refine r_if_le hC 68 rfl dX12_past_59 (by decide) (fun cq => ?_) (fun cq => ?_)
            · replace h := h.1 cq
              refine r_aload_n hC 0 dX12_past_68 rfl rfl ?_
              have q_19 : 0 < a0 + 1 ∧ M0 0 (a0 + 1) = kA 0 1522 := lay_f0 (a := a0) hL qa0 fm_12_0
              refine r_getR0 (a' := a0 + 1) hC fg_X12_7 rfl hF fm_12_0 qa0.1 qa0.2 rfl dX12_past_69 ?_
              refine r_iconst hC dX12_past_72 ?_
              refine r_iald hC ⟨by decide +kernel, by decide +kernel⟩ q_19.1 q_19.2 (by decide) dX12_past_73 ?_
              refine r_bipush hC (by decide +kernel) dX12_past_74 ?_
              refine r_icmp_ne hC 85 rfl bmL_8 dX12_past_76 (by decide) (fun cq => ?_) (fun cq => ?_)
              · replace h := h.2 cq
                refine r_sipush hC (by decide +kernel) dX12_past_85 ?_
                refine r_bipush hC (by decide +kernel) dX12_past_88 ?_
                refine r_aload_n hC 0 dX12_past_90 rfl rfl ?_
                have q_20 : 0 < a0 + 1 ∧ M0 0 (a0 + 1) = kA 0 1522 := lay_f0 (a := a0) hL qa0 fm_12_0
                refine r_getR0 (a' := a0 + 1) hC fg_X12_7 rfl hF fm_12_0 qa0.1 qa0.2 rfl dX12_past_91 ?_
                refine r_iconst hC dX12_past_94 ?_
                refine r_iald hC ⟨by decide +kernel, by decide +kernel⟩ q_20.1 q_20.2 (by decide) dX12_past_95 ?_
                refine r_imul hC dX12_past_96 ?_
                refine r_iadd hC dX12_past_97 ?_
                refine r_nameI h (fun x4_21 h => ?_)
                refine r_istore (lv' := [(4, vI x4_21), (0, vR Y.1 a0), (1, vI x1), (2, vI x2), (3, vI x3)]) hC dX12_past_98 (by decide) rfl ?_
                refine r_aload_n hC 1 dX12_past_100 rfl rfl ?_
                have q_22 : 0 < a0 + 1 ∧ M0 0 (a0 + 1) = kA 0 1522 := lay_f0 (a := a0) hL qa0 fm_12_0
                refine r_getR0 (a' := a0 + 1) hC fg_X12_7 rfl hF fm_12_0 qa0.1 qa0.2 rfl dX12_past_101 ?_
                refine r_iload hC 0 dX12_past_104 rfl ?_
                refine r_iload_n hC 4 dX12_past_106 rfl rfl ?_
                obtain ⟨i_23, h⟩ := h
                refine r_iast hC i_23 q_22.1 q_22.2 (by decide) dX12_past_107 ?_
                refine r_nameM h (fun M_24 h => ?_)
                refine r_aload_n hC 1 dX12_past_108 rfl rfl ?_
                refine r_iload hC 0 dX12_past_109 rfl ?_
                refine r_bipush hC (by decide +kernel) dX12_past_111 ?_
                refine r_iadd hC dX12_past_113 ?_
                refine r_callV (As := [vI (x4_21 + 14)]) (st := []) hC cw_X12_295 rfl qa0.1 qa0.2 rfl rfl (Nat.le_of_ble_eq_true rfl) ⟨Nat.le_of_ble_eq_true rfl, Nat.le_of_ble_eq_true rfl⟩ ⟨Nat.le_of_ble_eq_true rfl, Nat.le_of_ble_eq_true rfl⟩ dX12_past_114 (fun hk => mX12_keepRow Y hF _ _ _ _ _ (kqO hk qa0) h) (fun v M_25 h => ?_)
                obtain ⟨rfl, h⟩ := h
                refine r_aload_n hC 1 dX12_past_117 rfl rfl ?_
                refine r_iload_n hC 2 dX12_past_118 rfl rfl ?_
                refine r_iload_n hC 4 dX12_past_119 rfl rfl ?_
                refine r_callV (As := [vI x1, vI x3]) (st := []) hC cw_X12_217 rfl qa0.1 qa0.2 rfl rfl (Nat.le_of_ble_eq_true rfl) ⟨Nat.le_of_ble_eq_true rfl, Nat.le_of_ble_eq_true rfl⟩ ⟨Nat.le_of_ble_eq_true rfl, Nat.le_of_ble_eq_true rfl⟩ dX12_past_120 (fun hk => mX12_take Y hF _ _ _ _ _ _ (kqO hk qa0) h) (fun v M_26 h => ?_)
                obtain ⟨r_27, rfl, h⟩ := h
                refine r_istore (lv' := [(5, vI r_27), (4, vI x4_21), (0, vR Y.1 a0), (1, vI x1), (2, vI x2), (3, vI x3)]) hC dX12_past_123 (by decide) rfl ?_
                refine r_aload_n hC 2 dX12_past_125 rfl rfl ?_
                refine r_iload hC 1 dX12_past_126 rfl ?_
                refine r_iconst hC dX12_past_128 ?_
                refine r_iadd hC dX12_past_129 ?_
                refine r_callV (As := [vI (x4_21 + 1)]) (st := []) hC cw_X12_295 rfl qa0.1 qa0.2 rfl rfl (Nat.le_of_ble_eq_true rfl) ⟨Nat.le_of_ble_eq_true rfl, Nat.le_of_ble_eq_true rfl⟩ ⟨Nat.le_of_ble_eq_true rfl, Nat.le_of_ble_eq_true rfl⟩ dX12_past_130 (fun hk => mX12_keepRow Y hF _ _ _ _ _ (kqO hk qa0) h) (fun v M_28 h => ?_)
                obtain ⟨rfl, h⟩ := h
                refine r_aload_n hC 2 dX12_past_133 rfl rfl ?_
                have q_29 : 0 < a0 + 1 ∧ M0 0 (a0 + 1) = kA 0 1522 := lay_f0 (a := a0) hL qa0 fm_12_0
                refine r_getR0 (a' := a0 + 1) hC fg_X12_7 rfl hF fm_12_0 qa0.1 qa0.2 rfl dX12_past_134 ?_
                refine r_iconst hC dX12_past_137 ?_
                refine r_dup2 hC rfl rfl dX12_past_138 ?_
                refine r_iald hC ⟨by decide +kernel, by decide +kernel⟩ q_29.1 q_29.2 (by decide) dX12_past_139 ?_
                refine r_iconst hC dX12_past_140 ?_
                refine r_iadd hC dX12_past_141 ?_
                refine r_iast hC ⟨by decide +kernel, by decide +kernel⟩ q_29.1 q_29.2 (by decide) dX12_past_142 ?_
                refine r_nameM h (fun M_30 h => ?_)
                refine r_aload_n hC 2 dX12_past_143 rfl rfl ?_
                have q_31 : 0 < a0 + 1 ∧ M0 0 (a0 + 1) = kA 0 1522 := lay_f0 (a := a0) hL qa0 fm_12_0
                refine r_getR0 (a' := a0 + 1) hC fg_X12_7 rfl hF fm_12_0 qa0.1 qa0.2 rfl dX12_past_144 ?_
                refine r_iconst hC dX12_past_147 ?_
                refine r_iald hC ⟨by decide +kernel, by decide +kernel⟩ q_31.1 q_31.2 (by decide) dX12_past_148 ?_
                exact r_iret hC (Nat.zero_le _) (Nat.zero_le _) dX12_past_149 ⟨_, rfl, h⟩
              · replace h := h.1 cq
                refine r_aload_n hC 0 dX12_past_79 rfl rfl ?_
                refine r_iconst hC dX12_past_80 ?_
                refine r_callV (As := [vI 4]) (st := []) hC cw_X12_83 rfl qa0.1 qa0.2 rfl rfl (Nat.le_of_ble_eq_true rfl) ⟨Nat.le_of_ble_eq_true rfl, Nat.le_of_ble_eq_true rfl⟩ ⟨Nat.le_of_ble_eq_true rfl, Nat.le_of_ble_eq_true rfl⟩ dX12_past_81 (fun hk => mX12_error Y hF _ _ _ _ _ (kqO hk qa0) h) (fun v M_32 h => ?_)
                obtain ⟨r_33, rfl, h⟩ := h
                exact r_iret hC (Nat.zero_le _) (Nat.zero_le _) dX12_past_84 ⟨_, rfl, h⟩
            · replace h := h.2 cq
              refine r_sub [0] rfl ?_
              exact tX12_past_J62 hC hF hL Q   _ qa0  _ h
        · replace h := h.1 cq
          refine r_sub [0] rfl ?_
          exact tX12_past_J38 hC hF hL Q   _ qa0  _ h
    · replace h := h.1 cq
      refine r_sub [0] rfl ?_
      exact tX12_past_J14 hC hF hL Q   _ qa0  _ h
theorem dX12_adds_0 : dec cX12_adds 0 1 1 (.aload_n 0) := ⟨by decide +kernel, rfl⟩
theorem dX12_adds_1 : dec cX12_adds 1 1 2 (.aload_n 0) := ⟨by decide +kernel, rfl⟩
theorem dX12_adds_2 : dec cX12_adds 2 3 5 (.getfield 7) := ⟨by decide +kernel, rfl⟩
theorem dX12_adds_5 : dec cX12_adds 5 3 8 (.sipush 1240) := ⟨by decide +kernel, rfl⟩
theorem dX12_adds_8 : dec cX12_adds 8 2 10 (.bipush 27) := ⟨by decide +kernel, rfl⟩
theorem dX12_adds_10 : dec cX12_adds 10 1 11 (.iload_n 1) := ⟨by decide +kernel, rfl⟩
theorem dX12_adds_11 : dec cX12_adds 11 1 12 (.imul) := ⟨by decide +kernel, rfl⟩
theorem dX12_adds_12 : dec cX12_adds 12 1 13 (.iadd) := ⟨by decide +kernel, rfl⟩
theorem dX12_adds_13 : dec cX12_adds 13 1 14 (.iaload) := ⟨by decide +kernel, rfl⟩
theorem dX12_adds_14 : dec cX12_adds 14 3 17 (.putfield 159) := ⟨by decide +kernel, rfl⟩
theorem dX12_adds_17 : dec cX12_adds 17 1 18 (.aload_n 0) := ⟨by decide +kernel, rfl⟩
theorem dX12_adds_18 : dec cX12_adds 18 1 19 (.aload_n 0) := ⟨by decide +kernel, rfl⟩
theorem dX12_adds_19 : dec cX12_adds 19 3 22 (.getfield 7) := ⟨by decide +kernel, rfl⟩
theorem dX12_adds_22 : dec cX12_adds 22 1 23 (.iload_n 2) := ⟨by decide +kernel, rfl⟩
theorem dX12_adds_23 : dec cX12_adds 23 1 24 (.iaload) := ⟨by decide +kernel, rfl⟩
theorem dX12_adds_24 : dec cX12_adds 24 3 27 (.putfield 162) := ⟨by decide +kernel, rfl⟩
theorem dX12_adds_27 : dec cX12_adds 27 1 28 (.iconst 0) := ⟨by decide +kernel, rfl⟩
theorem dX12_adds_28 : dec cX12_adds 28 2 30 (.istore 4) := ⟨by decide +kernel, rfl⟩
theorem dX12_adds_30 : dec cX12_adds 30 2 32 (.iload 4) := ⟨by decide +kernel, rfl⟩
theorem dX12_adds_32 : dec cX12_adds 32 1 33 (.aload_n 0) := ⟨by decide +kernel, rfl⟩
theorem dX12_adds_33 : dec cX12_adds 33 3 36 (.getfield 162) := ⟨by decide +kernel, rfl⟩
theorem dX12_adds_36 : dec cX12_adds 36 3 39 (.if_icmp .ge 27) := ⟨by decide +kernel, rfl⟩
theorem dX12_adds_39 : dec cX12_adds 39 1 40 (.aload_n 0) := ⟨by decide +kernel, rfl⟩
theorem dX12_adds_40 : dec cX12_adds 40 3 43 (.getfield 28) := ⟨by decide +kernel, rfl⟩
theorem dX12_adds_43 : dec cX12_adds 43 2 45 (.iload 4) := ⟨by decide +kernel, rfl⟩
theorem dX12_adds_45 : dec cX12_adds 45 1 46 (.aload_n 0) := ⟨by decide +kernel, rfl⟩
theorem dX12_adds_46 : dec cX12_adds 46 3 49 (.getfield 7) := ⟨by decide +kernel, rfl⟩
theorem dX12_adds_49 : dec cX12_adds 49 1 50 (.iload_n 2) := ⟨by decide +kernel, rfl⟩
theorem dX12_adds_50 : dec cX12_adds 50 1 51 (.iconst 1) := ⟨by decide +kernel, rfl⟩
theorem dX12_adds_51 : dec cX12_adds 51 1 52 (.iadd) := ⟨by decide +kernel, rfl⟩
theorem dX12_adds_52 : dec cX12_adds 52 2 54 (.iload 4) := ⟨by decide +kernel, rfl⟩
theorem dX12_adds_54 : dec cX12_adds 54 1 55 (.iadd) := ⟨by decide +kernel, rfl⟩
theorem dX12_adds_55 : dec cX12_adds 55 1 56 (.iaload) := ⟨by decide +kernel, rfl⟩
theorem dX12_adds_56 : dec cX12_adds 56 1 57 (.iastore) := ⟨by decide +kernel, rfl⟩
theorem dX12_adds_57 : dec cX12_adds 57 3 60 (.iinc 4 1) := ⟨by decide +kernel, rfl⟩
theorem dX12_adds_60 : dec cX12_adds 60 3 63 (.goto (-30)) := ⟨by decide +kernel, rfl⟩
theorem dX12_adds_63 : dec cX12_adds 63 1 64 (.aload_n 0) := ⟨by decide +kernel, rfl⟩
theorem dX12_adds_64 : dec cX12_adds 64 3 67 (.invokevirtual 211) := ⟨by decide +kernel, rfl⟩
theorem dX12_adds_67 : dec cX12_adds 67 1 68 (.iconst 0) := ⟨by decide +kernel, rfl⟩
theorem dX12_adds_68 : dec cX12_adds 68 2 70 (.istore 4) := ⟨by decide +kernel, rfl⟩
theorem dX12_adds_70 : dec cX12_adds 70 2 72 (.iload 4) := ⟨by decide +kernel, rfl⟩
theorem dX12_adds_72 : dec cX12_adds 72 1 73 (.aload_n 0) := ⟨by decide +kernel, rfl⟩
theorem dX12_adds_73 : dec cX12_adds 73 3 76 (.getfield 7) := ⟨by decide +kernel, rfl⟩
theorem dX12_adds_76 : dec cX12_adds 76 1 77 (.iconst 1) := ⟨by decide +kernel, rfl⟩
theorem dX12_adds_77 : dec cX12_adds 77 1 78 (.iaload) := ⟨by decide +kernel, rfl⟩
theorem dX12_adds_78 : dec cX12_adds 78 3 81 (.if_icmp .ge 33) := ⟨by decide +kernel, rfl⟩
theorem dX12_adds_81 : dec cX12_adds 81 1 82 (.aload_n 0) := ⟨by decide +kernel, rfl⟩
theorem dX12_adds_82 : dec cX12_adds 82 3 85 (.getfield 59) := ⟨by decide +kernel, rfl⟩
theorem dX12_adds_85 : dec cX12_adds 85 2 87 (.bipush 10) := ⟨by decide +kernel, rfl⟩
theorem dX12_adds_87 : dec cX12_adds 87 1 88 (.iload_n 1) := ⟨by decide +kernel, rfl⟩
theorem dX12_adds_88 : dec cX12_adds 88 1 89 (.imul) := ⟨by decide +kernel, rfl⟩
theorem dX12_adds_89 : dec cX12_adds 89 2 91 (.iload 4) := ⟨by decide +kernel, rfl⟩
theorem dX12_adds_91 : dec cX12_adds 91 1 92 (.iadd) := ⟨by decide +kernel, rfl⟩
theorem dX12_adds_92 : dec cX12_adds 92 1 93 (.dup2) := ⟨by decide +kernel, rfl⟩
theorem dX12_adds_93 : dec cX12_adds 93 1 94 (.laload) := ⟨by decide +kernel, rfl⟩
theorem dX12_adds_94 : dec cX12_adds 94 1 95 (.iload_n 3) := ⟨by decide +kernel, rfl⟩
theorem dX12_adds_95 : dec cX12_adds 95 1 96 (.i2l) := ⟨by decide +kernel, rfl⟩
theorem dX12_adds_96 : dec cX12_adds 96 1 97 (.aload_n 0) := ⟨by decide +kernel, rfl⟩
theorem dX12_adds_97 : dec cX12_adds 97 2 99 (.iload 4) := ⟨by decide +kernel, rfl⟩
theorem dX12_adds_99 : dec cX12_adds 99 3 102 (.invokevirtual 205) := ⟨by decide +kernel, rfl⟩
theorem dX12_adds_102 : dec cX12_adds 102 1 103 (.lmul) := ⟨by decide +kernel, rfl⟩
theorem dX12_adds_103 : dec cX12_adds 103 1 104 (.ladd) := ⟨by decide +kernel, rfl⟩
theorem dX12_adds_104 : dec cX12_adds 104 1 105 (.lastore) := ⟨by decide +kernel, rfl⟩
theorem dX12_adds_105 : dec cX12_adds 105 3 108 (.iinc 4 1) := ⟨by decide +kernel, rfl⟩
theorem dX12_adds_108 : dec cX12_adds 108 3 111 (.goto (-38)) := ⟨by decide +kernel, rfl⟩
theorem dX12_adds_111 : dec cX12_adds 111 1 112 (.return_) := ⟨by decide +kernel, rfl⟩
set_option maxHeartbeats 4000000 in
set_option maxRecDepth 100000 in
theorem tX12_adds_L30 {X : Cx} {Y : Yx} {M0 : Mem} (hC : OKX X Y RX12 cX12_adds 5 none rmX12_adds) (hF : Y.2.2.2.2 = true) (hL : Lay M0) (Q : Mem → Prop) (E63 : Mem → Prop) (a0 : Nat) (x1 : Int) (x2 : Int) (x3 : Int) (qa0 : 0 < a0 ∧ M0 0 a0 = kO 12) (hE63 : ∀  (M : Mem), E63  M → WW X Y 5 rmX12_adds (QV Q) M0 0 0 63 [(0, vR Y.1 a0), (1, vI x1), (3, vI x3)] [] M) : ∀ (N : Nat) (x4 : Int) (M : Mem) (_ : wX12_adds_L30 Q E63 a0 x1 x2 x3 N x4 M), WW X Y 5 rmX12_adds (QV Q) M0 0 0 30 [(0, vR Y.1 a0), (1, vI x1), (2, vI x2), (3, vI x3), (4, vI x4)] [] M := by
  intro N
  induction N with
  | zero =>
    intro x4 M h
    exact h.elim
  | succ N ih =>
    intro x4 M h
    unfold wX12_adds_L30 at h
    refine r_iload hC 4 dX12_adds_30 rfl ?_
    refine r_aload_n hC 0 dX12_adds_32 rfl rfl ?_
    refine r_getI hC fg_X12_162 rfl qa0.1 qa0.2 dX12_adds_33 ?_
    refine r_icmp_ge hC 63 rfl rfl dX12_adds_36 (by decide) (fun cq => ?_) (fun cq => ?_)
    · replace h := h.1 cq
      refine r_sub [0, 1, 3] rfl ?_
      exact hE63  _ h
    · replace h := h.2 cq
      refine r_aload_n hC 0 dX12_adds_39 rfl rfl ?_
      have q_7 : 0 < a0 + 7 ∧ M0 0 (a0 + 7) = kA 0 12 := lay_f0 (a := a0) hL qa0 fm_12_12
      refine r_getR0 (a' := a0 + 7) hC fg_X12_28 rfl hF fm_12_12 qa0.1 qa0.2 rfl dX12_adds_40 ?_
      refine r_iload hC 4 dX12_adds_43 rfl ?_
      refine r_aload_n hC 0 dX12_adds_45 rfl rfl ?_
      have q_8 : 0 < a0 + 1 ∧ M0 0 (a0 + 1) = kA 0 1522 := lay_f0 (a := a0) hL qa0 fm_12_0
      refine r_getR0 (a' := a0 + 1) hC fg_X12_7 rfl hF fm_12_0 qa0.1 qa0.2 rfl dX12_adds_46 ?_
      refine r_iload_n hC 2 dX12_adds_49 rfl rfl ?_
      refine r_iconst hC dX12_adds_50 ?_
      refine r_iadd hC dX12_adds_51 ?_
      refine r_iload hC 4 dX12_adds_52 rfl ?_
      refine r_iadd hC dX12_adds_54 ?_
      obtain ⟨i_9, h⟩ := h
      refine r_iald hC i_9 q_8.1 q_8.2 (by decide) dX12_adds_55 ?_
      obtain ⟨i_10, h⟩ := h
      refine r_iast hC i_10 q_7.1 q_7.2 (by decide) dX12_adds_56 ?_
      refine r_nameM h (fun M_11 h => ?_)
      refine let_elim h (fun x4_12 e_13 h => ?_)
      refine r_iinc (lv' := [(4, vI x4_12), (0, vR Y.1 a0), (1, vI x1), (2, vI x2), (3, vI x3)]) hC 4 dX12_adds_57 rfl (by decide) e_13 rfl ?_
      refine r_goto hC 30 dX12_adds_60 (by decide) ?_
      refine r_sub [1, 2, 3, 4, 0] rfl ?_
      exact ih _ _ h
set_option maxHeartbeats 4000000 in
set_option maxRecDepth 100000 in
theorem tX12_adds_L70 {X : Cx} {Y : Yx} {M0 : Mem} (hC : OKX X Y RX12 cX12_adds 5 none rmX12_adds) (hF : Y.2.2.2.2 = true) (hL : Lay M0) (Q : Mem → Prop)  (a0 : Nat) (x1 : Int) (x3 : Int) (qa0 : 0 < a0 ∧ M0 0 a0 = kO 12)  : ∀ (N : Nat) (x4 : Int) (M : Mem) (_ : wX12_adds_L70 Q  a0 x1 x3 N x4 M), WW X Y 5 rmX12_adds (QV Q) M0 0 0 70 [(0, vR Y.1 a0), (1, vI x1), (3, vI x3), (4, vI x4)] [] M := by
  intro N
  induction N with
  | zero =>
    intro x4 M h
    exact h.elim
  | succ N ih =>
    intro x4 M h
    unfold wX12_adds_L70 at h
    refine r_iload hC 3 dX12_adds_70 rfl ?_
    refine r_aload_n hC 0 dX12_adds_72 rfl rfl ?_
    have q_16 : 0 < a0 + 1 ∧ M0 0 (a0 + 1) = kA 0 1522 := lay_f0 (a := a0) hL qa0 fm_12_0
    refine r_getR0 (a' := a0 + 1) hC fg_X12_7 rfl hF fm_12_0 qa0.1 qa0.2 rfl dX12_adds_73 ?_
    refine r_iconst hC dX12_adds_76 ?_
    refine r_iald hC ⟨by decide +kernel, by decide +kernel⟩ q_16.1 q_16.2 (by decide) dX12_adds_77 ?_
    refine r_icmp_ge hC 111 rfl rfl dX12_adds_78 (by decide) (fun cq => ?_) (fun cq => ?_)
    · replace h := h.1 cq
      exact r_vret hC (Nat.zero_le _) (Nat.zero_le _) dX12_adds_111 ⟨rfl, h⟩
    · replace h := h.2 cq
      refine r_aload_n hC 0 dX12_adds_81 rfl rfl ?_
      have q_17 : 0 < a0 + 17 ∧ M0 0 (a0 + 17) = kA 3 80 := lay_f0 (a := a0) hL qa0 fm_12_31
      refine r_getR0 (a' := a0 + 17) hC fg_X12_59 rfl hF fm_12_31 qa0.1 qa0.2 rfl dX12_adds_82 ?_
      refine r_bipush hC (by decide +kernel) dX12_adds_85 ?_
      refine r_iload_n hC 1 dX12_adds_87 rfl rfl ?_
      refine r_imul hC dX12_adds_88 ?_
      refine r_iload hC 3 dX12_adds_89 rfl ?_
      refine r_iadd hC dX12_adds_91 ?_
      refine r_dup2 hC rfl rfl dX12_adds_92 ?_
      obtain ⟨i_18, h⟩ := h
      refine r_lald hC i_18 q_17.1 q_17.2 (by decide) dX12_adds_93 ?_
      refine r_iload_n hC 2 dX12_adds_94 rfl rfl ?_
      refine r_i2l hC dX12_adds_95 ?_
      refine r_aload_n hC 0 dX12_adds_96 rfl rfl ?_
      refine r_iload hC 3 dX12_adds_97 rfl ?_
      refine r_callV (As := [vI x4]) (st := [vL (bm x3), vL (rd M (a0 + 17) ((10 * x1) + x4)), vI ((10 * x1) + x4), vR Y.1 (a0 + 17)]) hC cw_X12_205 rfl qa0.1 qa0.2 rfl rfl (Nat.le_of_ble_eq_true rfl) ⟨Nat.le_of_ble_eq_true rfl, Nat.le_of_ble_eq_true rfl⟩ ⟨Nat.le_of_ble_eq_true rfl, Nat.le_of_ble_eq_true rfl⟩ dX12_adds_99 (fun hk => mX12_share Y hF _ _ _ _ _ (kqO hk qa0) h) (fun v M_19 h => ?_)
      obtain ⟨r_20, rfl, h⟩ := h
      refine r_lmul hC dX12_adds_102 ?_
      refine r_ladd hC dX12_adds_103 ?_
      obtain ⟨i_21, h⟩ := h
      refine r_last hC i_21 q_17.1 q_17.2 (by decide) dX12_adds_104 ?_
      refine r_nameM h (fun M_22 h => ?_)
      refine let_elim h (fun x4_23 e_24 h => ?_)
      refine r_iinc (lv' := [(4, vI x4_23), (0, vR Y.1 a0), (1, vI x1), (3, vI x3)]) hC 3 dX12_adds_105 rfl (by decide) e_24 rfl ?_
      refine r_goto hC 70 dX12_adds_108 (by decide) ?_
      refine r_sub [1, 2, 3, 0] rfl ?_
      exact ih _ _ h
set_option maxHeartbeats 4000000 in
set_option maxRecDepth 100000 in
theorem mX12_adds (Y : Yx) (hF : Y.2.2.2.2 = true) (l : Launch) (a0 : Nat) (x1 : Int) (x2 : Int) (x3 : Int) (M0 : Mem) (Q : Mem → Prop) (qa0 : 0 < a0 ∧ M0 0 a0 = kO 12) (h : wX12_adds a0 x1 x2 x3 M0 Q) : CT Y l yX12_adds cX12_adds 5 none rmX12_adds [vR Y.1 a0, vI x1, vI x2, vI x3] M0 (QV Q) := by
  unfold wX12_adds at h
  refine ct_intro (by decide) (Nat.le_of_ble_eq_true rfl) ?_
  intro X hXl hC hL0
  have hL := hL0 hF
  change OKX X Y RX12 cX12_adds 5 none rmX12_adds at hC
  change WW X Y 5 rmX12_adds (QV Q) M0 0 0 0 [(0, vR Y.1 a0), (1, vI x1), (2, vI x2), (3, vI x3)] [] M0
  refine r_aload_n hC 0 dX12_adds_0 rfl rfl ?_
  refine r_aload_n hC 0 dX12_adds_1 rfl rfl ?_
  have q_1 : 0 < a0 + 1 ∧ M0 0 (a0 + 1) = kA 0 1522 := lay_f0 (a := a0) hL qa0 fm_12_0
  refine r_getR0 (a' := a0 + 1) hC fg_X12_7 rfl hF fm_12_0 qa0.1 qa0.2 rfl dX12_adds_2 ?_
  refine r_sipush hC (by decide +kernel) dX12_adds_5 ?_
  refine r_bipush hC (by decide +kernel) dX12_adds_8 ?_
  refine r_iload_n hC 1 dX12_adds_10 rfl rfl ?_
  refine r_imul hC dX12_adds_11 ?_
  refine r_iadd hC dX12_adds_12 ?_
  obtain ⟨i_2, h⟩ := h
  refine r_iald hC i_2 q_1.1 q_1.2 (by decide) dX12_adds_13 ?_
  refine r_putI hC fp_X12_159 rfl qa0.1 qa0.2 dX12_adds_14 ?_
  refine r_nameM h (fun M_3 h => ?_)
  refine r_aload_n hC 0 dX12_adds_17 rfl rfl ?_
  refine r_aload_n hC 0 dX12_adds_18 rfl rfl ?_
  have q_4 : 0 < a0 + 1 ∧ M0 0 (a0 + 1) = kA 0 1522 := lay_f0 (a := a0) hL qa0 fm_12_0
  refine r_getR0 (a' := a0 + 1) hC fg_X12_7 rfl hF fm_12_0 qa0.1 qa0.2 rfl dX12_adds_19 ?_
  refine r_iload_n hC 2 dX12_adds_22 rfl rfl ?_
  obtain ⟨i_5, h⟩ := h
  refine r_iald hC i_5 q_4.1 q_4.2 (by decide) dX12_adds_23 ?_
  refine r_putI hC fp_X12_162 rfl qa0.1 qa0.2 dX12_adds_24 ?_
  refine r_nameM h (fun M_6 h => ?_)
  refine r_iconst hC dX12_adds_27 ?_
  refine r_istore (lv' := [(4, vI 0), (0, vR Y.1 a0), (1, vI x1), (2, vI x2), (3, vI x3)]) hC dX12_adds_28 (by decide) rfl ?_
  refine r_sub [1, 2, 3, 4, 0] rfl ?_
  obtain ⟨N_26, h⟩ := h
  refine tX12_adds_L30 hC hF hL Q _ _ _ _ _ qa0 ?_ N_26 _ _ h
  · intro M_14 h
    refine r_aload_n hC 0 dX12_adds_63 rfl rfl ?_
    refine r_callV (As := []) (st := []) hC cw_X12_211 rfl qa0.1 qa0.2 rfl rfl (Nat.le_of_ble_eq_true rfl) ⟨Nat.le_of_ble_eq_true rfl, Nat.le_of_ble_eq_true rfl⟩ ⟨Nat.le_of_ble_eq_true rfl, Nat.le_of_ble_eq_true rfl⟩ dX12_adds_64 (fun hk => mX12_layRow Y hF _ _ _ _ (kqO hk qa0) h) (fun v M_15 h => ?_)
    obtain ⟨rfl, h⟩ := h
    refine r_iconst hC dX12_adds_67 ?_
    refine r_istore (lv' := [(4, vI 0), (0, vR Y.1 a0), (1, vI x1), (3, vI x3)]) hC dX12_adds_68 (by decide) rfl ?_
    refine r_sub [1, 2, 3, 0] rfl ?_
    obtain ⟨N_25, h⟩ := h
    refine tX12_adds_L70 hC hF hL Q  _ _ _ qa0  N_25 _ _ h
theorem dX12_tells_0 : dec cX12_tells 0 1 1 (.iconst 1) := ⟨by decide +kernel, rfl⟩
theorem dX12_tells_1 : dec cX12_tells 1 1 2 (.istore_n 2) := ⟨by decide +kernel, rfl⟩
theorem dX12_tells_2 : dec cX12_tells 2 1 3 (.iconst 0) := ⟨by decide +kernel, rfl⟩
theorem dX12_tells_3 : dec cX12_tells 3 1 4 (.istore_n 3) := ⟨by decide +kernel, rfl⟩
theorem dX12_tells_4 : dec cX12_tells 4 1 5 (.iload_n 3) := ⟨by decide +kernel, rfl⟩
theorem dX12_tells_5 : dec cX12_tells 5 1 6 (.aload_n 0) := ⟨by decide +kernel, rfl⟩
theorem dX12_tells_6 : dec cX12_tells 6 3 9 (.getfield 7) := ⟨by decide +kernel, rfl⟩
theorem dX12_tells_9 : dec cX12_tells 9 1 10 (.iconst 3) := ⟨by decide +kernel, rfl⟩
theorem dX12_tells_10 : dec cX12_tells 10 1 11 (.iaload) := ⟨by decide +kernel, rfl⟩
theorem dX12_tells_11 : dec cX12_tells 11 3 14 (.if_icmp .ge 80) := ⟨by decide +kernel, rfl⟩
theorem dX12_tells_14 : dec cX12_tells 14 1 15 (.iload_n 2) := ⟨by decide +kernel, rfl⟩
theorem dX12_tells_15 : dec cX12_tells 15 3 18 (.ifCond .eq 76) := ⟨by decide +kernel, rfl⟩
theorem dX12_tells_18 : dec cX12_tells 18 1 19 (.lconst 0) := ⟨by decide +kernel, rfl⟩
theorem dX12_tells_19 : dec cX12_tells 19 2 21 (.lstore 4) := ⟨by decide +kernel, rfl⟩
theorem dX12_tells_21 : dec cX12_tells 21 1 22 (.iconst 0) := ⟨by decide +kernel, rfl⟩
theorem dX12_tells_22 : dec cX12_tells 22 2 24 (.istore 6) := ⟨by decide +kernel, rfl⟩
theorem dX12_tells_24 : dec cX12_tells 24 2 26 (.iload 6) := ⟨by decide +kernel, rfl⟩
theorem dX12_tells_26 : dec cX12_tells 26 1 27 (.aload_n 0) := ⟨by decide +kernel, rfl⟩
theorem dX12_tells_27 : dec cX12_tells 27 3 30 (.getfield 7) := ⟨by decide +kernel, rfl⟩
theorem dX12_tells_30 : dec cX12_tells 30 1 31 (.iconst 1) := ⟨by decide +kernel, rfl⟩
theorem dX12_tells_31 : dec cX12_tells 31 1 32 (.iaload) := ⟨by decide +kernel, rfl⟩
theorem dX12_tells_32 : dec cX12_tells 32 3 35 (.if_icmp .ge 40) := ⟨by decide +kernel, rfl⟩
theorem dX12_tells_35 : dec cX12_tells 35 2 37 (.lload 4) := ⟨by decide +kernel, rfl⟩
theorem dX12_tells_37 : dec cX12_tells 37 1 38 (.iload_n 1) := ⟨by decide +kernel, rfl⟩
theorem dX12_tells_38 : dec cX12_tells 38 2 40 (.iload 6) := ⟨by decide +kernel, rfl⟩
theorem dX12_tells_40 : dec cX12_tells 40 1 41 (.ishr) := ⟨by decide +kernel, rfl⟩
theorem dX12_tells_41 : dec cX12_tells 41 1 42 (.iconst 1) := ⟨by decide +kernel, rfl⟩
theorem dX12_tells_42 : dec cX12_tells 42 1 43 (.iand) := ⟨by decide +kernel, rfl⟩
theorem dX12_tells_43 : dec cX12_tells 43 1 44 (.iconst 1) := ⟨by decide +kernel, rfl⟩
theorem dX12_tells_44 : dec cX12_tells 44 3 47 (.if_icmp .ne 18) := ⟨by decide +kernel, rfl⟩
theorem dX12_tells_47 : dec cX12_tells 47 1 48 (.aload_n 0) := ⟨by decide +kernel, rfl⟩
theorem dX12_tells_48 : dec cX12_tells 48 3 51 (.getfield 59) := ⟨by decide +kernel, rfl⟩
theorem dX12_tells_51 : dec cX12_tells 51 2 53 (.bipush 10) := ⟨by decide +kernel, rfl⟩
theorem dX12_tells_53 : dec cX12_tells 53 1 54 (.iload_n 3) := ⟨by decide +kernel, rfl⟩
theorem dX12_tells_54 : dec cX12_tells 54 1 55 (.imul) := ⟨by decide +kernel, rfl⟩
theorem dX12_tells_55 : dec cX12_tells 55 2 57 (.iload 6) := ⟨by decide +kernel, rfl⟩
theorem dX12_tells_57 : dec cX12_tells 57 1 58 (.iadd) := ⟨by decide +kernel, rfl⟩
theorem dX12_tells_58 : dec cX12_tells 58 1 59 (.laload) := ⟨by decide +kernel, rfl⟩
theorem dX12_tells_59 : dec cX12_tells 59 3 62 (.goto 4) := ⟨by decide +kernel, rfl⟩
theorem dX12_tells_62 : dec cX12_tells 62 1 63 (.lconst 0) := ⟨by decide +kernel, rfl⟩
theorem dX12_tells_63 : dec cX12_tells 63 1 64 (.ladd) := ⟨by decide +kernel, rfl⟩
theorem dX12_tells_64 : dec cX12_tells 64 2 66 (.lstore 4) := ⟨by decide +kernel, rfl⟩
theorem dX12_tells_66 : dec cX12_tells 66 3 69 (.iinc 6 1) := ⟨by decide +kernel, rfl⟩
theorem dX12_tells_69 : dec cX12_tells 69 3 72 (.goto (-45)) := ⟨by decide +kernel, rfl⟩
theorem dX12_tells_72 : dec cX12_tells 72 2 74 (.lload 4) := ⟨by decide +kernel, rfl⟩
theorem dX12_tells_74 : dec cX12_tells 74 1 75 (.lconst 0) := ⟨by decide +kernel, rfl⟩
theorem dX12_tells_75 : dec cX12_tells 75 1 76 (.lcmp) := ⟨by decide +kernel, rfl⟩
theorem dX12_tells_76 : dec cX12_tells 76 3 79 (.ifCond .le 7) := ⟨by decide +kernel, rfl⟩
theorem dX12_tells_79 : dec cX12_tells 79 1 80 (.iconst 1) := ⟨by decide +kernel, rfl⟩
theorem dX12_tells_80 : dec cX12_tells 80 3 83 (.goto 4) := ⟨by decide +kernel, rfl⟩
theorem dX12_tells_83 : dec cX12_tells 83 1 84 (.iconst 0) := ⟨by decide +kernel, rfl⟩
theorem dX12_tells_84 : dec cX12_tells 84 1 85 (.istore_n 2) := ⟨by decide +kernel, rfl⟩
theorem dX12_tells_85 : dec cX12_tells 85 3 88 (.iinc 3 1) := ⟨by decide +kernel, rfl⟩
theorem dX12_tells_88 : dec cX12_tells 88 3 91 (.goto (-84)) := ⟨by decide +kernel, rfl⟩
theorem dX12_tells_91 : dec cX12_tells 91 1 92 (.iload_n 2) := ⟨by decide +kernel, rfl⟩
theorem dX12_tells_92 : dec cX12_tells 92 1 93 (.ireturn) := ⟨by decide +kernel, rfl⟩
set_option maxHeartbeats 4000000 in
set_option maxRecDepth 100000 in
theorem tX12_tells_J63 {X : Cx} {Y : Yx} {M0 : Mem} (hC : OKX X Y RX12 cX12_tells 7 (some .boolean) rmX12_tells) (hF : Y.2.2.2.2 = true) (hL : Lay M0) (Q : Int → Mem → Prop) (C24 : Int → Int → Mem → Prop)  (a0 : Nat) (x1 : Int) (x3 : Int) (x6 : Int) (ls0 : Int) (ls1 : Int) (qa0 : 0 < a0 ∧ M0 0 a0 = kO 12) (hC24 : ∀ (l4 : Int) (x6 : Int) (M : Mem), C24 l4 x6 M → WW X Y 7 rmX12_tells (QI Q) M0 0 0 24 [(0, vR Y.1 a0), (1, vI x1), (3, vI x3), (4, vL l4), (6, vI x6)] [] M) (M : Mem) (h : wX12_tells_J63 Q C24 a0 x1 x3 x6 ls0 ls1 M) : WW X Y 7 rmX12_tells (QI Q) M0 0 0 63 [(0, vR Y.1 a0), (1, vI x1), (3, vI x3), (6, vI x6)] [vL ls0, vL ls1] M := by
  unfold wX12_tells_J63 at h
  refine r_ladd hC dX12_tells_63 ?_
  refine r_nameL h (fun x4_3 h => ?_)
  refine r_lstore (lv' := [(4, vL x4_3), (0, vR Y.1 a0), (1, vI x1), (3, vI x3), (6, vI x6)]) hC dX12_tells_64 (by decide) rfl ?_
  refine let_elim h (fun x6_4 e_5 h => ?_)
  refine r_iinc (lv' := [(6, vI x6_4), (4, vL x4_3), (0, vR Y.1 a0), (1, vI x1), (3, vI x3)]) hC 4 dX12_tells_66 rfl (by decide) e_5 rfl ?_
  refine r_goto hC 24 dX12_tells_69 (by decide) ?_
  refine r_sub [2, 3, 4, 1, 0] rfl ?_
  exact hC24 _ _ _ h
set_option maxHeartbeats 4000000 in
set_option maxRecDepth 100000 in
theorem tX12_tells_L24 {X : Cx} {Y : Yx} {M0 : Mem} (hC : OKX X Y RX12 cX12_tells 7 (some .boolean) rmX12_tells) (hF : Y.2.2.2.2 = true) (hL : Lay M0) (Q : Int → Mem → Prop) (E72 : Int → Mem → Prop) (a0 : Nat) (x1 : Int) (x3 : Int) (qa0 : 0 < a0 ∧ M0 0 a0 = kO 12) (hE72 : ∀ (l4 : Int) (M : Mem), E72 l4 M → WW X Y 7 rmX12_tells (QI Q) M0 0 0 72 [(0, vR Y.1 a0), (1, vI x1), (3, vI x3), (4, vL l4)] [] M) : ∀ (N : Nat) (l4 : Int) (x6 : Int) (M : Mem) (_ : wX12_tells_L24 Q E72 a0 x1 x3 N l4 x6 M), WW X Y 7 rmX12_tells (QI Q) M0 0 0 24 [(0, vR Y.1 a0), (1, vI x1), (3, vI x3), (4, vL l4), (6, vI x6)] [] M := by
  intro N
  induction N with
  | zero =>
    intro l4 x6 M h
    exact h.elim
  | succ N ih =>
    intro l4 x6 M h
    unfold wX12_tells_L24 at h
    refine r_iload hC 4 dX12_tells_24 rfl ?_
    refine r_aload_n hC 0 dX12_tells_26 rfl rfl ?_
    have q_2 : 0 < a0 + 1 ∧ M0 0 (a0 + 1) = kA 0 1522 := lay_f0 (a := a0) hL qa0 fm_12_0
    refine r_getR0 (a' := a0 + 1) hC fg_X12_7 rfl hF fm_12_0 qa0.1 qa0.2 rfl dX12_tells_27 ?_
    refine r_iconst hC dX12_tells_30 ?_
    refine r_iald hC ⟨by decide +kernel, by decide +kernel⟩ q_2.1 q_2.2 (by decide) dX12_tells_31 ?_
    refine r_icmp_ge hC 72 rfl rfl dX12_tells_32 (by decide) (fun cq => ?_) (fun cq => ?_)
    · replace h := h.1 cq
      refine r_sub [0, 1, 2, 3] rfl ?_
      exact hE72 _ _ h
    · replace h := h.2 cq
      refine r_lload hC 3 dX12_tells_35 rfl ?_
      refine r_iload_n hC 1 dX12_tells_37 rfl rfl ?_
      refine r_iload hC 4 dX12_tells_38 rfl ?_
      refine r_ishr hC dX12_tells_40 ?_
      refine r_iconst hC dX12_tells_41 ?_
      refine r_iand hC dX12_tells_42 ?_
      refine r_iconst hC dX12_tells_43 ?_
      refine r_icmp_ne hC 62 rfl bmL_1 dX12_tells_44 (by decide) (fun cq => ?_) (fun cq => ?_)
      · replace h := h.2 cq
        refine r_lconst (a := 0) hC (by decide +kernel) dX12_tells_62 ?_
        refine r_sub [0, 1, 2, 4] rfl ?_
        exact tX12_tells_J63 hC hF hL Q _  _ _ _ _ _ _ qa0 ih _ h
      · replace h := h.1 cq
        refine r_aload_n hC 0 dX12_tells_47 rfl rfl ?_
        have q_6 : 0 < a0 + 17 ∧ M0 0 (a0 + 17) = kA 3 80 := lay_f0 (a := a0) hL qa0 fm_12_31
        refine r_getR0 (a' := a0 + 17) hC fg_X12_59 rfl hF fm_12_31 qa0.1 qa0.2 rfl dX12_tells_48 ?_
        refine r_bipush hC (by decide +kernel) dX12_tells_51 ?_
        refine r_iload_n hC 2 dX12_tells_53 rfl rfl ?_
        refine r_imul hC dX12_tells_54 ?_
        refine r_iload hC 4 dX12_tells_55 rfl ?_
        refine r_iadd hC dX12_tells_57 ?_
        obtain ⟨i_7, h⟩ := h
        refine r_lald hC i_7 q_6.1 q_6.2 (by decide) dX12_tells_58 ?_
        refine r_goto hC 63 dX12_tells_59 (by decide) ?_
        refine r_sub [0, 1, 2, 4] rfl ?_
        exact tX12_tells_J63 hC hF hL Q _  _ _ _ _ _ _ qa0 ih _ h
set_option maxHeartbeats 4000000 in
set_option maxRecDepth 100000 in
theorem tX12_tells_J84 {X : Cx} {Y : Yx} {M0 : Mem} (hC : OKX X Y RX12 cX12_tells 7 (some .boolean) rmX12_tells) (hF : Y.2.2.2.2 = true) (hL : Lay M0) (Q : Int → Mem → Prop) (C4 : Int → Int → Mem → Prop)  (a0 : Nat) (x1 : Int) (x3 : Int) (xs0 : Int) (qa0 : 0 < a0 ∧ M0 0 a0 = kO 12) (hC4 : ∀ (x2 : Int) (x3 : Int) (M : Mem), C4 x2 x3 M → WW X Y 7 rmX12_tells (QI Q) M0 0 0 4 [(0, vR Y.1 a0), (1, vI x1), (2, vI x2), (3, vI x3)] [] M) (M : Mem) (h : wX12_tells_J84 Q C4 a0 x1 x3 xs0 M) : WW X Y 7 rmX12_tells (QI Q) M0 0 0 84 [(0, vR Y.1 a0), (1, vI x1), (3, vI x3)] [vI xs0] M := by
  unfold wX12_tells_J84 at h
  refine r_istore_n (lv' := [(2, vI xs0), (0, vR Y.1 a0), (1, vI x1), (3, vI x3)]) hC dX12_tells_84 rfl (by decide) rfl ?_
  refine let_elim h (fun x3_10 e_11 h => ?_)
  refine r_iinc (lv' := [(3, vI x3_10), (2, vI xs0), (0, vR Y.1 a0), (1, vI x1)]) hC 3 dX12_tells_85 rfl (by decide) e_11 rfl ?_
  refine r_goto hC 4 dX12_tells_88 (by decide) ?_
  refine r_sub [2, 3, 1, 0] rfl ?_
  exact hC4 _ _ _ h
set_option maxHeartbeats 4000000 in
set_option maxRecDepth 100000 in
theorem tX12_tells_L4 {X : Cx} {Y : Yx} {M0 : Mem} (hC : OKX X Y RX12 cX12_tells 7 (some .boolean) rmX12_tells) (hF : Y.2.2.2.2 = true) (hL : Lay M0) (Q : Int → Mem → Prop)  (a0 : Nat) (x1 : Int) (qa0 : 0 < a0 ∧ M0 0 a0 = kO 12)  : ∀ (N : Nat) (x2 : Int) (x3 : Int) (M : Mem) (_ : wX12_tells_L4 Q  a0 x1 N x2 x3 M), WW X Y 7 rmX12_tells (QI Q) M0 0 0 4 [(0, vR Y.1 a0), (1, vI x1), (2, vI x2), (3, vI x3)] [] M := by
  intro N
  induction N with
  | zero =>
    intro x2 x3 M h
    exact h.elim
  | succ N ih =>
    intro x2 x3 M h
    unfold wX12_tells_L4 at h
    refine r_iload_n hC 3 dX12_tells_4 rfl rfl ?_
    refine r_aload_n hC 0 dX12_tells_5 rfl rfl ?_
    have q_1 : 0 < a0 + 1 ∧ M0 0 (a0 + 1) = kA 0 1522 := lay_f0 (a := a0) hL qa0 fm_12_0
    refine r_getR0 (a' := a0 + 1) hC fg_X12_7 rfl hF fm_12_0 qa0.1 qa0.2 rfl dX12_tells_6 ?_
    refine r_iconst hC dX12_tells_9 ?_
    refine r_iald hC ⟨by decide +kernel, by decide +kernel⟩ q_1.1 q_1.2 (by decide) dX12_tells_10 ?_
    refine r_icmp_ge hC 91 rfl rfl dX12_tells_11 (by decide) (fun cq => ?_) (fun cq => ?_)
    · replace h := h.1 cq
      refine r_iload_n hC 2 dX12_tells_91 rfl rfl ?_
      exact r_zret hC h.1 (Nat.zero_le _) (Nat.zero_le _) dX12_tells_92 ⟨_, rfl, h.2⟩
    · replace h := h.2 cq
      refine r_iload_n hC 2 dX12_tells_14 rfl rfl ?_
      refine r_if_eq hC 91 rfl dX12_tells_15 (by decide) (fun cq => ?_) (fun cq => ?_)
      · replace h := h.1 cq
        refine r_iload_n hC 2 dX12_tells_91 rfl rfl ?_
        exact r_zret hC h.1 (Nat.zero_le _) (Nat.zero_le _) dX12_tells_92 ⟨_, rfl, h.2⟩
      · replace h := h.2 cq
        refine r_lconst (a := 0) hC (by decide +kernel) dX12_tells_18 ?_
        refine r_lstore (lv' := [(4, vL 0), (0, vR Y.1 a0), (1, vI x1), (2, vI x2), (3, vI x3)]) hC dX12_tells_19 (by decide) rfl ?_
        refine r_iconst hC dX12_tells_21 ?_
        refine r_istore (lv' := [(6, vI 0), (4, vL 0), (0, vR Y.1 a0), (1, vI x1), (2, vI x2), (3, vI x3)]) hC dX12_tells_22 (by decide) rfl ?_
        refine r_sub [2, 3, 5, 1, 0] rfl ?_
        obtain ⟨N_12, h⟩ := h
        refine tX12_tells_L24 hC hF hL Q _ _ _ _ qa0 ?_ N_12 _ _ _ h
        · intro l4_8 M_9 h
          refine r_lload hC 3 dX12_tells_72 rfl ?_
          refine r_lconst (a := 0) hC (by decide +kernel) dX12_tells_74 ?_
          refine r_lcmp hC dX12_tells_75 ?_
          refine r_if_le hC 83 rfl dX12_tells_76 (by decide) (fun cq => ?_) (fun cq => ?_)
          · replace h := h.1 cq
            refine r_iconst hC dX12_tells_83 ?_
            refine r_sub [0, 1, 2] rfl ?_
            exact tX12_tells_J84 hC hF hL Q _  _ _ _ _ qa0 ih _ h
          · replace h := h.2 cq
            refine r_iconst hC dX12_tells_79 ?_
            refine r_goto hC 84 dX12_tells_80 (by decide) ?_
            refine r_sub [0, 1, 2] rfl ?_
            exact tX12_tells_J84 hC hF hL Q _  _ _ _ _ qa0 ih _ h
set_option maxHeartbeats 4000000 in
set_option maxRecDepth 100000 in
theorem mX12_tells (Y : Yx) (hF : Y.2.2.2.2 = true) (l : Launch) (a0 : Nat) (x1 : Int) (M0 : Mem) (Q : Int → Mem → Prop) (qa0 : 0 < a0 ∧ M0 0 a0 = kO 12) (h : wX12_tells a0 x1 M0 Q) : CT Y l yX12_tells cX12_tells 7 (some .boolean) rmX12_tells [vR Y.1 a0, vI x1] M0 (QI Q) := by
  unfold wX12_tells at h
  refine ct_intro (by decide) (Nat.le_of_ble_eq_true rfl) ?_
  intro X hXl hC hL0
  have hL := hL0 hF
  change OKX X Y RX12 cX12_tells 7 (some .boolean) rmX12_tells at hC
  change WW X Y 7 rmX12_tells (QI Q) M0 0 0 0 [(0, vR Y.1 a0), (1, vI x1)] [] M0
  refine r_iconst hC dX12_tells_0 ?_
  refine r_istore_n (lv' := [(2, vI 1), (0, vR Y.1 a0), (1, vI x1)]) hC dX12_tells_1 rfl (by decide) rfl ?_
  refine r_iconst hC dX12_tells_2 ?_
  refine r_istore_n (lv' := [(3, vI 0), (2, vI 1), (0, vR Y.1 a0), (1, vI x1)]) hC dX12_tells_3 rfl (by decide) rfl ?_
  refine r_sub [2, 3, 1, 0] rfl ?_
  obtain ⟨N_13, h⟩ := h
  refine tX12_tells_L4 hC hF hL Q  _ _ qa0  N_13 _ _ _ h
theorem dX12_plain_0 : dec cX12_plain 0 1 1 (.iload_n 1) := ⟨by decide +kernel, rfl⟩
theorem dX12_plain_1 : dec cX12_plain 1 1 2 (.iconst (-1)) := ⟨by decide +kernel, rfl⟩
theorem dX12_plain_2 : dec cX12_plain 2 1 3 (.iconst 0) := ⟨by decide +kernel, rfl⟩
theorem dX12_plain_3 : dec cX12_plain 3 3 6 (.invokestatic 79) := ⟨by decide +kernel, rfl⟩
theorem dX12_plain_6 : dec cX12_plain 6 3 9 (.ifCond .ne 9) := ⟨by decide +kernel, rfl⟩
theorem dX12_plain_9 : dec cX12_plain 9 1 10 (.aload_n 0) := ⟨by decide +kernel, rfl⟩
theorem dX12_plain_10 : dec cX12_plain 10 1 11 (.iconst 1) := ⟨by decide +kernel, rfl⟩
theorem dX12_plain_11 : dec cX12_plain 11 3 14 (.invokevirtual 83) := ⟨by decide +kernel, rfl⟩
theorem dX12_plain_14 : dec cX12_plain 14 1 15 (.ireturn) := ⟨by decide +kernel, rfl⟩
theorem dX12_plain_15 : dec cX12_plain 15 1 16 (.iconst 0) := ⟨by decide +kernel, rfl⟩
theorem dX12_plain_16 : dec cX12_plain 16 1 17 (.istore_n 2) := ⟨by decide +kernel, rfl⟩
theorem dX12_plain_17 : dec cX12_plain 17 1 18 (.iload_n 2) := ⟨by decide +kernel, rfl⟩
theorem dX12_plain_18 : dec cX12_plain 18 2 20 (.bipush 80) := ⟨by decide +kernel, rfl⟩
theorem dX12_plain_20 : dec cX12_plain 20 3 23 (.if_icmp .ge 16) := ⟨by decide +kernel, rfl⟩
theorem dX12_plain_23 : dec cX12_plain 23 1 24 (.aload_n 0) := ⟨by decide +kernel, rfl⟩
theorem dX12_plain_24 : dec cX12_plain 24 3 27 (.getfield 59) := ⟨by decide +kernel, rfl⟩
theorem dX12_plain_27 : dec cX12_plain 27 1 28 (.iload_n 2) := ⟨by decide +kernel, rfl⟩
theorem dX12_plain_28 : dec cX12_plain 28 1 29 (.lconst 0) := ⟨by decide +kernel, rfl⟩
theorem dX12_plain_29 : dec cX12_plain 29 1 30 (.lastore) := ⟨by decide +kernel, rfl⟩
theorem dX12_plain_30 : dec cX12_plain 30 3 33 (.iinc 2 1) := ⟨by decide +kernel, rfl⟩
theorem dX12_plain_33 : dec cX12_plain 33 3 36 (.goto (-16)) := ⟨by decide +kernel, rfl⟩
theorem dX12_plain_36 : dec cX12_plain 36 1 37 (.iconst 0) := ⟨by decide +kernel, rfl⟩
theorem dX12_plain_37 : dec cX12_plain 37 1 38 (.istore_n 2) := ⟨by decide +kernel, rfl⟩
theorem dX12_plain_38 : dec cX12_plain 38 1 39 (.iload_n 2) := ⟨by decide +kernel, rfl⟩
theorem dX12_plain_39 : dec cX12_plain 39 1 40 (.aload_n 0) := ⟨by decide +kernel, rfl⟩
theorem dX12_plain_40 : dec cX12_plain 40 3 43 (.getfield 7) := ⟨by decide +kernel, rfl⟩
theorem dX12_plain_43 : dec cX12_plain 43 1 44 (.iconst 3) := ⟨by decide +kernel, rfl⟩
theorem dX12_plain_44 : dec cX12_plain 44 1 45 (.iaload) := ⟨by decide +kernel, rfl⟩
theorem dX12_plain_45 : dec cX12_plain 45 3 48 (.if_icmp .ge 42) := ⟨by decide +kernel, rfl⟩
theorem dX12_plain_48 : dec cX12_plain 48 1 49 (.aload_n 0) := ⟨by decide +kernel, rfl⟩
theorem dX12_plain_49 : dec cX12_plain 49 1 50 (.iload_n 2) := ⟨by decide +kernel, rfl⟩
theorem dX12_plain_50 : dec cX12_plain 50 3 53 (.sipush 1240) := ⟨by decide +kernel, rfl⟩
theorem dX12_plain_53 : dec cX12_plain 53 2 55 (.bipush 27) := ⟨by decide +kernel, rfl⟩
theorem dX12_plain_55 : dec cX12_plain 55 1 56 (.iload_n 2) := ⟨by decide +kernel, rfl⟩
theorem dX12_plain_56 : dec cX12_plain 56 1 57 (.imul) := ⟨by decide +kernel, rfl⟩
theorem dX12_plain_57 : dec cX12_plain 57 1 58 (.iadd) := ⟨by decide +kernel, rfl⟩
theorem dX12_plain_58 : dec cX12_plain 58 1 59 (.iconst 1) := ⟨by decide +kernel, rfl⟩
theorem dX12_plain_59 : dec cX12_plain 59 1 60 (.iadd) := ⟨by decide +kernel, rfl⟩
theorem dX12_plain_60 : dec cX12_plain 60 1 61 (.iconst 1) := ⟨by decide +kernel, rfl⟩
theorem dX12_plain_61 : dec cX12_plain 61 3 64 (.invokevirtual 298) := ⟨by decide +kernel, rfl⟩
theorem dX12_plain_64 : dec cX12_plain 64 1 65 (.aload_n 0) := ⟨by decide +kernel, rfl⟩
theorem dX12_plain_65 : dec cX12_plain 65 1 66 (.iload_n 2) := ⟨by decide +kernel, rfl⟩
theorem dX12_plain_66 : dec cX12_plain 66 3 69 (.sipush 1240) := ⟨by decide +kernel, rfl⟩
theorem dX12_plain_69 : dec cX12_plain 69 2 71 (.bipush 27) := ⟨by decide +kernel, rfl⟩
theorem dX12_plain_71 : dec cX12_plain 71 1 72 (.iload_n 2) := ⟨by decide +kernel, rfl⟩
theorem dX12_plain_72 : dec cX12_plain 72 1 73 (.imul) := ⟨by decide +kernel, rfl⟩
theorem dX12_plain_73 : dec cX12_plain 73 1 74 (.iadd) := ⟨by decide +kernel, rfl⟩
theorem dX12_plain_74 : dec cX12_plain 74 2 76 (.bipush 14) := ⟨by decide +kernel, rfl⟩
theorem dX12_plain_76 : dec cX12_plain 76 1 77 (.iadd) := ⟨by decide +kernel, rfl⟩
theorem dX12_plain_77 : dec cX12_plain 77 1 78 (.iconst (-1)) := ⟨by decide +kernel, rfl⟩
theorem dX12_plain_78 : dec cX12_plain 78 3 81 (.invokevirtual 298) := ⟨by decide +kernel, rfl⟩
theorem dX12_plain_81 : dec cX12_plain 81 3 84 (.iinc 2 1) := ⟨by decide +kernel, rfl⟩
theorem dX12_plain_84 : dec cX12_plain 84 3 87 (.goto (-46)) := ⟨by decide +kernel, rfl⟩
theorem dX12_plain_87 : dec cX12_plain 87 1 88 (.iconst 0) := ⟨by decide +kernel, rfl⟩
theorem dX12_plain_88 : dec cX12_plain 88 1 89 (.istore_n 2) := ⟨by decide +kernel, rfl⟩
theorem dX12_plain_89 : dec cX12_plain 89 1 90 (.iconst (-1)) := ⟨by decide +kernel, rfl⟩
theorem dX12_plain_90 : dec cX12_plain 90 1 91 (.istore_n 3) := ⟨by decide +kernel, rfl⟩
theorem dX12_plain_91 : dec cX12_plain 91 1 92 (.iconst 0) := ⟨by decide +kernel, rfl⟩
theorem dX12_plain_92 : dec cX12_plain 92 2 94 (.istore 4) := ⟨by decide +kernel, rfl⟩
theorem dX12_plain_94 : dec cX12_plain 94 2 96 (.iload 4) := ⟨by decide +kernel, rfl⟩
theorem dX12_plain_96 : dec cX12_plain 96 1 97 (.iconst 1) := ⟨by decide +kernel, rfl⟩
theorem dX12_plain_97 : dec cX12_plain 97 1 98 (.aload_n 0) := ⟨by decide +kernel, rfl⟩
theorem dX12_plain_98 : dec cX12_plain 98 3 101 (.getfield 7) := ⟨by decide +kernel, rfl⟩
theorem dX12_plain_101 : dec cX12_plain 101 1 102 (.iconst 1) := ⟨by decide +kernel, rfl⟩
theorem dX12_plain_102 : dec cX12_plain 102 1 103 (.iaload) := ⟨by decide +kernel, rfl⟩
theorem dX12_plain_103 : dec cX12_plain 103 1 104 (.ishl) := ⟨by decide +kernel, rfl⟩
theorem dX12_plain_104 : dec cX12_plain 104 3 107 (.if_icmp .ge 44) := ⟨by decide +kernel, rfl⟩
theorem dX12_plain_107 : dec cX12_plain 107 1 108 (.aload_n 0) := ⟨by decide +kernel, rfl⟩
theorem dX12_plain_108 : dec cX12_plain 108 2 110 (.iload 4) := ⟨by decide +kernel, rfl⟩
theorem dX12_plain_110 : dec cX12_plain 110 3 113 (.invokevirtual 302) := ⟨by decide +kernel, rfl⟩
theorem dX12_plain_113 : dec cX12_plain 113 3 116 (.ifCond .eq 29) := ⟨by decide +kernel, rfl⟩
theorem dX12_plain_116 : dec cX12_plain 116 3 119 (.iinc 2 1) := ⟨by decide +kernel, rfl⟩
theorem dX12_plain_119 : dec cX12_plain 119 1 120 (.iload_n 3) := ⟨by decide +kernel, rfl⟩
theorem dX12_plain_120 : dec cX12_plain 120 3 123 (.ifCond .lt 15) := ⟨by decide +kernel, rfl⟩
theorem dX12_plain_123 : dec cX12_plain 123 2 125 (.iload 4) := ⟨by decide +kernel, rfl⟩
theorem dX12_plain_125 : dec cX12_plain 125 3 128 (.invokestatic 156) := ⟨by decide +kernel, rfl⟩
theorem dX12_plain_128 : dec cX12_plain 128 1 129 (.iload_n 3) := ⟨by decide +kernel, rfl⟩
theorem dX12_plain_129 : dec cX12_plain 129 3 132 (.invokestatic 156) := ⟨by decide +kernel, rfl⟩
theorem dX12_plain_132 : dec cX12_plain 132 3 135 (.if_icmp .ge 8) := ⟨by decide +kernel, rfl⟩
theorem dX12_plain_135 : dec cX12_plain 135 2 137 (.iload 4) := ⟨by decide +kernel, rfl⟩
theorem dX12_plain_137 : dec cX12_plain 137 3 140 (.goto 4) := ⟨by decide +kernel, rfl⟩
theorem dX12_plain_140 : dec cX12_plain 140 1 141 (.iload_n 3) := ⟨by decide +kernel, rfl⟩
theorem dX12_plain_141 : dec cX12_plain 141 1 142 (.istore_n 3) := ⟨by decide +kernel, rfl⟩
theorem dX12_plain_142 : dec cX12_plain 142 3 145 (.iinc 4 1) := ⟨by decide +kernel, rfl⟩
theorem dX12_plain_145 : dec cX12_plain 145 3 148 (.goto (-51)) := ⟨by decide +kernel, rfl⟩
theorem dX12_plain_148 : dec cX12_plain 148 1 149 (.iload_n 1) := ⟨by decide +kernel, rfl⟩
theorem dX12_plain_149 : dec cX12_plain 149 3 152 (.ifCond .ge 7) := ⟨by decide +kernel, rfl⟩
theorem dX12_plain_152 : dec cX12_plain 152 1 153 (.iload_n 2) := ⟨by decide +kernel, rfl⟩
theorem dX12_plain_153 : dec cX12_plain 153 3 156 (.goto 16) := ⟨by decide +kernel, rfl⟩
theorem dX12_plain_156 : dec cX12_plain 156 1 157 (.iload_n 3) := ⟨by decide +kernel, rfl⟩
theorem dX12_plain_157 : dec cX12_plain 157 3 160 (.ifCond .ge 11) := ⟨by decide +kernel, rfl⟩
theorem dX12_plain_160 : dec cX12_plain 160 1 161 (.aload_n 0) := ⟨by decide +kernel, rfl⟩
theorem dX12_plain_161 : dec cX12_plain 161 1 162 (.iconst 2) := ⟨by decide +kernel, rfl⟩
theorem dX12_plain_162 : dec cX12_plain 162 3 165 (.invokevirtual 83) := ⟨by decide +kernel, rfl⟩
theorem dX12_plain_165 : dec cX12_plain 165 3 168 (.goto 4) := ⟨by decide +kernel, rfl⟩
theorem dX12_plain_168 : dec cX12_plain 168 1 169 (.iload_n 3) := ⟨by decide +kernel, rfl⟩
theorem dX12_plain_169 : dec cX12_plain 169 1 170 (.ireturn) := ⟨by decide +kernel, rfl⟩
set_option maxHeartbeats 4000000 in
set_option maxRecDepth 100000 in
theorem tX12_plain_L17 {X : Cx} {Y : Yx} {M0 : Mem} (hC : OKX X Y RX12 cX12_plain 5 (some .int) rmX12_plain) (hF : Y.2.2.2.2 = true) (hL : Lay M0) (Q : Int → Mem → Prop) (E36 : Mem → Prop) (a0 : Nat) (x1 : Int) (qa0 : 0 < a0 ∧ M0 0 a0 = kO 12) (hE36 : ∀  (M : Mem), E36  M → WW X Y 5 rmX12_plain (QI Q) M0 0 0 36 [(0, vR Y.1 a0), (1, vI x1)] [] M) : ∀ (N : Nat) (x2 : Int) (M : Mem) (_ : wX12_plain_L17 Q E36 a0 x1 N x2 M), WW X Y 5 rmX12_plain (QI Q) M0 0 0 17 [(0, vR Y.1 a0), (1, vI x1), (2, vI x2)] [] M := by
  intro N
  induction N with
  | zero =>
    intro x2 M h
    exact h.elim
  | succ N ih =>
    intro x2 M h
    unfold wX12_plain_L17 at h
    refine r_iload_n hC 2 dX12_plain_17 rfl rfl ?_
    refine r_bipush hC (by decide +kernel) dX12_plain_18 ?_
    refine r_icmp_ge hC 36 rfl bmL_80 dX12_plain_20 (by decide) (fun cq => ?_) (fun cq => ?_)
    · replace h := h.1 cq
      refine r_sub [0, 1] rfl ?_
      exact hE36  _ h
    · replace h := h.2 cq
      refine r_aload_n hC 0 dX12_plain_23 rfl rfl ?_
      have q_3 : 0 < a0 + 17 ∧ M0 0 (a0 + 17) = kA 3 80 := lay_f0 (a := a0) hL qa0 fm_12_31
      refine r_getR0 (a' := a0 + 17) hC fg_X12_59 rfl hF fm_12_31 qa0.1 qa0.2 rfl dX12_plain_24 ?_
      refine r_iload_n hC 2 dX12_plain_27 rfl rfl ?_
      refine r_lconst (a := 0) hC (by decide +kernel) dX12_plain_28 ?_
      obtain ⟨i_4, h⟩ := h
      refine r_last hC i_4 q_3.1 q_3.2 (by decide) dX12_plain_29 ?_
      refine r_nameM h (fun M_5 h => ?_)
      refine let_elim h (fun x2_6 e_7 h => ?_)
      refine r_iinc (lv' := [(2, vI x2_6), (0, vR Y.1 a0), (1, vI x1)]) hC 2 dX12_plain_30 rfl (by decide) e_7 rfl ?_
      refine r_goto hC 17 dX12_plain_33 (by decide) ?_
      refine r_sub [1, 2, 0] rfl ?_
      exact ih _ _ h
set_option maxHeartbeats 4000000 in
set_option maxRecDepth 100000 in
theorem tX12_plain_L38 {X : Cx} {Y : Yx} {M0 : Mem} (hC : OKX X Y RX12 cX12_plain 5 (some .int) rmX12_plain) (hF : Y.2.2.2.2 = true) (hL : Lay M0) (Q : Int → Mem → Prop) (E87 : Mem → Prop) (a0 : Nat) (x1 : Int) (qa0 : 0 < a0 ∧ M0 0 a0 = kO 12) (hE87 : ∀  (M : Mem), E87  M → WW X Y 5 rmX12_plain (QI Q) M0 0 0 87 [(0, vR Y.1 a0), (1, vI x1)] [] M) : ∀ (N : Nat) (x2 : Int) (M : Mem) (_ : wX12_plain_L38 Q E87 a0 x1 N x2 M), WW X Y 5 rmX12_plain (QI Q) M0 0 0 38 [(0, vR Y.1 a0), (1, vI x1), (2, vI x2)] [] M := by
  intro N
  induction N with
  | zero =>
    intro x2 M h
    exact h.elim
  | succ N ih =>
    intro x2 M h
    unfold wX12_plain_L38 at h
    refine r_iload_n hC 2 dX12_plain_38 rfl rfl ?_
    refine r_aload_n hC 0 dX12_plain_39 rfl rfl ?_
    have q_9 : 0 < a0 + 1 ∧ M0 0 (a0 + 1) = kA 0 1522 := lay_f0 (a := a0) hL qa0 fm_12_0
    refine r_getR0 (a' := a0 + 1) hC fg_X12_7 rfl hF fm_12_0 qa0.1 qa0.2 rfl dX12_plain_40 ?_
    refine r_iconst hC dX12_plain_43 ?_
    refine r_iald hC ⟨by decide +kernel, by decide +kernel⟩ q_9.1 q_9.2 (by decide) dX12_plain_44 ?_
    refine r_icmp_ge hC 87 rfl rfl dX12_plain_45 (by decide) (fun cq => ?_) (fun cq => ?_)
    · replace h := h.1 cq
      refine r_sub [0, 1] rfl ?_
      exact hE87  _ h
    · replace h := h.2 cq
      refine r_aload_n hC 0 dX12_plain_48 rfl rfl ?_
      refine r_iload_n hC 2 dX12_plain_49 rfl rfl ?_
      refine r_sipush hC (by decide +kernel) dX12_plain_50 ?_
      refine r_bipush hC (by decide +kernel) dX12_plain_53 ?_
      refine r_iload_n hC 2 dX12_plain_55 rfl rfl ?_
      refine r_imul hC dX12_plain_56 ?_
      refine r_iadd hC dX12_plain_57 ?_
      refine r_iconst hC dX12_plain_58 ?_
      refine r_iadd hC dX12_plain_59 ?_
      refine r_iconst hC dX12_plain_60 ?_
      refine r_callV (As := [vI x2, vI ((1240 + (27 * x2)) + 1), vI 1]) (st := []) hC cw_X12_298 rfl qa0.1 qa0.2 rfl rfl (Nat.le_of_ble_eq_true rfl) ⟨Nat.le_of_ble_eq_true rfl, Nat.le_of_ble_eq_true rfl⟩ ⟨Nat.le_of_ble_eq_true rfl, Nat.le_of_ble_eq_true rfl⟩ dX12_plain_61 (fun hk => mX12_adds Y hF _ _ _ _ _ _ _ (kqO hk qa0) h) (fun v M_10 h => ?_)
      obtain ⟨rfl, h⟩ := h
      refine r_aload_n hC 0 dX12_plain_64 rfl rfl ?_
      refine r_iload_n hC 2 dX12_plain_65 rfl rfl ?_
      refine r_sipush hC (by decide +kernel) dX12_plain_66 ?_
      refine r_bipush hC (by decide +kernel) dX12_plain_69 ?_
      refine r_iload_n hC 2 dX12_plain_71 rfl rfl ?_
      refine r_imul hC dX12_plain_72 ?_
      refine r_iadd hC dX12_plain_73 ?_
      refine r_bipush hC (by decide +kernel) dX12_plain_74 ?_
      refine r_iadd hC dX12_plain_76 ?_
      refine r_iconst hC dX12_plain_77 ?_
      refine r_callV (As := [vI x2, vI ((1240 + (27 * x2)) + 14), vI ((-1))]) (st := []) hC cw_X12_298 rfl qa0.1 qa0.2 rfl rfl (Nat.le_of_ble_eq_true rfl) ⟨Nat.le_of_ble_eq_true rfl, Nat.le_of_ble_eq_true rfl⟩ ⟨Nat.le_of_ble_eq_true rfl, Nat.le_of_ble_eq_true rfl⟩ dX12_plain_78 (fun hk => mX12_adds Y hF _ _ _ _ _ _ _ (kqO hk qa0) h) (fun v M_11 h => ?_)
      obtain ⟨rfl, h⟩ := h
      refine let_elim h (fun x2_12 e_13 h => ?_)
      refine r_iinc (lv' := [(2, vI x2_12), (0, vR Y.1 a0), (1, vI x1)]) hC 2 dX12_plain_81 rfl (by decide) e_13 rfl ?_
      refine r_goto hC 38 dX12_plain_84 (by decide) ?_
      refine r_sub [1, 2, 0] rfl ?_
      exact ih _ _ h
set_option maxHeartbeats 4000000 in
set_option maxRecDepth 100000 in
theorem tX12_plain_J141 {X : Cx} {Y : Yx} {M0 : Mem} (hC : OKX X Y RX12 cX12_plain 5 (some .int) rmX12_plain) (hF : Y.2.2.2.2 = true) (hL : Lay M0) (Q : Int → Mem → Prop) (C94 : Int → Int → Int → Mem → Prop)  (a0 : Nat) (x1 : Int) (x2 : Int) (x4 : Int) (xs0 : Int) (qa0 : 0 < a0 ∧ M0 0 a0 = kO 12) (hC94 : ∀ (x2 : Int) (x3 : Int) (x4 : Int) (M : Mem), C94 x2 x3 x4 M → WW X Y 5 rmX12_plain (QI Q) M0 0 0 94 [(0, vR Y.1 a0), (1, vI x1), (2, vI x2), (3, vI x3), (4, vI x4)] [] M) (M : Mem) (h : wX12_plain_J141 Q C94 a0 x1 x2 x4 xs0 M) : WW X Y 5 rmX12_plain (QI Q) M0 0 0 141 [(0, vR Y.1 a0), (1, vI x1), (2, vI x2), (4, vI x4)] [vI xs0] M := by
  unfold wX12_plain_J141 at h
  refine r_istore_n (lv' := [(3, vI xs0), (0, vR Y.1 a0), (1, vI x1), (2, vI x2), (4, vI x4)]) hC dX12_plain_141 rfl (by decide) rfl ?_
  refine let_elim h (fun x4_23 e_24 h => ?_)
  refine r_iinc (lv' := [(4, vI x4_23), (3, vI xs0), (0, vR Y.1 a0), (1, vI x1), (2, vI x2)]) hC 4 dX12_plain_142 rfl (by decide) e_24 rfl ?_
  refine r_goto hC 94 dX12_plain_145 (by decide) ?_
  refine r_sub [2, 3, 4, 1, 0] rfl ?_
  exact hC94 _ _ _ _ h
set_option maxHeartbeats 4000000 in
set_option maxRecDepth 100000 in
theorem tX12_plain_J135 {X : Cx} {Y : Yx} {M0 : Mem} (hC : OKX X Y RX12 cX12_plain 5 (some .int) rmX12_plain) (hF : Y.2.2.2.2 = true) (hL : Lay M0) (Q : Int → Mem → Prop) (C94 : Int → Int → Int → Mem → Prop)  (a0 : Nat) (x1 : Int) (x2 : Int) (x4 : Int) (qa0 : 0 < a0 ∧ M0 0 a0 = kO 12) (hC94 : ∀ (x2 : Int) (x3 : Int) (x4 : Int) (M : Mem), C94 x2 x3 x4 M → WW X Y 5 rmX12_plain (QI Q) M0 0 0 94 [(0, vR Y.1 a0), (1, vI x1), (2, vI x2), (3, vI x3), (4, vI x4)] [] M) (M : Mem) (h : wX12_plain_J135 Q C94 a0 x1 x2 x4 M) : WW X Y 5 rmX12_plain (QI Q) M0 0 0 135 [(0, vR Y.1 a0), (1, vI x1), (2, vI x2), (4, vI x4)] [] M := by
  unfold wX12_plain_J135 at h
  refine r_iload hC 3 dX12_plain_135 rfl ?_
  refine r_goto hC 141 dX12_plain_137 (by decide) ?_
  refine r_sub [0, 1, 2, 3] rfl ?_
  exact tX12_plain_J141 hC hF hL Q _  _ _ _ _ _ qa0 hC94 _ h
set_option maxHeartbeats 4000000 in
set_option maxRecDepth 100000 in
theorem tX12_plain_L94 {X : Cx} {Y : Yx} {M0 : Mem} (hC : OKX X Y RX12 cX12_plain 5 (some .int) rmX12_plain) (hF : Y.2.2.2.2 = true) (hL : Lay M0) (Q : Int → Mem → Prop) (E148 : Int → Int → Mem → Prop) (a0 : Nat) (x1 : Int) (qa0 : 0 < a0 ∧ M0 0 a0 = kO 12) (hE148 : ∀ (x2 : Int) (x3 : Int) (M : Mem), E148 x2 x3 M → WW X Y 5 rmX12_plain (QI Q) M0 0 0 148 [(0, vR Y.1 a0), (1, vI x1), (2, vI x2), (3, vI x3)] [] M) : ∀ (N : Nat) (x2 : Int) (x3 : Int) (x4 : Int) (M : Mem) (_ : wX12_plain_L94 Q E148 a0 x1 N x2 x3 x4 M), WW X Y 5 rmX12_plain (QI Q) M0 0 0 94 [(0, vR Y.1 a0), (1, vI x1), (2, vI x2), (3, vI x3), (4, vI x4)] [] M := by
  intro N
  induction N with
  | zero =>
    intro x2 x3 x4 M h
    exact h.elim
  | succ N ih =>
    intro x2 x3 x4 M h
    unfold wX12_plain_L94 at h
    refine r_iload hC 4 dX12_plain_94 rfl ?_
    refine r_iconst hC dX12_plain_96 ?_
    refine r_aload_n hC 0 dX12_plain_97 rfl rfl ?_
    have q_16 : 0 < a0 + 1 ∧ M0 0 (a0 + 1) = kA 0 1522 := lay_f0 (a := a0) hL qa0 fm_12_0
    refine r_getR0 (a' := a0 + 1) hC fg_X12_7 rfl hF fm_12_0 qa0.1 qa0.2 rfl dX12_plain_98 ?_
    refine r_iconst hC dX12_plain_101 ?_
    refine r_iald hC ⟨by decide +kernel, by decide +kernel⟩ q_16.1 q_16.2 (by decide) dX12_plain_102 ?_
    refine r_ishl hC dX12_plain_103 ?_
    refine r_icmp_ge hC 148 rfl rfl dX12_plain_104 (by decide) (fun cq => ?_) (fun cq => ?_)
    · replace h := h.1 cq
      refine r_sub [0, 1, 2, 3] rfl ?_
      exact hE148 _ _ _ h
    · replace h := h.2 cq
      refine r_aload_n hC 0 dX12_plain_107 rfl rfl ?_
      refine r_iload hC 4 dX12_plain_108 rfl ?_
      refine r_callV (As := [vI x4]) (st := []) hC cw_X12_302 rfl qa0.1 qa0.2 rfl rfl (Nat.le_of_ble_eq_true rfl) ⟨Nat.le_of_ble_eq_true rfl, Nat.le_of_ble_eq_true rfl⟩ ⟨Nat.le_of_ble_eq_true rfl, Nat.le_of_ble_eq_true rfl⟩ dX12_plain_110 (fun hk => mX12_tells Y hF _ _ _ _ _ (kqO hk qa0) h) (fun v M_17 h => ?_)
      obtain ⟨r_18, rfl, h⟩ := h
      refine r_if_eq hC 142 rfl dX12_plain_113 (by decide) (fun cq => ?_) (fun cq => ?_)
      · replace h := h.1 cq
        refine let_elim h (fun x4_19 e_20 h => ?_)
        refine r_iinc (lv' := [(4, vI x4_19), (0, vR Y.1 a0), (1, vI x1), (2, vI x2), (3, vI x3)]) hC 4 dX12_plain_142 rfl (by decide) e_20 rfl ?_
        refine r_goto hC 94 dX12_plain_145 (by decide) ?_
        refine r_sub [1, 2, 3, 4, 0] rfl ?_
        exact ih _ _ _ _ h
      · replace h := h.2 cq
        refine let_elim h (fun x2_21 e_22 h => ?_)
        refine r_iinc (lv' := [(2, vI x2_21), (0, vR Y.1 a0), (1, vI x1), (3, vI x3), (4, vI x4)]) hC 2 dX12_plain_116 rfl (by decide) e_22 rfl ?_
        refine r_iload_n hC 3 dX12_plain_119 rfl rfl ?_
        refine r_if_lt hC 135 rfl dX12_plain_120 (by decide) (fun cq => ?_) (fun cq => ?_)
        · replace h := h.1 cq
          refine r_sub [1, 2, 0, 4] rfl ?_
          exact tX12_plain_J135 hC hF hL Q _  _ _ _ _ qa0 ih _ h
        · replace h := h.2 cq
          refine r_iload hC 4 dX12_plain_123 rfl ?_
          refine r_callS (As := [vI x4]) (st := []) hC cw_X12_156 rfl rfl (Nat.le_of_ble_eq_true rfl) ⟨Nat.le_of_ble_eq_true rfl, Nat.le_of_ble_eq_true rfl⟩ ⟨Nat.le_of_ble_eq_true rfl, Nat.le_of_ble_eq_true rfl⟩ dX12_plain_125 (fun hk => mX12_ones Y hF _ _ _ _  h) (fun v M_25 h => ?_)
          obtain ⟨r_26, rfl, h⟩ := h
          refine r_iload_n hC 3 dX12_plain_128 rfl rfl ?_
          refine r_callS (As := [vI x3]) (st := [vI r_26]) hC cw_X12_156 rfl rfl (Nat.le_of_ble_eq_true rfl) ⟨Nat.le_of_ble_eq_true rfl, Nat.le_of_ble_eq_true rfl⟩ ⟨Nat.le_of_ble_eq_true rfl, Nat.le_of_ble_eq_true rfl⟩ dX12_plain_129 (fun hk => mX12_ones Y hF _ _ _ _  h) (fun v M_27 h => ?_)
          obtain ⟨r_28, rfl, h⟩ := h
          refine r_icmp_ge hC 140 rfl rfl dX12_plain_132 (by decide) (fun cq => ?_) (fun cq => ?_)
          · replace h := h.1 cq
            refine r_iload_n hC 3 dX12_plain_140 rfl rfl ?_
            refine r_sub [1, 2, 0, 4] rfl ?_
            exact tX12_plain_J141 hC hF hL Q _  _ _ _ _ _ qa0 ih _ h
          · replace h := h.2 cq
            refine r_sub [1, 2, 0, 4] rfl ?_
            exact tX12_plain_J135 hC hF hL Q _  _ _ _ _ qa0 ih _ h
set_option maxHeartbeats 4000000 in
set_option maxRecDepth 100000 in
theorem mX12_plain (Y : Yx) (hF : Y.2.2.2.2 = true) (l : Launch) (a0 : Nat) (x1 : Int) (M0 : Mem) (Q : Int → Mem → Prop) (qa0 : 0 < a0 ∧ M0 0 a0 = kO 12) (h : wX12_plain a0 x1 M0 Q) : CT Y l yX12_plain cX12_plain 5 (some .int) rmX12_plain [vR Y.1 a0, vI x1] M0 (QI Q) := by
  unfold wX12_plain at h
  refine ct_intro (by decide) (Nat.le_of_ble_eq_true rfl) ?_
  intro X hXl hC hL0
  have hL := hL0 hF
  change OKX X Y RX12 cX12_plain 5 (some .int) rmX12_plain at hC
  change WW X Y 5 rmX12_plain (QI Q) M0 0 0 0 [(0, vR Y.1 a0), (1, vI x1)] [] M0
  refine r_iload_n hC 1 dX12_plain_0 rfl rfl ?_
  refine r_iconst hC dX12_plain_1 ?_
  refine r_iconst hC dX12_plain_2 ?_
  refine r_callS (As := [vI x1, vI ((-1)), vI 0]) (st := []) hC cw_X12_79 rfl rfl (Nat.le_of_ble_eq_true rfl) ⟨Nat.le_of_ble_eq_true rfl, Nat.le_of_ble_eq_true rfl⟩ ⟨Nat.le_of_ble_eq_true rfl, Nat.le_of_ble_eq_true rfl⟩ dX12_plain_3 (fun hk => mX12_in Y hF _ _ _ _ _ _  h) (fun v M_1 h => ?_)
  obtain ⟨r_2, rfl, h⟩ := h
  refine r_if_ne hC 15 rfl dX12_plain_6 (by decide) (fun cq => ?_) (fun cq => ?_)
  · replace h := h.2 cq
    refine r_iconst hC dX12_plain_15 ?_
    refine r_istore_n (lv' := [(2, vI 0), (0, vR Y.1 a0), (1, vI x1)]) hC dX12_plain_16 rfl (by decide) rfl ?_
    refine r_sub [1, 2, 0] rfl ?_
    obtain ⟨N_36, h⟩ := h
    refine tX12_plain_L17 hC hF hL Q _ _ _ qa0 ?_ N_36 _ _ h
    · intro M_8 h
      refine r_iconst hC dX12_plain_36 ?_
      refine r_istore_n (lv' := [(2, vI 0), (0, vR Y.1 a0), (1, vI x1)]) hC dX12_plain_37 rfl (by decide) rfl ?_
      refine r_sub [1, 2, 0] rfl ?_
      obtain ⟨N_35, h⟩ := h
      refine tX12_plain_L38 hC hF hL Q _ _ _ qa0 ?_ N_35 _ _ h
      · intro M_14 h
        refine r_iconst hC dX12_plain_87 ?_
        refine r_istore_n (lv' := [(2, vI 0), (0, vR Y.1 a0), (1, vI x1)]) hC dX12_plain_88 rfl (by decide) rfl ?_
        refine r_iconst hC dX12_plain_89 ?_
        refine r_nameI h (fun x3_15 h => ?_)
        refine r_istore_n (lv' := [(3, vI x3_15), (2, vI 0), (0, vR Y.1 a0), (1, vI x1)]) hC dX12_plain_90 rfl (by decide) rfl ?_
        refine r_iconst hC dX12_plain_91 ?_
        refine r_istore (lv' := [(4, vI 0), (3, vI x3_15), (2, vI 0), (0, vR Y.1 a0), (1, vI x1)]) hC dX12_plain_92 (by decide) rfl ?_
        refine r_sub [3, 4, 2, 1, 0] rfl ?_
        obtain ⟨N_34, h⟩ := h
        refine tX12_plain_L94 hC hF hL Q _ _ _ qa0 ?_ N_34 _ _ _ _ h
        · intro x2_29 x3_30 M_31 h
          refine r_iload_n hC 1 dX12_plain_148 rfl rfl ?_
          refine r_if_ge hC 156 rfl dX12_plain_149 (by decide) (fun cq => ?_) (fun cq => ?_)
          · replace h := h.1 cq
            refine r_iload_n hC 3 dX12_plain_156 rfl rfl ?_
            refine r_if_ge hC 168 rfl dX12_plain_157 (by decide) (fun cq => ?_) (fun cq => ?_)
            · replace h := h.1 cq
              refine r_iload_n hC 3 dX12_plain_168 rfl rfl ?_
              exact r_iret hC (Nat.zero_le _) (Nat.zero_le _) dX12_plain_169 ⟨_, rfl, h⟩
            · replace h := h.2 cq
              refine r_aload_n hC 0 dX12_plain_160 rfl rfl ?_
              refine r_iconst hC dX12_plain_161 ?_
              refine r_callV (As := [vI 2]) (st := []) hC cw_X12_83 rfl qa0.1 qa0.2 rfl rfl (Nat.le_of_ble_eq_true rfl) ⟨Nat.le_of_ble_eq_true rfl, Nat.le_of_ble_eq_true rfl⟩ ⟨Nat.le_of_ble_eq_true rfl, Nat.le_of_ble_eq_true rfl⟩ dX12_plain_162 (fun hk => mX12_error Y hF _ _ _ _ _ (kqO hk qa0) h) (fun v M_32 h => ?_)
              obtain ⟨r_33, rfl, h⟩ := h
              refine r_goto hC 169 dX12_plain_165 (by decide) ?_
              exact r_iret hC (Nat.zero_le _) (Nat.zero_le _) dX12_plain_169 ⟨_, rfl, h⟩
          · replace h := h.2 cq
            refine r_iload_n hC 2 dX12_plain_152 rfl rfl ?_
            refine r_goto hC 169 dX12_plain_153 (by decide) ?_
            exact r_iret hC (Nat.zero_le _) (Nat.zero_le _) dX12_plain_169 ⟨_, rfl, h⟩
  · replace h := h.1 cq
    refine r_aload_n hC 0 dX12_plain_9 rfl rfl ?_
    refine r_iconst hC dX12_plain_10 ?_
    refine r_callV (As := [vI 1]) (st := []) hC cw_X12_83 rfl qa0.1 qa0.2 rfl rfl (Nat.le_of_ble_eq_true rfl) ⟨Nat.le_of_ble_eq_true rfl, Nat.le_of_ble_eq_true rfl⟩ ⟨Nat.le_of_ble_eq_true rfl, Nat.le_of_ble_eq_true rfl⟩ dX12_plain_11 (fun hk => mX12_error Y hF _ _ _ _ _ (kqO hk qa0) h) (fun v M_37 h => ?_)
    obtain ⟨r_38, rfl, h⟩ := h
    exact r_iret hC (Nat.zero_le _) (Nat.zero_le _) dX12_plain_14 ⟨_, rfl, h⟩
theorem dX12_body_0 : dec cX12_body 0 1 1 (.aload_n 0) := ⟨by decide +kernel, rfl⟩
theorem dX12_body_1 : dec cX12_body 1 3 4 (.getfield 305) := ⟨by decide +kernel, rfl⟩
theorem dX12_body_4 : dec cX12_body 4 2 6 (.bipush 30) := ⟨by decide +kernel, rfl⟩
theorem dX12_body_6 : dec cX12_body 6 3 9 (.if_icmp .ge 23) := ⟨by decide +kernel, rfl⟩
theorem dX12_body_9 : dec cX12_body 9 1 10 (.aload_n 0) := ⟨by decide +kernel, rfl⟩
theorem dX12_body_10 : dec cX12_body 10 3 13 (.getfield 63) := ⟨by decide +kernel, rfl⟩
theorem dX12_body_13 : dec cX12_body 13 1 14 (.aload_n 0) := ⟨by decide +kernel, rfl⟩
theorem dX12_body_14 : dec cX12_body 14 3 17 (.getfield 305) := ⟨by decide +kernel, rfl⟩
theorem dX12_body_17 : dec cX12_body 17 1 18 (.iload_n 1) := ⟨by decide +kernel, rfl⟩
theorem dX12_body_18 : dec cX12_body 18 1 19 (.iastore) := ⟨by decide +kernel, rfl⟩
theorem dX12_body_19 : dec cX12_body 19 1 20 (.aload_n 0) := ⟨by decide +kernel, rfl⟩
theorem dX12_body_20 : dec cX12_body 20 1 21 (.dup) := ⟨by decide +kernel, rfl⟩
theorem dX12_body_21 : dec cX12_body 21 3 24 (.getfield 305) := ⟨by decide +kernel, rfl⟩
theorem dX12_body_24 : dec cX12_body 24 1 25 (.iconst 1) := ⟨by decide +kernel, rfl⟩
theorem dX12_body_25 : dec cX12_body 25 1 26 (.iadd) := ⟨by decide +kernel, rfl⟩
theorem dX12_body_26 : dec cX12_body 26 3 29 (.putfield 305) := ⟨by decide +kernel, rfl⟩
theorem dX12_body_29 : dec cX12_body 29 1 30 (.return_) := ⟨by decide +kernel, rfl⟩
set_option maxHeartbeats 4000000 in
set_option maxRecDepth 100000 in
theorem mX12_body (Y : Yx) (hF : Y.2.2.2.2 = true) (l : Launch) (a0 : Nat) (x1 : Int) (M0 : Mem) (Q : Mem → Prop) (qa0 : 0 < a0 ∧ M0 0 a0 = kO 12) (h : wX12_body a0 x1 M0 Q) : CT Y l yX12_body cX12_body 2 none rmX12_body [vR Y.1 a0, vI x1] M0 (QV Q) := by
  unfold wX12_body at h
  refine ct_intro (by decide) (Nat.le_of_ble_eq_true rfl) ?_
  intro X hXl hC hL0
  have hL := hL0 hF
  change OKX X Y RX12 cX12_body 2 none rmX12_body at hC
  change WW X Y 2 rmX12_body (QV Q) M0 0 0 0 [(0, vR Y.1 a0), (1, vI x1)] [] M0
  refine r_aload_n hC 0 dX12_body_0 rfl rfl ?_
  refine r_getI hC fg_X12_305 rfl qa0.1 qa0.2 dX12_body_1 ?_
  refine r_bipush hC (by decide +kernel) dX12_body_4 ?_
  refine r_icmp_ge hC 29 rfl bmL_30 dX12_body_6 (by decide) (fun cq => ?_) (fun cq => ?_)
  · replace h := h.1 cq
    exact r_vret hC (Nat.zero_le _) (Nat.zero_le _) dX12_body_29 ⟨rfl, h⟩
  · replace h := h.2 cq
    refine r_aload_n hC 0 dX12_body_9 rfl rfl ?_
    have q_1 : 0 < a0 + 18 ∧ M0 0 (a0 + 18) = kA 0 30 := lay_f0 (a := a0) hL qa0 fm_12_32
    refine r_getR0 (a' := a0 + 18) hC fg_X12_63 rfl hF fm_12_32 qa0.1 qa0.2 rfl dX12_body_10 ?_
    refine r_aload_n hC 0 dX12_body_13 rfl rfl ?_
    refine r_getI hC fg_X12_305 rfl qa0.1 qa0.2 dX12_body_14 ?_
    refine r_iload_n hC 1 dX12_body_17 rfl rfl ?_
    obtain ⟨i_2, h⟩ := h
    refine r_iast hC i_2 q_1.1 q_1.2 (by decide) dX12_body_18 ?_
    refine r_nameM h (fun M_3 h => ?_)
    refine r_aload_n hC 0 dX12_body_19 rfl rfl ?_
    refine r_dup hC rfl dX12_body_20 ?_
    refine r_getI hC fg_X12_305 rfl qa0.1 qa0.2 dX12_body_21 ?_
    refine r_iconst hC dX12_body_24 ?_
    refine r_iadd hC dX12_body_25 ?_
    refine r_putI hC fp_X12_305 rfl qa0.1 qa0.2 dX12_body_26 ?_
    refine r_nameM h (fun M_4 h => ?_)
    exact r_vret hC (Nat.zero_le _) (Nat.zero_le _) dX12_body_29 ⟨rfl, h⟩
theorem dX12_above_0 : dec cX12_above 0 1 1 (.iload_n 0) := ⟨by decide +kernel, rfl⟩
theorem dX12_above_1 : dec cX12_above 1 1 2 (.iconst 5) := ⟨by decide +kernel, rfl⟩
theorem dX12_above_2 : dec cX12_above 2 3 5 (.if_icmp .ne 7) := ⟨by decide +kernel, rfl⟩
theorem dX12_above_5 : dec cX12_above 5 1 6 (.iconst 1) := ⟨by decide +kernel, rfl⟩
theorem dX12_above_6 : dec cX12_above 6 3 9 (.goto 4) := ⟨by decide +kernel, rfl⟩
theorem dX12_above_9 : dec cX12_above 9 1 10 (.iconst 0) := ⟨by decide +kernel, rfl⟩
theorem dX12_above_10 : dec cX12_above 10 1 11 (.ireturn) := ⟨by decide +kernel, rfl⟩
set_option maxHeartbeats 4000000 in
set_option maxRecDepth 100000 in
theorem mX12_above (Y : Yx) (hF : Y.2.2.2.2 = true) (l : Launch) (x0 : Int) (M0 : Mem) (Q : Int → Mem → Prop)  (h : wX12_above x0 M0 Q) : CT Y l yX12_above cX12_above 1 (some .int) rmX12_above [vI x0] M0 (QI Q) := by
  unfold wX12_above at h
  refine ct_intro (by decide) (Nat.le_of_ble_eq_true rfl) ?_
  intro X hXl hC hL0
  have hL := hL0 hF
  change OKX X Y RX12 cX12_above 1 (some .int) rmX12_above at hC
  change WW X Y 1 rmX12_above (QI Q) M0 0 0 0 [(0, vI x0)] [] M0
  refine r_iload_n hC 0 dX12_above_0 rfl rfl ?_
  refine r_iconst hC dX12_above_1 ?_
  refine r_icmp_ne hC 9 rfl bmL_5 dX12_above_2 (by decide) (fun cq => ?_) (fun cq => ?_)
  · replace h := h.2 cq
    refine r_iconst hC dX12_above_9 ?_
    exact r_iret hC (Nat.zero_le _) (Nat.zero_le _) dX12_above_10 ⟨_, rfl, h⟩
  · replace h := h.1 cq
    refine r_iconst hC dX12_above_5 ?_
    refine r_goto hC 10 dX12_above_6 (by decide) ?_
    exact r_iret hC (Nat.zero_le _) (Nat.zero_le _) dX12_above_10 ⟨_, rfl, h⟩
theorem dX12_kindNow_0 : dec cX12_kindNow 0 1 1 (.aload_n 0) := ⟨by decide +kernel, rfl⟩
theorem dX12_kindNow_1 : dec cX12_kindNow 1 1 2 (.aload_n 0) := ⟨by decide +kernel, rfl⟩
theorem dX12_kindNow_2 : dec cX12_kindNow 2 3 5 (.getfield 308) := ⟨by decide +kernel, rfl⟩
theorem dX12_kindNow_5 : dec cX12_kindNow 5 1 6 (.iconst 0) := ⟨by decide +kernel, rfl⟩
theorem dX12_kindNow_6 : dec cX12_kindNow 6 3 9 (.invokevirtual 101) := ⟨by decide +kernel, rfl⟩
theorem dX12_kindNow_9 : dec cX12_kindNow 9 1 10 (.ireturn) := ⟨by decide +kernel, rfl⟩
set_option maxHeartbeats 4000000 in
set_option maxRecDepth 100000 in
theorem mX12_kindNow (Y : Yx) (hF : Y.2.2.2.2 = true) (l : Launch) (a0 : Nat) (M0 : Mem) (Q : Int → Mem → Prop) (qa0 : 0 < a0 ∧ M0 0 a0 = kO 12) (h : wX12_kindNow a0 M0 Q) : CT Y l yX12_kindNow cX12_kindNow 1 (some .int) rmX12_kindNow [vR Y.1 a0] M0 (QI Q) := by
  unfold wX12_kindNow at h
  refine ct_intro (by decide) (Nat.le_of_ble_eq_true rfl) ?_
  intro X hXl hC hL0
  have hL := hL0 hF
  change OKX X Y RX12 cX12_kindNow 1 (some .int) rmX12_kindNow at hC
  change WW X Y 1 rmX12_kindNow (QI Q) M0 0 0 0 [(0, vR Y.1 a0)] [] M0
  refine r_aload_n hC 0 dX12_kindNow_0 rfl rfl ?_
  refine r_aload_n hC 0 dX12_kindNow_1 rfl rfl ?_
  refine r_getI hC fg_X12_308 rfl qa0.1 qa0.2 dX12_kindNow_2 ?_
  refine r_iconst hC dX12_kindNow_5 ?_
  refine r_callV (As := [vI (M0 a0 34), vI 0]) (st := []) hC cw_X12_101 rfl qa0.1 qa0.2 rfl rfl (Nat.le_of_ble_eq_true rfl) ⟨Nat.le_of_ble_eq_true rfl, Nat.le_of_ble_eq_true rfl⟩ ⟨Nat.le_of_ble_eq_true rfl, Nat.le_of_ble_eq_true rfl⟩ dX12_kindNow_6 (fun hk => mX12_likingIs Y hF _ _ _ _ _ _ (kqO hk qa0) h) (fun v M_1 h => ?_)
  obtain ⟨r_2, rfl, h⟩ := h
  exact r_iret hC (Nat.zero_le _) (Nat.zero_le _) dX12_kindNow_9 ⟨_, rfl, h⟩
theorem dX12_says_0 : dec cX12_says 0 1 1 (.iload_n 1) := ⟨by decide +kernel, rfl⟩
theorem dX12_says_1 : dec cX12_says 1 39 40 (.tableswitch 111 0 5 #[39, 111, 57, 111, 75, 93]) := ⟨by decide +kernel, rfl⟩
theorem dX12_says_40 : dec cX12_says 40 1 41 (.aload_n 0) := ⟨by decide +kernel, rfl⟩
theorem dX12_says_41 : dec cX12_says 41 2 43 (.bipush 10) := ⟨by decide +kernel, rfl⟩
theorem dX12_says_43 : dec cX12_says 43 3 46 (.invokevirtual 311) := ⟨by decide +kernel, rfl⟩
theorem dX12_says_46 : dec cX12_says 46 1 47 (.iload_n 2) := ⟨by decide +kernel, rfl⟩
theorem dX12_says_47 : dec cX12_says 47 1 48 (.aload_n 0) := ⟨by decide +kernel, rfl⟩
theorem dX12_says_48 : dec cX12_says 48 1 49 (.aload_n 0) := ⟨by decide +kernel, rfl⟩
theorem dX12_says_49 : dec cX12_says 49 3 52 (.getfield 308) := ⟨by decide +kernel, rfl⟩
theorem dX12_says_52 : dec cX12_says 52 1 53 (.iconst 1) := ⟨by decide +kernel, rfl⟩
theorem dX12_says_53 : dec cX12_says 53 3 56 (.invokevirtual 101) := ⟨by decide +kernel, rfl⟩
theorem dX12_says_56 : dec cX12_says 56 1 57 (.iadd) := ⟨by decide +kernel, rfl⟩
theorem dX12_says_57 : dec cX12_says 57 1 58 (.ireturn) := ⟨by decide +kernel, rfl⟩
theorem dX12_says_58 : dec cX12_says 58 1 59 (.aload_n 0) := ⟨by decide +kernel, rfl⟩
theorem dX12_says_59 : dec cX12_says 59 2 61 (.bipush 30) := ⟨by decide +kernel, rfl⟩
theorem dX12_says_61 : dec cX12_says 61 3 64 (.invokevirtual 311) := ⟨by decide +kernel, rfl⟩
theorem dX12_says_64 : dec cX12_says 64 1 65 (.aload_n 0) := ⟨by decide +kernel, rfl⟩
theorem dX12_says_65 : dec cX12_says 65 1 66 (.iconst 2) := ⟨by decide +kernel, rfl⟩
theorem dX12_says_66 : dec cX12_says 66 3 69 (.invokestatic 314) := ⟨by decide +kernel, rfl⟩
theorem dX12_says_69 : dec cX12_says 69 1 70 (.iload_n 2) := ⟨by decide +kernel, rfl⟩
theorem dX12_says_70 : dec cX12_says 70 3 73 (.invokevirtual 317) := ⟨by decide +kernel, rfl⟩
theorem dX12_says_73 : dec cX12_says 73 1 74 (.iconst 2) := ⟨by decide +kernel, rfl⟩
theorem dX12_says_74 : dec cX12_says 74 1 75 (.idiv) := ⟨by decide +kernel, rfl⟩
theorem dX12_says_75 : dec cX12_says 75 1 76 (.ireturn) := ⟨by decide +kernel, rfl⟩
theorem dX12_says_76 : dec cX12_says 76 1 77 (.aload_n 0) := ⟨by decide +kernel, rfl⟩
theorem dX12_says_77 : dec cX12_says 77 2 79 (.bipush 50) := ⟨by decide +kernel, rfl⟩
theorem dX12_says_79 : dec cX12_says 79 3 82 (.invokevirtual 311) := ⟨by decide +kernel, rfl⟩
theorem dX12_says_82 : dec cX12_says 82 1 83 (.iconst 0) := ⟨by decide +kernel, rfl⟩
theorem dX12_says_83 : dec cX12_says 83 1 84 (.aload_n 0) := ⟨by decide +kernel, rfl⟩
theorem dX12_says_84 : dec cX12_says 84 1 85 (.iconst 4) := ⟨by decide +kernel, rfl⟩
theorem dX12_says_85 : dec cX12_says 85 3 88 (.invokestatic 314) := ⟨by decide +kernel, rfl⟩
theorem dX12_says_88 : dec cX12_says 88 1 89 (.iload_n 2) := ⟨by decide +kernel, rfl⟩
theorem dX12_says_89 : dec cX12_says 89 3 92 (.invokevirtual 317) := ⟨by decide +kernel, rfl⟩
theorem dX12_says_92 : dec cX12_says 92 1 93 (.isub) := ⟨by decide +kernel, rfl⟩
theorem dX12_says_93 : dec cX12_says 93 1 94 (.ireturn) := ⟨by decide +kernel, rfl⟩
theorem dX12_says_94 : dec cX12_says 94 1 95 (.aload_n 0) := ⟨by decide +kernel, rfl⟩
theorem dX12_says_95 : dec cX12_says 95 2 97 (.bipush 60) := ⟨by decide +kernel, rfl⟩
theorem dX12_says_97 : dec cX12_says 97 3 100 (.invokevirtual 311) := ⟨by decide +kernel, rfl⟩
theorem dX12_says_100 : dec cX12_says 100 1 101 (.aload_n 0) := ⟨by decide +kernel, rfl⟩
theorem dX12_says_101 : dec cX12_says 101 1 102 (.iconst 5) := ⟨by decide +kernel, rfl⟩
theorem dX12_says_102 : dec cX12_says 102 3 105 (.invokestatic 314) := ⟨by decide +kernel, rfl⟩
theorem dX12_says_105 : dec cX12_says 105 1 106 (.iload_n 2) := ⟨by decide +kernel, rfl⟩
theorem dX12_says_106 : dec cX12_says 106 3 109 (.invokevirtual 317) := ⟨by decide +kernel, rfl⟩
theorem dX12_says_109 : dec cX12_says 109 1 110 (.iconst 3) := ⟨by decide +kernel, rfl⟩
theorem dX12_says_110 : dec cX12_says 110 1 111 (.imul) := ⟨by decide +kernel, rfl⟩
theorem dX12_says_111 : dec cX12_says 111 1 112 (.ireturn) := ⟨by decide +kernel, rfl⟩
theorem dX12_says_112 : dec cX12_says 112 1 113 (.aload_n 0) := ⟨by decide +kernel, rfl⟩
theorem dX12_says_113 : dec cX12_says 113 1 114 (.iload_n 1) := ⟨by decide +kernel, rfl⟩
theorem dX12_says_114 : dec cX12_says 114 3 117 (.invokestatic 314) := ⟨by decide +kernel, rfl⟩
theorem dX12_says_117 : dec cX12_says 117 1 118 (.iload_n 2) := ⟨by decide +kernel, rfl⟩
theorem dX12_says_118 : dec cX12_says 118 3 121 (.invokevirtual 317) := ⟨by decide +kernel, rfl⟩
theorem dX12_says_121 : dec cX12_says 121 1 122 (.ireturn) := ⟨by decide +kernel, rfl⟩
set_option maxHeartbeats 4000000 in
set_option maxRecDepth 100000 in
theorem tX12_says_J112 {X : Cx} {Y : Yx} {M0 : Mem} {Γ : Nat → List Int → Mem → (Int → Mem → Prop) → Prop} {d : Nat} (hC : OKX X Y RX12 cX12_says 3 (some .int) (rmX12_says (d + 1))) (hF : Y.2.2.2.2 = true) (hL : Lay M0) (a0 : Nat) (hG0 : ∀ (x0 : Int) (x1 : Int) (M : Mem) (Q : Int → Mem → Prop), (0 < a0 ∧ M 0 a0 = kO 12) → Γ 0 [x0, x1] M Q → CT Y X.2.1 yX12_says cX12_says 3 (some .int) (rmX12_says d) [vR Y.1 a0, vI x0, vI x1] M (QI Q)) (Q : Int → Mem → Prop)   (x1 : Int) (x2 : Int) (qa0 : 0 < a0 ∧ M0 0 a0 = kO 12)  (M : Mem) (h : wX12_says_J112 Γ Q  a0 x1 x2 M) : WW X Y 3 (rmX12_says (d + 1)) (QI Q) M0 0 0 112 [(0, vR Y.1 a0), (1, vI x1), (2, vI x2)] [] M := by
  unfold wX12_says_J112 at h
  refine r_aload_n hC 0 dX12_says_112 rfl rfl ?_
  refine r_iload_n hC 1 dX12_says_113 rfl rfl ?_
  refine r_callS (As := [vI x1]) (st := [vR Y.1 a0]) hC cw_X12_314 rfl rfl (Nat.le_of_ble_eq_true rfl) (by constructor <;> simp only [rmX12_says, rmX12_above] <;> omega) ⟨Nat.le_of_ble_eq_true rfl, Nat.le_of_ble_eq_true rfl⟩ dX12_says_114 (fun hk => mX12_above Y hF _ _ _ _  h) (fun v M_4 h => ?_)
  obtain ⟨r_5, rfl, h⟩ := h
  refine r_iload_n hC 2 dX12_says_117 rfl rfl ?_
  refine r_callV (As := [vI r_5, vI x2]) (st := []) hC cw_X12_317 rfl qa0.1 qa0.2 rfl rfl (Nat.le_of_ble_eq_true rfl) (by constructor <;> simp only [rmX12_says, rmX12_says] <;> omega) ⟨Nat.le_of_ble_eq_true rfl, Nat.le_of_ble_eq_true rfl⟩ dX12_says_118 (fun hk => hG0 _ _ _ _ (kqO hk qa0) h) (fun v M_6 h => ?_)
  obtain ⟨r_7, rfl, h⟩ := h
  exact r_iret hC (Nat.zero_le _) (Nat.zero_le _) dX12_says_121 ⟨_, rfl, h⟩
set_option maxHeartbeats 4000000 in
set_option maxRecDepth 100000 in
theorem mbX12_says (Y : Yx) (hF : Y.2.2.2.2 = true) (l : Launch) {Γ : Nat → List Int → Mem → (Int → Mem → Prop) → Prop} {d : Nat} (a0 : Nat) (x1 : Int) (x2 : Int) (hG0 : ∀ (x0 : Int) (x1 : Int) (M : Mem) (Q : Int → Mem → Prop), (0 < a0 ∧ M 0 a0 = kO 12) → Γ 0 [x0, x1] M Q → CT Y l yX12_says cX12_says 3 (some .int) (rmX12_says d) [vR Y.1 a0, vI x0, vI x1] M (QI Q)) (M0 : Mem) (Q : Int → Mem → Prop) (qa0 : 0 < a0 ∧ M0 0 a0 = kO 12) (h : wbX12_says Γ a0 x1 x2 M0 Q) : CT Y l yX12_says cX12_says 3 (some .int) (rmX12_says (d + 1)) [vR Y.1 a0, vI x1, vI x2] M0 (QI Q) := by
  unfold wbX12_says at h
  refine ct_intro (by decide) (Nat.le_of_ble_eq_true rfl) ?_
  intro X hXl hC hL0
  have hL := hL0 hF
  change OKX X Y RX12 cX12_says 3 (some .int) (rmX12_says (d + 1)) at hC
  subst hXl
  change WW X Y 3 (rmX12_says (d + 1)) (QI Q) M0 0 0 0 [(0, vR Y.1 a0), (1, vI x1), (2, vI x2)] [] M0
  refine r_iload_n hC 1 dX12_says_0 rfl rfl ?_
  by_cases c0 : bm x1 = 0
  · replace h := h.1 c0
    refine r_tabIn hC 40 0 dX12_says_1 c0 (by decide) (by decide) rfl (by decide) ?_
    refine r_aload_n hC 0 dX12_says_40 rfl rfl ?_
    refine r_bipush hC (by decide +kernel) dX12_says_41 ?_
    refine r_callV (As := [vI 10]) (st := []) hC cw_X12_311 rfl qa0.1 qa0.2 rfl rfl (Nat.le_of_ble_eq_true rfl) (by constructor <;> simp only [rmX12_says, rmX12_body] <;> omega) ⟨Nat.le_of_ble_eq_true rfl, Nat.le_of_ble_eq_true rfl⟩ dX12_says_43 (fun hk => mX12_body Y hF _ _ _ _ _ (kqO hk qa0) h) (fun v M_1 h => ?_)
    obtain ⟨rfl, h⟩ := h
    refine r_iload_n hC 2 dX12_says_46 rfl rfl ?_
    refine r_aload_n hC 0 dX12_says_47 rfl rfl ?_
    refine r_aload_n hC 0 dX12_says_48 rfl rfl ?_
    refine r_getI hC fg_X12_308 rfl qa0.1 qa0.2 dX12_says_49 ?_
    refine r_iconst hC dX12_says_52 ?_
    refine r_callV (As := [vI (M_1 a0 34), vI 1]) (st := [vI x2]) hC cw_X12_101 rfl qa0.1 qa0.2 rfl rfl (Nat.le_of_ble_eq_true rfl) (by constructor <;> simp only [rmX12_says, rmX12_likingIs] <;> omega) ⟨Nat.le_of_ble_eq_true rfl, Nat.le_of_ble_eq_true rfl⟩ dX12_says_53 (fun hk => mX12_likingIs Y hF _ _ _ _ _ _ (kqO hk qa0) h) (fun v M_2 h => ?_)
    obtain ⟨r_3, rfl, h⟩ := h
    refine r_iadd hC dX12_says_56 ?_
    exact r_iret hC (Nat.zero_le _) (Nat.zero_le _) dX12_says_57 ⟨_, rfl, h⟩
  · replace h := h.2 c0
    by_cases c1 : bm x1 = 1
    · replace h := h.1 c1
      refine r_tabIn hC 112 1 dX12_says_1 c1 (by decide) (by decide) rfl (by decide) ?_
      refine r_sub [0, 1, 2] rfl ?_
      exact tX12_says_J112 hC hF hL _ hG0 Q   _ _ qa0  _ h
    · replace h := h.2 c1
      by_cases c2 : bm x1 = 2
      · replace h := h.1 c2
        refine r_tabIn hC 58 2 dX12_says_1 c2 (by decide) (by decide) rfl (by decide) ?_
        refine r_aload_n hC 0 dX12_says_58 rfl rfl ?_
        refine r_bipush hC (by decide +kernel) dX12_says_59 ?_
        refine r_callV (As := [vI 30]) (st := []) hC cw_X12_311 rfl qa0.1 qa0.2 rfl rfl (Nat.le_of_ble_eq_true rfl) (by constructor <;> simp only [rmX12_says, rmX12_body] <;> omega) ⟨Nat.le_of_ble_eq_true rfl, Nat.le_of_ble_eq_true rfl⟩ dX12_says_61 (fun hk => mX12_body Y hF _ _ _ _ _ (kqO hk qa0) h) (fun v M_8 h => ?_)
        obtain ⟨rfl, h⟩ := h
        refine r_aload_n hC 0 dX12_says_64 rfl rfl ?_
        refine r_iconst hC dX12_says_65 ?_
        refine r_callS (As := [vI 2]) (st := [vR Y.1 a0]) hC cw_X12_314 rfl rfl (Nat.le_of_ble_eq_true rfl) (by constructor <;> simp only [rmX12_says, rmX12_above] <;> omega) ⟨Nat.le_of_ble_eq_true rfl, Nat.le_of_ble_eq_true rfl⟩ dX12_says_66 (fun hk => mX12_above Y hF _ _ _ _  h) (fun v M_9 h => ?_)
        obtain ⟨r_10, rfl, h⟩ := h
        refine r_iload_n hC 2 dX12_says_69 rfl rfl ?_
        refine r_callV (As := [vI r_10, vI x2]) (st := []) hC cw_X12_317 rfl qa0.1 qa0.2 rfl rfl (Nat.le_of_ble_eq_true rfl) (by constructor <;> simp only [rmX12_says, rmX12_says] <;> omega) ⟨Nat.le_of_ble_eq_true rfl, Nat.le_of_ble_eq_true rfl⟩ dX12_says_70 (fun hk => hG0 _ _ _ _ (kqO hk qa0) h) (fun v M_11 h => ?_)
        obtain ⟨r_12, rfl, h⟩ := h
        refine r_iconst hC dX12_says_73 ?_
        refine r_idiv hC (by decide +kernel) dX12_says_74 ?_
        exact r_iret hC (Nat.zero_le _) (Nat.zero_le _) dX12_says_75 ⟨_, rfl, h⟩
      · replace h := h.2 c2
        by_cases c3 : bm x1 = 3
        · replace h := h.1 c3
          refine r_tabIn hC 112 3 dX12_says_1 c3 (by decide) (by decide) rfl (by decide) ?_
          refine r_sub [0, 1, 2] rfl ?_
          exact tX12_says_J112 hC hF hL _ hG0 Q   _ _ qa0  _ h
        · replace h := h.2 c3
          by_cases c4 : bm x1 = 4
          · replace h := h.1 c4
            refine r_tabIn hC 76 4 dX12_says_1 c4 (by decide) (by decide) rfl (by decide) ?_
            refine r_aload_n hC 0 dX12_says_76 rfl rfl ?_
            refine r_bipush hC (by decide +kernel) dX12_says_77 ?_
            refine r_callV (As := [vI 50]) (st := []) hC cw_X12_311 rfl qa0.1 qa0.2 rfl rfl (Nat.le_of_ble_eq_true rfl) (by constructor <;> simp only [rmX12_says, rmX12_body] <;> omega) ⟨Nat.le_of_ble_eq_true rfl, Nat.le_of_ble_eq_true rfl⟩ dX12_says_79 (fun hk => mX12_body Y hF _ _ _ _ _ (kqO hk qa0) h) (fun v M_13 h => ?_)
            obtain ⟨rfl, h⟩ := h
            refine r_iconst hC dX12_says_82 ?_
            refine r_aload_n hC 0 dX12_says_83 rfl rfl ?_
            refine r_iconst hC dX12_says_84 ?_
            refine r_callS (As := [vI 4]) (st := [vR Y.1 a0, vI 0]) hC cw_X12_314 rfl rfl (Nat.le_of_ble_eq_true rfl) (by constructor <;> simp only [rmX12_says, rmX12_above] <;> omega) ⟨Nat.le_of_ble_eq_true rfl, Nat.le_of_ble_eq_true rfl⟩ dX12_says_85 (fun hk => mX12_above Y hF _ _ _ _  h) (fun v M_14 h => ?_)
            obtain ⟨r_15, rfl, h⟩ := h
            refine r_iload_n hC 2 dX12_says_88 rfl rfl ?_
            refine r_callV (As := [vI r_15, vI x2]) (st := [vI 0]) hC cw_X12_317 rfl qa0.1 qa0.2 rfl rfl (Nat.le_of_ble_eq_true rfl) (by constructor <;> simp only [rmX12_says, rmX12_says] <;> omega) ⟨Nat.le_of_ble_eq_true rfl, Nat.le_of_ble_eq_true rfl⟩ dX12_says_89 (fun hk => hG0 _ _ _ _ (kqO hk qa0) h) (fun v M_16 h => ?_)
            obtain ⟨r_17, rfl, h⟩ := h
            refine r_isub hC dX12_says_92 ?_
            exact r_iret hC (Nat.zero_le _) (Nat.zero_le _) dX12_says_93 ⟨_, rfl, h⟩
          · replace h := h.2 c4
            by_cases c5 : bm x1 = 5
            · replace h := h.1 c5
              refine r_tabIn hC 94 5 dX12_says_1 c5 (by decide) (by decide) rfl (by decide) ?_
              refine r_aload_n hC 0 dX12_says_94 rfl rfl ?_
              refine r_bipush hC (by decide +kernel) dX12_says_95 ?_
              refine r_callV (As := [vI 60]) (st := []) hC cw_X12_311 rfl qa0.1 qa0.2 rfl rfl (Nat.le_of_ble_eq_true rfl) (by constructor <;> simp only [rmX12_says, rmX12_body] <;> omega) ⟨Nat.le_of_ble_eq_true rfl, Nat.le_of_ble_eq_true rfl⟩ dX12_says_97 (fun hk => mX12_body Y hF _ _ _ _ _ (kqO hk qa0) h) (fun v M_18 h => ?_)
              obtain ⟨rfl, h⟩ := h
              refine r_aload_n hC 0 dX12_says_100 rfl rfl ?_
              refine r_iconst hC dX12_says_101 ?_
              refine r_callS (As := [vI 5]) (st := [vR Y.1 a0]) hC cw_X12_314 rfl rfl (Nat.le_of_ble_eq_true rfl) (by constructor <;> simp only [rmX12_says, rmX12_above] <;> omega) ⟨Nat.le_of_ble_eq_true rfl, Nat.le_of_ble_eq_true rfl⟩ dX12_says_102 (fun hk => mX12_above Y hF _ _ _ _  h) (fun v M_19 h => ?_)
              obtain ⟨r_20, rfl, h⟩ := h
              refine r_iload_n hC 2 dX12_says_105 rfl rfl ?_
              refine r_callV (As := [vI r_20, vI x2]) (st := []) hC cw_X12_317 rfl qa0.1 qa0.2 rfl rfl (Nat.le_of_ble_eq_true rfl) (by constructor <;> simp only [rmX12_says, rmX12_says] <;> omega) ⟨Nat.le_of_ble_eq_true rfl, Nat.le_of_ble_eq_true rfl⟩ dX12_says_106 (fun hk => hG0 _ _ _ _ (kqO hk qa0) h) (fun v M_21 h => ?_)
              obtain ⟨r_22, rfl, h⟩ := h
              refine r_iconst hC dX12_says_109 ?_
              refine r_imul hC dX12_says_110 ?_
              exact r_iret hC (Nat.zero_le _) (Nat.zero_le _) dX12_says_111 ⟨_, rfl, h⟩
            · replace h := h.2 c5
              refine r_tabOut hC 112 dX12_says_1 (by omega) (by decide) ?_
              refine r_sub [0, 1, 2] rfl ?_
              exact tX12_says_J112 hC hF hL _ hG0 Q   _ _ qa0  _ h
set_option maxHeartbeats 4000000 in
set_option maxRecDepth 100000 in
theorem mGX12_says (Y : Yx) (hF : Y.2.2.2.2 = true) (l : Launch) (a0 : Nat) : ∀ d : Nat, (∀ (x1 : Int) (x2 : Int) (M : Mem) (Q : Int → Mem → Prop), (0 < a0 ∧ M 0 a0 = kO 12) → wGX12_says a0 d 0 [x1, x2] M Q → CT Y l yX12_says cX12_says 3 (some .int) (rmX12_says d) [vR Y.1 a0, vI x1, vI x2] M (QI Q)) := by
  intro d
  induction d with
  | zero => exact fun x1 x2 M Q f0 h => h.elim
  | succ d ih => exact fun x1 x2 M Q f0 h => mbX12_says Y hF l a0 x1 x2 ih M Q f0 h
set_option maxHeartbeats 4000000 in
set_option maxRecDepth 100000 in
theorem mX12_says (Y : Yx) (hF : Y.2.2.2.2 = true) (l : Launch) (a0 : Nat) (x1 : Int) (x2 : Int) (M0 : Mem) (Q : Int → Mem → Prop) (qa0 : 0 < a0 ∧ M0 0 a0 = kO 12) (h : wX12_says a0 x1 x2 M0 Q) : CT Y l yX12_says cX12_says 3 (some .int) (rmX12_says 8) [vR Y.1 a0, vI x1, vI x2] M0 (QI Q) := (mGX12_says Y hF l a0 8) _ _ M0 Q qa0 h
theorem dX12_hears_0 : dec cX12_hears 0 1 1 (.iload_n 1) := ⟨by decide +kernel, rfl⟩
theorem dX12_hears_1 : dec cX12_hears 1 35 36 (.lookupswitch 98 #[(0, 35), (1, 53), (6, 79)]) := ⟨by decide +kernel, rfl⟩
theorem dX12_hears_36 : dec cX12_hears 36 1 37 (.aload_n 0) := ⟨by decide +kernel, rfl⟩
theorem dX12_hears_37 : dec cX12_hears 37 2 39 (.bipush 11) := ⟨by decide +kernel, rfl⟩
theorem dX12_hears_39 : dec cX12_hears 39 3 42 (.invokevirtual 311) := ⟨by decide +kernel, rfl⟩
theorem dX12_hears_42 : dec cX12_hears 42 1 43 (.aload_n 0) := ⟨by decide +kernel, rfl⟩
theorem dX12_hears_43 : dec cX12_hears 43 1 44 (.aload_n 0) := ⟨by decide +kernel, rfl⟩
theorem dX12_hears_44 : dec cX12_hears 44 3 47 (.invokevirtual 320) := ⟨by decide +kernel, rfl⟩
theorem dX12_hears_47 : dec cX12_hears 47 1 48 (.iload_n 2) := ⟨by decide +kernel, rfl⟩
theorem dX12_hears_48 : dec cX12_hears 48 3 51 (.invokevirtual 317) := ⟨by decide +kernel, rfl⟩
theorem dX12_hears_51 : dec cX12_hears 51 1 52 (.iconst 2) := ⟨by decide +kernel, rfl⟩
theorem dX12_hears_52 : dec cX12_hears 52 1 53 (.imul) := ⟨by decide +kernel, rfl⟩
theorem dX12_hears_53 : dec cX12_hears 53 1 54 (.ireturn) := ⟨by decide +kernel, rfl⟩
theorem dX12_hears_54 : dec cX12_hears 54 1 55 (.aload_n 0) := ⟨by decide +kernel, rfl⟩
theorem dX12_hears_55 : dec cX12_hears 55 2 57 (.bipush 20) := ⟨by decide +kernel, rfl⟩
theorem dX12_hears_57 : dec cX12_hears 57 3 60 (.invokevirtual 311) := ⟨by decide +kernel, rfl⟩
theorem dX12_hears_60 : dec cX12_hears 60 1 61 (.aload_n 0) := ⟨by decide +kernel, rfl⟩
theorem dX12_hears_61 : dec cX12_hears 61 1 62 (.iconst 1) := ⟨by decide +kernel, rfl⟩
theorem dX12_hears_62 : dec cX12_hears 62 3 65 (.invokestatic 314) := ⟨by decide +kernel, rfl⟩
theorem dX12_hears_65 : dec cX12_hears 65 1 66 (.iload_n 2) := ⟨by decide +kernel, rfl⟩
theorem dX12_hears_66 : dec cX12_hears 66 3 69 (.invokevirtual 323) := ⟨by decide +kernel, rfl⟩
theorem dX12_hears_69 : dec cX12_hears 69 1 70 (.aload_n 0) := ⟨by decide +kernel, rfl⟩
theorem dX12_hears_70 : dec cX12_hears 70 1 71 (.aload_n 0) := ⟨by decide +kernel, rfl⟩
theorem dX12_hears_71 : dec cX12_hears 71 3 74 (.getfield 308) := ⟨by decide +kernel, rfl⟩
theorem dX12_hears_74 : dec cX12_hears 74 1 75 (.iconst 2) := ⟨by decide +kernel, rfl⟩
theorem dX12_hears_75 : dec cX12_hears 75 3 78 (.invokevirtual 101) := ⟨by decide +kernel, rfl⟩
theorem dX12_hears_78 : dec cX12_hears 78 1 79 (.iadd) := ⟨by decide +kernel, rfl⟩
theorem dX12_hears_79 : dec cX12_hears 79 1 80 (.ireturn) := ⟨by decide +kernel, rfl⟩
theorem dX12_hears_80 : dec cX12_hears 80 1 81 (.aload_n 0) := ⟨by decide +kernel, rfl⟩
theorem dX12_hears_81 : dec cX12_hears 81 2 83 (.bipush 70) := ⟨by decide +kernel, rfl⟩
theorem dX12_hears_83 : dec cX12_hears 83 3 86 (.invokevirtual 311) := ⟨by decide +kernel, rfl⟩
theorem dX12_hears_86 : dec cX12_hears 86 1 87 (.aload_n 0) := ⟨by decide +kernel, rfl⟩
theorem dX12_hears_87 : dec cX12_hears 87 2 89 (.bipush 6) := ⟨by decide +kernel, rfl⟩
theorem dX12_hears_89 : dec cX12_hears 89 3 92 (.invokestatic 314) := ⟨by decide +kernel, rfl⟩
theorem dX12_hears_92 : dec cX12_hears 92 1 93 (.iload_n 2) := ⟨by decide +kernel, rfl⟩
theorem dX12_hears_93 : dec cX12_hears 93 1 94 (.iconst 1) := ⟨by decide +kernel, rfl⟩
theorem dX12_hears_94 : dec cX12_hears 94 1 95 (.isub) := ⟨by decide +kernel, rfl⟩
theorem dX12_hears_95 : dec cX12_hears 95 3 98 (.invokevirtual 323) := ⟨by decide +kernel, rfl⟩
theorem dX12_hears_98 : dec cX12_hears 98 1 99 (.ireturn) := ⟨by decide +kernel, rfl⟩
theorem dX12_hears_99 : dec cX12_hears 99 1 100 (.aload_n 0) := ⟨by decide +kernel, rfl⟩
theorem dX12_hears_100 : dec cX12_hears 100 1 101 (.iload_n 1) := ⟨by decide +kernel, rfl⟩
theorem dX12_hears_101 : dec cX12_hears 101 3 104 (.invokestatic 314) := ⟨by decide +kernel, rfl⟩
theorem dX12_hears_104 : dec cX12_hears 104 1 105 (.iload_n 2) := ⟨by decide +kernel, rfl⟩
theorem dX12_hears_105 : dec cX12_hears 105 3 108 (.invokevirtual 323) := ⟨by decide +kernel, rfl⟩
theorem dX12_hears_108 : dec cX12_hears 108 1 109 (.ireturn) := ⟨by decide +kernel, rfl⟩
set_option maxHeartbeats 4000000 in
set_option maxRecDepth 100000 in
theorem mbX12_hears (Y : Yx) (hF : Y.2.2.2.2 = true) (l : Launch) {Γ : Nat → List Int → Mem → (Int → Mem → Prop) → Prop} {d : Nat} (a0 : Nat) (x1 : Int) (x2 : Int) (hG0 : ∀ (x0 : Int) (x1 : Int) (M : Mem) (Q : Int → Mem → Prop), (0 < a0 ∧ M 0 a0 = kO 12) → Γ 0 [x0, x1] M Q → CT Y l yX12_hears cX12_hears 3 (some .int) (rmX12_hears d) [vR Y.1 a0, vI x0, vI x1] M (QI Q)) (M0 : Mem) (Q : Int → Mem → Prop) (qa0 : 0 < a0 ∧ M0 0 a0 = kO 12) (h : wbX12_hears Γ a0 x1 x2 M0 Q) : CT Y l yX12_hears cX12_hears 3 (some .int) (rmX12_hears (d + 1)) [vR Y.1 a0, vI x1, vI x2] M0 (QI Q) := by
  unfold wbX12_hears at h
  refine ct_intro (by decide) (Nat.le_of_ble_eq_true rfl) ?_
  intro X hXl hC hL0
  have hL := hL0 hF
  change OKX X Y RX12 cX12_hears 3 (some .int) (rmX12_hears (d + 1)) at hC
  subst hXl
  change WW X Y 3 (rmX12_hears (d + 1)) (QI Q) M0 0 0 0 [(0, vR Y.1 a0), (1, vI x1), (2, vI x2)] [] M0
  refine r_iload_n hC 1 dX12_hears_0 rfl rfl ?_
  by_cases c0 : bm x1 = 0
  · replace h := h.1 c0
    refine r_lookup hC 36 dX12_hears_1 (by decide +kernel) (off := 35) (by rw [c0]; rfl) (by decide) ?_
    refine r_aload_n hC 0 dX12_hears_36 rfl rfl ?_
    refine r_bipush hC (by decide +kernel) dX12_hears_37 ?_
    refine r_callV (As := [vI 11]) (st := []) hC cw_X12_311 rfl qa0.1 qa0.2 rfl rfl (Nat.le_of_ble_eq_true rfl) (by constructor <;> simp only [rmX12_hears, rmX12_body] <;> omega) ⟨Nat.le_of_ble_eq_true rfl, Nat.le_of_ble_eq_true rfl⟩ dX12_hears_39 (fun hk => mX12_body Y hF _ _ _ _ _ (kqO hk qa0) h) (fun v M_1 h => ?_)
    obtain ⟨rfl, h⟩ := h
    refine r_aload_n hC 0 dX12_hears_42 rfl rfl ?_
    refine r_aload_n hC 0 dX12_hears_43 rfl rfl ?_
    refine r_callV (As := []) (st := [vR Y.1 a0]) hC cw_X12_320 rfl qa0.1 qa0.2 rfl rfl (Nat.le_of_ble_eq_true rfl) (by constructor <;> simp only [rmX12_hears, rmX12_kindNow] <;> omega) ⟨Nat.le_of_ble_eq_true rfl, Nat.le_of_ble_eq_true rfl⟩ dX12_hears_44 (fun hk => mX12_kindNow Y hF _ _ _ _ (kqO hk qa0) h) (fun v M_2 h => ?_)
    obtain ⟨r_3, rfl, h⟩ := h
    refine r_iload_n hC 2 dX12_hears_47 rfl rfl ?_
    refine r_callV (As := [vI r_3, vI x2]) (st := []) hC cw_X12_317 rfl qa0.1 qa0.2 rfl rfl (Nat.le_of_ble_eq_true rfl) (by constructor <;> simp only [rmX12_hears, rmX12_says] <;> omega) ⟨Nat.le_of_ble_eq_true rfl, Nat.le_of_ble_eq_true rfl⟩ dX12_hears_48 (fun hk => mX12_says Y hF _ _ _ _ _ _ (kqO hk qa0) h) (fun v M_4 h => ?_)
    obtain ⟨r_5, rfl, h⟩ := h
    refine r_iconst hC dX12_hears_51 ?_
    refine r_imul hC dX12_hears_52 ?_
    exact r_iret hC (Nat.zero_le _) (Nat.zero_le _) dX12_hears_53 ⟨_, rfl, h⟩
  · replace h := h.2 c0
    by_cases c1 : bm x1 = 1
    · replace h := h.1 c1
      refine r_lookup hC 54 dX12_hears_1 (by decide +kernel) (off := 53) (by rw [c1]; rfl) (by decide) ?_
      refine r_aload_n hC 0 dX12_hears_54 rfl rfl ?_
      refine r_bipush hC (by decide +kernel) dX12_hears_55 ?_
      refine r_callV (As := [vI 20]) (st := []) hC cw_X12_311 rfl qa0.1 qa0.2 rfl rfl (Nat.le_of_ble_eq_true rfl) (by constructor <;> simp only [rmX12_hears, rmX12_body] <;> omega) ⟨Nat.le_of_ble_eq_true rfl, Nat.le_of_ble_eq_true rfl⟩ dX12_hears_57 (fun hk => mX12_body Y hF _ _ _ _ _ (kqO hk qa0) h) (fun v M_6 h => ?_)
      obtain ⟨rfl, h⟩ := h
      refine r_aload_n hC 0 dX12_hears_60 rfl rfl ?_
      refine r_iconst hC dX12_hears_61 ?_
      refine r_callS (As := [vI 1]) (st := [vR Y.1 a0]) hC cw_X12_314 rfl rfl (Nat.le_of_ble_eq_true rfl) (by constructor <;> simp only [rmX12_hears, rmX12_above] <;> omega) ⟨Nat.le_of_ble_eq_true rfl, Nat.le_of_ble_eq_true rfl⟩ dX12_hears_62 (fun hk => mX12_above Y hF _ _ _ _  h) (fun v M_7 h => ?_)
      obtain ⟨r_8, rfl, h⟩ := h
      refine r_iload_n hC 2 dX12_hears_65 rfl rfl ?_
      refine r_callV (As := [vI r_8, vI x2]) (st := []) hC cw_X12_323 rfl qa0.1 qa0.2 rfl rfl (Nat.le_of_ble_eq_true rfl) (by constructor <;> simp only [rmX12_hears, rmX12_hears] <;> omega) ⟨Nat.le_of_ble_eq_true rfl, Nat.le_of_ble_eq_true rfl⟩ dX12_hears_66 (fun hk => hG0 _ _ _ _ (kqO hk qa0) h) (fun v M_9 h => ?_)
      obtain ⟨r_10, rfl, h⟩ := h
      refine r_aload_n hC 0 dX12_hears_69 rfl rfl ?_
      refine r_aload_n hC 0 dX12_hears_70 rfl rfl ?_
      refine r_getI hC fg_X12_308 rfl qa0.1 qa0.2 dX12_hears_71 ?_
      refine r_iconst hC dX12_hears_74 ?_
      refine r_callV (As := [vI (M_9 a0 34), vI 2]) (st := [vI r_10]) hC cw_X12_101 rfl qa0.1 qa0.2 rfl rfl (Nat.le_of_ble_eq_true rfl) (by constructor <;> simp only [rmX12_hears, rmX12_likingIs] <;> omega) ⟨Nat.le_of_ble_eq_true rfl, Nat.le_of_ble_eq_true rfl⟩ dX12_hears_75 (fun hk => mX12_likingIs Y hF _ _ _ _ _ _ (kqO hk qa0) h) (fun v M_11 h => ?_)
      obtain ⟨r_12, rfl, h⟩ := h
      refine r_iadd hC dX12_hears_78 ?_
      exact r_iret hC (Nat.zero_le _) (Nat.zero_le _) dX12_hears_79 ⟨_, rfl, h⟩
    · replace h := h.2 c1
      by_cases c2 : bm x1 = 6
      · replace h := h.1 c2
        refine r_lookup hC 80 dX12_hears_1 (by decide +kernel) (off := 79) (by rw [c2]; rfl) (by decide) ?_
        refine r_aload_n hC 0 dX12_hears_80 rfl rfl ?_
        refine r_bipush hC (by decide +kernel) dX12_hears_81 ?_
        refine r_callV (As := [vI 70]) (st := []) hC cw_X12_311 rfl qa0.1 qa0.2 rfl rfl (Nat.le_of_ble_eq_true rfl) (by constructor <;> simp only [rmX12_hears, rmX12_body] <;> omega) ⟨Nat.le_of_ble_eq_true rfl, Nat.le_of_ble_eq_true rfl⟩ dX12_hears_83 (fun hk => mX12_body Y hF _ _ _ _ _ (kqO hk qa0) h) (fun v M_13 h => ?_)
        obtain ⟨rfl, h⟩ := h
        refine r_aload_n hC 0 dX12_hears_86 rfl rfl ?_
        refine r_bipush hC (by decide +kernel) dX12_hears_87 ?_
        refine r_callS (As := [vI 6]) (st := [vR Y.1 a0]) hC cw_X12_314 rfl rfl (Nat.le_of_ble_eq_true rfl) (by constructor <;> simp only [rmX12_hears, rmX12_above] <;> omega) ⟨Nat.le_of_ble_eq_true rfl, Nat.le_of_ble_eq_true rfl⟩ dX12_hears_89 (fun hk => mX12_above Y hF _ _ _ _  h) (fun v M_14 h => ?_)
        obtain ⟨r_15, rfl, h⟩ := h
        refine r_iload_n hC 2 dX12_hears_92 rfl rfl ?_
        refine r_iconst hC dX12_hears_93 ?_
        refine r_isub hC dX12_hears_94 ?_
        refine r_callV (As := [vI r_15, vI (x2 - 1)]) (st := []) hC cw_X12_323 rfl qa0.1 qa0.2 rfl rfl (Nat.le_of_ble_eq_true rfl) (by constructor <;> simp only [rmX12_hears, rmX12_hears] <;> omega) ⟨Nat.le_of_ble_eq_true rfl, Nat.le_of_ble_eq_true rfl⟩ dX12_hears_95 (fun hk => hG0 _ _ _ _ (kqO hk qa0) h) (fun v M_16 h => ?_)
        obtain ⟨r_17, rfl, h⟩ := h
        exact r_iret hC (Nat.zero_le _) (Nat.zero_le _) dX12_hears_98 ⟨_, rfl, h⟩
      · replace h := h.2 c2
        refine r_lookup hC 99 dX12_hears_1 (by decide +kernel) (off := 98) (by simp [Op.lookupswitch.offset, Ne.symm c0, Ne.symm c1, Ne.symm c2]) (by decide) ?_
        refine r_aload_n hC 0 dX12_hears_99 rfl rfl ?_
        refine r_iload_n hC 1 dX12_hears_100 rfl rfl ?_
        refine r_callS (As := [vI x1]) (st := [vR Y.1 a0]) hC cw_X12_314 rfl rfl (Nat.le_of_ble_eq_true rfl) (by constructor <;> simp only [rmX12_hears, rmX12_above] <;> omega) ⟨Nat.le_of_ble_eq_true rfl, Nat.le_of_ble_eq_true rfl⟩ dX12_hears_101 (fun hk => mX12_above Y hF _ _ _ _  h) (fun v M_18 h => ?_)
        obtain ⟨r_19, rfl, h⟩ := h
        refine r_iload_n hC 2 dX12_hears_104 rfl rfl ?_
        refine r_callV (As := [vI r_19, vI x2]) (st := []) hC cw_X12_323 rfl qa0.1 qa0.2 rfl rfl (Nat.le_of_ble_eq_true rfl) (by constructor <;> simp only [rmX12_hears, rmX12_hears] <;> omega) ⟨Nat.le_of_ble_eq_true rfl, Nat.le_of_ble_eq_true rfl⟩ dX12_hears_105 (fun hk => hG0 _ _ _ _ (kqO hk qa0) h) (fun v M_20 h => ?_)
        obtain ⟨r_21, rfl, h⟩ := h
        exact r_iret hC (Nat.zero_le _) (Nat.zero_le _) dX12_hears_108 ⟨_, rfl, h⟩
set_option maxHeartbeats 4000000 in
set_option maxRecDepth 100000 in
theorem mGX12_hears (Y : Yx) (hF : Y.2.2.2.2 = true) (l : Launch) (a0 : Nat) : ∀ d : Nat, (∀ (x1 : Int) (x2 : Int) (M : Mem) (Q : Int → Mem → Prop), (0 < a0 ∧ M 0 a0 = kO 12) → wGX12_hears a0 d 0 [x1, x2] M Q → CT Y l yX12_hears cX12_hears 3 (some .int) (rmX12_hears d) [vR Y.1 a0, vI x1, vI x2] M (QI Q)) := by
  intro d
  induction d with
  | zero => exact fun x1 x2 M Q f0 h => h.elim
  | succ d ih => exact fun x1 x2 M Q f0 h => mbX12_hears Y hF l a0 x1 x2 ih M Q f0 h
set_option maxHeartbeats 4000000 in
set_option maxRecDepth 100000 in
theorem mX12_hears (Y : Yx) (hF : Y.2.2.2.2 = true) (l : Launch) (a0 : Nat) (x1 : Int) (x2 : Int) (M0 : Mem) (Q : Int → Mem → Prop) (qa0 : 0 < a0 ∧ M0 0 a0 = kO 12) (h : wX12_hears a0 x1 x2 M0 Q) : CT Y l yX12_hears cX12_hears 3 (some .int) (rmX12_hears 8) [vR Y.1 a0, vI x1, vI x2] M0 (QI Q) := (mGX12_hears Y hF l a0 8) _ _ M0 Q qa0 h
