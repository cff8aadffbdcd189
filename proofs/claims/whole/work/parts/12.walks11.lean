theorem dX11_as_0 : dec cX11_as 0 1 1 (.aload_n 0) := ⟨by decide +kernel, rfl⟩
theorem dX11_as_1 : dec cX11_as 1 1 2 (.iload_n 1) := ⟨by decide +kernel, rfl⟩
theorem dX11_as_2 : dec cX11_as 2 3 5 (.invokevirtual 144) := ⟨by decide +kernel, rfl⟩
theorem dX11_as_5 : dec cX11_as 5 3 8 (.ifCond .ne 13) := ⟨by decide +kernel, rfl⟩
theorem dX11_as_8 : dec cX11_as 8 1 9 (.iload_n 2) := ⟨by decide +kernel, rfl⟩
theorem dX11_as_9 : dec cX11_as 9 1 10 (.iconst 0) := ⟨by decide +kernel, rfl⟩
theorem dX11_as_10 : dec cX11_as 10 2 12 (.bipush 6) := ⟨by decide +kernel, rfl⟩
theorem dX11_as_12 : dec cX11_as 12 3 15 (.invokestatic 87) := ⟨by decide +kernel, rfl⟩
theorem dX11_as_15 : dec cX11_as 15 3 18 (.ifCond .ne 9) := ⟨by decide +kernel, rfl⟩
theorem dX11_as_18 : dec cX11_as 18 1 19 (.aload_n 0) := ⟨by decide +kernel, rfl⟩
theorem dX11_as_19 : dec cX11_as 19 1 20 (.iconst 1) := ⟨by decide +kernel, rfl⟩
theorem dX11_as_20 : dec cX11_as 20 3 23 (.invokevirtual 91) := ⟨by decide +kernel, rfl⟩
theorem dX11_as_23 : dec cX11_as 23 1 24 (.ireturn) := ⟨by decide +kernel, rfl⟩
theorem dX11_as_24 : dec cX11_as 24 1 25 (.aload_n 0) := ⟨by decide +kernel, rfl⟩
theorem dX11_as_25 : dec cX11_as 25 3 28 (.getfield 10) := ⟨by decide +kernel, rfl⟩
theorem dX11_as_28 : dec cX11_as 28 3 31 (.getfield 134) := ⟨by decide +kernel, rfl⟩
theorem dX11_as_31 : dec cX11_as 31 1 32 (.iload_n 1) := ⟨by decide +kernel, rfl⟩
theorem dX11_as_32 : dec cX11_as 32 1 33 (.aaload) := ⟨by decide +kernel, rfl⟩
theorem dX11_as_33 : dec cX11_as 33 1 34 (.astore_n 3) := ⟨by decide +kernel, rfl⟩
theorem dX11_as_34 : dec cX11_as 34 1 35 (.aload_n 3) := ⟨by decide +kernel, rfl⟩
theorem dX11_as_35 : dec cX11_as 35 1 36 (.iload_n 2) := ⟨by decide +kernel, rfl⟩
theorem dX11_as_36 : dec cX11_as 36 3 39 (.invokevirtual 152) := ⟨by decide +kernel, rfl⟩
theorem dX11_as_39 : dec cX11_as 39 3 42 (.ifCond .eq 18) := ⟨by decide +kernel, rfl⟩
theorem dX11_as_42 : dec cX11_as 42 2 44 (.bipush 100) := ⟨by decide +kernel, rfl⟩
theorem dX11_as_44 : dec cX11_as 44 1 45 (.aload_n 3) := ⟨by decide +kernel, rfl⟩
theorem dX11_as_45 : dec cX11_as 45 3 48 (.getfield 155) := ⟨by decide +kernel, rfl⟩
theorem dX11_as_48 : dec cX11_as 48 1 49 (.imul) := ⟨by decide +kernel, rfl⟩
theorem dX11_as_49 : dec cX11_as 49 1 50 (.aload_n 3) := ⟨by decide +kernel, rfl⟩
theorem dX11_as_50 : dec cX11_as 50 3 53 (.getfield 158) := ⟨by decide +kernel, rfl⟩
theorem dX11_as_53 : dec cX11_as 53 1 54 (.iadd) := ⟨by decide +kernel, rfl⟩
theorem dX11_as_54 : dec cX11_as 54 3 57 (.goto 8) := ⟨by decide +kernel, rfl⟩
theorem dX11_as_57 : dec cX11_as 57 1 58 (.aload_n 0) := ⟨by decide +kernel, rfl⟩
theorem dX11_as_58 : dec cX11_as 58 1 59 (.iconst 5) := ⟨by decide +kernel, rfl⟩
theorem dX11_as_59 : dec cX11_as 59 3 62 (.invokevirtual 91) := ⟨by decide +kernel, rfl⟩
theorem dX11_as_62 : dec cX11_as 62 1 63 (.ireturn) := ⟨by decide +kernel, rfl⟩
set_option maxHeartbeats 4000000 in
set_option maxRecDepth 100000 in
theorem tX11_as_J18 {X : Cx} {Y : Yx} {M0 : Mem} (hC : OKX X Y RX11 cX11_as 4 (some .int) rmX11_as) (hF : Y.2.2.2.2 = true) (hL : Lay M0) (Q : Int → Mem → Prop)   (a0 : Nat) (qa0 : 0 < a0 ∧ M0 0 a0 = kO 11)  (M : Mem) (h : wX11_as_J18 Q  a0 M) : WW X Y 4 rmX11_as (QI Q) M0 0 0 18 [(0, vR Y.1 a0)] [] M := by
  unfold wX11_as_J18 at h
  refine r_aload_n hC 0 dX11_as_18 rfl rfl ?_
  refine r_iconst hC dX11_as_19 ?_
  refine r_callV (As := [vI 1]) (st := []) hC cw_X11_91 rfl qa0.1 qa0.2 rfl rfl (Nat.le_of_ble_eq_true rfl) ⟨Nat.le_of_ble_eq_true rfl, Nat.le_of_ble_eq_true rfl⟩ ⟨Nat.le_of_ble_eq_true rfl, Nat.le_of_ble_eq_true rfl⟩ dX11_as_20 (fun hk => mX11_error Y hF _ _ _ _ _ (kqO hk qa0) h) (fun v M_3 h => ?_)
  obtain ⟨r_4, rfl, h⟩ := h
  exact r_iret hC (Nat.zero_le _) (Nat.zero_le _) dX11_as_23 ⟨_, rfl, h⟩
set_option maxHeartbeats 4000000 in
set_option maxRecDepth 100000 in
theorem mX11_as (Y : Yx) (hF : Y.2.2.2.2 = true) (l : Launch) (a0 : Nat) (x1 : Int) (x2 : Int) (M0 : Mem) (Q : Int → Mem → Prop) (qa0 : 0 < a0 ∧ M0 0 a0 = kO 11) (h : wX11_as a0 x1 x2 M0 Q) : CT Y l yX11_as cX11_as 4 (some .int) rmX11_as [vR Y.1 a0, vI x1, vI x2] M0 (QI Q) := by
  unfold wX11_as at h
  refine ct_intro (by decide) (Nat.le_of_ble_eq_true rfl) ?_
  intro X hXl hC hL0
  have hL := hL0 hF
  change OKX X Y RX11 cX11_as 4 (some .int) rmX11_as at hC
  change WW X Y 4 rmX11_as (QI Q) M0 0 0 0 [(0, vR Y.1 a0), (1, vI x1), (2, vI x2)] [] M0
  refine r_aload_n hC 0 dX11_as_0 rfl rfl ?_
  refine r_iload_n hC 1 dX11_as_1 rfl rfl ?_
  refine r_callV (As := [vI x1]) (st := []) hC cw_X11_144 rfl qa0.1 qa0.2 rfl rfl (Nat.le_of_ble_eq_true rfl) ⟨Nat.le_of_ble_eq_true rfl, Nat.le_of_ble_eq_true rfl⟩ ⟨Nat.le_of_ble_eq_true rfl, Nat.le_of_ble_eq_true rfl⟩ dX11_as_2 (fun hk => mX11_isNoLiking Y hF _ _ _ _ _ (kqO hk qa0) h) (fun v M_1 h => ?_)
  obtain ⟨r_2, rfl, h⟩ := h
  refine r_if_ne hC 18 rfl dX11_as_5 (by decide) (fun cq => ?_) (fun cq => ?_)
  · replace h := h.2 cq
    refine r_sub [0] rfl ?_
    exact tX11_as_J18 hC hF hL Q   _ qa0  _ h
  · replace h := h.1 cq
    refine r_iload_n hC 2 dX11_as_8 rfl rfl ?_
    refine r_iconst hC dX11_as_9 ?_
    refine r_bipush hC (by decide +kernel) dX11_as_10 ?_
    refine r_callS (As := [vI x2, vI 0, vI 6]) (st := []) hC cw_X11_87 rfl rfl (Nat.le_of_ble_eq_true rfl) ⟨Nat.le_of_ble_eq_true rfl, Nat.le_of_ble_eq_true rfl⟩ ⟨Nat.le_of_ble_eq_true rfl, Nat.le_of_ble_eq_true rfl⟩ dX11_as_12 (fun hk => mX11_within Y hF _ _ _ _ _ _  h) (fun v M_5 h => ?_)
    obtain ⟨r_6, rfl, h⟩ := h
    refine r_if_ne hC 24 rfl dX11_as_15 (by decide) (fun cq => ?_) (fun cq => ?_)
    · replace h := h.2 cq
      refine r_aload_n hC 0 dX11_as_24 rfl rfl ?_
      have q_7 : 0 < a0 + 1 ∧ M0 0 (a0 + 1) = kO 0 := lay_f0 (a := a0) hL qa0 fm_11_0
      refine r_getR0 (a' := a0 + 1) hC fg_X11_10 rfl hF fm_11_0 qa0.1 qa0.2 rfl dX11_as_25 ?_
      have q_8 : 0 < a0 + 4 ∧ M0 0 (a0 + 4) = kA 5 10 := lay_f0 (a := a0 + 1) hL q_7 fm_0_3
      refine r_getR0 (a' := a0 + 4) hC fg_X11_134 rfl hF fm_0_3 q_7.1 q_7.2 rfl dX11_as_28 ?_
      refine r_iload_n hC 1 dX11_as_31 rfl rfl ?_
      obtain ⟨i_9, h⟩ := h
      have q_10 : 0 < a0 + 22 + 2 * (bm x1).toNat ∧ M0 0 (a0 + 22 + 2 * (bm x1).toNat) = kO 1 := lay_a5 (a := a0 + 4) hL q_8 (inb_nat i_9)
      refine r_aald5 hC hF i_9 q_8.1 q_8.2 dX11_as_32 ?_
      refine r_astore_n (lv' := [(3, vR Y.1 (a0 + 22 + 2 * (bm x1).toNat)), (0, vR Y.1 a0), (1, vI x1), (2, vI x2)]) hC dX11_as_33 rfl (by decide) rfl ?_
      refine r_aload_n hC 0 dX11_as_34 rfl rfl ?_
      refine r_iload_n hC 3 dX11_as_35 rfl rfl ?_
      refine r_callV (As := [vI x2]) (st := []) hC cw_X11_152 rfl q_10.1 q_10.2 rfl rfl (Nat.le_of_ble_eq_true rfl) ⟨Nat.le_of_ble_eq_true rfl, Nat.le_of_ble_eq_true rfl⟩ ⟨Nat.le_of_ble_eq_true rfl, Nat.le_of_ble_eq_true rfl⟩ dX11_as_36 (fun hk => mX1_isOf Y hF _ _ _ _ _ (kqO hk q_10) h) (fun v M_11 h => ?_)
      obtain ⟨r_12, rfl, h⟩ := h
      refine r_if_eq hC 57 rfl dX11_as_39 (by decide) (fun cq => ?_) (fun cq => ?_)
      · replace h := h.1 cq
        refine r_aload_n hC 1 dX11_as_57 rfl rfl ?_
        refine r_iconst hC dX11_as_58 ?_
        refine r_callV (As := [vI 5]) (st := []) hC cw_X11_91 rfl qa0.1 qa0.2 rfl rfl (Nat.le_of_ble_eq_true rfl) ⟨Nat.le_of_ble_eq_true rfl, Nat.le_of_ble_eq_true rfl⟩ ⟨Nat.le_of_ble_eq_true rfl, Nat.le_of_ble_eq_true rfl⟩ dX11_as_59 (fun hk => mX11_error Y hF _ _ _ _ _ (kqO hk qa0) h) (fun v M_13 h => ?_)
        obtain ⟨r_14, rfl, h⟩ := h
        exact r_iret hC (Nat.zero_le _) (Nat.zero_le _) dX11_as_62 ⟨_, rfl, h⟩
      · replace h := h.2 cq
        refine r_bipush hC (by decide +kernel) dX11_as_42 ?_
        refine r_aload_n hC 0 dX11_as_44 rfl rfl ?_
        refine r_getI hC fg_X11_155 rfl q_10.1 q_10.2 dX11_as_45 ?_
        refine r_imul hC dX11_as_48 ?_
        refine r_aload_n hC 0 dX11_as_49 rfl rfl ?_
        refine r_getI hC fg_X11_158 rfl q_10.1 q_10.2 dX11_as_50 ?_
        refine r_iadd hC dX11_as_53 ?_
        refine r_goto hC 62 dX11_as_54 (by decide) ?_
        exact r_iret hC (Nat.zero_le _) (Nat.zero_le _) dX11_as_62 ⟨_, rfl, h⟩
    · replace h := h.1 cq
      refine r_sub [0] rfl ?_
      exact tX11_as_J18 hC hF hL Q   _ qa0  _ h
theorem dX11_must_0 : dec cX11_must 0 1 1 (.iload_n 2) := ⟨by decide +kernel, rfl⟩
theorem dX11_must_1 : dec cX11_must 1 2 3 (.bipush 100) := ⟨by decide +kernel, rfl⟩
theorem dX11_must_3 : dec cX11_must 3 1 4 (.idiv) := ⟨by decide +kernel, rfl⟩
theorem dX11_must_4 : dec cX11_must 4 2 6 (.istore 4) := ⟨by decide +kernel, rfl⟩
theorem dX11_must_6 : dec cX11_must 6 1 7 (.iload_n 2) := ⟨by decide +kernel, rfl⟩
theorem dX11_must_7 : dec cX11_must 7 2 9 (.bipush 100) := ⟨by decide +kernel, rfl⟩
theorem dX11_must_9 : dec cX11_must 9 1 10 (.irem) := ⟨by decide +kernel, rfl⟩
theorem dX11_must_10 : dec cX11_must 10 2 12 (.istore 5) := ⟨by decide +kernel, rfl⟩
theorem dX11_must_12 : dec cX11_must 12 1 13 (.iload_n 1) := ⟨by decide +kernel, rfl⟩
theorem dX11_must_13 : dec cX11_must 13 1 14 (.iconst 0) := ⟨by decide +kernel, rfl⟩
theorem dX11_must_14 : dec cX11_must 14 2 16 (.bipush 7) := ⟨by decide +kernel, rfl⟩
theorem dX11_must_16 : dec cX11_must 16 3 19 (.invokestatic 87) := ⟨by decide +kernel, rfl⟩
theorem dX11_must_19 : dec cX11_must 19 3 22 (.ifCond .eq 18) := ⟨by decide +kernel, rfl⟩
theorem dX11_must_22 : dec cX11_must 22 1 23 (.iload_n 3) := ⟨by decide +kernel, rfl⟩
theorem dX11_must_23 : dec cX11_must 23 1 24 (.iconst 0) := ⟨by decide +kernel, rfl⟩
theorem dX11_must_24 : dec cX11_must 24 3 27 (.sipush 999) := ⟨by decide +kernel, rfl⟩
theorem dX11_must_27 : dec cX11_must 27 3 30 (.invokestatic 87) := ⟨by decide +kernel, rfl⟩
theorem dX11_must_30 : dec cX11_must 30 3 33 (.ifCond .eq 7) := ⟨by decide +kernel, rfl⟩
theorem dX11_must_33 : dec cX11_must 33 1 34 (.iconst 1) := ⟨by decide +kernel, rfl⟩
theorem dX11_must_34 : dec cX11_must 34 3 37 (.goto 4) := ⟨by decide +kernel, rfl⟩
theorem dX11_must_37 : dec cX11_must 37 1 38 (.iconst 0) := ⟨by decide +kernel, rfl⟩
theorem dX11_must_38 : dec cX11_must 38 2 40 (.istore 6) := ⟨by decide +kernel, rfl⟩
theorem dX11_must_40 : dec cX11_must 40 1 41 (.iload_n 2) := ⟨by decide +kernel, rfl⟩
theorem dX11_must_41 : dec cX11_must 41 3 44 (.ifCond .lt 38) := ⟨by decide +kernel, rfl⟩
theorem dX11_must_44 : dec cX11_must 44 2 46 (.iload 4) := ⟨by decide +kernel, rfl⟩
theorem dX11_must_46 : dec cX11_must 46 1 47 (.aload_n 0) := ⟨by decide +kernel, rfl⟩
theorem dX11_must_47 : dec cX11_must 47 3 50 (.getfield 10) := ⟨by decide +kernel, rfl⟩
theorem dX11_must_50 : dec cX11_must 50 3 53 (.getfield 95) := ⟨by decide +kernel, rfl⟩
theorem dX11_must_53 : dec cX11_must 53 3 56 (.if_icmp .ge 26) := ⟨by decide +kernel, rfl⟩
theorem dX11_must_56 : dec cX11_must 56 2 58 (.iload 5) := ⟨by decide +kernel, rfl⟩
theorem dX11_must_58 : dec cX11_must 58 1 59 (.aload_n 0) := ⟨by decide +kernel, rfl⟩
theorem dX11_must_59 : dec cX11_must 59 3 62 (.getfield 10) := ⟨by decide +kernel, rfl⟩
theorem dX11_must_62 : dec cX11_must 62 3 65 (.getfield 95) := ⟨by decide +kernel, rfl⟩
theorem dX11_must_65 : dec cX11_must 65 3 68 (.if_icmp .ge 14) := ⟨by decide +kernel, rfl⟩
theorem dX11_must_68 : dec cX11_must 68 2 70 (.iload 4) := ⟨by decide +kernel, rfl⟩
theorem dX11_must_70 : dec cX11_must 70 2 72 (.iload 5) := ⟨by decide +kernel, rfl⟩
theorem dX11_must_72 : dec cX11_must 72 3 75 (.if_icmp .eq 7) := ⟨by decide +kernel, rfl⟩
theorem dX11_must_75 : dec cX11_must 75 1 76 (.iconst 1) := ⟨by decide +kernel, rfl⟩
theorem dX11_must_76 : dec cX11_must 76 3 79 (.goto 4) := ⟨by decide +kernel, rfl⟩
theorem dX11_must_79 : dec cX11_must 79 1 80 (.iconst 0) := ⟨by decide +kernel, rfl⟩
theorem dX11_must_80 : dec cX11_must 80 2 82 (.istore 7) := ⟨by decide +kernel, rfl⟩
theorem dX11_must_82 : dec cX11_must 82 2 84 (.iload 6) := ⟨by decide +kernel, rfl⟩
theorem dX11_must_84 : dec cX11_must 84 3 87 (.ifCond .eq 8) := ⟨by decide +kernel, rfl⟩
theorem dX11_must_87 : dec cX11_must 87 2 89 (.iload 7) := ⟨by decide +kernel, rfl⟩
theorem dX11_must_89 : dec cX11_must 89 3 92 (.ifCond .ne 9) := ⟨by decide +kernel, rfl⟩
theorem dX11_must_92 : dec cX11_must 92 1 93 (.aload_n 0) := ⟨by decide +kernel, rfl⟩
theorem dX11_must_93 : dec cX11_must 93 1 94 (.iconst 1) := ⟨by decide +kernel, rfl⟩
theorem dX11_must_94 : dec cX11_must 94 3 97 (.invokevirtual 91) := ⟨by decide +kernel, rfl⟩
theorem dX11_must_97 : dec cX11_must 97 1 98 (.ireturn) := ⟨by decide +kernel, rfl⟩
theorem dX11_must_98 : dec cX11_must 98 1 99 (.aload_n 0) := ⟨by decide +kernel, rfl⟩
theorem dX11_must_99 : dec cX11_must 99 3 102 (.getfield 10) := ⟨by decide +kernel, rfl⟩
theorem dX11_must_102 : dec cX11_must 102 3 105 (.getfield 161) := ⟨by decide +kernel, rfl⟩
theorem dX11_must_105 : dec cX11_must 105 2 107 (.bipush 10) := ⟨by decide +kernel, rfl⟩
theorem dX11_must_107 : dec cX11_must 107 3 110 (.if_icmp .lt 9) := ⟨by decide +kernel, rfl⟩
theorem dX11_must_110 : dec cX11_must 110 1 111 (.aload_n 0) := ⟨by decide +kernel, rfl⟩
theorem dX11_must_111 : dec cX11_must 111 1 112 (.iconst 4) := ⟨by decide +kernel, rfl⟩
theorem dX11_must_112 : dec cX11_must 112 3 115 (.invokevirtual 91) := ⟨by decide +kernel, rfl⟩
theorem dX11_must_115 : dec cX11_must 115 1 116 (.ireturn) := ⟨by decide +kernel, rfl⟩
theorem dX11_must_116 : dec cX11_must 116 1 117 (.aload_n 0) := ⟨by decide +kernel, rfl⟩
theorem dX11_must_117 : dec cX11_must 117 3 120 (.getfield 10) := ⟨by decide +kernel, rfl⟩
theorem dX11_must_120 : dec cX11_must 120 3 123 (.getfield 164) := ⟨by decide +kernel, rfl⟩
theorem dX11_must_123 : dec cX11_must 123 1 124 (.aload_n 0) := ⟨by decide +kernel, rfl⟩
theorem dX11_must_124 : dec cX11_must 124 3 127 (.getfield 10) := ⟨by decide +kernel, rfl⟩
theorem dX11_must_127 : dec cX11_must 127 3 130 (.getfield 161) := ⟨by decide +kernel, rfl⟩
theorem dX11_must_130 : dec cX11_must 130 1 131 (.aaload) := ⟨by decide +kernel, rfl⟩
theorem dX11_must_131 : dec cX11_must 131 2 133 (.astore 8) := ⟨by decide +kernel, rfl⟩
theorem dX11_must_133 : dec cX11_must 133 2 135 (.aload 8) := ⟨by decide +kernel, rfl⟩
theorem dX11_must_135 : dec cX11_must 135 1 136 (.iload_n 1) := ⟨by decide +kernel, rfl⟩
theorem dX11_must_136 : dec cX11_must 136 3 139 (.putfield 168) := ⟨by decide +kernel, rfl⟩
theorem dX11_must_139 : dec cX11_must 139 2 141 (.aload 8) := ⟨by decide +kernel, rfl⟩
theorem dX11_must_141 : dec cX11_must 141 2 143 (.iload 4) := ⟨by decide +kernel, rfl⟩
theorem dX11_must_143 : dec cX11_must 143 3 146 (.putfield 173) := ⟨by decide +kernel, rfl⟩
theorem dX11_must_146 : dec cX11_must 146 2 148 (.aload 8) := ⟨by decide +kernel, rfl⟩
theorem dX11_must_148 : dec cX11_must 148 2 150 (.iload 5) := ⟨by decide +kernel, rfl⟩
theorem dX11_must_150 : dec cX11_must 150 3 153 (.putfield 176) := ⟨by decide +kernel, rfl⟩
theorem dX11_must_153 : dec cX11_must 153 2 155 (.aload 8) := ⟨by decide +kernel, rfl⟩
theorem dX11_must_155 : dec cX11_must 155 1 156 (.iload_n 3) := ⟨by decide +kernel, rfl⟩
theorem dX11_must_156 : dec cX11_must 156 3 159 (.putfield 179) := ⟨by decide +kernel, rfl⟩
theorem dX11_must_159 : dec cX11_must 159 1 160 (.aload_n 0) := ⟨by decide +kernel, rfl⟩
theorem dX11_must_160 : dec cX11_must 160 3 163 (.invokevirtual 122) := ⟨by decide +kernel, rfl⟩
theorem dX11_must_163 : dec cX11_must 163 1 164 (.aload_n 0) := ⟨by decide +kernel, rfl⟩
theorem dX11_must_164 : dec cX11_must 164 3 167 (.getfield 10) := ⟨by decide +kernel, rfl⟩
theorem dX11_must_167 : dec cX11_must 167 1 168 (.dup) := ⟨by decide +kernel, rfl⟩
theorem dX11_must_168 : dec cX11_must 168 3 171 (.getfield 161) := ⟨by decide +kernel, rfl⟩
theorem dX11_must_171 : dec cX11_must 171 1 172 (.dup_x1) := ⟨by decide +kernel, rfl⟩
theorem dX11_must_172 : dec cX11_must 172 1 173 (.iconst 1) := ⟨by decide +kernel, rfl⟩
theorem dX11_must_173 : dec cX11_must 173 1 174 (.iadd) := ⟨by decide +kernel, rfl⟩
theorem dX11_must_174 : dec cX11_must 174 3 177 (.putfield 161) := ⟨by decide +kernel, rfl⟩
theorem dX11_must_177 : dec cX11_must 177 1 178 (.ireturn) := ⟨by decide +kernel, rfl⟩
set_option maxHeartbeats 4000000 in
set_option maxRecDepth 100000 in
theorem tX11_must_J92 {X : Cx} {Y : Yx} {M0 : Mem} (hC : OKX X Y RX11 cX11_must 9 (some .int) rmX11_must) (hF : Y.2.2.2.2 = true) (hL : Lay M0) (Q : Int → Mem → Prop)   (a0 : Nat) (qa0 : 0 < a0 ∧ M0 0 a0 = kO 11)  (M : Mem) (h : wX11_must_J92 Q  a0 M) : WW X Y 9 rmX11_must (QI Q) M0 0 0 92 [(0, vR Y.1 a0)] [] M := by
  unfold wX11_must_J92 at h
  refine r_aload_n hC 0 dX11_must_92 rfl rfl ?_
  refine r_iconst hC dX11_must_93 ?_
  refine r_callV (As := [vI 1]) (st := []) hC cw_X11_91 rfl qa0.1 qa0.2 rfl rfl (Nat.le_of_ble_eq_true rfl) ⟨Nat.le_of_ble_eq_true rfl, Nat.le_of_ble_eq_true rfl⟩ ⟨Nat.le_of_ble_eq_true rfl, Nat.le_of_ble_eq_true rfl⟩ dX11_must_94 (fun hk => mX11_error Y hF _ _ _ _ _ (kqO hk qa0) h) (fun v M_5 h => ?_)
  obtain ⟨r_6, rfl, h⟩ := h
  exact r_iret hC (Nat.zero_le _) (Nat.zero_le _) dX11_must_97 ⟨_, rfl, h⟩
set_option maxHeartbeats 4000000 in
set_option maxRecDepth 100000 in
theorem tX11_must_J80 {X : Cx} {Y : Yx} {M0 : Mem} (hC : OKX X Y RX11 cX11_must 9 (some .int) rmX11_must) (hF : Y.2.2.2.2 = true) (hL : Lay M0) (Q : Int → Mem → Prop)   (a0 : Nat) (x1 : Int) (x3 : Int) (x4 : Int) (x5 : Int) (x6 : Int) (xs0 : Int) (qa0 : 0 < a0 ∧ M0 0 a0 = kO 11)  (M : Mem) (h : wX11_must_J80 Q  a0 x1 x3 x4 x5 x6 xs0 M) : WW X Y 9 rmX11_must (QI Q) M0 0 0 80 [(0, vR Y.1 a0), (1, vI x1), (3, vI x3), (4, vI x4), (5, vI x5), (6, vI x6)] [vI xs0] M := by
  unfold wX11_must_J80 at h
  refine r_istore (lv' := [(7, vI xs0), (0, vR Y.1 a0), (1, vI x1), (3, vI x3), (4, vI x4), (5, vI x5), (6, vI x6)]) hC dX11_must_80 (by decide) rfl ?_
  refine r_iload hC 6 dX11_must_82 rfl ?_
  refine r_if_eq hC 92 rfl dX11_must_84 (by decide) (fun cq => ?_) (fun cq => ?_)
  · replace h := h.1 cq
    refine r_sub [1] rfl ?_
    exact tX11_must_J92 hC hF hL Q   _ qa0  _ h
  · replace h := h.2 cq
    refine r_iload hC 0 dX11_must_87 rfl ?_
    refine r_if_ne hC 98 rfl dX11_must_89 (by decide) (fun cq => ?_) (fun cq => ?_)
    · replace h := h.2 cq
      refine r_aload_n hC 1 dX11_must_98 rfl rfl ?_
      have q_7 : 0 < a0 + 1 ∧ M0 0 (a0 + 1) = kO 0 := lay_f0 (a := a0) hL qa0 fm_11_0
      refine r_getR0 (a' := a0 + 1) hC fg_X11_10 rfl hF fm_11_0 qa0.1 qa0.2 rfl dX11_must_99 ?_
      refine r_getI hC fg_X11_161 rfl q_7.1 q_7.2 dX11_must_102 ?_
      refine r_bipush hC (by decide +kernel) dX11_must_105 ?_
      refine r_icmp_lt hC 116 rfl bmL_10 dX11_must_107 (by decide) (fun cq => ?_) (fun cq => ?_)
      · replace h := h.1 cq
        refine r_aload_n hC 1 dX11_must_116 rfl rfl ?_
        have q_8 : 0 < a0 + 1 ∧ M0 0 (a0 + 1) = kO 0 := lay_f0 (a := a0) hL qa0 fm_11_0
        refine r_getR0 (a' := a0 + 1) hC fg_X11_10 rfl hF fm_11_0 qa0.1 qa0.2 rfl dX11_must_117 ?_
        have q_9 : 0 < a0 + 5 ∧ M0 0 (a0 + 5) = kA 6 10 := lay_f0 (a := a0 + 1) hL q_8 fm_0_5
        refine r_getR0 (a' := a0 + 5) hC fg_X11_164 rfl hF fm_0_5 q_8.1 q_8.2 rfl dX11_must_120 ?_
        refine r_aload_n hC 1 dX11_must_123 rfl rfl ?_
        have q_10 : 0 < a0 + 1 ∧ M0 0 (a0 + 1) = kO 0 := lay_f0 (a := a0) hL qa0 fm_11_0
        refine r_getR0 (a' := a0 + 1) hC fg_X11_10 rfl hF fm_11_0 qa0.1 qa0.2 rfl dX11_must_124 ?_
        refine r_getI hC fg_X11_161 rfl q_10.1 q_10.2 dX11_must_127 ?_
        obtain ⟨i_11, h⟩ := h
        have q_12 : 0 < a0 + 42 + (bm (M (a0 + 1) 6)).toNat ∧ M0 0 (a0 + 42 + (bm (M (a0 + 1) 6)).toNat) = kO 2 := lay_a6 (a := a0 + 5) hL q_9 (inb_nat i_11)
        refine r_aald6 hC hF i_11 q_9.1 q_9.2 dX11_must_130 ?_
        refine r_astore (lv' := [(8, vR Y.1 (a0 + 42 + (bm (M (a0 + 1) 6)).toNat)), (7, vI xs0), (0, vR Y.1 a0), (1, vI x1), (3, vI x3), (4, vI x4), (5, vI x5), (6, vI x6)]) hC dX11_must_131 (by decide) rfl ?_
        refine r_aload hC 0 dX11_must_133 rfl ?_
        refine r_iload_n hC 3 dX11_must_135 rfl rfl ?_
        refine r_putI hC fp_X11_168 rfl q_12.1 q_12.2 dX11_must_136 ?_
        refine r_nameM h (fun M_13 h => ?_)
        refine r_aload hC 0 dX11_must_139 rfl ?_
        refine r_iload hC 5 dX11_must_141 rfl ?_
        refine r_putI hC fp_X11_173 rfl q_12.1 q_12.2 dX11_must_143 ?_
        refine r_nameM h (fun M_14 h => ?_)
        refine r_aload hC 0 dX11_must_146 rfl ?_
        refine r_iload hC 6 dX11_must_148 rfl ?_
        refine r_putI hC fp_X11_176 rfl q_12.1 q_12.2 dX11_must_150 ?_
        refine r_nameM h (fun M_15 h => ?_)
        refine r_aload hC 0 dX11_must_153 rfl ?_
        refine r_iload_n hC 4 dX11_must_155 rfl rfl ?_
        refine r_putI hC fp_X11_179 rfl q_12.1 q_12.2 dX11_must_156 ?_
        refine r_nameM h (fun M_16 h => ?_)
        refine r_aload_n hC 2 dX11_must_159 rfl rfl ?_
        refine r_callV (As := []) (st := []) hC cw_X11_122 rfl qa0.1 qa0.2 rfl rfl (Nat.le_of_ble_eq_true rfl) ⟨Nat.le_of_ble_eq_true rfl, Nat.le_of_ble_eq_true rfl⟩ ⟨Nat.le_of_ble_eq_true rfl, Nat.le_of_ble_eq_true rfl⟩ dX11_must_160 (fun hk => mX11_forget Y hF _ _ _ _ (kqO hk qa0) h) (fun v M_17 h => ?_)
        obtain ⟨rfl, h⟩ := h
        refine r_aload_n hC 2 dX11_must_163 rfl rfl ?_
        have q_18 : 0 < a0 + 1 ∧ M0 0 (a0 + 1) = kO 0 := lay_f0 (a := a0) hL qa0 fm_11_0
        refine r_getR0 (a' := a0 + 1) hC fg_X11_10 rfl hF fm_11_0 qa0.1 qa0.2 rfl dX11_must_164 ?_
        refine r_dup hC rfl dX11_must_167 ?_
        refine r_getI hC fg_X11_161 rfl q_18.1 q_18.2 dX11_must_168 ?_
        refine r_dup_x1 hC rfl rfl dX11_must_171 ?_
        refine r_iconst hC dX11_must_172 ?_
        refine r_iadd hC dX11_must_173 ?_
        refine r_putI hC fp_X11_161 rfl q_18.1 q_18.2 dX11_must_174 ?_
        refine r_nameM h (fun M_19 h => ?_)
        exact r_iret hC (Nat.zero_le _) (Nat.zero_le _) dX11_must_177 ⟨_, rfl, h⟩
      · replace h := h.2 cq
        refine r_aload_n hC 1 dX11_must_110 rfl rfl ?_
        refine r_iconst hC dX11_must_111 ?_
        refine r_callV (As := [vI 4]) (st := []) hC cw_X11_91 rfl qa0.1 qa0.2 rfl rfl (Nat.le_of_ble_eq_true rfl) ⟨Nat.le_of_ble_eq_true rfl, Nat.le_of_ble_eq_true rfl⟩ ⟨Nat.le_of_ble_eq_true rfl, Nat.le_of_ble_eq_true rfl⟩ dX11_must_112 (fun hk => mX11_error Y hF _ _ _ _ _ (kqO hk qa0) h) (fun v M_20 h => ?_)
        obtain ⟨r_21, rfl, h⟩ := h
        exact r_iret hC (Nat.zero_le _) (Nat.zero_le _) dX11_must_115 ⟨_, rfl, h⟩
    · replace h := h.1 cq
      refine r_sub [1] rfl ?_
      exact tX11_must_J92 hC hF hL Q   _ qa0  _ h
set_option maxHeartbeats 4000000 in
set_option maxRecDepth 100000 in
theorem tX11_must_J79 {X : Cx} {Y : Yx} {M0 : Mem} (hC : OKX X Y RX11 cX11_must 9 (some .int) rmX11_must) (hF : Y.2.2.2.2 = true) (hL : Lay M0) (Q : Int → Mem → Prop)   (a0 : Nat) (x1 : Int) (x3 : Int) (x4 : Int) (x5 : Int) (x6 : Int) (qa0 : 0 < a0 ∧ M0 0 a0 = kO 11)  (M : Mem) (h : wX11_must_J79 Q  a0 x1 x3 x4 x5 x6 M) : WW X Y 9 rmX11_must (QI Q) M0 0 0 79 [(0, vR Y.1 a0), (1, vI x1), (3, vI x3), (4, vI x4), (5, vI x5), (6, vI x6)] [] M := by
  unfold wX11_must_J79 at h
  refine r_iconst hC dX11_must_79 ?_
  refine r_sub [0, 1, 2, 3, 4, 5] rfl ?_
  exact tX11_must_J80 hC hF hL Q   _ _ _ _ _ _ _ qa0  _ h
set_option maxHeartbeats 4000000 in
set_option maxRecDepth 100000 in
theorem tX11_must_J38 {X : Cx} {Y : Yx} {M0 : Mem} (hC : OKX X Y RX11 cX11_must 9 (some .int) rmX11_must) (hF : Y.2.2.2.2 = true) (hL : Lay M0) (Q : Int → Mem → Prop)   (a0 : Nat) (x1 : Int) (x2 : Int) (x3 : Int) (x4 : Int) (x5 : Int) (xs0 : Int) (qa0 : 0 < a0 ∧ M0 0 a0 = kO 11)  (M : Mem) (h : wX11_must_J38 Q  a0 x1 x2 x3 x4 x5 xs0 M) : WW X Y 9 rmX11_must (QI Q) M0 0 0 38 [(0, vR Y.1 a0), (1, vI x1), (2, vI x2), (3, vI x3), (4, vI x4), (5, vI x5)] [vI xs0] M := by
  unfold wX11_must_J38 at h
  refine r_istore (lv' := [(6, vI xs0), (0, vR Y.1 a0), (1, vI x1), (2, vI x2), (3, vI x3), (4, vI x4), (5, vI x5)]) hC dX11_must_38 (by decide) rfl ?_
  refine r_iload_n hC 3 dX11_must_40 rfl rfl ?_
  refine r_if_lt hC 79 rfl dX11_must_41 (by decide) (fun cq => ?_) (fun cq => ?_)
  · replace h := h.1 cq
    refine r_sub [1, 2, 4, 5, 6, 0] rfl ?_
    exact tX11_must_J79 hC hF hL Q   _ _ _ _ _ _ qa0  _ h
  · replace h := h.2 cq
    refine r_iload hC 5 dX11_must_44 rfl ?_
    refine r_aload_n hC 1 dX11_must_46 rfl rfl ?_
    have q_22 : 0 < a0 + 1 ∧ M0 0 (a0 + 1) = kO 0 := lay_f0 (a := a0) hL qa0 fm_11_0
    refine r_getR0 (a' := a0 + 1) hC fg_X11_10 rfl hF fm_11_0 qa0.1 qa0.2 rfl dX11_must_47 ?_
    refine r_getI hC fg_X11_95 rfl q_22.1 q_22.2 dX11_must_50 ?_
    refine r_icmp_ge hC 79 rfl rfl dX11_must_53 (by decide) (fun cq => ?_) (fun cq => ?_)
    · replace h := h.1 cq
      refine r_sub [1, 2, 4, 5, 6, 0] rfl ?_
      exact tX11_must_J79 hC hF hL Q   _ _ _ _ _ _ qa0  _ h
    · replace h := h.2 cq
      refine r_iload hC 6 dX11_must_56 rfl ?_
      refine r_aload_n hC 1 dX11_must_58 rfl rfl ?_
      have q_23 : 0 < a0 + 1 ∧ M0 0 (a0 + 1) = kO 0 := lay_f0 (a := a0) hL qa0 fm_11_0
      refine r_getR0 (a' := a0 + 1) hC fg_X11_10 rfl hF fm_11_0 qa0.1 qa0.2 rfl dX11_must_59 ?_
      refine r_getI hC fg_X11_95 rfl q_23.1 q_23.2 dX11_must_62 ?_
      refine r_icmp_ge hC 79 rfl rfl dX11_must_65 (by decide) (fun cq => ?_) (fun cq => ?_)
      · replace h := h.1 cq
        refine r_sub [1, 2, 4, 5, 6, 0] rfl ?_
        exact tX11_must_J79 hC hF hL Q   _ _ _ _ _ _ qa0  _ h
      · replace h := h.2 cq
        refine r_iload hC 5 dX11_must_68 rfl ?_
        refine r_iload hC 6 dX11_must_70 rfl ?_
        refine r_icmp_eq hC 79 rfl rfl dX11_must_72 (by decide) (fun cq => ?_) (fun cq => ?_)
        · replace h := h.1 cq
          refine r_sub [1, 2, 4, 5, 6, 0] rfl ?_
          exact tX11_must_J79 hC hF hL Q   _ _ _ _ _ _ qa0  _ h
        · replace h := h.2 cq
          refine r_iconst hC dX11_must_75 ?_
          refine r_goto hC 80 dX11_must_76 (by decide) ?_
          refine r_sub [1, 2, 4, 5, 6, 0] rfl ?_
          exact tX11_must_J80 hC hF hL Q   _ _ _ _ _ _ _ qa0  _ h
set_option maxHeartbeats 4000000 in
set_option maxRecDepth 100000 in
theorem tX11_must_J37 {X : Cx} {Y : Yx} {M0 : Mem} (hC : OKX X Y RX11 cX11_must 9 (some .int) rmX11_must) (hF : Y.2.2.2.2 = true) (hL : Lay M0) (Q : Int → Mem → Prop)   (a0 : Nat) (x1 : Int) (x2 : Int) (x3 : Int) (x4 : Int) (x5 : Int) (qa0 : 0 < a0 ∧ M0 0 a0 = kO 11)  (M : Mem) (h : wX11_must_J37 Q  a0 x1 x2 x3 x4 x5 M) : WW X Y 9 rmX11_must (QI Q) M0 0 0 37 [(0, vR Y.1 a0), (1, vI x1), (2, vI x2), (3, vI x3), (4, vI x4), (5, vI x5)] [] M := by
  unfold wX11_must_J37 at h
  refine r_iconst hC dX11_must_37 ?_
  refine r_sub [0, 1, 2, 3, 4, 5] rfl ?_
  exact tX11_must_J38 hC hF hL Q   _ _ _ _ _ _ _ qa0  _ h
set_option maxHeartbeats 4000000 in
set_option maxRecDepth 100000 in
theorem mX11_must (Y : Yx) (hF : Y.2.2.2.2 = true) (l : Launch) (a0 : Nat) (x1 : Int) (x2 : Int) (x3 : Int) (M0 : Mem) (Q : Int → Mem → Prop) (qa0 : 0 < a0 ∧ M0 0 a0 = kO 11) (h : wX11_must a0 x1 x2 x3 M0 Q) : CT Y l yX11_must cX11_must 9 (some .int) rmX11_must [vR Y.1 a0, vI x1, vI x2, vI x3] M0 (QI Q) := by
  unfold wX11_must at h
  refine ct_intro (by decide) (Nat.le_of_ble_eq_true rfl) ?_
  intro X hXl hC hL0
  have hL := hL0 hF
  change OKX X Y RX11 cX11_must 9 (some .int) rmX11_must at hC
  change WW X Y 9 rmX11_must (QI Q) M0 0 0 0 [(0, vR Y.1 a0), (1, vI x1), (2, vI x2), (3, vI x3)] [] M0
  refine r_iload_n hC 2 dX11_must_0 rfl rfl ?_
  refine r_bipush hC (by decide +kernel) dX11_must_1 ?_
  refine r_idiv hC (by decide +kernel) dX11_must_3 ?_
  refine r_nameI h (fun x4_1 h => ?_)
  refine r_istore (lv' := [(4, vI x4_1), (0, vR Y.1 a0), (1, vI x1), (2, vI x2), (3, vI x3)]) hC dX11_must_4 (by decide) rfl ?_
  refine r_iload_n hC 3 dX11_must_6 rfl rfl ?_
  refine r_bipush hC (by decide +kernel) dX11_must_7 ?_
  refine r_irem hC (by decide +kernel) dX11_must_9 ?_
  refine r_nameI h (fun x5_2 h => ?_)
  refine r_istore (lv' := [(5, vI x5_2), (4, vI x4_1), (0, vR Y.1 a0), (1, vI x1), (2, vI x2), (3, vI x3)]) hC dX11_must_10 (by decide) rfl ?_
  refine r_iload_n hC 3 dX11_must_12 rfl rfl ?_
  refine r_iconst hC dX11_must_13 ?_
  refine r_bipush hC (by decide +kernel) dX11_must_14 ?_
  refine r_callS (As := [vI x1, vI 0, vI 7]) (st := []) hC cw_X11_87 rfl rfl (Nat.le_of_ble_eq_true rfl) ⟨Nat.le_of_ble_eq_true rfl, Nat.le_of_ble_eq_true rfl⟩ ⟨Nat.le_of_ble_eq_true rfl, Nat.le_of_ble_eq_true rfl⟩ dX11_must_16 (fun hk => mX11_within Y hF _ _ _ _ _ _  h) (fun v M_3 h => ?_)
  obtain ⟨r_4, rfl, h⟩ := h
  refine r_if_eq hC 37 rfl dX11_must_19 (by decide) (fun cq => ?_) (fun cq => ?_)
  · replace h := h.1 cq
    refine r_sub [2, 3, 4, 5, 1, 0] rfl ?_
    exact tX11_must_J37 hC hF hL Q   _ _ _ _ _ _ qa0  _ h
  · replace h := h.2 cq
    refine r_iload_n hC 5 dX11_must_22 rfl rfl ?_
    refine r_iconst hC dX11_must_23 ?_
    refine r_sipush hC (by decide +kernel) dX11_must_24 ?_
    refine r_callS (As := [vI x3, vI 0, vI 999]) (st := []) hC cw_X11_87 rfl rfl (Nat.le_of_ble_eq_true rfl) ⟨Nat.le_of_ble_eq_true rfl, Nat.le_of_ble_eq_true rfl⟩ ⟨Nat.le_of_ble_eq_true rfl, Nat.le_of_ble_eq_true rfl⟩ dX11_must_27 (fun hk => mX11_within Y hF _ _ _ _ _ _  h) (fun v M_24 h => ?_)
    obtain ⟨r_25, rfl, h⟩ := h
    refine r_if_eq hC 37 rfl dX11_must_30 (by decide) (fun cq => ?_) (fun cq => ?_)
    · replace h := h.1 cq
      refine r_sub [2, 3, 4, 5, 1, 0] rfl ?_
      exact tX11_must_J37 hC hF hL Q   _ _ _ _ _ _ qa0  _ h
    · replace h := h.2 cq
      refine r_iconst hC dX11_must_33 ?_
      refine r_goto hC 38 dX11_must_34 (by decide) ?_
      refine r_sub [2, 3, 4, 5, 1, 0] rfl ?_
      exact tX11_must_J38 hC hF hL Q   _ _ _ _ _ _ _ qa0  _ h
theorem dX11_feed_0 : dec cX11_feed 0 1 1 (.iload_n 3) := ⟨by decide +kernel, rfl⟩
theorem dX11_feed_1 : dec cX11_feed 1 1 2 (.iconst 1) := ⟨by decide +kernel, rfl⟩
theorem dX11_feed_2 : dec cX11_feed 2 2 4 (.bipush 8) := ⟨by decide +kernel, rfl⟩
theorem dX11_feed_4 : dec cX11_feed 4 3 7 (.invokestatic 87) := ⟨by decide +kernel, rfl⟩
theorem dX11_feed_7 : dec cX11_feed 7 3 10 (.ifCond .ne 9) := ⟨by decide +kernel, rfl⟩
theorem dX11_feed_10 : dec cX11_feed 10 1 11 (.aload_n 0) := ⟨by decide +kernel, rfl⟩
theorem dX11_feed_11 : dec cX11_feed 11 1 12 (.iconst 1) := ⟨by decide +kernel, rfl⟩
theorem dX11_feed_12 : dec cX11_feed 12 3 15 (.invokevirtual 91) := ⟨by decide +kernel, rfl⟩
theorem dX11_feed_15 : dec cX11_feed 15 1 16 (.ireturn) := ⟨by decide +kernel, rfl⟩
theorem dX11_feed_16 : dec cX11_feed 16 1 17 (.aload_n 0) := ⟨by decide +kernel, rfl⟩
theorem dX11_feed_17 : dec cX11_feed 17 3 20 (.getfield 10) := ⟨by decide +kernel, rfl⟩
theorem dX11_feed_20 : dec cX11_feed 20 3 23 (.getfield 182) := ⟨by decide +kernel, rfl⟩
theorem dX11_feed_23 : dec cX11_feed 23 1 24 (.iload_n 3) := ⟨by decide +kernel, rfl⟩
theorem dX11_feed_24 : dec cX11_feed 24 1 25 (.iadd) := ⟨by decide +kernel, rfl⟩
theorem dX11_feed_25 : dec cX11_feed 25 2 27 (.bipush 50) := ⟨by decide +kernel, rfl⟩
theorem dX11_feed_27 : dec cX11_feed 27 3 30 (.if_icmp .le 9) := ⟨by decide +kernel, rfl⟩
theorem dX11_feed_30 : dec cX11_feed 30 1 31 (.aload_n 0) := ⟨by decide +kernel, rfl⟩
theorem dX11_feed_31 : dec cX11_feed 31 1 32 (.iconst 4) := ⟨by decide +kernel, rfl⟩
theorem dX11_feed_32 : dec cX11_feed 32 3 35 (.invokevirtual 91) := ⟨by decide +kernel, rfl⟩
theorem dX11_feed_35 : dec cX11_feed 35 1 36 (.ireturn) := ⟨by decide +kernel, rfl⟩
theorem dX11_feed_36 : dec cX11_feed 36 1 37 (.iconst 0) := ⟨by decide +kernel, rfl⟩
theorem dX11_feed_37 : dec cX11_feed 37 2 39 (.istore 4) := ⟨by decide +kernel, rfl⟩
theorem dX11_feed_39 : dec cX11_feed 39 2 41 (.iload 4) := ⟨by decide +kernel, rfl⟩
theorem dX11_feed_41 : dec cX11_feed 41 1 42 (.iload_n 3) := ⟨by decide +kernel, rfl⟩
theorem dX11_feed_42 : dec cX11_feed 42 3 45 (.if_icmp .ge 36) := ⟨by decide +kernel, rfl⟩
theorem dX11_feed_45 : dec cX11_feed 45 1 46 (.aload_n 0) := ⟨by decide +kernel, rfl⟩
theorem dX11_feed_46 : dec cX11_feed 46 3 49 (.getfield 10) := ⟨by decide +kernel, rfl⟩
theorem dX11_feed_49 : dec cX11_feed 49 3 52 (.getfield 185) := ⟨by decide +kernel, rfl⟩
theorem dX11_feed_52 : dec cX11_feed 52 1 53 (.aload_n 0) := ⟨by decide +kernel, rfl⟩
theorem dX11_feed_53 : dec cX11_feed 53 3 56 (.getfield 10) := ⟨by decide +kernel, rfl⟩
theorem dX11_feed_56 : dec cX11_feed 56 3 59 (.getfield 182) := ⟨by decide +kernel, rfl⟩
theorem dX11_feed_59 : dec cX11_feed 59 2 61 (.iload 4) := ⟨by decide +kernel, rfl⟩
theorem dX11_feed_61 : dec cX11_feed 61 1 62 (.iadd) := ⟨by decide +kernel, rfl⟩
theorem dX11_feed_62 : dec cX11_feed 62 1 63 (.lload_n 1) := ⟨by decide +kernel, rfl⟩
theorem dX11_feed_63 : dec cX11_feed 63 2 65 (.bipush 8) := ⟨by decide +kernel, rfl⟩
theorem dX11_feed_65 : dec cX11_feed 65 2 67 (.iload 4) := ⟨by decide +kernel, rfl⟩
theorem dX11_feed_67 : dec cX11_feed 67 1 68 (.imul) := ⟨by decide +kernel, rfl⟩
theorem dX11_feed_68 : dec cX11_feed 68 1 69 (.lshr) := ⟨by decide +kernel, rfl⟩
theorem dX11_feed_69 : dec cX11_feed 69 1 70 (.l2i) := ⟨by decide +kernel, rfl⟩
theorem dX11_feed_70 : dec cX11_feed 70 1 71 (.i2b) := ⟨by decide +kernel, rfl⟩
theorem dX11_feed_71 : dec cX11_feed 71 1 72 (.bastore) := ⟨by decide +kernel, rfl⟩
theorem dX11_feed_72 : dec cX11_feed 72 3 75 (.iinc 4 1) := ⟨by decide +kernel, rfl⟩
theorem dX11_feed_75 : dec cX11_feed 75 3 78 (.goto (-36)) := ⟨by decide +kernel, rfl⟩
theorem dX11_feed_78 : dec cX11_feed 78 1 79 (.aload_n 0) := ⟨by decide +kernel, rfl⟩
theorem dX11_feed_79 : dec cX11_feed 79 3 82 (.getfield 10) := ⟨by decide +kernel, rfl⟩
theorem dX11_feed_82 : dec cX11_feed 82 1 83 (.dup) := ⟨by decide +kernel, rfl⟩
theorem dX11_feed_83 : dec cX11_feed 83 3 86 (.getfield 182) := ⟨by decide +kernel, rfl⟩
theorem dX11_feed_86 : dec cX11_feed 86 1 87 (.iload_n 3) := ⟨by decide +kernel, rfl⟩
theorem dX11_feed_87 : dec cX11_feed 87 1 88 (.iadd) := ⟨by decide +kernel, rfl⟩
theorem dX11_feed_88 : dec cX11_feed 88 3 91 (.putfield 182) := ⟨by decide +kernel, rfl⟩
theorem dX11_feed_91 : dec cX11_feed 91 1 92 (.aload_n 0) := ⟨by decide +kernel, rfl⟩
theorem dX11_feed_92 : dec cX11_feed 92 3 95 (.getfield 10) := ⟨by decide +kernel, rfl⟩
theorem dX11_feed_95 : dec cX11_feed 95 3 98 (.getfield 182) := ⟨by decide +kernel, rfl⟩
theorem dX11_feed_98 : dec cX11_feed 98 1 99 (.ireturn) := ⟨by decide +kernel, rfl⟩
set_option maxHeartbeats 4000000 in
set_option maxRecDepth 100000 in
theorem tX11_feed_L39 {X : Cx} {Y : Yx} {M0 : Mem} (hC : OKX X Y RX11 cX11_feed 5 (some .int) rmX11_feed) (hF : Y.2.2.2.2 = true) (hL : Lay M0) (Q : Int → Mem → Prop) (E78 : Mem → Prop) (a0 : Nat) (l1 : Int) (x3 : Int) (qa0 : 0 < a0 ∧ M0 0 a0 = kO 11) (hE78 : ∀  (M : Mem), E78  M → WW X Y 5 rmX11_feed (QI Q) M0 0 0 78 [(0, vR Y.1 a0), (3, vI x3)] [] M) : ∀ (N : Nat) (x4 : Int) (M : Mem) (_ : wX11_feed_L39 Q E78 a0 l1 x3 N x4 M), WW X Y 5 rmX11_feed (QI Q) M0 0 0 39 [(0, vR Y.1 a0), (1, vL l1), (3, vI x3), (4, vI x4)] [] M := by
  intro N
  induction N with
  | zero =>
    intro x4 M h
    exact h.elim
  | succ N ih =>
    intro x4 M h
    unfold wX11_feed_L39 at h
    refine r_iload hC 3 dX11_feed_39 rfl ?_
    refine r_iload_n hC 2 dX11_feed_41 rfl rfl ?_
    refine r_icmp_ge hC 78 rfl rfl dX11_feed_42 (by decide) (fun cq => ?_) (fun cq => ?_)
    · replace h := h.1 cq
      refine r_sub [0, 2] rfl ?_
      exact hE78  _ h
    · replace h := h.2 cq
      refine r_aload_n hC 0 dX11_feed_45 rfl rfl ?_
      have q_4 : 0 < a0 + 1 ∧ M0 0 (a0 + 1) = kO 0 := lay_f0 (a := a0) hL qa0 fm_11_0
      refine r_getR0 (a' := a0 + 1) hC fg_X11_10 rfl hF fm_11_0 qa0.1 qa0.2 rfl dX11_feed_46 ?_
      have q_5 : 0 < a0 + 6 ∧ M0 0 (a0 + 6) = kA 1 50 := lay_f0 (a := a0 + 1) hL q_4 fm_0_7
      refine r_getR0 (a' := a0 + 6) hC fg_X11_185 rfl hF fm_0_7 q_4.1 q_4.2 rfl dX11_feed_49 ?_
      refine r_aload_n hC 0 dX11_feed_52 rfl rfl ?_
      have q_6 : 0 < a0 + 1 ∧ M0 0 (a0 + 1) = kO 0 := lay_f0 (a := a0) hL qa0 fm_11_0
      refine r_getR0 (a' := a0 + 1) hC fg_X11_10 rfl hF fm_11_0 qa0.1 qa0.2 rfl dX11_feed_53 ?_
      refine r_getI hC fg_X11_182 rfl q_6.1 q_6.2 dX11_feed_56 ?_
      refine r_iload hC 3 dX11_feed_59 rfl ?_
      refine r_iadd hC dX11_feed_61 ?_
      refine r_lload_n hC 1 dX11_feed_62 rfl rfl ?_
      refine r_bipush hC (by decide +kernel) dX11_feed_63 ?_
      refine r_iload hC 3 dX11_feed_65 rfl ?_
      refine r_imul hC dX11_feed_67 ?_
      refine r_lshr hC dX11_feed_68 ?_
      refine r_l2i hC dX11_feed_69 ?_
      refine r_i2b hC dX11_feed_70 ?_
      obtain ⟨i_7, h⟩ := h
      refine r_bast hC i_7 q_5.1 q_5.2 (by decide) dX11_feed_71 ?_
      refine r_nameM h (fun M_8 h => ?_)
      refine let_elim h (fun x4_9 e_10 h => ?_)
      refine r_iinc (lv' := [(4, vI x4_9), (0, vR Y.1 a0), (1, vL l1), (3, vI x3)]) hC 3 dX11_feed_72 rfl (by decide) e_10 rfl ?_
      refine r_goto hC 39 dX11_feed_75 (by decide) ?_
      refine r_sub [1, 2, 3, 0] rfl ?_
      exact ih _ _ h
set_option maxHeartbeats 4000000 in
set_option maxRecDepth 100000 in
theorem mX11_feed (Y : Yx) (hF : Y.2.2.2.2 = true) (l : Launch) (a0 : Nat) (l1 : Int) (x3 : Int) (M0 : Mem) (Q : Int → Mem → Prop) (qa0 : 0 < a0 ∧ M0 0 a0 = kO 11) (h : wX11_feed a0 l1 x3 M0 Q) : CT Y l yX11_feed cX11_feed 5 (some .int) rmX11_feed [vR Y.1 a0, vL l1, vI x3] M0 (QI Q) := by
  unfold wX11_feed at h
  refine ct_intro (by decide) (Nat.le_of_ble_eq_true rfl) ?_
  intro X hXl hC hL0
  have hL := hL0 hF
  change OKX X Y RX11 cX11_feed 5 (some .int) rmX11_feed at hC
  change WW X Y 5 rmX11_feed (QI Q) M0 0 0 0 [(0, vR Y.1 a0), (1, vL l1), (3, vI x3)] [] M0
  refine r_iload_n hC 2 dX11_feed_0 rfl rfl ?_
  refine r_iconst hC dX11_feed_1 ?_
  refine r_bipush hC (by decide +kernel) dX11_feed_2 ?_
  refine r_callS (As := [vI x3, vI 1, vI 8]) (st := []) hC cw_X11_87 rfl rfl (Nat.le_of_ble_eq_true rfl) ⟨Nat.le_of_ble_eq_true rfl, Nat.le_of_ble_eq_true rfl⟩ ⟨Nat.le_of_ble_eq_true rfl, Nat.le_of_ble_eq_true rfl⟩ dX11_feed_4 (fun hk => mX11_within Y hF _ _ _ _ _ _  h) (fun v M_1 h => ?_)
  obtain ⟨r_2, rfl, h⟩ := h
  refine r_if_ne hC 16 rfl dX11_feed_7 (by decide) (fun cq => ?_) (fun cq => ?_)
  · replace h := h.2 cq
    refine r_aload_n hC 0 dX11_feed_16 rfl rfl ?_
    have q_3 : 0 < a0 + 1 ∧ M0 0 (a0 + 1) = kO 0 := lay_f0 (a := a0) hL qa0 fm_11_0
    refine r_getR0 (a' := a0 + 1) hC fg_X11_10 rfl hF fm_11_0 qa0.1 qa0.2 rfl dX11_feed_17 ?_
    refine r_getI hC fg_X11_182 rfl q_3.1 q_3.2 dX11_feed_20 ?_
    refine r_iload_n hC 2 dX11_feed_23 rfl rfl ?_
    refine r_iadd hC dX11_feed_24 ?_
    refine r_bipush hC (by decide +kernel) dX11_feed_25 ?_
    refine r_icmp_le hC 36 rfl bmL_50 dX11_feed_27 (by decide) (fun cq => ?_) (fun cq => ?_)
    · replace h := h.1 cq
      refine r_iconst hC dX11_feed_36 ?_
      refine r_istore (lv' := [(4, vI 0), (0, vR Y.1 a0), (1, vL l1), (3, vI x3)]) hC dX11_feed_37 (by decide) rfl ?_
      refine r_sub [1, 2, 3, 0] rfl ?_
      obtain ⟨N_15, h⟩ := h
      refine tX11_feed_L39 hC hF hL Q _ _ _ _ qa0 ?_ N_15 _ _ h
      · intro M_11 h
        refine r_aload_n hC 0 dX11_feed_78 rfl rfl ?_
        have q_12 : 0 < a0 + 1 ∧ M0 0 (a0 + 1) = kO 0 := lay_f0 (a := a0) hL qa0 fm_11_0
        refine r_getR0 (a' := a0 + 1) hC fg_X11_10 rfl hF fm_11_0 qa0.1 qa0.2 rfl dX11_feed_79 ?_
        refine r_dup hC rfl dX11_feed_82 ?_
        refine r_getI hC fg_X11_182 rfl q_12.1 q_12.2 dX11_feed_83 ?_
        refine r_iload_n hC 1 dX11_feed_86 rfl rfl ?_
        refine r_iadd hC dX11_feed_87 ?_
        refine r_putI hC fp_X11_182 rfl q_12.1 q_12.2 dX11_feed_88 ?_
        refine r_nameM h (fun M_13 h => ?_)
        refine r_aload_n hC 0 dX11_feed_91 rfl rfl ?_
        have q_14 : 0 < a0 + 1 ∧ M0 0 (a0 + 1) = kO 0 := lay_f0 (a := a0) hL qa0 fm_11_0
        refine r_getR0 (a' := a0 + 1) hC fg_X11_10 rfl hF fm_11_0 qa0.1 qa0.2 rfl dX11_feed_92 ?_
        refine r_getI hC fg_X11_182 rfl q_14.1 q_14.2 dX11_feed_95 ?_
        exact r_iret hC (Nat.zero_le _) (Nat.zero_le _) dX11_feed_98 ⟨_, rfl, h⟩
    · replace h := h.2 cq
      refine r_aload_n hC 0 dX11_feed_30 rfl rfl ?_
      refine r_iconst hC dX11_feed_31 ?_
      refine r_callV (As := [vI 4]) (st := []) hC cw_X11_91 rfl qa0.1 qa0.2 rfl rfl (Nat.le_of_ble_eq_true rfl) ⟨Nat.le_of_ble_eq_true rfl, Nat.le_of_ble_eq_true rfl⟩ ⟨Nat.le_of_ble_eq_true rfl, Nat.le_of_ble_eq_true rfl⟩ dX11_feed_32 (fun hk => mX11_error Y hF _ _ _ _ _ (kqO hk qa0) h) (fun v M_16 h => ?_)
      obtain ⟨r_17, rfl, h⟩ := h
      exact r_iret hC (Nat.zero_le _) (Nat.zero_le _) dX11_feed_35 ⟨_, rfl, h⟩
  · replace h := h.1 cq
    refine r_aload_n hC 0 dX11_feed_10 rfl rfl ?_
    refine r_iconst hC dX11_feed_11 ?_
    refine r_callV (As := [vI 1]) (st := []) hC cw_X11_91 rfl qa0.1 qa0.2 rfl rfl (Nat.le_of_ble_eq_true rfl) ⟨Nat.le_of_ble_eq_true rfl, Nat.le_of_ble_eq_true rfl⟩ ⟨Nat.le_of_ble_eq_true rfl, Nat.le_of_ble_eq_true rfl⟩ dX11_feed_12 (fun hk => mX11_error Y hF _ _ _ _ _ (kqO hk qa0) h) (fun v M_18 h => ?_)
    obtain ⟨r_19, rfl, h⟩ := h
    exact r_iret hC (Nat.zero_le _) (Nat.zero_le _) dX11_feed_15 ⟨_, rfl, h⟩
theorem dJ0_isEmpty_aae02_0 : dec cJ0_isEmpty_aae02 0 1 1 (.aload_n 0) := ⟨by decide +kernel, rfl⟩
theorem dJ0_isEmpty_aae02_1 : dec cJ0_isEmpty_aae02 1 3 4 (.getfield 9) := ⟨by decide +kernel, rfl⟩
theorem dJ0_isEmpty_aae02_4 : dec cJ0_isEmpty_aae02 4 1 5 (.arraylength) := ⟨by decide +kernel, rfl⟩
theorem dJ0_isEmpty_aae02_5 : dec cJ0_isEmpty_aae02 5 3 8 (.ifCond .ne 7) := ⟨by decide +kernel, rfl⟩
theorem dJ0_isEmpty_aae02_8 : dec cJ0_isEmpty_aae02 8 1 9 (.iconst 1) := ⟨by decide +kernel, rfl⟩
theorem dJ0_isEmpty_aae02_9 : dec cJ0_isEmpty_aae02 9 3 12 (.goto 4) := ⟨by decide +kernel, rfl⟩
theorem dJ0_isEmpty_aae02_12 : dec cJ0_isEmpty_aae02 12 1 13 (.iconst 0) := ⟨by decide +kernel, rfl⟩
theorem dJ0_isEmpty_aae02_13 : dec cJ0_isEmpty_aae02 13 1 14 (.ireturn) := ⟨by decide +kernel, rfl⟩
set_option maxHeartbeats 4000000 in
set_option maxRecDepth 100000 in
theorem mJ0_isEmpty_aae02 (Y : Yx) (hF : Y.2.2.2.2 = true) (l : Launch) (z0 : Int) (M0 : Mem) (Q : Int → Mem → Prop) (qz0 : isS z0) (h : wJ0_isEmpty_aae02 z0 M0 Q) : CT Y l yJ0_isEmpty_aae02 cJ0_isEmpty_aae02 1 (some .boolean) rmJ0_isEmpty_aae02 [vS Y.2.2.1 z0] M0 (QI Q) := by
  unfold wJ0_isEmpty_aae02 at h
  refine ct_intro (by decide +kernel) (by simp only [vS]; split <;> exact Nat.le_of_ble_eq_true rfl) ?_
  intro X hXl hC hL0
  have hL := hL0 hF
  change OKX X Y RJ0 cJ0_isEmpty_aae02 1 (some .boolean) rmJ0_isEmpty_aae02 at hC
  change WW X Y 1 rmJ0_isEmpty_aae02 (QI Q) M0 0 0 0 [(0, vS Y.2.2.1 z0)] [] M0
  refine r_aloadS_n hC qz0 0 dJ0_isEmpty_aae02_0 rfl rfl ?_
  refine r_sval hC qz0 sf_J0_9 dJ0_isEmpty_aae02_1 ?_
  refine r_slen hC qz0 dJ0_isEmpty_aae02_4 ?_
  refine r_if_ne hC 12 rfl dJ0_isEmpty_aae02_5 (by decide) (fun cq => ?_) (fun cq => ?_)
  · replace h := h.2 cq
    refine r_iconst hC dJ0_isEmpty_aae02_12 ?_
    exact r_zret hC (Or.inl rfl) (Nat.zero_le _) (Nat.zero_le _) dJ0_isEmpty_aae02_13 ⟨_, rfl, h⟩
  · replace h := h.1 cq
    refine r_iconst hC dJ0_isEmpty_aae02_8 ?_
    refine r_goto hC 13 dJ0_isEmpty_aae02_9 (by decide) ?_
    exact r_zret hC (Or.inr rfl) (Nat.zero_le _) (Nat.zero_le _) dJ0_isEmpty_aae02_13 ⟨_, rfl, h⟩
theorem dX11_text_0 : dec cX11_text 0 1 1 (.aload_n 0) := ⟨by decide +kernel, rfl⟩
theorem dX11_text_1 : dec cX11_text 1 1 2 (.iload_n 1) := ⟨by decide +kernel, rfl⟩
theorem dX11_text_2 : dec cX11_text 2 3 5 (.invokevirtual 144) := ⟨by decide +kernel, rfl⟩
theorem dX11_text_5 : dec cX11_text 5 3 8 (.ifCond .eq 9) := ⟨by decide +kernel, rfl⟩
theorem dX11_text_8 : dec cX11_text 8 1 9 (.aload_n 0) := ⟨by decide +kernel, rfl⟩
theorem dX11_text_9 : dec cX11_text 9 1 10 (.iconst 1) := ⟨by decide +kernel, rfl⟩
theorem dX11_text_10 : dec cX11_text 10 3 13 (.invokevirtual 91) := ⟨by decide +kernel, rfl⟩
theorem dX11_text_13 : dec cX11_text 13 1 14 (.ireturn) := ⟨by decide +kernel, rfl⟩
theorem dX11_text_14 : dec cX11_text 14 1 15 (.aload_n 0) := ⟨by decide +kernel, rfl⟩
theorem dX11_text_15 : dec cX11_text 15 3 18 (.getfield 10) := ⟨by decide +kernel, rfl⟩
theorem dX11_text_18 : dec cX11_text 18 3 21 (.getfield 134) := ⟨by decide +kernel, rfl⟩
theorem dX11_text_21 : dec cX11_text 21 1 22 (.iload_n 1) := ⟨by decide +kernel, rfl⟩
theorem dX11_text_22 : dec cX11_text 22 1 23 (.aaload) := ⟨by decide +kernel, rfl⟩
theorem dX11_text_23 : dec cX11_text 23 1 24 (.astore_n 2) := ⟨by decide +kernel, rfl⟩
theorem dX11_text_24 : dec cX11_text 24 1 25 (.aload_n 2) := ⟨by decide +kernel, rfl⟩
theorem dX11_text_25 : dec cX11_text 25 3 28 (.invokevirtual 189) := ⟨by decide +kernel, rfl⟩
theorem dX11_text_28 : dec cX11_text 28 3 31 (.invokevirtual 193) := ⟨by decide +kernel, rfl⟩
theorem dX11_text_31 : dec cX11_text 31 3 34 (.ifCond .eq 9) := ⟨by decide +kernel, rfl⟩
theorem dX11_text_34 : dec cX11_text 34 1 35 (.aload_n 0) := ⟨by decide +kernel, rfl⟩
theorem dX11_text_35 : dec cX11_text 35 1 36 (.iconst 5) := ⟨by decide +kernel, rfl⟩
theorem dX11_text_36 : dec cX11_text 36 3 39 (.invokevirtual 91) := ⟨by decide +kernel, rfl⟩
theorem dX11_text_39 : dec cX11_text 39 1 40 (.ireturn) := ⟨by decide +kernel, rfl⟩
theorem dX11_text_40 : dec cX11_text 40 1 41 (.aload_n 0) := ⟨by decide +kernel, rfl⟩
theorem dX11_text_41 : dec cX11_text 41 3 44 (.getfield 71) := ⟨by decide +kernel, rfl⟩
theorem dX11_text_44 : dec cX11_text 44 1 45 (.aload_n 0) := ⟨by decide +kernel, rfl⟩
theorem dX11_text_45 : dec cX11_text 45 3 48 (.getfield 10) := ⟨by decide +kernel, rfl⟩
theorem dX11_text_48 : dec cX11_text 48 3 51 (.getfield 185) := ⟨by decide +kernel, rfl⟩
theorem dX11_text_51 : dec cX11_text 51 1 52 (.aload_n 0) := ⟨by decide +kernel, rfl⟩
theorem dX11_text_52 : dec cX11_text 52 3 55 (.getfield 10) := ⟨by decide +kernel, rfl⟩
theorem dX11_text_55 : dec cX11_text 55 3 58 (.getfield 182) := ⟨by decide +kernel, rfl⟩
theorem dX11_text_58 : dec cX11_text 58 1 59 (.aload_n 2) := ⟨by decide +kernel, rfl⟩
theorem dX11_text_59 : dec cX11_text 59 3 62 (.invokevirtual 189) := ⟨by decide +kernel, rfl⟩
theorem dX11_text_62 : dec cX11_text 62 3 65 (.invokevirtual 199) := ⟨by decide +kernel, rfl⟩
theorem dX11_text_65 : dec cX11_text 65 1 66 (.istore_n 3) := ⟨by decide +kernel, rfl⟩
theorem dX11_text_66 : dec cX11_text 66 1 67 (.aload_n 0) := ⟨by decide +kernel, rfl⟩
theorem dX11_text_67 : dec cX11_text 67 3 70 (.getfield 10) := ⟨by decide +kernel, rfl⟩
theorem dX11_text_70 : dec cX11_text 70 1 71 (.iconst 0) := ⟨by decide +kernel, rfl⟩
theorem dX11_text_71 : dec cX11_text 71 3 74 (.putfield 182) := ⟨by decide +kernel, rfl⟩
theorem dX11_text_74 : dec cX11_text 74 1 75 (.iload_n 3) := ⟨by decide +kernel, rfl⟩
theorem dX11_text_75 : dec cX11_text 75 3 78 (.ifCond .lt 25) := ⟨by decide +kernel, rfl⟩
theorem dX11_text_78 : dec cX11_text 78 1 79 (.aload_n 2) := ⟨by decide +kernel, rfl⟩
theorem dX11_text_79 : dec cX11_text 79 1 80 (.aload_n 0) := ⟨by decide +kernel, rfl⟩
theorem dX11_text_80 : dec cX11_text 80 3 83 (.getfield 71) := ⟨by decide +kernel, rfl⟩
theorem dX11_text_83 : dec cX11_text 83 3 86 (.getfield 203) := ⟨by decide +kernel, rfl⟩
theorem dX11_text_86 : dec cX11_text 86 1 87 (.aload_n 0) := ⟨by decide +kernel, rfl⟩
theorem dX11_text_87 : dec cX11_text 87 3 90 (.getfield 71) := ⟨by decide +kernel, rfl⟩
theorem dX11_text_90 : dec cX11_text 90 3 93 (.getfield 206) := ⟨by decide +kernel, rfl⟩
theorem dX11_text_93 : dec cX11_text 93 3 96 (.invokevirtual 209) := ⟨by decide +kernel, rfl⟩
theorem dX11_text_96 : dec cX11_text 96 1 97 (.aload_n 0) := ⟨by decide +kernel, rfl⟩
theorem dX11_text_97 : dec cX11_text 97 3 100 (.invokevirtual 122) := ⟨by decide +kernel, rfl⟩
theorem dX11_text_100 : dec cX11_text 100 1 101 (.iload_n 3) := ⟨by decide +kernel, rfl⟩
theorem dX11_text_101 : dec cX11_text 101 1 102 (.ireturn) := ⟨by decide +kernel, rfl⟩
set_option maxHeartbeats 4000000 in
set_option maxRecDepth 100000 in
theorem mX11_text (Y : Yx) (hF : Y.2.2.2.2 = true) (l : Launch) (a0 : Nat) (x1 : Int) (M0 : Mem) (Q : Int → Mem → Prop) (qa0 : 0 < a0 ∧ M0 0 a0 = kO 11) (h : wX11_text a0 x1 M0 Q) : CT Y l yX11_text cX11_text 4 (some .int) rmX11_text [vR Y.1 a0, vI x1] M0 (QI Q) := by
  unfold wX11_text at h
  refine ct_intro (by decide) (Nat.le_of_ble_eq_true rfl) ?_
  intro X hXl hC hL0
  have hL := hL0 hF
  change OKX X Y RX11 cX11_text 4 (some .int) rmX11_text at hC
  change WW X Y 4 rmX11_text (QI Q) M0 0 0 0 [(0, vR Y.1 a0), (1, vI x1)] [] M0
  refine r_aload_n hC 0 dX11_text_0 rfl rfl ?_
  refine r_iload_n hC 1 dX11_text_1 rfl rfl ?_
  refine r_callV (As := [vI x1]) (st := []) hC cw_X11_144 rfl qa0.1 qa0.2 rfl rfl (Nat.le_of_ble_eq_true rfl) ⟨Nat.le_of_ble_eq_true rfl, Nat.le_of_ble_eq_true rfl⟩ ⟨Nat.le_of_ble_eq_true rfl, Nat.le_of_ble_eq_true rfl⟩ dX11_text_2 (fun hk => mX11_isNoLiking Y hF _ _ _ _ _ (kqO hk qa0) h) (fun v M_1 h => ?_)
  obtain ⟨r_2, rfl, h⟩ := h
  refine r_if_eq hC 14 rfl dX11_text_5 (by decide) (fun cq => ?_) (fun cq => ?_)
  · replace h := h.1 cq
    refine r_aload_n hC 0 dX11_text_14 rfl rfl ?_
    have q_3 : 0 < a0 + 1 ∧ M0 0 (a0 + 1) = kO 0 := lay_f0 (a := a0) hL qa0 fm_11_0
    refine r_getR0 (a' := a0 + 1) hC fg_X11_10 rfl hF fm_11_0 qa0.1 qa0.2 rfl dX11_text_15 ?_
    have q_4 : 0 < a0 + 4 ∧ M0 0 (a0 + 4) = kA 5 10 := lay_f0 (a := a0 + 1) hL q_3 fm_0_3
    refine r_getR0 (a' := a0 + 4) hC fg_X11_134 rfl hF fm_0_3 q_3.1 q_3.2 rfl dX11_text_18 ?_
    refine r_iload_n hC 1 dX11_text_21 rfl rfl ?_
    obtain ⟨i_5, h⟩ := h
    have q_6 : 0 < a0 + 22 + 2 * (bm x1).toNat ∧ M0 0 (a0 + 22 + 2 * (bm x1).toNat) = kO 1 := lay_a5 (a := a0 + 4) hL q_4 (inb_nat i_5)
    refine r_aald5 hC hF i_5 q_4.1 q_4.2 dX11_text_22 ?_
    refine r_astore_n (lv' := [(2, vR Y.1 (a0 + 22 + 2 * (bm x1).toNat)), (0, vR Y.1 a0), (1, vI x1)]) hC dX11_text_23 rfl (by decide) rfl ?_
    refine r_aload_n hC 0 dX11_text_24 rfl rfl ?_
    refine r_callV (As := []) (st := []) hC cw_X11_189 rfl q_6.1 q_6.2 rfl rfl (Nat.le_of_ble_eq_true rfl) ⟨Nat.le_of_ble_eq_true rfl, Nat.le_of_ble_eq_true rfl⟩ ⟨Nat.le_of_ble_eq_true rfl, Nat.le_of_ble_eq_true rfl⟩ dX11_text_25 (fun hk => mX1_names Y hF _ _ _ _ (kqO hk q_6) h) (fun v M_7 h => ?_)
    obtain ⟨r_8, z_9, rfl, h⟩ := h
    refine r_callT (As := []) (st := []) hC z_9 cw_X11_193 rfl rfl rfl (Nat.le_of_ble_eq_true rfl) ⟨Nat.le_of_ble_eq_true rfl, Nat.le_of_ble_eq_true rfl⟩ ⟨Nat.le_of_ble_eq_true rfl, Nat.le_of_ble_eq_true rfl⟩ dX11_text_28 (fun hk => mJ0_isEmpty_aae02 Y hF _ _ _ _ z_9 h) (fun v M_10 h => ?_)
    obtain ⟨r_11, rfl, h⟩ := h
    refine r_if_eq hC 40 rfl dX11_text_31 (by decide) (fun cq => ?_) (fun cq => ?_)
    · replace h := h.1 cq
      refine r_aload_n hC 1 dX11_text_40 rfl rfl ?_
      have q_12 : 0 < a0 + 110 ∧ M0 0 (a0 + 110) = kO 4 := lay_f0 (a := a0) hL qa0 fm_11_10
      refine r_getR0 (a' := a0 + 110) hC fg_X11_71 rfl hF fm_11_10 qa0.1 qa0.2 rfl dX11_text_41 ?_
      refine r_aload_n hC 1 dX11_text_44 rfl rfl ?_
      have q_13 : 0 < a0 + 1 ∧ M0 0 (a0 + 1) = kO 0 := lay_f0 (a := a0) hL qa0 fm_11_0
      refine r_getR0 (a' := a0 + 1) hC fg_X11_10 rfl hF fm_11_0 qa0.1 qa0.2 rfl dX11_text_45 ?_
      have q_14 : 0 < a0 + 6 ∧ M0 0 (a0 + 6) = kA 1 50 := lay_f0 (a := a0 + 1) hL q_13 fm_0_7
      refine r_getR0 (a' := a0 + 6) hC fg_X11_185 rfl hF fm_0_7 q_13.1 q_13.2 rfl dX11_text_48 ?_
      refine r_aload_n hC 1 dX11_text_51 rfl rfl ?_
      have q_15 : 0 < a0 + 1 ∧ M0 0 (a0 + 1) = kO 0 := lay_f0 (a := a0) hL qa0 fm_11_0
      refine r_getR0 (a' := a0 + 1) hC fg_X11_10 rfl hF fm_11_0 qa0.1 qa0.2 rfl dX11_text_52 ?_
      refine r_getI hC fg_X11_182 rfl q_15.1 q_15.2 dX11_text_55 ?_
      refine r_aload_n hC 0 dX11_text_58 rfl rfl ?_
      refine r_callV (As := []) (st := [vI (M_10 (a0 + 1) 8), vR Y.1 (a0 + 6), vR Y.1 (a0 + 110)]) hC cw_X11_189 rfl q_6.1 q_6.2 rfl rfl (Nat.le_of_ble_eq_true rfl) ⟨Nat.le_of_ble_eq_true rfl, Nat.le_of_ble_eq_true rfl⟩ ⟨Nat.le_of_ble_eq_true rfl, Nat.le_of_ble_eq_true rfl⟩ dX11_text_59 (fun hk => mX1_names Y hF _ _ _ _ (kqO hk q_6) h) (fun v M_16 h => ?_)
      obtain ⟨r_17, z_18, rfl, h⟩ := h
      refine r_callV (As := [vR Y.1 (a0 + 6), vI (M_10 (a0 + 1) 8), vS Y.2.2.1 r_17]) (st := []) hC cw_X11_199 rfl q_12.1 q_12.2 rfl rfl (Nat.le_of_ble_eq_true rfl) ⟨Nat.le_of_ble_eq_true rfl, Nat.le_of_ble_eq_true rfl⟩ ⟨Nat.le_of_ble_eq_true rfl, Nat.le_of_ble_eq_true rfl⟩ dX11_text_62 (fun hk => mX4_readTape Y hF _ _ _ _ _ _ _ (kqO hk q_12) (kqA hk q_14) z_18 h) (fun v M_19 h => ?_)
      obtain ⟨r_20, rfl, h⟩ := h
      refine r_istore_n (lv' := [(3, vI r_20), (2, vR Y.1 (a0 + 22 + 2 * (bm x1).toNat)), (0, vR Y.1 a0), (1, vI x1)]) hC dX11_text_65 rfl (by decide) rfl ?_
      refine r_aload_n hC 2 dX11_text_66 rfl rfl ?_
      have q_21 : 0 < a0 + 1 ∧ M0 0 (a0 + 1) = kO 0 := lay_f0 (a := a0) hL qa0 fm_11_0
      refine r_getR0 (a' := a0 + 1) hC fg_X11_10 rfl hF fm_11_0 qa0.1 qa0.2 rfl dX11_text_67 ?_
      refine r_iconst hC dX11_text_70 ?_
      refine r_putI hC fp_X11_182 rfl q_21.1 q_21.2 dX11_text_71 ?_
      refine r_nameM h (fun M_22 h => ?_)
      refine r_iload_n hC 0 dX11_text_74 rfl rfl ?_
      refine r_if_lt hC 100 rfl dX11_text_75 (by decide) (fun cq => ?_) (fun cq => ?_)
      · replace h := h.1 cq
        refine r_iload_n hC 0 dX11_text_100 rfl rfl ?_
        exact r_iret hC (Nat.zero_le _) (Nat.zero_le _) dX11_text_101 ⟨_, rfl, h⟩
      · replace h := h.2 cq
        refine r_aload_n hC 1 dX11_text_78 rfl rfl ?_
        refine r_aload_n hC 2 dX11_text_79 rfl rfl ?_
        have q_23 : 0 < a0 + 110 ∧ M0 0 (a0 + 110) = kO 4 := lay_f0 (a := a0) hL qa0 fm_11_10
        refine r_getR0 (a' := a0 + 110) hC fg_X11_71 rfl hF fm_11_10 qa0.1 qa0.2 rfl dX11_text_80 ?_
        have q_24 : 0 < a0 + 111 ∧ M0 0 (a0 + 111) = kA 0 50 := lay_f0 (a := a0 + 110) hL q_23 fm_4_0
        refine r_getR0 (a' := a0 + 111) hC fg_X11_203 rfl hF fm_4_0 q_23.1 q_23.2 rfl dX11_text_83 ?_
        refine r_aload_n hC 2 dX11_text_86 rfl rfl ?_
        have q_25 : 0 < a0 + 110 ∧ M0 0 (a0 + 110) = kO 4 := lay_f0 (a := a0) hL qa0 fm_11_10
        refine r_getR0 (a' := a0 + 110) hC fg_X11_71 rfl hF fm_11_10 qa0.1 qa0.2 rfl dX11_text_87 ?_
        refine r_getI hC fg_X11_206 rfl q_25.1 q_25.2 dX11_text_90 ?_
        refine r_callV (As := [vR Y.1 (a0 + 111), vI (M_22 (a0 + 110) 1)]) (st := []) hC cw_X11_209 rfl q_6.1 q_6.2 rfl rfl (Nat.le_of_ble_eq_true rfl) ⟨Nat.le_of_ble_eq_true rfl, Nat.le_of_ble_eq_true rfl⟩ ⟨Nat.le_of_ble_eq_true rfl, Nat.le_of_ble_eq_true rfl⟩ dX11_text_93 (fun hk => mX1_takeText Y hF _ _ _ _ _ _ (kqO hk q_6) (kqA hk q_24) h) (fun v M_26 h => ?_)
        obtain ⟨rfl, h⟩ := h
        refine r_aload_n hC 2 dX11_text_96 rfl rfl ?_
        refine r_callV (As := []) (st := []) hC cw_X11_122 rfl qa0.1 qa0.2 rfl rfl (Nat.le_of_ble_eq_true rfl) ⟨Nat.le_of_ble_eq_true rfl, Nat.le_of_ble_eq_true rfl⟩ ⟨Nat.le_of_ble_eq_true rfl, Nat.le_of_ble_eq_true rfl⟩ dX11_text_97 (fun hk => mX11_forget Y hF _ _ _ _ (kqO hk qa0) h) (fun v M_27 h => ?_)
        obtain ⟨rfl, h⟩ := h
        refine r_iload_n hC 0 dX11_text_100 rfl rfl ?_
        exact r_iret hC (Nat.zero_le _) (Nat.zero_le _) dX11_text_101 ⟨_, rfl, h⟩
    · replace h := h.2 cq
      refine r_aload_n hC 1 dX11_text_34 rfl rfl ?_
      refine r_iconst hC dX11_text_35 ?_
      refine r_callV (As := [vI 5]) (st := []) hC cw_X11_91 rfl qa0.1 qa0.2 rfl rfl (Nat.le_of_ble_eq_true rfl) ⟨Nat.le_of_ble_eq_true rfl, Nat.le_of_ble_eq_true rfl⟩ ⟨Nat.le_of_ble_eq_true rfl, Nat.le_of_ble_eq_true rfl⟩ dX11_text_36 (fun hk => mX11_error Y hF _ _ _ _ _ (kqO hk qa0) h) (fun v M_28 h => ?_)
      obtain ⟨r_29, rfl, h⟩ := h
      exact r_iret hC (Nat.zero_le _) (Nat.zero_le _) dX11_text_39 ⟨_, rfl, h⟩
  · replace h := h.2 cq
    refine r_aload_n hC 0 dX11_text_8 rfl rfl ?_
    refine r_iconst hC dX11_text_9 ?_
    refine r_callV (As := [vI 1]) (st := []) hC cw_X11_91 rfl qa0.1 qa0.2 rfl rfl (Nat.le_of_ble_eq_true rfl) ⟨Nat.le_of_ble_eq_true rfl, Nat.le_of_ble_eq_true rfl⟩ ⟨Nat.le_of_ble_eq_true rfl, Nat.le_of_ble_eq_true rfl⟩ dX11_text_10 (fun hk => mX11_error Y hF _ _ _ _ _ (kqO hk qa0) h) (fun v M_30 h => ?_)
    obtain ⟨r_31, rfl, h⟩ := h
    exact r_iret hC (Nat.zero_le _) (Nat.zero_le _) dX11_text_13 ⟨_, rfl, h⟩
theorem dX11_isNoSheet_0 : dec cX11_isNoSheet 0 1 1 (.iload_n 0) := ⟨by decide +kernel, rfl⟩
theorem dX11_isNoSheet_1 : dec cX11_isNoSheet 1 1 2 (.iconst 0) := ⟨by decide +kernel, rfl⟩
theorem dX11_isNoSheet_2 : dec cX11_isNoSheet 2 1 3 (.iconst 3) := ⟨by decide +kernel, rfl⟩
theorem dX11_isNoSheet_3 : dec cX11_isNoSheet 3 3 6 (.invokestatic 87) := ⟨by decide +kernel, rfl⟩
theorem dX11_isNoSheet_6 : dec cX11_isNoSheet 6 3 9 (.ifCond .ne 7) := ⟨by decide +kernel, rfl⟩
theorem dX11_isNoSheet_9 : dec cX11_isNoSheet 9 1 10 (.iconst 1) := ⟨by decide +kernel, rfl⟩
theorem dX11_isNoSheet_10 : dec cX11_isNoSheet 10 3 13 (.goto 4) := ⟨by decide +kernel, rfl⟩
theorem dX11_isNoSheet_13 : dec cX11_isNoSheet 13 1 14 (.iconst 0) := ⟨by decide +kernel, rfl⟩
theorem dX11_isNoSheet_14 : dec cX11_isNoSheet 14 1 15 (.ireturn) := ⟨by decide +kernel, rfl⟩
set_option maxHeartbeats 4000000 in
set_option maxRecDepth 100000 in
theorem mX11_isNoSheet (Y : Yx) (hF : Y.2.2.2.2 = true) (l : Launch) (x0 : Int) (M0 : Mem) (Q : Int → Mem → Prop)  (h : wX11_isNoSheet x0 M0 Q) : CT Y l yX11_isNoSheet cX11_isNoSheet 1 (some .boolean) rmX11_isNoSheet [vI x0] M0 (QI Q) := by
  unfold wX11_isNoSheet at h
  refine ct_intro (by decide) (Nat.le_of_ble_eq_true rfl) ?_
  intro X hXl hC hL0
  have hL := hL0 hF
  change OKX X Y RX11 cX11_isNoSheet 1 (some .boolean) rmX11_isNoSheet at hC
  change WW X Y 1 rmX11_isNoSheet (QI Q) M0 0 0 0 [(0, vI x0)] [] M0
  refine r_iload_n hC 0 dX11_isNoSheet_0 rfl rfl ?_
  refine r_iconst hC dX11_isNoSheet_1 ?_
  refine r_iconst hC dX11_isNoSheet_2 ?_
  refine r_callS (As := [vI x0, vI 0, vI 3]) (st := []) hC cw_X11_87 rfl rfl (Nat.le_of_ble_eq_true rfl) ⟨Nat.le_of_ble_eq_true rfl, Nat.le_of_ble_eq_true rfl⟩ ⟨Nat.le_of_ble_eq_true rfl, Nat.le_of_ble_eq_true rfl⟩ dX11_isNoSheet_3 (fun hk => mX11_within Y hF _ _ _ _ _ _  h) (fun v M_1 h => ?_)
  obtain ⟨r_2, rfl, h⟩ := h
  refine r_if_ne hC 13 rfl dX11_isNoSheet_6 (by decide) (fun cq => ?_) (fun cq => ?_)
  · replace h := h.2 cq
    refine r_iconst hC dX11_isNoSheet_13 ?_
    exact r_zret hC (Or.inl rfl) (Nat.zero_le _) (Nat.zero_le _) dX11_isNoSheet_14 ⟨_, rfl, h⟩
  · replace h := h.1 cq
    refine r_iconst hC dX11_isNoSheet_9 ?_
    refine r_goto hC 14 dX11_isNoSheet_10 (by decide) ?_
    exact r_zret hC (Or.inr rfl) (Nat.zero_le _) (Nat.zero_le _) dX11_isNoSheet_14 ⟨_, rfl, h⟩
theorem dX11_rowFault_0 : dec cX11_rowFault 0 1 1 (.iload_n 1) := ⟨by decide +kernel, rfl⟩
theorem dX11_rowFault_1 : dec cX11_rowFault 1 3 4 (.invokestatic 331) := ⟨by decide +kernel, rfl⟩
theorem dX11_rowFault_4 : dec cX11_rowFault 4 3 7 (.ifCond .ne 7) := ⟨by decide +kernel, rfl⟩
theorem dX11_rowFault_7 : dec cX11_rowFault 7 1 8 (.iload_n 3) := ⟨by decide +kernel, rfl⟩
theorem dX11_rowFault_8 : dec cX11_rowFault 8 3 11 (.ifCond .ne 5) := ⟨by decide +kernel, rfl⟩
theorem dX11_rowFault_11 : dec cX11_rowFault 11 1 12 (.iconst 1) := ⟨by decide +kernel, rfl⟩
theorem dX11_rowFault_12 : dec cX11_rowFault 12 1 13 (.ireturn) := ⟨by decide +kernel, rfl⟩
theorem dX11_rowFault_13 : dec cX11_rowFault 13 1 14 (.aload_n 0) := ⟨by decide +kernel, rfl⟩
theorem dX11_rowFault_14 : dec cX11_rowFault 14 3 17 (.getfield 25) := ⟨by decide +kernel, rfl⟩
theorem dX11_rowFault_17 : dec cX11_rowFault 17 1 18 (.iload_n 1) := ⟨by decide +kernel, rfl⟩
theorem dX11_rowFault_18 : dec cX11_rowFault 18 1 19 (.aaload) := ⟨by decide +kernel, rfl⟩
theorem dX11_rowFault_19 : dec cX11_rowFault 19 3 22 (.getfield 334) := ⟨by decide +kernel, rfl⟩
theorem dX11_rowFault_22 : dec cX11_rowFault 22 3 25 (.ifCond .ne 5) := ⟨by decide +kernel, rfl⟩
theorem dX11_rowFault_25 : dec cX11_rowFault 25 1 26 (.iconst 2) := ⟨by decide +kernel, rfl⟩
theorem dX11_rowFault_26 : dec cX11_rowFault 26 1 27 (.ireturn) := ⟨by decide +kernel, rfl⟩
theorem dX11_rowFault_27 : dec cX11_rowFault 27 1 28 (.aload_n 0) := ⟨by decide +kernel, rfl⟩
theorem dX11_rowFault_28 : dec cX11_rowFault 28 3 31 (.getfield 36) := ⟨by decide +kernel, rfl⟩
theorem dX11_rowFault_31 : dec cX11_rowFault 31 1 32 (.aload_n 0) := ⟨by decide +kernel, rfl⟩
theorem dX11_rowFault_32 : dec cX11_rowFault 32 3 35 (.getfield 25) := ⟨by decide +kernel, rfl⟩
theorem dX11_rowFault_35 : dec cX11_rowFault 35 1 36 (.iload_n 1) := ⟨by decide +kernel, rfl⟩
theorem dX11_rowFault_36 : dec cX11_rowFault 36 1 37 (.aaload) := ⟨by decide +kernel, rfl⟩
theorem dX11_rowFault_37 : dec cX11_rowFault 37 1 38 (.iload_n 2) := ⟨by decide +kernel, rfl⟩
theorem dX11_rowFault_38 : dec cX11_rowFault 38 1 39 (.aload_n 0) := ⟨by decide +kernel, rfl⟩
theorem dX11_rowFault_39 : dec cX11_rowFault 39 3 42 (.getfield 10) := ⟨by decide +kernel, rfl⟩
theorem dX11_rowFault_42 : dec cX11_rowFault 42 3 45 (.getfield 95) := ⟨by decide +kernel, rfl⟩
theorem dX11_rowFault_45 : dec cX11_rowFault 45 3 48 (.invokevirtual 337) := ⟨by decide +kernel, rfl⟩
theorem dX11_rowFault_48 : dec cX11_rowFault 48 3 51 (.ifCond .eq 7) := ⟨by decide +kernel, rfl⟩
theorem dX11_rowFault_51 : dec cX11_rowFault 51 1 52 (.iconst 0) := ⟨by decide +kernel, rfl⟩
theorem dX11_rowFault_52 : dec cX11_rowFault 52 3 55 (.goto 4) := ⟨by decide +kernel, rfl⟩
theorem dX11_rowFault_55 : dec cX11_rowFault 55 1 56 (.iconst 5) := ⟨by decide +kernel, rfl⟩
theorem dX11_rowFault_56 : dec cX11_rowFault 56 1 57 (.ireturn) := ⟨by decide +kernel, rfl⟩
set_option maxHeartbeats 4000000 in
set_option maxRecDepth 100000 in
theorem mX11_rowFault (Y : Yx) (hF : Y.2.2.2.2 = true) (l : Launch) (a0 : Nat) (x1 : Int) (x2 : Int) (x3 : Int) (M0 : Mem) (Q : Int → Mem → Prop) (qa0 : 0 < a0 ∧ M0 0 a0 = kO 11) (h : wX11_rowFault a0 x1 x2 x3 M0 Q) : CT Y l yX11_rowFault cX11_rowFault 4 (some .int) rmX11_rowFault [vR Y.1 a0, vI x1, vI x2, vI x3] M0 (QI Q) := by
  unfold wX11_rowFault at h
  refine ct_intro (by decide) (Nat.le_of_ble_eq_true rfl) ?_
  intro X hXl hC hL0
  have hL := hL0 hF
  change OKX X Y RX11 cX11_rowFault 4 (some .int) rmX11_rowFault at hC
  change WW X Y 4 rmX11_rowFault (QI Q) M0 0 0 0 [(0, vR Y.1 a0), (1, vI x1), (2, vI x2), (3, vI x3)] [] M0
  refine r_iload_n hC 1 dX11_rowFault_0 rfl rfl ?_
  refine r_callS (As := [vI x1]) (st := []) hC cw_X11_331 rfl rfl (Nat.le_of_ble_eq_true rfl) ⟨Nat.le_of_ble_eq_true rfl, Nat.le_of_ble_eq_true rfl⟩ ⟨Nat.le_of_ble_eq_true rfl, Nat.le_of_ble_eq_true rfl⟩ dX11_rowFault_1 (fun hk => mX11_isNoSheet Y hF _ _ _ _  h) (fun v M_1 h => ?_)
  obtain ⟨r_2, rfl, h⟩ := h
  refine r_if_ne hC 11 rfl dX11_rowFault_4 (by decide) (fun cq => ?_) (fun cq => ?_)
  · replace h := h.2 cq
    refine r_iconst hC dX11_rowFault_11 ?_
    exact r_iret hC (Nat.zero_le _) (Nat.zero_le _) dX11_rowFault_12 ⟨_, rfl, h⟩
  · replace h := h.1 cq
    refine r_iload_n hC 3 dX11_rowFault_7 rfl rfl ?_
    refine r_if_ne hC 13 rfl dX11_rowFault_8 (by decide) (fun cq => ?_) (fun cq => ?_)
    · replace h := h.2 cq
      refine r_aload_n hC 0 dX11_rowFault_13 rfl rfl ?_
      have q_3 : 0 < a0 + 84 ∧ M0 0 (a0 + 84) = kA 9 4 := lay_f0 (a := a0) hL qa0 fm_11_3
      refine r_getR0 (a' := a0 + 84) hC fg_X11_25 rfl hF fm_11_3 qa0.1 qa0.2 rfl dX11_rowFault_14 ?_
      refine r_iload_n hC 1 dX11_rowFault_17 rfl rfl ?_
      obtain ⟨i_4, h⟩ := h
      have q_5 : 0 < a0 + 116 + 2 * (bm x1).toNat ∧ M0 0 (a0 + 116 + 2 * (bm x1).toNat) = kO 8 := lay_a9 (a := a0 + 84) hL q_3 (inb_nat i_4)
      refine r_aald9 hC hF i_4 q_3.1 q_3.2 dX11_rowFault_18 ?_
      refine r_getI hC fg_X11_334 rfl q_5.1 q_5.2 dX11_rowFault_19 ?_
      refine r_if_ne hC 27 rfl dX11_rowFault_22 (by decide) (fun cq => ?_) (fun cq => ?_)
      · replace h := h.2 cq
        refine r_aload_n hC 0 dX11_rowFault_27 rfl rfl ?_
        have q_6 : 0 < a0 + 86 ∧ M0 0 (a0 + 86) = kO 5 := lay_f0 (a := a0) hL qa0 fm_11_5
        refine r_getR0 (a' := a0 + 86) hC fg_X11_36 rfl hF fm_11_5 qa0.1 qa0.2 rfl dX11_rowFault_28 ?_
        refine r_aload_n hC 0 dX11_rowFault_31 rfl rfl ?_
        have q_7 : 0 < a0 + 84 ∧ M0 0 (a0 + 84) = kA 9 4 := lay_f0 (a := a0) hL qa0 fm_11_3
        refine r_getR0 (a' := a0 + 84) hC fg_X11_25 rfl hF fm_11_3 qa0.1 qa0.2 rfl dX11_rowFault_32 ?_
        refine r_iload_n hC 1 dX11_rowFault_35 rfl rfl ?_
        obtain ⟨i_8, h⟩ := h
        have q_9 : 0 < a0 + 116 + 2 * (bm x1).toNat ∧ M0 0 (a0 + 116 + 2 * (bm x1).toNat) = kO 8 := lay_a9 (a := a0 + 84) hL q_7 (inb_nat i_8)
        refine r_aald9 hC hF i_8 q_7.1 q_7.2 dX11_rowFault_36 ?_
        refine r_iload_n hC 2 dX11_rowFault_37 rfl rfl ?_
        refine r_aload_n hC 0 dX11_rowFault_38 rfl rfl ?_
        have q_10 : 0 < a0 + 1 ∧ M0 0 (a0 + 1) = kO 0 := lay_f0 (a := a0) hL qa0 fm_11_0
        refine r_getR0 (a' := a0 + 1) hC fg_X11_10 rfl hF fm_11_0 qa0.1 qa0.2 rfl dX11_rowFault_39 ?_
        refine r_getI hC fg_X11_95 rfl q_10.1 q_10.2 dX11_rowFault_42 ?_
        refine r_callV (As := [vR Y.1 (a0 + 116 + 2 * (bm x1).toNat), vI x2, vI (M_1 (a0 + 1) 1)]) (st := []) hC cw_X11_337 rfl q_6.1 q_6.2 rfl rfl (Nat.le_of_ble_eq_true rfl) ⟨Nat.le_of_ble_eq_true rfl, Nat.le_of_ble_eq_true rfl⟩ ⟨Nat.le_of_ble_eq_true rfl, Nat.le_of_ble_eq_true rfl⟩ dX11_rowFault_45 (fun hk => mX5_takesSheet Y hF _ _ _ _ _ _ _ (kqO hk q_6) (kqO hk q_9) h) (fun v M_11 h => ?_)
        obtain ⟨r_12, rfl, h⟩ := h
        refine r_if_eq hC 55 rfl dX11_rowFault_48 (by decide) (fun cq => ?_) (fun cq => ?_)
        · replace h := h.1 cq
          refine r_iconst hC dX11_rowFault_55 ?_
          exact r_iret hC (Nat.zero_le _) (Nat.zero_le _) dX11_rowFault_56 ⟨_, rfl, h⟩
        · replace h := h.2 cq
          refine r_iconst hC dX11_rowFault_51 ?_
          refine r_goto hC 56 dX11_rowFault_52 (by decide) ?_
          exact r_iret hC (Nat.zero_le _) (Nat.zero_le _) dX11_rowFault_56 ⟨_, rfl, h⟩
      · replace h := h.1 cq
        refine r_iconst hC dX11_rowFault_25 ?_
        exact r_iret hC (Nat.zero_le _) (Nat.zero_le _) dX11_rowFault_26 ⟨_, rfl, h⟩
    · replace h := h.1 cq
      refine r_iconst hC dX11_rowFault_11 ?_
      exact r_iret hC (Nat.zero_le _) (Nat.zero_le _) dX11_rowFault_12 ⟨_, rfl, h⟩
theorem dJ9_abs_067f4_0 : dec cJ9_abs_067f4 0 1 1 (.lload_n 0) := ⟨by decide +kernel, rfl⟩
theorem dJ9_abs_067f4_1 : dec cJ9_abs_067f4 1 1 2 (.lconst 0) := ⟨by decide +kernel, rfl⟩
theorem dJ9_abs_067f4_2 : dec cJ9_abs_067f4 2 1 3 (.lcmp) := ⟨by decide +kernel, rfl⟩
theorem dJ9_abs_067f4_3 : dec cJ9_abs_067f4 3 3 6 (.ifCond .ge 8) := ⟨by decide +kernel, rfl⟩
theorem dJ9_abs_067f4_6 : dec cJ9_abs_067f4 6 1 7 (.lload_n 0) := ⟨by decide +kernel, rfl⟩
theorem dJ9_abs_067f4_7 : dec cJ9_abs_067f4 7 1 8 (.lneg) := ⟨by decide +kernel, rfl⟩
theorem dJ9_abs_067f4_8 : dec cJ9_abs_067f4 8 3 11 (.goto 4) := ⟨by decide +kernel, rfl⟩
theorem dJ9_abs_067f4_11 : dec cJ9_abs_067f4 11 1 12 (.lload_n 0) := ⟨by decide +kernel, rfl⟩
theorem dJ9_abs_067f4_12 : dec cJ9_abs_067f4 12 1 13 (.lreturn) := ⟨by decide +kernel, rfl⟩
set_option maxHeartbeats 4000000 in
set_option maxRecDepth 100000 in
theorem mJ9_abs_067f4 (Y : Yx) (hF : Y.2.2.2.2 = true) (l : Launch) (l0 : Int) (M0 : Mem) (Q : Int → Mem → Prop)  (h : wJ9_abs_067f4 l0 M0 Q) : CT Y l yJ9_abs_067f4 cJ9_abs_067f4 2 (some .long) rmJ9_abs_067f4 [vL l0] M0 (QL Q) := by
  unfold wJ9_abs_067f4 at h
  refine ct_intro (by decide +kernel) (Nat.le_of_ble_eq_true rfl) ?_
  intro X hXl hC hL0
  have hL := hL0 hF
  change OKX X Y RJ9 cJ9_abs_067f4 2 (some .long) rmJ9_abs_067f4 at hC
  change WW X Y 2 rmJ9_abs_067f4 (QL Q) M0 0 0 0 [(0, vL l0)] [] M0
  refine r_lload_n hC 0 dJ9_abs_067f4_0 rfl rfl ?_
  refine r_lconst (a := 0) hC (by decide +kernel) dJ9_abs_067f4_1 ?_
  refine r_lcmp hC dJ9_abs_067f4_2 ?_
  refine r_if_ge hC 11 rfl dJ9_abs_067f4_3 (by decide) (fun cq => ?_) (fun cq => ?_)
  · replace h := h.1 cq
    refine r_lload_n hC 0 dJ9_abs_067f4_11 rfl rfl ?_
    exact r_lret hC (Nat.zero_le _) (Nat.zero_le _) dJ9_abs_067f4_12 ⟨_, rfl, h⟩
  · replace h := h.2 cq
    refine r_lload_n hC 0 dJ9_abs_067f4_6 rfl rfl ?_
    refine r_lneg hC dJ9_abs_067f4_7 ?_
    refine r_goto hC 12 dJ9_abs_067f4_8 (by decide) ?_
    exact r_lret hC (Nat.zero_le _) (Nat.zero_le _) dJ9_abs_067f4_12 ⟨_, rfl, h⟩
theorem dJ9_max_f86c9_0 : dec cJ9_max_f86c9 0 1 1 (.lload_n 0) := ⟨by decide +kernel, rfl⟩
theorem dJ9_max_f86c9_1 : dec cJ9_max_f86c9 1 1 2 (.lload_n 2) := ⟨by decide +kernel, rfl⟩
theorem dJ9_max_f86c9_2 : dec cJ9_max_f86c9 2 1 3 (.lcmp) := ⟨by decide +kernel, rfl⟩
theorem dJ9_max_f86c9_3 : dec cJ9_max_f86c9 3 3 6 (.ifCond .lt 7) := ⟨by decide +kernel, rfl⟩
theorem dJ9_max_f86c9_6 : dec cJ9_max_f86c9 6 1 7 (.lload_n 0) := ⟨by decide +kernel, rfl⟩
theorem dJ9_max_f86c9_7 : dec cJ9_max_f86c9 7 3 10 (.goto 4) := ⟨by decide +kernel, rfl⟩
theorem dJ9_max_f86c9_10 : dec cJ9_max_f86c9 10 1 11 (.lload_n 2) := ⟨by decide +kernel, rfl⟩
theorem dJ9_max_f86c9_11 : dec cJ9_max_f86c9 11 1 12 (.lreturn) := ⟨by decide +kernel, rfl⟩
set_option maxHeartbeats 4000000 in
set_option maxRecDepth 100000 in
theorem mJ9_max_f86c9 (Y : Yx) (hF : Y.2.2.2.2 = true) (l : Launch) (l0 : Int) (l2 : Int) (M0 : Mem) (Q : Int → Mem → Prop)  (h : wJ9_max_f86c9 l0 l2 M0 Q) : CT Y l yJ9_max_f86c9 cJ9_max_f86c9 4 (some .long) rmJ9_max_f86c9 [vL l0, vL l2] M0 (QL Q) := by
  unfold wJ9_max_f86c9 at h
  refine ct_intro (by decide +kernel) (Nat.le_of_ble_eq_true rfl) ?_
  intro X hXl hC hL0
  have hL := hL0 hF
  change OKX X Y RJ9 cJ9_max_f86c9 4 (some .long) rmJ9_max_f86c9 at hC
  change WW X Y 4 rmJ9_max_f86c9 (QL Q) M0 0 0 0 [(0, vL l0), (2, vL l2)] [] M0
  refine r_lload_n hC 0 dJ9_max_f86c9_0 rfl rfl ?_
  refine r_lload_n hC 1 dJ9_max_f86c9_1 rfl rfl ?_
  refine r_lcmp hC dJ9_max_f86c9_2 ?_
  refine r_if_lt hC 10 rfl dJ9_max_f86c9_3 (by decide) (fun cq => ?_) (fun cq => ?_)
  · replace h := h.1 cq
    refine r_lload_n hC 1 dJ9_max_f86c9_10 rfl rfl ?_
    exact r_lret hC (Nat.zero_le _) (Nat.zero_le _) dJ9_max_f86c9_11 ⟨_, rfl, h⟩
  · replace h := h.2 cq
    refine r_lload_n hC 0 dJ9_max_f86c9_6 rfl rfl ?_
    refine r_goto hC 11 dJ9_max_f86c9_7 (by decide) ?_
    exact r_lret hC (Nat.zero_le _) (Nat.zero_le _) dJ9_max_f86c9_11 ⟨_, rfl, h⟩
theorem dX11_partOf_0 : dec cX11_partOf 0 3 3 (.ldc2_w 419) := ⟨by decide +kernel, rfl⟩
theorem dX11_partOf_3 : dec cX11_partOf 3 1 4 (.lstore_n 3) := ⟨by decide +kernel, rfl⟩
theorem dX11_partOf_4 : dec cX11_partOf 4 1 5 (.lload_n 0) := ⟨by decide +kernel, rfl⟩
theorem dX11_partOf_5 : dec cX11_partOf 5 3 8 (.invokestatic 421) := ⟨by decide +kernel, rfl⟩
theorem dX11_partOf_8 : dec cX11_partOf 8 2 10 (.lstore 5) := ⟨by decide +kernel, rfl⟩
theorem dX11_partOf_10 : dec cX11_partOf 10 1 11 (.iconst 0) := ⟨by decide +kernel, rfl⟩
theorem dX11_partOf_11 : dec cX11_partOf 11 2 13 (.istore 7) := ⟨by decide +kernel, rfl⟩
theorem dX11_partOf_13 : dec cX11_partOf 13 2 15 (.iload 7) := ⟨by decide +kernel, rfl⟩
theorem dX11_partOf_15 : dec cX11_partOf 15 2 17 (.bipush 100) := ⟨by decide +kernel, rfl⟩
theorem dX11_partOf_17 : dec cX11_partOf 17 3 20 (.if_icmp .ge 29) := ⟨by decide +kernel, rfl⟩
theorem dX11_partOf_20 : dec cX11_partOf 20 2 22 (.lload 5) := ⟨by decide +kernel, rfl⟩
theorem dX11_partOf_22 : dec cX11_partOf 22 1 23 (.lconst 0) := ⟨by decide +kernel, rfl⟩
theorem dX11_partOf_23 : dec cX11_partOf 23 1 24 (.lcmp) := ⟨by decide +kernel, rfl⟩
theorem dX11_partOf_24 : dec cX11_partOf 24 3 27 (.ifCond .eq 22) := ⟨by decide +kernel, rfl⟩
theorem dX11_partOf_27 : dec cX11_partOf 27 1 28 (.lload_n 3) := ⟨by decide +kernel, rfl⟩
theorem dX11_partOf_28 : dec cX11_partOf 28 2 30 (.lload 5) := ⟨by decide +kernel, rfl⟩
theorem dX11_partOf_30 : dec cX11_partOf 30 1 31 (.lrem) := ⟨by decide +kernel, rfl⟩
theorem dX11_partOf_31 : dec cX11_partOf 31 2 33 (.lstore 8) := ⟨by decide +kernel, rfl⟩
theorem dX11_partOf_33 : dec cX11_partOf 33 2 35 (.lload 5) := ⟨by decide +kernel, rfl⟩
theorem dX11_partOf_35 : dec cX11_partOf 35 1 36 (.lstore_n 3) := ⟨by decide +kernel, rfl⟩
theorem dX11_partOf_36 : dec cX11_partOf 36 2 38 (.lload 8) := ⟨by decide +kernel, rfl⟩
theorem dX11_partOf_38 : dec cX11_partOf 38 2 40 (.lstore 5) := ⟨by decide +kernel, rfl⟩
theorem dX11_partOf_40 : dec cX11_partOf 40 3 43 (.iinc 7 1) := ⟨by decide +kernel, rfl⟩
theorem dX11_partOf_43 : dec cX11_partOf 43 3 46 (.goto (-30)) := ⟨by decide +kernel, rfl⟩
theorem dX11_partOf_46 : dec cX11_partOf 46 1 47 (.lconst 1) := ⟨by decide +kernel, rfl⟩
theorem dX11_partOf_47 : dec cX11_partOf 47 1 48 (.lload_n 3) := ⟨by decide +kernel, rfl⟩
theorem dX11_partOf_48 : dec cX11_partOf 48 3 51 (.invokestatic 427) := ⟨by decide +kernel, rfl⟩
theorem dX11_partOf_51 : dec cX11_partOf 51 2 53 (.lstore 7) := ⟨by decide +kernel, rfl⟩
theorem dX11_partOf_53 : dec cX11_partOf 53 1 54 (.iload_n 2) := ⟨by decide +kernel, rfl⟩
theorem dX11_partOf_54 : dec cX11_partOf 54 3 57 (.ifCond .ne 10) := ⟨by decide +kernel, rfl⟩
theorem dX11_partOf_57 : dec cX11_partOf 57 1 58 (.lload_n 0) := ⟨by decide +kernel, rfl⟩
theorem dX11_partOf_58 : dec cX11_partOf 58 2 60 (.lload 7) := ⟨by decide +kernel, rfl⟩
theorem dX11_partOf_60 : dec cX11_partOf 60 1 61 (.ldiv) := ⟨by decide +kernel, rfl⟩
theorem dX11_partOf_61 : dec cX11_partOf 61 3 64 (.goto 9) := ⟨by decide +kernel, rfl⟩
theorem dX11_partOf_64 : dec cX11_partOf 64 3 67 (.ldc2_w 419) := ⟨by decide +kernel, rfl⟩
theorem dX11_partOf_67 : dec cX11_partOf 67 2 69 (.lload 7) := ⟨by decide +kernel, rfl⟩
theorem dX11_partOf_69 : dec cX11_partOf 69 1 70 (.ldiv) := ⟨by decide +kernel, rfl⟩
theorem dX11_partOf_70 : dec cX11_partOf 70 1 71 (.lreturn) := ⟨by decide +kernel, rfl⟩
set_option maxHeartbeats 4000000 in
set_option maxRecDepth 100000 in
theorem tX11_partOf_L13 {X : Cx} {Y : Yx} {M0 : Mem} (hC : OKX X Y RX11 cX11_partOf 10 (some .long) rmX11_partOf) (hF : Y.2.2.2.2 = true) (hL : Lay M0) (Q : Int → Mem → Prop) (E46 : Int → Mem → Prop) (l0 : Int) (x2 : Int)  (hE46 : ∀ (l3 : Int) (M : Mem), E46 l3 M → WW X Y 10 rmX11_partOf (QL Q) M0 0 0 46 [(0, vL l0), (2, vI x2), (3, vL l3)] [] M) : ∀ (N : Nat) (l3 : Int) (l5 : Int) (x7 : Int) (M : Mem) (_ : wX11_partOf_L13 Q E46 l0 x2 N l3 l5 x7 M), WW X Y 10 rmX11_partOf (QL Q) M0 0 0 13 [(0, vL l0), (2, vI x2), (3, vL l3), (5, vL l5), (7, vI x7)] [] M := by
  intro N
  induction N with
  | zero =>
    intro l3 l5 x7 M h
    exact h.elim
  | succ N ih =>
    intro l3 l5 x7 M h
    unfold wX11_partOf_L13 at h
    refine r_iload hC 4 dX11_partOf_13 rfl ?_
    refine r_bipush hC (by decide +kernel) dX11_partOf_15 ?_
    refine r_icmp_ge hC 46 rfl bmL_100 dX11_partOf_17 (by decide) (fun cq => ?_) (fun cq => ?_)
    · replace h := h.1 cq
      refine r_sub [0, 1, 2] rfl ?_
      exact hE46 _ _ h
    · replace h := h.2 cq
      refine r_lload hC 3 dX11_partOf_20 rfl ?_
      refine r_lconst (a := 0) hC (by decide +kernel) dX11_partOf_22 ?_
      refine r_lcmp hC dX11_partOf_23 ?_
      refine r_if_eq hC 46 rfl dX11_partOf_24 (by decide) (fun cq => ?_) (fun cq => ?_)
      · replace h := h.1 cq
        refine r_sub [0, 1, 2] rfl ?_
        exact hE46 _ _ h
      · replace h := h.2 cq
        refine r_lload_n hC 2 dX11_partOf_27 rfl rfl ?_
        refine r_lload hC 3 dX11_partOf_28 rfl ?_
        obtain ⟨z_3, h⟩ := h
        refine r_lrem hC z_3 dX11_partOf_30 ?_
        refine r_nameL h (fun x8_4 h => ?_)
        refine r_lstore (lv' := [(8, vL x8_4), (0, vL l0), (2, vI x2), (3, vL l3), (5, vL l5), (7, vI x7)]) hC dX11_partOf_31 (by decide) rfl ?_
        refine r_lload hC 4 dX11_partOf_33 rfl ?_
        refine r_lstore_n (lv' := [(3, vL l5), (8, vL x8_4), (0, vL l0), (2, vI x2), (5, vL l5), (7, vI x7)]) hC dX11_partOf_35 rfl (by decide) rfl ?_
        refine r_lload hC 1 dX11_partOf_36 rfl ?_
        refine r_lstore (lv' := [(5, vL x8_4), (3, vL l5), (8, vL x8_4), (0, vL l0), (2, vI x2), (7, vI x7)]) hC dX11_partOf_38 (by decide) rfl ?_
        refine let_elim h (fun x7_5 e_6 h => ?_)
        refine r_iinc (lv' := [(7, vI x7_5), (5, vL x8_4), (3, vL l5), (8, vL x8_4), (0, vL l0), (2, vI x2)]) hC 5 dX11_partOf_40 rfl (by decide) e_6 rfl ?_
        refine r_goto hC 13 dX11_partOf_43 (by decide) ?_
        refine r_sub [4, 5, 2, 1, 0] rfl ?_
        exact ih _ _ _ _ h
set_option maxHeartbeats 4000000 in
set_option maxRecDepth 100000 in
theorem tX11_partOf_J46 {X : Cx} {Y : Yx} {M0 : Mem} (hC : OKX X Y RX11 cX11_partOf 10 (some .long) rmX11_partOf) (hF : Y.2.2.2.2 = true) (hL : Lay M0) (Q : Int → Mem → Prop)   (l0 : Int) (x2 : Int) (l3 : Int)   (M : Mem) (h : wX11_partOf_J46 Q  l0 x2 l3 M) : WW X Y 10 rmX11_partOf (QL Q) M0 0 0 46 [(0, vL l0), (2, vI x2), (3, vL l3)] [] M := by
  unfold wX11_partOf_J46 at h
  refine r_lconst (a := 1) hC (by decide +kernel) dX11_partOf_46 ?_
  refine r_lload_n hC 2 dX11_partOf_47 rfl rfl ?_
  refine r_callS (As := [vL 1, vL l3]) (st := []) hC cw_X11_427 rfl rfl (Nat.le_of_ble_eq_true rfl) ⟨Nat.le_of_ble_eq_true rfl, Nat.le_of_ble_eq_true rfl⟩ ⟨Nat.le_of_ble_eq_true rfl, Nat.le_of_ble_eq_true rfl⟩ dX11_partOf_48 (fun hk => mJ9_max_f86c9 Y hF _ _ _ _ _  h) (fun v M_9 h => ?_)
  obtain ⟨r_10, rfl, h⟩ := h
  refine r_lstore (lv' := [(7, vL r_10), (0, vL l0), (2, vI x2), (3, vL l3)]) hC dX11_partOf_51 (by decide) rfl ?_
  refine r_iload_n hC 2 dX11_partOf_53 rfl rfl ?_
  refine r_if_ne hC 64 rfl dX11_partOf_54 (by decide) (fun cq => ?_) (fun cq => ?_)
  · replace h := h.2 cq
    refine r_ldc2 hC kl_X11_419 dX11_partOf_64 ?_
    refine r_lload hC 0 dX11_partOf_67 rfl ?_
    obtain ⟨z_11, h⟩ := h
    refine r_ldiv hC z_11 dX11_partOf_69 ?_
    exact r_lret hC (Nat.zero_le _) (Nat.zero_le _) dX11_partOf_70 ⟨_, rfl, h⟩
  · replace h := h.1 cq
    refine r_lload_n hC 1 dX11_partOf_57 rfl rfl ?_
    refine r_lload hC 0 dX11_partOf_58 rfl ?_
    obtain ⟨z_12, h⟩ := h
    refine r_ldiv hC z_12 dX11_partOf_60 ?_
    refine r_goto hC 70 dX11_partOf_61 (by decide) ?_
    exact r_lret hC (Nat.zero_le _) (Nat.zero_le _) dX11_partOf_70 ⟨_, rfl, h⟩
set_option maxHeartbeats 4000000 in
set_option maxRecDepth 100000 in
theorem mX11_partOf (Y : Yx) (hF : Y.2.2.2.2 = true) (l : Launch) (l0 : Int) (x2 : Int) (M0 : Mem) (Q : Int → Mem → Prop)  (h : wX11_partOf l0 x2 M0 Q) : CT Y l yX11_partOf cX11_partOf 10 (some .long) rmX11_partOf [vL l0, vI x2] M0 (QL Q) := by
  unfold wX11_partOf at h
  refine ct_intro (by decide) (Nat.le_of_ble_eq_true rfl) ?_
  intro X hXl hC hL0
  have hL := hL0 hF
  change OKX X Y RX11 cX11_partOf 10 (some .long) rmX11_partOf at hC
  change WW X Y 10 rmX11_partOf (QL Q) M0 0 0 0 [(0, vL l0), (2, vI x2)] [] M0
  refine r_ldc2 hC kl_X11_419 dX11_partOf_0 ?_
  refine r_lstore_n (lv' := [(3, vL 2520), (0, vL l0), (2, vI x2)]) hC dX11_partOf_3 rfl (by decide) rfl ?_
  refine r_lload_n hC 1 dX11_partOf_4 rfl rfl ?_
  refine r_callS (As := [vL l0]) (st := []) hC cw_X11_421 rfl rfl (Nat.le_of_ble_eq_true rfl) ⟨Nat.le_of_ble_eq_true rfl, Nat.le_of_ble_eq_true rfl⟩ ⟨Nat.le_of_ble_eq_true rfl, Nat.le_of_ble_eq_true rfl⟩ dX11_partOf_5 (fun hk => mJ9_abs_067f4 Y hF _ _ _ _  h) (fun v M_1 h => ?_)
  obtain ⟨r_2, rfl, h⟩ := h
  refine r_lstore (lv' := [(5, vL r_2), (3, vL 2520), (0, vL l0), (2, vI x2)]) hC dX11_partOf_8 (by decide) rfl ?_
  refine r_iconst hC dX11_partOf_10 ?_
  refine r_istore (lv' := [(7, vI 0), (5, vL r_2), (3, vL 2520), (0, vL l0), (2, vI x2)]) hC dX11_partOf_11 (by decide) rfl ?_
  refine r_sub [3, 4, 2, 1, 0] rfl ?_
  obtain ⟨N_13, h⟩ := h
  refine tX11_partOf_L13 hC hF hL Q _ _ _  ?_ N_13 _ _ _ _ h
  · intro l3_7 M_8 h
    refine r_sub [0, 1, 2] rfl ?_
    exact tX11_partOf_J46 hC hF hL Q   _ _ _   _ h
theorem dX11_worth_0 : dec cX11_worth 0 1 1 (.aload_n 0) := ⟨by decide +kernel, rfl⟩
theorem dX11_worth_1 : dec cX11_worth 1 1 2 (.iload_n 1) := ⟨by decide +kernel, rfl⟩
theorem dX11_worth_2 : dec cX11_worth 2 1 3 (.iload_n 2) := ⟨by decide +kernel, rfl⟩
theorem dX11_worth_3 : dec cX11_worth 3 1 4 (.iload_n 3) := ⟨by decide +kernel, rfl⟩
theorem dX11_worth_4 : dec cX11_worth 4 1 5 (.iconst 0) := ⟨by decide +kernel, rfl⟩
theorem dX11_worth_5 : dec cX11_worth 5 1 6 (.iconst 1) := ⟨by decide +kernel, rfl⟩
theorem dX11_worth_6 : dec cX11_worth 6 3 9 (.invokestatic 87) := ⟨by decide +kernel, rfl⟩
theorem dX11_worth_9 : dec cX11_worth 9 3 12 (.invokevirtual 213) := ⟨by decide +kernel, rfl⟩
theorem dX11_worth_12 : dec cX11_worth 12 2 14 (.istore 4) := ⟨by decide +kernel, rfl⟩
theorem dX11_worth_14 : dec cX11_worth 14 2 16 (.iload 4) := ⟨by decide +kernel, rfl⟩
theorem dX11_worth_16 : dec cX11_worth 16 3 19 (.ifCond .eq 11) := ⟨by decide +kernel, rfl⟩
theorem dX11_worth_19 : dec cX11_worth 19 1 20 (.aload_n 0) := ⟨by decide +kernel, rfl⟩
theorem dX11_worth_20 : dec cX11_worth 20 2 22 (.iload 4) := ⟨by decide +kernel, rfl⟩
theorem dX11_worth_22 : dec cX11_worth 22 3 25 (.invokevirtual 91) := ⟨by decide +kernel, rfl⟩
theorem dX11_worth_25 : dec cX11_worth 25 1 26 (.i2l) := ⟨by decide +kernel, rfl⟩
theorem dX11_worth_26 : dec cX11_worth 26 1 27 (.lreturn) := ⟨by decide +kernel, rfl⟩
theorem dX11_worth_27 : dec cX11_worth 27 1 28 (.aload_n 0) := ⟨by decide +kernel, rfl⟩
theorem dX11_worth_28 : dec cX11_worth 28 3 31 (.getfield 48) := ⟨by decide +kernel, rfl⟩
theorem dX11_worth_31 : dec cX11_worth 31 1 32 (.aload_n 0) := ⟨by decide +kernel, rfl⟩
theorem dX11_worth_32 : dec cX11_worth 32 3 35 (.getfield 36) := ⟨by decide +kernel, rfl⟩
theorem dX11_worth_35 : dec cX11_worth 35 1 36 (.aload_n 0) := ⟨by decide +kernel, rfl⟩
theorem dX11_worth_36 : dec cX11_worth 36 3 39 (.getfield 10) := ⟨by decide +kernel, rfl⟩
theorem dX11_worth_39 : dec cX11_worth 39 3 42 (.invokevirtual 217) := ⟨by decide +kernel, rfl⟩
theorem dX11_worth_42 : dec cX11_worth 42 3 45 (.invokevirtual 221) := ⟨by decide +kernel, rfl⟩
theorem dX11_worth_45 : dec cX11_worth 45 1 46 (.aload_n 0) := ⟨by decide +kernel, rfl⟩
theorem dX11_worth_46 : dec cX11_worth 46 3 49 (.getfield 48) := ⟨by decide +kernel, rfl⟩
theorem dX11_worth_49 : dec cX11_worth 49 3 52 (.invokevirtual 225) := ⟨by decide +kernel, rfl⟩
theorem dX11_worth_52 : dec cX11_worth 52 1 53 (.iload_n 3) := ⟨by decide +kernel, rfl⟩
theorem dX11_worth_53 : dec cX11_worth 53 3 56 (.invokestatic 229) := ⟨by decide +kernel, rfl⟩
theorem dX11_worth_56 : dec cX11_worth 56 1 57 (.lreturn) := ⟨by decide +kernel, rfl⟩
set_option maxHeartbeats 4000000 in
set_option maxRecDepth 100000 in
theorem mX11_worth (Y : Yx) (hF : Y.2.2.2.2 = true) (l : Launch) (a0 : Nat) (x1 : Int) (x2 : Int) (x3 : Int) (M0 : Mem) (Q : Int → Mem → Prop) (qa0 : 0 < a0 ∧ M0 0 a0 = kO 11) (h : wX11_worth a0 x1 x2 x3 M0 Q) : CT Y l yX11_worth cX11_worth 5 (some .long) rmX11_worth [vR Y.1 a0, vI x1, vI x2, vI x3] M0 (QL Q) := by
  unfold wX11_worth at h
  refine ct_intro (by decide) (Nat.le_of_ble_eq_true rfl) ?_
  intro X hXl hC hL0
  have hL := hL0 hF
  change OKX X Y RX11 cX11_worth 5 (some .long) rmX11_worth at hC
  change WW X Y 5 rmX11_worth (QL Q) M0 0 0 0 [(0, vR Y.1 a0), (1, vI x1), (2, vI x2), (3, vI x3)] [] M0
  refine r_aload_n hC 0 dX11_worth_0 rfl rfl ?_
  refine r_iload_n hC 1 dX11_worth_1 rfl rfl ?_
  refine r_iload_n hC 2 dX11_worth_2 rfl rfl ?_
  refine r_iload_n hC 3 dX11_worth_3 rfl rfl ?_
  refine r_iconst hC dX11_worth_4 ?_
  refine r_iconst hC dX11_worth_5 ?_
  refine r_callS (As := [vI x3, vI 0, vI 1]) (st := [vI x2, vI x1, vR Y.1 a0]) hC cw_X11_87 rfl rfl (Nat.le_of_ble_eq_true rfl) ⟨Nat.le_of_ble_eq_true rfl, Nat.le_of_ble_eq_true rfl⟩ ⟨Nat.le_of_ble_eq_true rfl, Nat.le_of_ble_eq_true rfl⟩ dX11_worth_6 (fun hk => mX11_within Y hF _ _ _ _ _ _  h) (fun v M_1 h => ?_)
  obtain ⟨r_2, rfl, h⟩ := h
  refine r_callV (As := [vI x1, vI x2, vI r_2]) (st := []) hC cw_X11_213 rfl qa0.1 qa0.2 rfl rfl (Nat.le_of_ble_eq_true rfl) ⟨Nat.le_of_ble_eq_true rfl, Nat.le_of_ble_eq_true rfl⟩ ⟨Nat.le_of_ble_eq_true rfl, Nat.le_of_ble_eq_true rfl⟩ dX11_worth_9 (fun hk => mX11_rowFault Y hF _ _ _ _ _ _ _ (kqO hk qa0) h) (fun v M_3 h => ?_)
  obtain ⟨r_4, rfl, h⟩ := h
  refine r_istore (lv' := [(4, vI r_4), (0, vR Y.1 a0), (1, vI x1), (2, vI x2), (3, vI x3)]) hC dX11_worth_12 (by decide) rfl ?_
  refine r_iload hC 0 dX11_worth_14 rfl ?_
  refine r_if_eq hC 27 rfl dX11_worth_16 (by decide) (fun cq => ?_) (fun cq => ?_)
  · replace h := h.1 cq
    refine r_aload_n hC 1 dX11_worth_27 rfl rfl ?_
    have q_5 : 0 < a0 + 90 ∧ M0 0 (a0 + 90) = kO 10 := lay_f0 (a := a0) hL qa0 fm_11_7
    refine r_getR0 (a' := a0 + 90) hC fg_X11_48 rfl hF fm_11_7 qa0.1 qa0.2 rfl dX11_worth_28 ?_
    refine r_aload_n hC 1 dX11_worth_31 rfl rfl ?_
    have q_6 : 0 < a0 + 86 ∧ M0 0 (a0 + 86) = kO 5 := lay_f0 (a := a0) hL qa0 fm_11_5
    refine r_getR0 (a' := a0 + 86) hC fg_X11_36 rfl hF fm_11_5 qa0.1 qa0.2 rfl dX11_worth_32 ?_
    refine r_aload_n hC 1 dX11_worth_35 rfl rfl ?_
    have q_7 : 0 < a0 + 1 ∧ M0 0 (a0 + 1) = kO 0 := lay_f0 (a := a0) hL qa0 fm_11_0
    refine r_getR0 (a' := a0 + 1) hC fg_X11_10 rfl hF fm_11_0 qa0.1 qa0.2 rfl dX11_worth_36 ?_
    refine r_callV (As := []) (st := [vR Y.1 (a0 + 86), vR Y.1 (a0 + 90)]) hC cw_X11_217 rfl q_7.1 q_7.2 rfl rfl (Nat.le_of_ble_eq_true rfl) ⟨Nat.le_of_ble_eq_true rfl, Nat.le_of_ble_eq_true rfl⟩ ⟨Nat.le_of_ble_eq_true rfl, Nat.le_of_ble_eq_true rfl⟩ dX11_worth_39 (fun hk => mX0_likingsOn Y hF _ _ _ _ (kqO hk q_7) h) (fun v M_8 h => ?_)
    obtain ⟨r_9, rfl, h⟩ := h
    refine r_callV (As := [vR Y.1 (a0 + 86), vI r_9]) (st := []) hC cw_X11_221 rfl q_5.1 q_5.2 rfl rfl (Nat.le_of_ble_eq_true rfl) ⟨Nat.le_of_ble_eq_true rfl, Nat.le_of_ble_eq_true rfl⟩ ⟨Nat.le_of_ble_eq_true rfl, Nat.le_of_ble_eq_true rfl⟩ dX11_worth_42 (fun hk => mX10_along Y hF _ _ _ _ _ _ (kqO hk q_5) (kqO hk q_6) h) (fun v M_10 h => ?_)
    obtain ⟨rfl, h⟩ := h
    refine r_aload_n hC 1 dX11_worth_45 rfl rfl ?_
    have q_11 : 0 < a0 + 90 ∧ M0 0 (a0 + 90) = kO 10 := lay_f0 (a := a0) hL qa0 fm_11_7
    refine r_getR0 (a' := a0 + 90) hC fg_X11_48 rfl hF fm_11_7 qa0.1 qa0.2 rfl dX11_worth_46 ?_
    refine r_callV (As := []) (st := []) hC cw_X11_225 rfl q_11.1 q_11.2 rfl rfl (Nat.le_of_ble_eq_true rfl) ⟨Nat.le_of_ble_eq_true rfl, Nat.le_of_ble_eq_true rfl⟩ ⟨Nat.le_of_ble_eq_true rfl, Nat.le_of_ble_eq_true rfl⟩ dX11_worth_49 (fun hk => mX10_total Y hF _ _ _ _ (kqO hk q_11) h) (fun v M_12 h => ?_)
    obtain ⟨r_13, rfl, h⟩ := h
    refine r_iload_n hC 4 dX11_worth_52 rfl rfl ?_
    refine r_callS (As := [vL r_13, vI x3]) (st := []) hC cw_X11_229 rfl rfl (Nat.le_of_ble_eq_true rfl) ⟨Nat.le_of_ble_eq_true rfl, Nat.le_of_ble_eq_true rfl⟩ ⟨Nat.le_of_ble_eq_true rfl, Nat.le_of_ble_eq_true rfl⟩ dX11_worth_53 (fun hk => mX11_partOf Y hF _ _ _ _ _  h) (fun v M_14 h => ?_)
    obtain ⟨r_15, rfl, h⟩ := h
    exact r_lret hC (Nat.zero_le _) (Nat.zero_le _) dX11_worth_56 ⟨_, rfl, h⟩
  · replace h := h.2 cq
    refine r_aload_n hC 1 dX11_worth_19 rfl rfl ?_
    refine r_iload hC 0 dX11_worth_20 rfl ?_
    refine r_callV (As := [vI r_4]) (st := []) hC cw_X11_91 rfl qa0.1 qa0.2 rfl rfl (Nat.le_of_ble_eq_true rfl) ⟨Nat.le_of_ble_eq_true rfl, Nat.le_of_ble_eq_true rfl⟩ ⟨Nat.le_of_ble_eq_true rfl, Nat.le_of_ble_eq_true rfl⟩ dX11_worth_22 (fun hk => mX11_error Y hF _ _ _ _ _ (kqO hk qa0) h) (fun v M_16 h => ?_)
    obtain ⟨r_17, rfl, h⟩ := h
    refine r_i2l hC dX11_worth_25 ?_
    exact r_lret hC (Nat.zero_le _) (Nat.zero_le _) dX11_worth_26 ⟨_, rfl, h⟩
theorem dX11_worthBy_0 : dec cX11_worthBy 0 1 1 (.aload_n 0) := ⟨by decide +kernel, rfl⟩
theorem dX11_worthBy_1 : dec cX11_worthBy 1 1 2 (.iload_n 1) := ⟨by decide +kernel, rfl⟩
theorem dX11_worthBy_2 : dec cX11_worthBy 2 1 3 (.iload_n 2) := ⟨by decide +kernel, rfl⟩
theorem dX11_worthBy_3 : dec cX11_worthBy 3 1 4 (.aload_n 0) := ⟨by decide +kernel, rfl⟩
theorem dX11_worthBy_4 : dec cX11_worthBy 4 1 5 (.iload_n 3) := ⟨by decide +kernel, rfl⟩
theorem dX11_worthBy_5 : dec cX11_worthBy 5 3 8 (.invokevirtual 144) := ⟨by decide +kernel, rfl⟩
theorem dX11_worthBy_8 : dec cX11_worthBy 8 3 11 (.ifCond .ne 7) := ⟨by decide +kernel, rfl⟩
theorem dX11_worthBy_11 : dec cX11_worthBy 11 1 12 (.iconst 1) := ⟨by decide +kernel, rfl⟩
theorem dX11_worthBy_12 : dec cX11_worthBy 12 3 15 (.goto 4) := ⟨by decide +kernel, rfl⟩
theorem dX11_worthBy_15 : dec cX11_worthBy 15 1 16 (.iconst 0) := ⟨by decide +kernel, rfl⟩
theorem dX11_worthBy_16 : dec cX11_worthBy 16 3 19 (.invokevirtual 213) := ⟨by decide +kernel, rfl⟩
theorem dX11_worthBy_19 : dec cX11_worthBy 19 2 21 (.istore 4) := ⟨by decide +kernel, rfl⟩
theorem dX11_worthBy_21 : dec cX11_worthBy 21 2 23 (.iload 4) := ⟨by decide +kernel, rfl⟩
theorem dX11_worthBy_23 : dec cX11_worthBy 23 3 26 (.ifCond .eq 10) := ⟨by decide +kernel, rfl⟩
theorem dX11_worthBy_26 : dec cX11_worthBy 26 1 27 (.aload_n 0) := ⟨by decide +kernel, rfl⟩
theorem dX11_worthBy_27 : dec cX11_worthBy 27 2 29 (.iload 4) := ⟨by decide +kernel, rfl⟩
theorem dX11_worthBy_29 : dec cX11_worthBy 29 3 32 (.invokevirtual 91) := ⟨by decide +kernel, rfl⟩
theorem dX11_worthBy_32 : dec cX11_worthBy 32 1 33 (.ireturn) := ⟨by decide +kernel, rfl⟩
theorem dX11_worthBy_33 : dec cX11_worthBy 33 1 34 (.aload_n 0) := ⟨by decide +kernel, rfl⟩
theorem dX11_worthBy_34 : dec cX11_worthBy 34 3 37 (.getfield 48) := ⟨by decide +kernel, rfl⟩
theorem dX11_worthBy_37 : dec cX11_worthBy 37 1 38 (.aload_n 0) := ⟨by decide +kernel, rfl⟩
theorem dX11_worthBy_38 : dec cX11_worthBy 38 3 41 (.getfield 36) := ⟨by decide +kernel, rfl⟩
theorem dX11_worthBy_41 : dec cX11_worthBy 41 1 42 (.iconst 1) := ⟨by decide +kernel, rfl⟩
theorem dX11_worthBy_42 : dec cX11_worthBy 42 1 43 (.iload_n 3) := ⟨by decide +kernel, rfl⟩
theorem dX11_worthBy_43 : dec cX11_worthBy 43 1 44 (.ishl) := ⟨by decide +kernel, rfl⟩
theorem dX11_worthBy_44 : dec cX11_worthBy 44 3 47 (.invokevirtual 221) := ⟨by decide +kernel, rfl⟩
theorem dX11_worthBy_47 : dec cX11_worthBy 47 1 48 (.aload_n 0) := ⟨by decide +kernel, rfl⟩
theorem dX11_worthBy_48 : dec cX11_worthBy 48 3 51 (.getfield 48) := ⟨by decide +kernel, rfl⟩
theorem dX11_worthBy_51 : dec cX11_worthBy 51 1 52 (.iload_n 3) := ⟨by decide +kernel, rfl⟩
theorem dX11_worthBy_52 : dec cX11_worthBy 52 3 55 (.invokevirtual 233) := ⟨by decide +kernel, rfl⟩
theorem dX11_worthBy_55 : dec cX11_worthBy 55 1 56 (.ireturn) := ⟨by decide +kernel, rfl⟩
set_option maxHeartbeats 4000000 in
set_option maxRecDepth 100000 in
theorem tX11_worthBy_J16 {X : Cx} {Y : Yx} {M0 : Mem} (hC : OKX X Y RX11 cX11_worthBy 5 (some .int) rmX11_worthBy) (hF : Y.2.2.2.2 = true) (hL : Lay M0) (Q : Int → Mem → Prop)   (a0 : Nat) (x3 : Int) (xs0 : Int) (xs1 : Int) (xs2 : Int) (as3 : Nat) (qa0 : 0 < a0 ∧ M0 0 a0 = kO 11) (qas3 : 0 < as3 ∧ M0 0 as3 = kO 11)  (M : Mem) (h : wX11_worthBy_J16 Q  a0 x3 xs0 xs1 xs2 as3 M) : WW X Y 5 rmX11_worthBy (QI Q) M0 0 0 16 [(0, vR Y.1 a0), (3, vI x3)] [vI xs0, vI xs1, vI xs2, vR Y.1 as3] M := by
  unfold wX11_worthBy_J16 at h
  refine r_callV (As := [vI xs2, vI xs1, vI xs0]) (st := []) hC cw_X11_213 rfl qas3.1 qas3.2 rfl rfl (Nat.le_of_ble_eq_true rfl) ⟨Nat.le_of_ble_eq_true rfl, Nat.le_of_ble_eq_true rfl⟩ ⟨Nat.le_of_ble_eq_true rfl, Nat.le_of_ble_eq_true rfl⟩ dX11_worthBy_16 (fun hk => mX11_rowFault Y hF _ _ _ _ _ _ _ (kqO hk qas3) h) (fun v M_3 h => ?_)
  obtain ⟨r_4, rfl, h⟩ := h
  refine r_istore (lv' := [(4, vI r_4), (0, vR Y.1 a0), (3, vI x3)]) hC dX11_worthBy_19 (by decide) rfl ?_
  refine r_iload hC 0 dX11_worthBy_21 rfl ?_
  refine r_if_eq hC 33 rfl dX11_worthBy_23 (by decide) (fun cq => ?_) (fun cq => ?_)
  · replace h := h.1 cq
    refine r_aload_n hC 1 dX11_worthBy_33 rfl rfl ?_
    have q_5 : 0 < a0 + 90 ∧ M0 0 (a0 + 90) = kO 10 := lay_f0 (a := a0) hL qa0 fm_11_7
    refine r_getR0 (a' := a0 + 90) hC fg_X11_48 rfl hF fm_11_7 qa0.1 qa0.2 rfl dX11_worthBy_34 ?_
    refine r_aload_n hC 1 dX11_worthBy_37 rfl rfl ?_
    have q_6 : 0 < a0 + 86 ∧ M0 0 (a0 + 86) = kO 5 := lay_f0 (a := a0) hL qa0 fm_11_5
    refine r_getR0 (a' := a0 + 86) hC fg_X11_36 rfl hF fm_11_5 qa0.1 qa0.2 rfl dX11_worthBy_38 ?_
    refine r_iconst hC dX11_worthBy_41 ?_
    refine r_iload_n hC 2 dX11_worthBy_42 rfl rfl ?_
    refine r_ishl hC dX11_worthBy_43 ?_
    refine r_callV (As := [vR Y.1 (a0 + 86), vI (iShl 1 x3)]) (st := []) hC cw_X11_221 rfl q_5.1 q_5.2 rfl rfl (Nat.le_of_ble_eq_true rfl) ⟨Nat.le_of_ble_eq_true rfl, Nat.le_of_ble_eq_true rfl⟩ ⟨Nat.le_of_ble_eq_true rfl, Nat.le_of_ble_eq_true rfl⟩ dX11_worthBy_44 (fun hk => mX10_along Y hF _ _ _ _ _ _ (kqO hk q_5) (kqO hk q_6) h) (fun v M_7 h => ?_)
    obtain ⟨rfl, h⟩ := h
    refine r_aload_n hC 1 dX11_worthBy_47 rfl rfl ?_
    have q_8 : 0 < a0 + 90 ∧ M0 0 (a0 + 90) = kO 10 := lay_f0 (a := a0) hL qa0 fm_11_7
    refine r_getR0 (a' := a0 + 90) hC fg_X11_48 rfl hF fm_11_7 qa0.1 qa0.2 rfl dX11_worthBy_48 ?_
    refine r_iload_n hC 2 dX11_worthBy_51 rfl rfl ?_
    refine r_callV (As := [vI x3]) (st := []) hC cw_X11_233 rfl q_8.1 q_8.2 rfl rfl (Nat.le_of_ble_eq_true rfl) ⟨Nat.le_of_ble_eq_true rfl, Nat.le_of_ble_eq_true rfl⟩ ⟨Nat.le_of_ble_eq_true rfl, Nat.le_of_ble_eq_true rfl⟩ dX11_worthBy_52 (fun hk => mX10_totalBy Y hF _ _ _ _ _ (kqO hk q_8) h) (fun v M_9 h => ?_)
    obtain ⟨r_10, rfl, h⟩ := h
    exact r_iret hC (Nat.zero_le _) (Nat.zero_le _) dX11_worthBy_55 ⟨_, rfl, h⟩
  · replace h := h.2 cq
    refine r_aload_n hC 1 dX11_worthBy_26 rfl rfl ?_
    refine r_iload hC 0 dX11_worthBy_27 rfl ?_
    refine r_callV (As := [vI r_4]) (st := []) hC cw_X11_91 rfl qa0.1 qa0.2 rfl rfl (Nat.le_of_ble_eq_true rfl) ⟨Nat.le_of_ble_eq_true rfl, Nat.le_of_ble_eq_true rfl⟩ ⟨Nat.le_of_ble_eq_true rfl, Nat.le_of_ble_eq_true rfl⟩ dX11_worthBy_29 (fun hk => mX11_error Y hF _ _ _ _ _ (kqO hk qa0) h) (fun v M_11 h => ?_)
    obtain ⟨r_12, rfl, h⟩ := h
    exact r_iret hC (Nat.zero_le _) (Nat.zero_le _) dX11_worthBy_32 ⟨_, rfl, h⟩
set_option maxHeartbeats 4000000 in
set_option maxRecDepth 100000 in
theorem mX11_worthBy (Y : Yx) (hF : Y.2.2.2.2 = true) (l : Launch) (a0 : Nat) (x1 : Int) (x2 : Int) (x3 : Int) (M0 : Mem) (Q : Int → Mem → Prop) (qa0 : 0 < a0 ∧ M0 0 a0 = kO 11) (h : wX11_worthBy a0 x1 x2 x3 M0 Q) : CT Y l yX11_worthBy cX11_worthBy 5 (some .int) rmX11_worthBy [vR Y.1 a0, vI x1, vI x2, vI x3] M0 (QI Q) := by
  unfold wX11_worthBy at h
  refine ct_intro (by decide) (Nat.le_of_ble_eq_true rfl) ?_
  intro X hXl hC hL0
  have hL := hL0 hF
  change OKX X Y RX11 cX11_worthBy 5 (some .int) rmX11_worthBy at hC
  change WW X Y 5 rmX11_worthBy (QI Q) M0 0 0 0 [(0, vR Y.1 a0), (1, vI x1), (2, vI x2), (3, vI x3)] [] M0
  refine r_aload_n hC 0 dX11_worthBy_0 rfl rfl ?_
  refine r_iload_n hC 1 dX11_worthBy_1 rfl rfl ?_
  refine r_iload_n hC 2 dX11_worthBy_2 rfl rfl ?_
  refine r_aload_n hC 0 dX11_worthBy_3 rfl rfl ?_
  refine r_iload_n hC 3 dX11_worthBy_4 rfl rfl ?_
  refine r_callV (As := [vI x3]) (st := [vI x2, vI x1, vR Y.1 a0]) hC cw_X11_144 rfl qa0.1 qa0.2 rfl rfl (Nat.le_of_ble_eq_true rfl) ⟨Nat.le_of_ble_eq_true rfl, Nat.le_of_ble_eq_true rfl⟩ ⟨Nat.le_of_ble_eq_true rfl, Nat.le_of_ble_eq_true rfl⟩ dX11_worthBy_5 (fun hk => mX11_isNoLiking Y hF _ _ _ _ _ (kqO hk qa0) h) (fun v M_1 h => ?_)
  obtain ⟨r_2, rfl, h⟩ := h
  refine r_if_ne hC 15 rfl dX11_worthBy_8 (by decide) (fun cq => ?_) (fun cq => ?_)
  · replace h := h.2 cq
    refine r_iconst hC dX11_worthBy_15 ?_
    refine r_sub [0, 3] rfl ?_
    exact tX11_worthBy_J16 hC hF hL Q   _ _ _ _ _ _ qa0 qa0  _ h
  · replace h := h.1 cq
    refine r_iconst hC dX11_worthBy_11 ?_
    refine r_goto hC 16 dX11_worthBy_12 (by decide) ?_
    refine r_sub [0, 3] rfl ?_
    exact tX11_worthBy_J16 hC hF hL Q   _ _ _ _ _ _ qa0 qa0  _ h
theorem dX11_tired_0 : dec cX11_tired 0 1 1 (.aload_n 0) := ⟨by decide +kernel, rfl⟩
theorem dX11_tired_1 : dec cX11_tired 1 1 2 (.iload_n 1) := ⟨by decide +kernel, rfl⟩
theorem dX11_tired_2 : dec cX11_tired 2 1 3 (.iload_n 2) := ⟨by decide +kernel, rfl⟩
theorem dX11_tired_3 : dec cX11_tired 3 1 4 (.iload_n 3) := ⟨by decide +kernel, rfl⟩
theorem dX11_tired_4 : dec cX11_tired 4 1 5 (.iconst 0) := ⟨by decide +kernel, rfl⟩
theorem dX11_tired_5 : dec cX11_tired 5 2 7 (.bipush 7) := ⟨by decide +kernel, rfl⟩
theorem dX11_tired_7 : dec cX11_tired 7 3 10 (.invokestatic 87) := ⟨by decide +kernel, rfl⟩
theorem dX11_tired_10 : dec cX11_tired 10 3 13 (.invokevirtual 213) := ⟨by decide +kernel, rfl⟩
theorem dX11_tired_13 : dec cX11_tired 13 2 15 (.istore 5) := ⟨by decide +kernel, rfl⟩
theorem dX11_tired_15 : dec cX11_tired 15 2 17 (.iload 5) := ⟨by decide +kernel, rfl⟩
theorem dX11_tired_17 : dec cX11_tired 17 3 20 (.ifCond .ne 24) := ⟨by decide +kernel, rfl⟩
theorem dX11_tired_20 : dec cX11_tired 20 2 22 (.iload 4) := ⟨by decide +kernel, rfl⟩
theorem dX11_tired_22 : dec cX11_tired 22 1 23 (.iconst 0) := ⟨by decide +kernel, rfl⟩
theorem dX11_tired_23 : dec cX11_tired 23 1 24 (.aload_n 0) := ⟨by decide +kernel, rfl⟩
theorem dX11_tired_24 : dec cX11_tired 24 3 27 (.getfield 36) := ⟨by decide +kernel, rfl⟩
theorem dX11_tired_27 : dec cX11_tired 27 3 30 (.getfield 236) := ⟨by decide +kernel, rfl⟩
theorem dX11_tired_30 : dec cX11_tired 30 1 31 (.iconst 1) := ⟨by decide +kernel, rfl⟩
theorem dX11_tired_31 : dec cX11_tired 31 1 32 (.isub) := ⟨by decide +kernel, rfl⟩
theorem dX11_tired_32 : dec cX11_tired 32 3 35 (.invokestatic 87) := ⟨by decide +kernel, rfl⟩
theorem dX11_tired_35 : dec cX11_tired 35 3 38 (.ifCond .ne 6) := ⟨by decide +kernel, rfl⟩
theorem dX11_tired_38 : dec cX11_tired 38 1 39 (.iconst 1) := ⟨by decide +kernel, rfl⟩
theorem dX11_tired_39 : dec cX11_tired 39 2 41 (.istore 5) := ⟨by decide +kernel, rfl⟩
theorem dX11_tired_41 : dec cX11_tired 41 2 43 (.iload 5) := ⟨by decide +kernel, rfl⟩
theorem dX11_tired_43 : dec cX11_tired 43 3 46 (.ifCond .eq 10) := ⟨by decide +kernel, rfl⟩
theorem dX11_tired_46 : dec cX11_tired 46 1 47 (.aload_n 0) := ⟨by decide +kernel, rfl⟩
theorem dX11_tired_47 : dec cX11_tired 47 2 49 (.iload 5) := ⟨by decide +kernel, rfl⟩
theorem dX11_tired_49 : dec cX11_tired 49 3 52 (.invokevirtual 91) := ⟨by decide +kernel, rfl⟩
theorem dX11_tired_52 : dec cX11_tired 52 1 53 (.ireturn) := ⟨by decide +kernel, rfl⟩
theorem dX11_tired_53 : dec cX11_tired 53 1 54 (.aload_n 0) := ⟨by decide +kernel, rfl⟩
theorem dX11_tired_54 : dec cX11_tired 54 3 57 (.getfield 48) := ⟨by decide +kernel, rfl⟩
theorem dX11_tired_57 : dec cX11_tired 57 1 58 (.aload_n 0) := ⟨by decide +kernel, rfl⟩
theorem dX11_tired_58 : dec cX11_tired 58 3 61 (.getfield 36) := ⟨by decide +kernel, rfl⟩
theorem dX11_tired_61 : dec cX11_tired 61 1 62 (.iconst 0) := ⟨by decide +kernel, rfl⟩
theorem dX11_tired_62 : dec cX11_tired 62 3 65 (.invokevirtual 221) := ⟨by decide +kernel, rfl⟩
theorem dX11_tired_65 : dec cX11_tired 65 1 66 (.aload_n 0) := ⟨by decide +kernel, rfl⟩
theorem dX11_tired_66 : dec cX11_tired 66 3 69 (.getfield 48) := ⟨by decide +kernel, rfl⟩
theorem dX11_tired_69 : dec cX11_tired 69 3 72 (.getfield 239) := ⟨by decide +kernel, rfl⟩
theorem dX11_tired_72 : dec cX11_tired 72 2 74 (.iload 4) := ⟨by decide +kernel, rfl⟩
theorem dX11_tired_74 : dec cX11_tired 74 1 75 (.iconst 1) := ⟨by decide +kernel, rfl⟩
theorem dX11_tired_75 : dec cX11_tired 75 1 76 (.iadd) := ⟨by decide +kernel, rfl⟩
theorem dX11_tired_76 : dec cX11_tired 76 2 78 (.bipush 8) := ⟨by decide +kernel, rfl⟩
theorem dX11_tired_78 : dec cX11_tired 78 1 79 (.imul) := ⟨by decide +kernel, rfl⟩
theorem dX11_tired_79 : dec cX11_tired 79 1 80 (.iload_n 3) := ⟨by decide +kernel, rfl⟩
theorem dX11_tired_80 : dec cX11_tired 80 1 81 (.iadd) := ⟨by decide +kernel, rfl⟩
theorem dX11_tired_81 : dec cX11_tired 81 1 82 (.iaload) := ⟨by decide +kernel, rfl⟩
theorem dX11_tired_82 : dec cX11_tired 82 1 83 (.ireturn) := ⟨by decide +kernel, rfl⟩
set_option maxHeartbeats 4000000 in
set_option maxRecDepth 100000 in
theorem tX11_tired_J41 {X : Cx} {Y : Yx} {M0 : Mem} (hC : OKX X Y RX11 cX11_tired 6 (some .int) rmX11_tired) (hF : Y.2.2.2.2 = true) (hL : Lay M0) (Q : Int → Mem → Prop)   (a0 : Nat) (x3 : Int) (x4 : Int) (x5 : Int) (qa0 : 0 < a0 ∧ M0 0 a0 = kO 11)  (M : Mem) (h : wX11_tired_J41 Q  a0 x3 x4 x5 M) : WW X Y 6 rmX11_tired (QI Q) M0 0 0 41 [(0, vR Y.1 a0), (3, vI x3), (4, vI x4), (5, vI x5)] [] M := by
  unfold wX11_tired_J41 at h
  refine r_iload hC 3 dX11_tired_41 rfl ?_
  refine r_if_eq hC 53 rfl dX11_tired_43 (by decide) (fun cq => ?_) (fun cq => ?_)
  · replace h := h.1 cq
    refine r_aload_n hC 0 dX11_tired_53 rfl rfl ?_
    have q_5 : 0 < a0 + 90 ∧ M0 0 (a0 + 90) = kO 10 := lay_f0 (a := a0) hL qa0 fm_11_7
    refine r_getR0 (a' := a0 + 90) hC fg_X11_48 rfl hF fm_11_7 qa0.1 qa0.2 rfl dX11_tired_54 ?_
    refine r_aload_n hC 0 dX11_tired_57 rfl rfl ?_
    have q_6 : 0 < a0 + 86 ∧ M0 0 (a0 + 86) = kO 5 := lay_f0 (a := a0) hL qa0 fm_11_5
    refine r_getR0 (a' := a0 + 86) hC fg_X11_36 rfl hF fm_11_5 qa0.1 qa0.2 rfl dX11_tired_58 ?_
    refine r_iconst hC dX11_tired_61 ?_
    refine r_callV (As := [vR Y.1 (a0 + 86), vI 0]) (st := []) hC cw_X11_221 rfl q_5.1 q_5.2 rfl rfl (Nat.le_of_ble_eq_true rfl) ⟨Nat.le_of_ble_eq_true rfl, Nat.le_of_ble_eq_true rfl⟩ ⟨Nat.le_of_ble_eq_true rfl, Nat.le_of_ble_eq_true rfl⟩ dX11_tired_62 (fun hk => mX10_along Y hF _ _ _ _ _ _ (kqO hk q_5) (kqO hk q_6) h) (fun v M_7 h => ?_)
    obtain ⟨rfl, h⟩ := h
    refine r_aload_n hC 0 dX11_tired_65 rfl rfl ?_
    have q_8 : 0 < a0 + 90 ∧ M0 0 (a0 + 90) = kO 10 := lay_f0 (a := a0) hL qa0 fm_11_7
    refine r_getR0 (a' := a0 + 90) hC fg_X11_48 rfl hF fm_11_7 qa0.1 qa0.2 rfl dX11_tired_66 ?_
    have q_9 : 0 < a0 + 98 ∧ M0 0 (a0 + 98) = kA 0 104 := lay_f0 (a := a0 + 90) hL q_8 fm_10_11
    refine r_getR0 (a' := a0 + 98) hC fg_X11_239 rfl hF fm_10_11 q_8.1 q_8.2 rfl dX11_tired_69 ?_
    refine r_iload hC 2 dX11_tired_72 rfl ?_
    refine r_iconst hC dX11_tired_74 ?_
    refine r_iadd hC dX11_tired_75 ?_
    refine r_bipush hC (by decide +kernel) dX11_tired_76 ?_
    refine r_imul hC dX11_tired_78 ?_
    refine r_iload_n hC 1 dX11_tired_79 rfl rfl ?_
    refine r_iadd hC dX11_tired_80 ?_
    obtain ⟨i_10, h⟩ := h
    refine r_iald hC i_10 q_9.1 q_9.2 (by decide) dX11_tired_81 ?_
    exact r_iret hC (Nat.zero_le _) (Nat.zero_le _) dX11_tired_82 ⟨_, rfl, h⟩
  · replace h := h.2 cq
    refine r_aload_n hC 0 dX11_tired_46 rfl rfl ?_
    refine r_iload hC 3 dX11_tired_47 rfl ?_
    refine r_callV (As := [vI x5]) (st := []) hC cw_X11_91 rfl qa0.1 qa0.2 rfl rfl (Nat.le_of_ble_eq_true rfl) ⟨Nat.le_of_ble_eq_true rfl, Nat.le_of_ble_eq_true rfl⟩ ⟨Nat.le_of_ble_eq_true rfl, Nat.le_of_ble_eq_true rfl⟩ dX11_tired_49 (fun hk => mX11_error Y hF _ _ _ _ _ (kqO hk qa0) h) (fun v M_11 h => ?_)
    obtain ⟨r_12, rfl, h⟩ := h
    exact r_iret hC (Nat.zero_le _) (Nat.zero_le _) dX11_tired_52 ⟨_, rfl, h⟩
set_option maxHeartbeats 4000000 in
set_option maxRecDepth 100000 in
theorem mX11_tired (Y : Yx) (hF : Y.2.2.2.2 = true) (l : Launch) (a0 : Nat) (x1 : Int) (x2 : Int) (x3 : Int) (x4 : Int) (M0 : Mem) (Q : Int → Mem → Prop) (qa0 : 0 < a0 ∧ M0 0 a0 = kO 11) (h : wX11_tired a0 x1 x2 x3 x4 M0 Q) : CT Y l yX11_tired cX11_tired 6 (some .int) rmX11_tired [vR Y.1 a0, vI x1, vI x2, vI x3, vI x4] M0 (QI Q) := by
  unfold wX11_tired at h
  refine ct_intro (by decide) (Nat.le_of_ble_eq_true rfl) ?_
  intro X hXl hC hL0
  have hL := hL0 hF
  change OKX X Y RX11 cX11_tired 6 (some .int) rmX11_tired at hC
  change WW X Y 6 rmX11_tired (QI Q) M0 0 0 0 [(0, vR Y.1 a0), (1, vI x1), (2, vI x2), (3, vI x3), (4, vI x4)] [] M0
  refine r_aload_n hC 0 dX11_tired_0 rfl rfl ?_
  refine r_iload_n hC 1 dX11_tired_1 rfl rfl ?_
  refine r_iload_n hC 2 dX11_tired_2 rfl rfl ?_
  refine r_iload_n hC 3 dX11_tired_3 rfl rfl ?_
  refine r_iconst hC dX11_tired_4 ?_
  refine r_bipush hC (by decide +kernel) dX11_tired_5 ?_
  refine r_callS (As := [vI x3, vI 0, vI 7]) (st := [vI x2, vI x1, vR Y.1 a0]) hC cw_X11_87 rfl rfl (Nat.le_of_ble_eq_true rfl) ⟨Nat.le_of_ble_eq_true rfl, Nat.le_of_ble_eq_true rfl⟩ ⟨Nat.le_of_ble_eq_true rfl, Nat.le_of_ble_eq_true rfl⟩ dX11_tired_7 (fun hk => mX11_within Y hF _ _ _ _ _ _  h) (fun v M_1 h => ?_)
  obtain ⟨r_2, rfl, h⟩ := h
  refine r_callV (As := [vI x1, vI x2, vI r_2]) (st := []) hC cw_X11_213 rfl qa0.1 qa0.2 rfl rfl (Nat.le_of_ble_eq_true rfl) ⟨Nat.le_of_ble_eq_true rfl, Nat.le_of_ble_eq_true rfl⟩ ⟨Nat.le_of_ble_eq_true rfl, Nat.le_of_ble_eq_true rfl⟩ dX11_tired_10 (fun hk => mX11_rowFault Y hF _ _ _ _ _ _ _ (kqO hk qa0) h) (fun v M_3 h => ?_)
  obtain ⟨r_4, rfl, h⟩ := h
  refine r_istore (lv' := [(5, vI r_4), (0, vR Y.1 a0), (1, vI x1), (2, vI x2), (3, vI x3), (4, vI x4)]) hC dX11_tired_13 (by decide) rfl ?_
  refine r_iload hC 0 dX11_tired_15 rfl ?_
  refine r_if_ne hC 41 rfl dX11_tired_17 (by decide) (fun cq => ?_) (fun cq => ?_)
  · replace h := h.2 cq
    refine r_sub [1, 4, 5, 0] rfl ?_
    exact tX11_tired_J41 hC hF hL Q   _ _ _ _ qa0  _ h
  · replace h := h.1 cq
    refine r_iload hC 5 dX11_tired_20 rfl ?_
    refine r_iconst hC dX11_tired_22 ?_
    refine r_aload_n hC 1 dX11_tired_23 rfl rfl ?_
    have q_13 : 0 < a0 + 86 ∧ M0 0 (a0 + 86) = kO 5 := lay_f0 (a := a0) hL qa0 fm_11_5
    refine r_getR0 (a' := a0 + 86) hC fg_X11_36 rfl hF fm_11_5 qa0.1 qa0.2 rfl dX11_tired_24 ?_
    refine r_getI hC fg_X11_236 rfl q_13.1 q_13.2 dX11_tired_27 ?_
    refine r_iconst hC dX11_tired_30 ?_
    refine r_isub hC dX11_tired_31 ?_
    refine r_callS (As := [vI x4, vI 0, vI ((M_3 (a0 + 86) 1) - 1)]) (st := []) hC cw_X11_87 rfl rfl (Nat.le_of_ble_eq_true rfl) ⟨Nat.le_of_ble_eq_true rfl, Nat.le_of_ble_eq_true rfl⟩ ⟨Nat.le_of_ble_eq_true rfl, Nat.le_of_ble_eq_true rfl⟩ dX11_tired_32 (fun hk => mX11_within Y hF _ _ _ _ _ _  h) (fun v M_14 h => ?_)
    obtain ⟨r_15, rfl, h⟩ := h
    refine r_if_ne hC 41 rfl dX11_tired_35 (by decide) (fun cq => ?_) (fun cq => ?_)
    · replace h := h.2 cq
      refine r_sub [1, 4, 5, 0] rfl ?_
      exact tX11_tired_J41 hC hF hL Q   _ _ _ _ qa0  _ h
    · replace h := h.1 cq
      refine r_iconst hC dX11_tired_38 ?_
      refine r_istore (lv' := [(5, vI 1), (0, vR Y.1 a0), (1, vI x1), (2, vI x2), (3, vI x3), (4, vI x4)]) hC dX11_tired_39 (by decide) rfl ?_
      refine r_sub [1, 4, 5, 0] rfl ?_
      exact tX11_tired_J41 hC hF hL Q   _ _ _ _ qa0  _ h
