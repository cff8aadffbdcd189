theorem dX11_trace_0 : dec cX11_trace 0 1 1 (.iload_n 1) := ⟨by decide +kernel, rfl⟩
theorem dX11_trace_1 : dec cX11_trace 1 1 2 (.iconst 0) := ⟨by decide +kernel, rfl⟩
theorem dX11_trace_2 : dec cX11_trace 2 1 3 (.aload_n 0) := ⟨by decide +kernel, rfl⟩
theorem dX11_trace_3 : dec cX11_trace 3 3 6 (.getfield 78) := ⟨by decide +kernel, rfl⟩
theorem dX11_trace_6 : dec cX11_trace 6 3 9 (.getfield 367) := ⟨by decide +kernel, rfl⟩
theorem dX11_trace_9 : dec cX11_trace 9 1 10 (.iconst 1) := ⟨by decide +kernel, rfl⟩
theorem dX11_trace_10 : dec cX11_trace 10 1 11 (.isub) := ⟨by decide +kernel, rfl⟩
theorem dX11_trace_11 : dec cX11_trace 11 3 14 (.invokestatic 87) := ⟨by decide +kernel, rfl⟩
theorem dX11_trace_14 : dec cX11_trace 14 3 17 (.ifCond .eq 15) := ⟨by decide +kernel, rfl⟩
theorem dX11_trace_17 : dec cX11_trace 17 1 18 (.aload_n 0) := ⟨by decide +kernel, rfl⟩
theorem dX11_trace_18 : dec cX11_trace 18 3 21 (.getfield 78) := ⟨by decide +kernel, rfl⟩
theorem dX11_trace_21 : dec cX11_trace 21 3 24 (.getfield 370) := ⟨by decide +kernel, rfl⟩
theorem dX11_trace_24 : dec cX11_trace 24 1 25 (.iload_n 1) := ⟨by decide +kernel, rfl⟩
theorem dX11_trace_25 : dec cX11_trace 25 1 26 (.iaload) := ⟨by decide +kernel, rfl⟩
theorem dX11_trace_26 : dec cX11_trace 26 3 29 (.goto 8) := ⟨by decide +kernel, rfl⟩
theorem dX11_trace_29 : dec cX11_trace 29 1 30 (.aload_n 0) := ⟨by decide +kernel, rfl⟩
theorem dX11_trace_30 : dec cX11_trace 30 1 31 (.iconst 2) := ⟨by decide +kernel, rfl⟩
theorem dX11_trace_31 : dec cX11_trace 31 3 34 (.invokevirtual 91) := ⟨by decide +kernel, rfl⟩
theorem dX11_trace_34 : dec cX11_trace 34 1 35 (.ireturn) := ⟨by decide +kernel, rfl⟩
set_option maxHeartbeats 4000000 in
set_option maxRecDepth 100000 in
theorem mX11_trace (Y : Yx) (hF : Y.2.2.2.2 = true) (l : Launch) (a0 : Nat) (x1 : Int) (M0 : Mem) (Q : Int → Mem → Prop) (qa0 : 0 < a0 ∧ M0 0 a0 = kO 11) (h : wX11_trace a0 x1 M0 Q) : CT Y l yX11_trace cX11_trace 2 (some .int) rmX11_trace [vR Y.1 a0, vI x1] M0 (QI Q) := by
  unfold wX11_trace at h
  refine ct_intro (by decide) (Nat.le_of_ble_eq_true rfl) ?_
  intro X hXl hC hL0
  have hL := hL0 hF
  change OKX X Y RX11 cX11_trace 2 (some .int) rmX11_trace at hC
  change WW X Y 2 rmX11_trace (QI Q) M0 0 0 0 [(0, vR Y.1 a0), (1, vI x1)] [] M0
  refine r_iload_n hC 1 dX11_trace_0 rfl rfl ?_
  refine r_iconst hC dX11_trace_1 ?_
  refine r_aload_n hC 0 dX11_trace_2 rfl rfl ?_
  have q_1 : 0 < a0 + 113 ∧ M0 0 (a0 + 113) = kO 9 := lay_f0 (a := a0) hL qa0 fm_11_11
  refine r_getR0 (a' := a0 + 113) hC fg_X11_78 rfl hF fm_11_11 qa0.1 qa0.2 rfl dX11_trace_3 ?_
  refine r_getI hC fg_X11_367 rfl q_1.1 q_1.2 dX11_trace_6 ?_
  refine r_iconst hC dX11_trace_9 ?_
  refine r_isub hC dX11_trace_10 ?_
  refine r_callS (As := [vI x1, vI 0, vI ((M0 (a0 + 113) 1) - 1)]) (st := []) hC cw_X11_87 rfl rfl (Nat.le_of_ble_eq_true rfl) ⟨Nat.le_of_ble_eq_true rfl, Nat.le_of_ble_eq_true rfl⟩ ⟨Nat.le_of_ble_eq_true rfl, Nat.le_of_ble_eq_true rfl⟩ dX11_trace_11 (fun hk => mX11_within Y hF _ _ _ _ _ _  h) (fun v M_2 h => ?_)
  obtain ⟨r_3, rfl, h⟩ := h
  refine r_if_eq hC 29 rfl dX11_trace_14 (by decide) (fun cq => ?_) (fun cq => ?_)
  · replace h := h.1 cq
    refine r_aload_n hC 0 dX11_trace_29 rfl rfl ?_
    refine r_iconst hC dX11_trace_30 ?_
    refine r_callV (As := [vI 2]) (st := []) hC cw_X11_91 rfl qa0.1 qa0.2 rfl rfl (Nat.le_of_ble_eq_true rfl) ⟨Nat.le_of_ble_eq_true rfl, Nat.le_of_ble_eq_true rfl⟩ ⟨Nat.le_of_ble_eq_true rfl, Nat.le_of_ble_eq_true rfl⟩ dX11_trace_31 (fun hk => mX11_error Y hF _ _ _ _ _ (kqO hk qa0) h) (fun v M_4 h => ?_)
    obtain ⟨r_5, rfl, h⟩ := h
    exact r_iret hC (Nat.zero_le _) (Nat.zero_le _) dX11_trace_34 ⟨_, rfl, h⟩
  · replace h := h.2 cq
    refine r_aload_n hC 0 dX11_trace_17 rfl rfl ?_
    have q_6 : 0 < a0 + 113 ∧ M0 0 (a0 + 113) = kO 9 := lay_f0 (a := a0) hL qa0 fm_11_11
    refine r_getR0 (a' := a0 + 113) hC fg_X11_78 rfl hF fm_11_11 qa0.1 qa0.2 rfl dX11_trace_18 ?_
    have q_7 : 0 < a0 + 114 ∧ M0 0 (a0 + 114) = kA 0 30 := lay_f0 (a := a0 + 113) hL q_6 fm_9_0
    refine r_getR0 (a' := a0 + 114) hC fg_X11_370 rfl hF fm_9_0 q_6.1 q_6.2 rfl dX11_trace_21 ?_
    refine r_iload_n hC 1 dX11_trace_24 rfl rfl ?_
    obtain ⟨i_8, h⟩ := h
    refine r_iald hC i_8 q_7.1 q_7.2 (by decide) dX11_trace_25 ?_
    refine r_goto hC 34 dX11_trace_26 (by decide) ?_
    exact r_iret hC (Nat.zero_le _) (Nat.zero_le _) dX11_trace_34 ⟨_, rfl, h⟩
theorem dX11_sheet_0 : dec cX11_sheet 0 1 1 (.iload_n 2) := ⟨by decide +kernel, rfl⟩
theorem dX11_sheet_1 : dec cX11_sheet 1 3 4 (.ifCond .eq 21) := ⟨by decide +kernel, rfl⟩
theorem dX11_sheet_4 : dec cX11_sheet 4 1 5 (.iload_n 2) := ⟨by decide +kernel, rfl⟩
theorem dX11_sheet_5 : dec cX11_sheet 5 2 7 (.bipush 8) := ⟨by decide +kernel, rfl⟩
theorem dX11_sheet_7 : dec cX11_sheet 7 3 10 (.if_icmp .eq 15) := ⟨by decide +kernel, rfl⟩
theorem dX11_sheet_10 : dec cX11_sheet 10 1 11 (.iload_n 2) := ⟨by decide +kernel, rfl⟩
theorem dX11_sheet_11 : dec cX11_sheet 11 2 13 (.bipush 16) := ⟨by decide +kernel, rfl⟩
theorem dX11_sheet_13 : dec cX11_sheet 13 3 16 (.if_icmp .eq 9) := ⟨by decide +kernel, rfl⟩
theorem dX11_sheet_16 : dec cX11_sheet 16 1 17 (.iload_n 2) := ⟨by decide +kernel, rfl⟩
theorem dX11_sheet_17 : dec cX11_sheet 17 2 19 (.bipush 32) := ⟨by decide +kernel, rfl⟩
theorem dX11_sheet_19 : dec cX11_sheet 19 3 22 (.if_icmp .ne 7) := ⟨by decide +kernel, rfl⟩
theorem dX11_sheet_22 : dec cX11_sheet 22 1 23 (.iconst 1) := ⟨by decide +kernel, rfl⟩
theorem dX11_sheet_23 : dec cX11_sheet 23 3 26 (.goto 4) := ⟨by decide +kernel, rfl⟩
theorem dX11_sheet_26 : dec cX11_sheet 26 1 27 (.iconst 0) := ⟨by decide +kernel, rfl⟩
theorem dX11_sheet_27 : dec cX11_sheet 27 2 29 (.istore 4) := ⟨by decide +kernel, rfl⟩
theorem dX11_sheet_29 : dec cX11_sheet 29 1 30 (.iload_n 1) := ⟨by decide +kernel, rfl⟩
theorem dX11_sheet_30 : dec cX11_sheet 30 3 33 (.invokestatic 331) := ⟨by decide +kernel, rfl⟩
theorem dX11_sheet_33 : dec cX11_sheet 33 3 36 (.ifCond .ne 8) := ⟨by decide +kernel, rfl⟩
theorem dX11_sheet_36 : dec cX11_sheet 36 2 38 (.iload 4) := ⟨by decide +kernel, rfl⟩
theorem dX11_sheet_38 : dec cX11_sheet 38 3 41 (.ifCond .ne 9) := ⟨by decide +kernel, rfl⟩
theorem dX11_sheet_41 : dec cX11_sheet 41 1 42 (.aload_n 0) := ⟨by decide +kernel, rfl⟩
theorem dX11_sheet_42 : dec cX11_sheet 42 1 43 (.iconst 1) := ⟨by decide +kernel, rfl⟩
theorem dX11_sheet_43 : dec cX11_sheet 43 3 46 (.invokevirtual 91) := ⟨by decide +kernel, rfl⟩
theorem dX11_sheet_46 : dec cX11_sheet 46 1 47 (.ireturn) := ⟨by decide +kernel, rfl⟩
theorem dX11_sheet_47 : dec cX11_sheet 47 1 48 (.iload_n 2) := ⟨by decide +kernel, rfl⟩
theorem dX11_sheet_48 : dec cX11_sheet 48 3 51 (.ifCond .eq 13) := ⟨by decide +kernel, rfl⟩
theorem dX11_sheet_51 : dec cX11_sheet 51 1 52 (.iload_n 3) := ⟨by decide +kernel, rfl⟩
theorem dX11_sheet_52 : dec cX11_sheet 52 3 55 (.ifCond .ge 9) := ⟨by decide +kernel, rfl⟩
theorem dX11_sheet_55 : dec cX11_sheet 55 1 56 (.aload_n 0) := ⟨by decide +kernel, rfl⟩
theorem dX11_sheet_56 : dec cX11_sheet 56 1 57 (.iconst 3) := ⟨by decide +kernel, rfl⟩
theorem dX11_sheet_57 : dec cX11_sheet 57 3 60 (.invokevirtual 91) := ⟨by decide +kernel, rfl⟩
theorem dX11_sheet_60 : dec cX11_sheet 60 1 61 (.ireturn) := ⟨by decide +kernel, rfl⟩
theorem dX11_sheet_61 : dec cX11_sheet 61 1 62 (.iload_n 2) := ⟨by decide +kernel, rfl⟩
theorem dX11_sheet_62 : dec cX11_sheet 62 3 65 (.ifCond .eq 15) := ⟨by decide +kernel, rfl⟩
theorem dX11_sheet_65 : dec cX11_sheet 65 1 66 (.iload_n 3) := ⟨by decide +kernel, rfl⟩
theorem dX11_sheet_66 : dec cX11_sheet 66 2 68 (.bipush 24) := ⟨by decide +kernel, rfl⟩
theorem dX11_sheet_68 : dec cX11_sheet 68 3 71 (.if_icmp .le 9) := ⟨by decide +kernel, rfl⟩
theorem dX11_sheet_71 : dec cX11_sheet 71 1 72 (.aload_n 0) := ⟨by decide +kernel, rfl⟩
theorem dX11_sheet_72 : dec cX11_sheet 72 1 73 (.iconst 1) := ⟨by decide +kernel, rfl⟩
theorem dX11_sheet_73 : dec cX11_sheet 73 3 76 (.invokevirtual 91) := ⟨by decide +kernel, rfl⟩
theorem dX11_sheet_76 : dec cX11_sheet 76 1 77 (.ireturn) := ⟨by decide +kernel, rfl⟩
theorem dX11_sheet_77 : dec cX11_sheet 77 1 78 (.aload_n 0) := ⟨by decide +kernel, rfl⟩
theorem dX11_sheet_78 : dec cX11_sheet 78 3 81 (.getfield 25) := ⟨by decide +kernel, rfl⟩
theorem dX11_sheet_81 : dec cX11_sheet 81 1 82 (.iload_n 1) := ⟨by decide +kernel, rfl⟩
theorem dX11_sheet_82 : dec cX11_sheet 82 1 83 (.aaload) := ⟨by decide +kernel, rfl⟩
theorem dX11_sheet_83 : dec cX11_sheet 83 1 84 (.iload_n 2) := ⟨by decide +kernel, rfl⟩
theorem dX11_sheet_84 : dec cX11_sheet 84 1 85 (.iload_n 2) := ⟨by decide +kernel, rfl⟩
theorem dX11_sheet_85 : dec cX11_sheet 85 3 88 (.ifCond .ne 7) := ⟨by decide +kernel, rfl⟩
theorem dX11_sheet_88 : dec cX11_sheet 88 1 89 (.iconst 0) := ⟨by decide +kernel, rfl⟩
theorem dX11_sheet_89 : dec cX11_sheet 89 3 92 (.goto 4) := ⟨by decide +kernel, rfl⟩
theorem dX11_sheet_92 : dec cX11_sheet 92 1 93 (.iload_n 3) := ⟨by decide +kernel, rfl⟩
theorem dX11_sheet_93 : dec cX11_sheet 93 3 96 (.invokevirtual 373) := ⟨by decide +kernel, rfl⟩
theorem dX11_sheet_96 : dec cX11_sheet 96 1 97 (.iconst 1) := ⟨by decide +kernel, rfl⟩
theorem dX11_sheet_97 : dec cX11_sheet 97 1 98 (.ireturn) := ⟨by decide +kernel, rfl⟩
set_option maxHeartbeats 4000000 in
set_option maxRecDepth 100000 in
theorem tX11_sheet_J41 {X : Cx} {Y : Yx} {M0 : Mem} (hC : OKX X Y RX11 cX11_sheet 5 (some .int) rmX11_sheet) (hF : Y.2.2.2.2 = true) (hL : Lay M0) (Q : Int → Mem → Prop)   (a0 : Nat) (qa0 : 0 < a0 ∧ M0 0 a0 = kO 11)  (M : Mem) (h : wX11_sheet_J41 Q  a0 M) : WW X Y 5 rmX11_sheet (QI Q) M0 0 0 41 [(0, vR Y.1 a0)] [] M := by
  unfold wX11_sheet_J41 at h
  refine r_aload_n hC 0 dX11_sheet_41 rfl rfl ?_
  refine r_iconst hC dX11_sheet_42 ?_
  refine r_callV (As := [vI 1]) (st := []) hC cw_X11_91 rfl qa0.1 qa0.2 rfl rfl (Nat.le_of_ble_eq_true rfl) ⟨Nat.le_of_ble_eq_true rfl, Nat.le_of_ble_eq_true rfl⟩ ⟨Nat.le_of_ble_eq_true rfl, Nat.le_of_ble_eq_true rfl⟩ dX11_sheet_43 (fun hk => mX11_error Y hF _ _ _ _ _ (kqO hk qa0) h) (fun v M_3 h => ?_)
  obtain ⟨r_4, rfl, h⟩ := h
  exact r_iret hC (Nat.zero_le _) (Nat.zero_le _) dX11_sheet_46 ⟨_, rfl, h⟩
set_option maxHeartbeats 4000000 in
set_option maxRecDepth 100000 in
theorem tX11_sheet_J93 {X : Cx} {Y : Yx} {M0 : Mem} (hC : OKX X Y RX11 cX11_sheet 5 (some .int) rmX11_sheet) (hF : Y.2.2.2.2 = true) (hL : Lay M0) (Q : Int → Mem → Prop)   (xs0 : Int) (xs1 : Int) (as2 : Nat) (qas2 : 0 < as2 ∧ M0 0 as2 = kO 8)  (M : Mem) (h : wX11_sheet_J93 Q  xs0 xs1 as2 M) : WW X Y 5 rmX11_sheet (QI Q) M0 0 0 93 [] [vI xs0, vI xs1, vR Y.1 as2] M := by
  unfold wX11_sheet_J93 at h
  refine r_callV (As := [vI xs1, vI xs0]) (st := []) hC cw_X11_373 rfl qas2.1 qas2.2 rfl rfl (Nat.le_of_ble_eq_true rfl) ⟨Nat.le_of_ble_eq_true rfl, Nat.le_of_ble_eq_true rfl⟩ ⟨Nat.le_of_ble_eq_true rfl, Nat.le_of_ble_eq_true rfl⟩ dX11_sheet_93 (fun hk => mX8_become Y hF _ _ _ _ _ _ (kqO hk qas2) h) (fun v M_8 h => ?_)
  obtain ⟨rfl, h⟩ := h
  refine r_iconst hC dX11_sheet_96 ?_
  exact r_iret hC (Nat.zero_le _) (Nat.zero_le _) dX11_sheet_97 ⟨_, rfl, h⟩
set_option maxHeartbeats 4000000 in
set_option maxRecDepth 100000 in
theorem tX11_sheet_J77 {X : Cx} {Y : Yx} {M0 : Mem} (hC : OKX X Y RX11 cX11_sheet 5 (some .int) rmX11_sheet) (hF : Y.2.2.2.2 = true) (hL : Lay M0) (Q : Int → Mem → Prop)   (a0 : Nat) (x1 : Int) (x2 : Int) (x3 : Int) (qa0 : 0 < a0 ∧ M0 0 a0 = kO 11)  (M : Mem) (h : wX11_sheet_J77 Q  a0 x1 x2 x3 M) : WW X Y 5 rmX11_sheet (QI Q) M0 0 0 77 [(0, vR Y.1 a0), (1, vI x1), (2, vI x2), (3, vI x3)] [] M := by
  unfold wX11_sheet_J77 at h
  refine r_aload_n hC 0 dX11_sheet_77 rfl rfl ?_
  have q_5 : 0 < a0 + 84 ∧ M0 0 (a0 + 84) = kA 9 4 := lay_f0 (a := a0) hL qa0 fm_11_3
  refine r_getR0 (a' := a0 + 84) hC fg_X11_25 rfl hF fm_11_3 qa0.1 qa0.2 rfl dX11_sheet_78 ?_
  refine r_iload_n hC 1 dX11_sheet_81 rfl rfl ?_
  obtain ⟨i_6, h⟩ := h
  have q_7 : 0 < a0 + 116 + 2 * (bm x1).toNat ∧ M0 0 (a0 + 116 + 2 * (bm x1).toNat) = kO 8 := lay_a9 (a := a0 + 84) hL q_5 (inb_nat i_6)
  refine r_aald9 hC hF i_6 q_5.1 q_5.2 dX11_sheet_82 ?_
  refine r_iload_n hC 2 dX11_sheet_83 rfl rfl ?_
  refine r_iload_n hC 2 dX11_sheet_84 rfl rfl ?_
  refine r_if_ne hC 92 rfl dX11_sheet_85 (by decide) (fun cq => ?_) (fun cq => ?_)
  · replace h := h.2 cq
    refine r_iload_n hC 3 dX11_sheet_92 rfl rfl ?_
    refine r_sub [] rfl ?_
    exact tX11_sheet_J93 hC hF hL Q   _ _ _ q_7  _ h
  · replace h := h.1 cq
    refine r_iconst hC dX11_sheet_88 ?_
    refine r_goto hC 93 dX11_sheet_89 (by decide) ?_
    refine r_sub [] rfl ?_
    exact tX11_sheet_J93 hC hF hL Q   _ _ _ q_7  _ h
set_option maxHeartbeats 4000000 in
set_option maxRecDepth 100000 in
theorem tX11_sheet_J61 {X : Cx} {Y : Yx} {M0 : Mem} (hC : OKX X Y RX11 cX11_sheet 5 (some .int) rmX11_sheet) (hF : Y.2.2.2.2 = true) (hL : Lay M0) (Q : Int → Mem → Prop)   (a0 : Nat) (x1 : Int) (x2 : Int) (x3 : Int) (qa0 : 0 < a0 ∧ M0 0 a0 = kO 11)  (M : Mem) (h : wX11_sheet_J61 Q  a0 x1 x2 x3 M) : WW X Y 5 rmX11_sheet (QI Q) M0 0 0 61 [(0, vR Y.1 a0), (1, vI x1), (2, vI x2), (3, vI x3)] [] M := by
  unfold wX11_sheet_J61 at h
  refine r_iload_n hC 2 dX11_sheet_61 rfl rfl ?_
  refine r_if_eq hC 77 rfl dX11_sheet_62 (by decide) (fun cq => ?_) (fun cq => ?_)
  · replace h := h.1 cq
    refine r_sub [0, 1, 2, 3] rfl ?_
    exact tX11_sheet_J77 hC hF hL Q   _ _ _ _ qa0  _ h
  · replace h := h.2 cq
    refine r_iload_n hC 3 dX11_sheet_65 rfl rfl ?_
    refine r_bipush hC (by decide +kernel) dX11_sheet_66 ?_
    refine r_icmp_le hC 77 rfl bmL_24 dX11_sheet_68 (by decide) (fun cq => ?_) (fun cq => ?_)
    · replace h := h.1 cq
      refine r_sub [0, 1, 2, 3] rfl ?_
      exact tX11_sheet_J77 hC hF hL Q   _ _ _ _ qa0  _ h
    · replace h := h.2 cq
      refine r_aload_n hC 0 dX11_sheet_71 rfl rfl ?_
      refine r_iconst hC dX11_sheet_72 ?_
      refine r_callV (As := [vI 1]) (st := []) hC cw_X11_91 rfl qa0.1 qa0.2 rfl rfl (Nat.le_of_ble_eq_true rfl) ⟨Nat.le_of_ble_eq_true rfl, Nat.le_of_ble_eq_true rfl⟩ ⟨Nat.le_of_ble_eq_true rfl, Nat.le_of_ble_eq_true rfl⟩ dX11_sheet_73 (fun hk => mX11_error Y hF _ _ _ _ _ (kqO hk qa0) h) (fun v M_9 h => ?_)
      obtain ⟨r_10, rfl, h⟩ := h
      exact r_iret hC (Nat.zero_le _) (Nat.zero_le _) dX11_sheet_76 ⟨_, rfl, h⟩
set_option maxHeartbeats 4000000 in
set_option maxRecDepth 100000 in
theorem tX11_sheet_J27 {X : Cx} {Y : Yx} {M0 : Mem} (hC : OKX X Y RX11 cX11_sheet 5 (some .int) rmX11_sheet) (hF : Y.2.2.2.2 = true) (hL : Lay M0) (Q : Int → Mem → Prop)   (a0 : Nat) (x1 : Int) (x2 : Int) (x3 : Int) (xs0 : Int) (qa0 : 0 < a0 ∧ M0 0 a0 = kO 11)  (M : Mem) (h : wX11_sheet_J27 Q  a0 x1 x2 x3 xs0 M) : WW X Y 5 rmX11_sheet (QI Q) M0 0 0 27 [(0, vR Y.1 a0), (1, vI x1), (2, vI x2), (3, vI x3)] [vI xs0] M := by
  unfold wX11_sheet_J27 at h
  refine r_istore (lv' := [(4, vI xs0), (0, vR Y.1 a0), (1, vI x1), (2, vI x2), (3, vI x3)]) hC dX11_sheet_27 (by decide) rfl ?_
  refine r_iload_n hC 2 dX11_sheet_29 rfl rfl ?_
  refine r_callS (As := [vI x1]) (st := []) hC cw_X11_331 rfl rfl (Nat.le_of_ble_eq_true rfl) ⟨Nat.le_of_ble_eq_true rfl, Nat.le_of_ble_eq_true rfl⟩ ⟨Nat.le_of_ble_eq_true rfl, Nat.le_of_ble_eq_true rfl⟩ dX11_sheet_30 (fun hk => mX11_isNoSheet Y hF _ _ _ _  h) (fun v M_1 h => ?_)
  obtain ⟨r_2, rfl, h⟩ := h
  refine r_if_ne hC 41 rfl dX11_sheet_33 (by decide) (fun cq => ?_) (fun cq => ?_)
  · replace h := h.2 cq
    refine r_sub [1] rfl ?_
    exact tX11_sheet_J41 hC hF hL Q   _ qa0  _ h
  · replace h := h.1 cq
    refine r_iload hC 0 dX11_sheet_36 rfl ?_
    refine r_if_ne hC 47 rfl dX11_sheet_38 (by decide) (fun cq => ?_) (fun cq => ?_)
    · replace h := h.2 cq
      refine r_iload_n hC 3 dX11_sheet_47 rfl rfl ?_
      refine r_if_eq hC 61 rfl dX11_sheet_48 (by decide) (fun cq => ?_) (fun cq => ?_)
      · replace h := h.1 cq
        refine r_sub [1, 2, 3, 4] rfl ?_
        exact tX11_sheet_J61 hC hF hL Q   _ _ _ _ qa0  _ h
      · replace h := h.2 cq
        refine r_iload_n hC 4 dX11_sheet_51 rfl rfl ?_
        refine r_if_ge hC 61 rfl dX11_sheet_52 (by decide) (fun cq => ?_) (fun cq => ?_)
        · replace h := h.1 cq
          refine r_sub [1, 2, 3, 4] rfl ?_
          exact tX11_sheet_J61 hC hF hL Q   _ _ _ _ qa0  _ h
        · replace h := h.2 cq
          refine r_aload_n hC 1 dX11_sheet_55 rfl rfl ?_
          refine r_iconst hC dX11_sheet_56 ?_
          refine r_callV (As := [vI 3]) (st := []) hC cw_X11_91 rfl qa0.1 qa0.2 rfl rfl (Nat.le_of_ble_eq_true rfl) ⟨Nat.le_of_ble_eq_true rfl, Nat.le_of_ble_eq_true rfl⟩ ⟨Nat.le_of_ble_eq_true rfl, Nat.le_of_ble_eq_true rfl⟩ dX11_sheet_57 (fun hk => mX11_error Y hF _ _ _ _ _ (kqO hk qa0) h) (fun v M_11 h => ?_)
          obtain ⟨r_12, rfl, h⟩ := h
          exact r_iret hC (Nat.zero_le _) (Nat.zero_le _) dX11_sheet_60 ⟨_, rfl, h⟩
    · replace h := h.1 cq
      refine r_sub [1] rfl ?_
      exact tX11_sheet_J41 hC hF hL Q   _ qa0  _ h
set_option maxHeartbeats 4000000 in
set_option maxRecDepth 100000 in
theorem tX11_sheet_J22 {X : Cx} {Y : Yx} {M0 : Mem} (hC : OKX X Y RX11 cX11_sheet 5 (some .int) rmX11_sheet) (hF : Y.2.2.2.2 = true) (hL : Lay M0) (Q : Int → Mem → Prop)   (a0 : Nat) (x1 : Int) (x2 : Int) (x3 : Int) (qa0 : 0 < a0 ∧ M0 0 a0 = kO 11)  (M : Mem) (h : wX11_sheet_J22 Q  a0 x1 x2 x3 M) : WW X Y 5 rmX11_sheet (QI Q) M0 0 0 22 [(0, vR Y.1 a0), (1, vI x1), (2, vI x2), (3, vI x3)] [] M := by
  unfold wX11_sheet_J22 at h
  refine r_iconst hC dX11_sheet_22 ?_
  refine r_goto hC 27 dX11_sheet_23 (by decide) ?_
  refine r_sub [0, 1, 2, 3] rfl ?_
  exact tX11_sheet_J27 hC hF hL Q   _ _ _ _ _ qa0  _ h
set_option maxHeartbeats 4000000 in
set_option maxRecDepth 100000 in
theorem mX11_sheet (Y : Yx) (hF : Y.2.2.2.2 = true) (l : Launch) (a0 : Nat) (x1 : Int) (x2 : Int) (x3 : Int) (M0 : Mem) (Q : Int → Mem → Prop) (qa0 : 0 < a0 ∧ M0 0 a0 = kO 11) (h : wX11_sheet a0 x1 x2 x3 M0 Q) : CT Y l yX11_sheet cX11_sheet 5 (some .int) rmX11_sheet [vR Y.1 a0, vI x1, vI x2, vI x3] M0 (QI Q) := by
  unfold wX11_sheet at h
  refine ct_intro (by decide) (Nat.le_of_ble_eq_true rfl) ?_
  intro X hXl hC hL0
  have hL := hL0 hF
  change OKX X Y RX11 cX11_sheet 5 (some .int) rmX11_sheet at hC
  change WW X Y 5 rmX11_sheet (QI Q) M0 0 0 0 [(0, vR Y.1 a0), (1, vI x1), (2, vI x2), (3, vI x3)] [] M0
  refine r_iload_n hC 2 dX11_sheet_0 rfl rfl ?_
  refine r_if_eq hC 22 rfl dX11_sheet_1 (by decide) (fun cq => ?_) (fun cq => ?_)
  · replace h := h.1 cq
    refine r_sub [0, 1, 2, 3] rfl ?_
    exact tX11_sheet_J22 hC hF hL Q   _ _ _ _ qa0  _ h
  · replace h := h.2 cq
    refine r_iload_n hC 2 dX11_sheet_4 rfl rfl ?_
    refine r_bipush hC (by decide +kernel) dX11_sheet_5 ?_
    refine r_icmp_eq hC 22 rfl bmL_8 dX11_sheet_7 (by decide) (fun cq => ?_) (fun cq => ?_)
    · replace h := h.1 cq
      refine r_sub [0, 1, 2, 3] rfl ?_
      exact tX11_sheet_J22 hC hF hL Q   _ _ _ _ qa0  _ h
    · replace h := h.2 cq
      refine r_iload_n hC 2 dX11_sheet_10 rfl rfl ?_
      refine r_bipush hC (by decide +kernel) dX11_sheet_11 ?_
      refine r_icmp_eq hC 22 rfl bmL_16 dX11_sheet_13 (by decide) (fun cq => ?_) (fun cq => ?_)
      · replace h := h.1 cq
        refine r_sub [0, 1, 2, 3] rfl ?_
        exact tX11_sheet_J22 hC hF hL Q   _ _ _ _ qa0  _ h
      · replace h := h.2 cq
        refine r_iload_n hC 2 dX11_sheet_16 rfl rfl ?_
        refine r_bipush hC (by decide +kernel) dX11_sheet_17 ?_
        refine r_icmp_ne hC 26 rfl bmL_32 dX11_sheet_19 (by decide) (fun cq => ?_) (fun cq => ?_)
        · replace h := h.2 cq
          refine r_iconst hC dX11_sheet_26 ?_
          refine r_sub [0, 1, 2, 3] rfl ?_
          exact tX11_sheet_J27 hC hF hL Q   _ _ _ _ _ qa0  _ h
        · replace h := h.1 cq
          refine r_sub [0, 1, 2, 3] rfl ?_
          exact tX11_sheet_J22 hC hF hL Q   _ _ _ _ qa0  _ h
theorem dX11_numberFault_0 : dec cX11_numberFault 0 1 1 (.iload_n 1) := ⟨by decide +kernel, rfl⟩
theorem dX11_numberFault_1 : dec cX11_numberFault 1 3 4 (.invokestatic 331) := ⟨by decide +kernel, rfl⟩
theorem dX11_numberFault_4 : dec cX11_numberFault 4 3 7 (.ifCond .eq 5) := ⟨by decide +kernel, rfl⟩
theorem dX11_numberFault_7 : dec cX11_numberFault 7 1 8 (.iconst 1) := ⟨by decide +kernel, rfl⟩
theorem dX11_numberFault_8 : dec cX11_numberFault 8 1 9 (.ireturn) := ⟨by decide +kernel, rfl⟩
theorem dX11_numberFault_9 : dec cX11_numberFault 9 1 10 (.aload_n 0) := ⟨by decide +kernel, rfl⟩
theorem dX11_numberFault_10 : dec cX11_numberFault 10 3 13 (.getfield 25) := ⟨by decide +kernel, rfl⟩
theorem dX11_numberFault_13 : dec cX11_numberFault 13 1 14 (.iload_n 1) := ⟨by decide +kernel, rfl⟩
theorem dX11_numberFault_14 : dec cX11_numberFault 14 1 15 (.aaload) := ⟨by decide +kernel, rfl⟩
theorem dX11_numberFault_15 : dec cX11_numberFault 15 3 18 (.getfield 334) := ⟨by decide +kernel, rfl⟩
theorem dX11_numberFault_18 : dec cX11_numberFault 18 3 21 (.ifCond .ne 5) := ⟨by decide +kernel, rfl⟩
theorem dX11_numberFault_21 : dec cX11_numberFault 21 1 22 (.iconst 2) := ⟨by decide +kernel, rfl⟩
theorem dX11_numberFault_22 : dec cX11_numberFault 22 1 23 (.ireturn) := ⟨by decide +kernel, rfl⟩
theorem dX11_numberFault_23 : dec cX11_numberFault 23 1 24 (.aload_n 0) := ⟨by decide +kernel, rfl⟩
theorem dX11_numberFault_24 : dec cX11_numberFault 24 3 27 (.getfield 25) := ⟨by decide +kernel, rfl⟩
theorem dX11_numberFault_27 : dec cX11_numberFault 27 1 28 (.iload_n 1) := ⟨by decide +kernel, rfl⟩
theorem dX11_numberFault_28 : dec cX11_numberFault 28 1 29 (.aaload) := ⟨by decide +kernel, rfl⟩
theorem dX11_numberFault_29 : dec cX11_numberFault 29 1 30 (.iload_n 2) := ⟨by decide +kernel, rfl⟩
theorem dX11_numberFault_30 : dec cX11_numberFault 30 1 31 (.iconst 1) := ⟨by decide +kernel, rfl⟩
theorem dX11_numberFault_31 : dec cX11_numberFault 31 3 34 (.invokevirtual 384) := ⟨by decide +kernel, rfl⟩
theorem dX11_numberFault_34 : dec cX11_numberFault 34 3 37 (.ifCond .eq 7) := ⟨by decide +kernel, rfl⟩
theorem dX11_numberFault_37 : dec cX11_numberFault 37 1 38 (.iconst 0) := ⟨by decide +kernel, rfl⟩
theorem dX11_numberFault_38 : dec cX11_numberFault 38 3 41 (.goto 4) := ⟨by decide +kernel, rfl⟩
theorem dX11_numberFault_41 : dec cX11_numberFault 41 1 42 (.iconst 1) := ⟨by decide +kernel, rfl⟩
theorem dX11_numberFault_42 : dec cX11_numberFault 42 1 43 (.ireturn) := ⟨by decide +kernel, rfl⟩
set_option maxHeartbeats 4000000 in
set_option maxRecDepth 100000 in
theorem mX11_numberFault (Y : Yx) (hF : Y.2.2.2.2 = true) (l : Launch) (a0 : Nat) (x1 : Int) (x2 : Int) (M0 : Mem) (Q : Int → Mem → Prop) (qa0 : 0 < a0 ∧ M0 0 a0 = kO 11) (h : wX11_numberFault a0 x1 x2 M0 Q) : CT Y l yX11_numberFault cX11_numberFault 3 (some .int) rmX11_numberFault [vR Y.1 a0, vI x1, vI x2] M0 (QI Q) := by
  unfold wX11_numberFault at h
  refine ct_intro (by decide) (Nat.le_of_ble_eq_true rfl) ?_
  intro X hXl hC hL0
  have hL := hL0 hF
  change OKX X Y RX11 cX11_numberFault 3 (some .int) rmX11_numberFault at hC
  change WW X Y 3 rmX11_numberFault (QI Q) M0 0 0 0 [(0, vR Y.1 a0), (1, vI x1), (2, vI x2)] [] M0
  refine r_iload_n hC 1 dX11_numberFault_0 rfl rfl ?_
  refine r_callS (As := [vI x1]) (st := []) hC cw_X11_331 rfl rfl (Nat.le_of_ble_eq_true rfl) ⟨Nat.le_of_ble_eq_true rfl, Nat.le_of_ble_eq_true rfl⟩ ⟨Nat.le_of_ble_eq_true rfl, Nat.le_of_ble_eq_true rfl⟩ dX11_numberFault_1 (fun hk => mX11_isNoSheet Y hF _ _ _ _  h) (fun v M_1 h => ?_)
  obtain ⟨r_2, rfl, h⟩ := h
  refine r_if_eq hC 9 rfl dX11_numberFault_4 (by decide) (fun cq => ?_) (fun cq => ?_)
  · replace h := h.1 cq
    refine r_aload_n hC 0 dX11_numberFault_9 rfl rfl ?_
    have q_3 : 0 < a0 + 84 ∧ M0 0 (a0 + 84) = kA 9 4 := lay_f0 (a := a0) hL qa0 fm_11_3
    refine r_getR0 (a' := a0 + 84) hC fg_X11_25 rfl hF fm_11_3 qa0.1 qa0.2 rfl dX11_numberFault_10 ?_
    refine r_iload_n hC 1 dX11_numberFault_13 rfl rfl ?_
    obtain ⟨i_4, h⟩ := h
    have q_5 : 0 < a0 + 116 + 2 * (bm x1).toNat ∧ M0 0 (a0 + 116 + 2 * (bm x1).toNat) = kO 8 := lay_a9 (a := a0 + 84) hL q_3 (inb_nat i_4)
    refine r_aald9 hC hF i_4 q_3.1 q_3.2 dX11_numberFault_14 ?_
    refine r_getI hC fg_X11_334 rfl q_5.1 q_5.2 dX11_numberFault_15 ?_
    refine r_if_ne hC 23 rfl dX11_numberFault_18 (by decide) (fun cq => ?_) (fun cq => ?_)
    · replace h := h.2 cq
      refine r_aload_n hC 0 dX11_numberFault_23 rfl rfl ?_
      have q_6 : 0 < a0 + 84 ∧ M0 0 (a0 + 84) = kA 9 4 := lay_f0 (a := a0) hL qa0 fm_11_3
      refine r_getR0 (a' := a0 + 84) hC fg_X11_25 rfl hF fm_11_3 qa0.1 qa0.2 rfl dX11_numberFault_24 ?_
      refine r_iload_n hC 1 dX11_numberFault_27 rfl rfl ?_
      obtain ⟨i_7, h⟩ := h
      have q_8 : 0 < a0 + 116 + 2 * (bm x1).toNat ∧ M0 0 (a0 + 116 + 2 * (bm x1).toNat) = kO 8 := lay_a9 (a := a0 + 84) hL q_6 (inb_nat i_7)
      refine r_aald9 hC hF i_7 q_6.1 q_6.2 dX11_numberFault_28 ?_
      refine r_iload_n hC 2 dX11_numberFault_29 rfl rfl ?_
      refine r_iconst hC dX11_numberFault_30 ?_
      refine r_callV (As := [vI x2, vI 1]) (st := []) hC cw_X11_384 rfl q_8.1 q_8.2 rfl rfl (Nat.le_of_ble_eq_true rfl) ⟨Nat.le_of_ble_eq_true rfl, Nat.le_of_ble_eq_true rfl⟩ ⟨Nat.le_of_ble_eq_true rfl, Nat.le_of_ble_eq_true rfl⟩ dX11_numberFault_31 (fun hk => mX8_holds Y hF _ _ _ _ _ _ (kqO hk q_8) h) (fun v M_9 h => ?_)
      obtain ⟨r_10, rfl, h⟩ := h
      refine r_if_eq hC 41 rfl dX11_numberFault_34 (by decide) (fun cq => ?_) (fun cq => ?_)
      · replace h := h.1 cq
        refine r_iconst hC dX11_numberFault_41 ?_
        exact r_iret hC (Nat.zero_le _) (Nat.zero_le _) dX11_numberFault_42 ⟨_, rfl, h⟩
      · replace h := h.2 cq
        refine r_iconst hC dX11_numberFault_37 ?_
        refine r_goto hC 42 dX11_numberFault_38 (by decide) ?_
        exact r_iret hC (Nat.zero_le _) (Nat.zero_le _) dX11_numberFault_42 ⟨_, rfl, h⟩
    · replace h := h.1 cq
      refine r_iconst hC dX11_numberFault_21 ?_
      exact r_iret hC (Nat.zero_le _) (Nat.zero_le _) dX11_numberFault_22 ⟨_, rfl, h⟩
  · replace h := h.2 cq
    refine r_iconst hC dX11_numberFault_7 ?_
    exact r_iret hC (Nat.zero_le _) (Nat.zero_le _) dX11_numberFault_8 ⟨_, rfl, h⟩
theorem dX11_put_0 : dec cX11_put 0 1 1 (.aload_n 0) := ⟨by decide +kernel, rfl⟩
theorem dX11_put_1 : dec cX11_put 1 1 2 (.iload_n 1) := ⟨by decide +kernel, rfl⟩
theorem dX11_put_2 : dec cX11_put 2 1 3 (.iload_n 2) := ⟨by decide +kernel, rfl⟩
theorem dX11_put_3 : dec cX11_put 3 3 6 (.invokevirtual 375) := ⟨by decide +kernel, rfl⟩
theorem dX11_put_6 : dec cX11_put 6 2 8 (.istore 4) := ⟨by decide +kernel, rfl⟩
theorem dX11_put_8 : dec cX11_put 8 2 10 (.iload 4) := ⟨by decide +kernel, rfl⟩
theorem dX11_put_10 : dec cX11_put 10 3 13 (.ifCond .eq 10) := ⟨by decide +kernel, rfl⟩
theorem dX11_put_13 : dec cX11_put 13 1 14 (.aload_n 0) := ⟨by decide +kernel, rfl⟩
theorem dX11_put_14 : dec cX11_put 14 2 16 (.iload 4) := ⟨by decide +kernel, rfl⟩
theorem dX11_put_16 : dec cX11_put 16 3 19 (.invokevirtual 91) := ⟨by decide +kernel, rfl⟩
theorem dX11_put_19 : dec cX11_put 19 1 20 (.ireturn) := ⟨by decide +kernel, rfl⟩
theorem dX11_put_20 : dec cX11_put 20 1 21 (.aload_n 0) := ⟨by decide +kernel, rfl⟩
theorem dX11_put_21 : dec cX11_put 21 3 24 (.getfield 25) := ⟨by decide +kernel, rfl⟩
theorem dX11_put_24 : dec cX11_put 24 1 25 (.iload_n 1) := ⟨by decide +kernel, rfl⟩
theorem dX11_put_25 : dec cX11_put 25 1 26 (.aaload) := ⟨by decide +kernel, rfl⟩
theorem dX11_put_26 : dec cX11_put 26 1 27 (.iload_n 2) := ⟨by decide +kernel, rfl⟩
theorem dX11_put_27 : dec cX11_put 27 1 28 (.iload_n 3) := ⟨by decide +kernel, rfl⟩
theorem dX11_put_28 : dec cX11_put 28 3 31 (.invokevirtual 378) := ⟨by decide +kernel, rfl⟩
theorem dX11_put_31 : dec cX11_put 31 1 32 (.iconst 1) := ⟨by decide +kernel, rfl⟩
theorem dX11_put_32 : dec cX11_put 32 1 33 (.ireturn) := ⟨by decide +kernel, rfl⟩
set_option maxHeartbeats 4000000 in
set_option maxRecDepth 100000 in
theorem mX11_put (Y : Yx) (hF : Y.2.2.2.2 = true) (l : Launch) (a0 : Nat) (x1 : Int) (x2 : Int) (x3 : Int) (M0 : Mem) (Q : Int → Mem → Prop) (qa0 : 0 < a0 ∧ M0 0 a0 = kO 11) (h : wX11_put a0 x1 x2 x3 M0 Q) : CT Y l yX11_put cX11_put 5 (some .int) rmX11_put [vR Y.1 a0, vI x1, vI x2, vI x3] M0 (QI Q) := by
  unfold wX11_put at h
  refine ct_intro (by decide) (Nat.le_of_ble_eq_true rfl) ?_
  intro X hXl hC hL0
  have hL := hL0 hF
  change OKX X Y RX11 cX11_put 5 (some .int) rmX11_put at hC
  change WW X Y 5 rmX11_put (QI Q) M0 0 0 0 [(0, vR Y.1 a0), (1, vI x1), (2, vI x2), (3, vI x3)] [] M0
  refine r_aload_n hC 0 dX11_put_0 rfl rfl ?_
  refine r_iload_n hC 1 dX11_put_1 rfl rfl ?_
  refine r_iload_n hC 2 dX11_put_2 rfl rfl ?_
  refine r_callV (As := [vI x1, vI x2]) (st := []) hC cw_X11_375 rfl qa0.1 qa0.2 rfl rfl (Nat.le_of_ble_eq_true rfl) ⟨Nat.le_of_ble_eq_true rfl, Nat.le_of_ble_eq_true rfl⟩ ⟨Nat.le_of_ble_eq_true rfl, Nat.le_of_ble_eq_true rfl⟩ dX11_put_3 (fun hk => mX11_numberFault Y hF _ _ _ _ _ _ (kqO hk qa0) h) (fun v M_1 h => ?_)
  obtain ⟨r_2, rfl, h⟩ := h
  refine r_istore (lv' := [(4, vI r_2), (0, vR Y.1 a0), (1, vI x1), (2, vI x2), (3, vI x3)]) hC dX11_put_6 (by decide) rfl ?_
  refine r_iload hC 0 dX11_put_8 rfl ?_
  refine r_if_eq hC 20 rfl dX11_put_10 (by decide) (fun cq => ?_) (fun cq => ?_)
  · replace h := h.1 cq
    refine r_aload_n hC 1 dX11_put_20 rfl rfl ?_
    have q_3 : 0 < a0 + 84 ∧ M0 0 (a0 + 84) = kA 9 4 := lay_f0 (a := a0) hL qa0 fm_11_3
    refine r_getR0 (a' := a0 + 84) hC fg_X11_25 rfl hF fm_11_3 qa0.1 qa0.2 rfl dX11_put_21 ?_
    refine r_iload_n hC 2 dX11_put_24 rfl rfl ?_
    obtain ⟨i_4, h⟩ := h
    have q_5 : 0 < a0 + 116 + 2 * (bm x1).toNat ∧ M0 0 (a0 + 116 + 2 * (bm x1).toNat) = kO 8 := lay_a9 (a := a0 + 84) hL q_3 (inb_nat i_4)
    refine r_aald9 hC hF i_4 q_3.1 q_3.2 dX11_put_25 ?_
    refine r_iload_n hC 3 dX11_put_26 rfl rfl ?_
    refine r_iload_n hC 4 dX11_put_27 rfl rfl ?_
    refine r_callV (As := [vI x2, vI x3]) (st := []) hC cw_X11_378 rfl q_5.1 q_5.2 rfl rfl (Nat.le_of_ble_eq_true rfl) ⟨Nat.le_of_ble_eq_true rfl, Nat.le_of_ble_eq_true rfl⟩ ⟨Nat.le_of_ble_eq_true rfl, Nat.le_of_ble_eq_true rfl⟩ dX11_put_28 (fun hk => mX8_write Y hF _ _ _ _ _ _ (kqO hk q_5) h) (fun v M_6 h => ?_)
    obtain ⟨rfl, h⟩ := h
    refine r_iconst hC dX11_put_31 ?_
    exact r_iret hC (Nat.zero_le _) (Nat.zero_le _) dX11_put_32 ⟨_, rfl, h⟩
  · replace h := h.2 cq
    refine r_aload_n hC 1 dX11_put_13 rfl rfl ?_
    refine r_iload hC 0 dX11_put_14 rfl ?_
    refine r_callV (As := [vI r_2]) (st := []) hC cw_X11_91 rfl qa0.1 qa0.2 rfl rfl (Nat.le_of_ble_eq_true rfl) ⟨Nat.le_of_ble_eq_true rfl, Nat.le_of_ble_eq_true rfl⟩ ⟨Nat.le_of_ble_eq_true rfl, Nat.le_of_ble_eq_true rfl⟩ dX11_put_16 (fun hk => mX11_error Y hF _ _ _ _ _ (kqO hk qa0) h) (fun v M_7 h => ?_)
    obtain ⟨r_8, rfl, h⟩ := h
    exact r_iret hC (Nat.zero_le _) (Nat.zero_le _) dX11_put_19 ⟨_, rfl, h⟩
theorem dX11_get_0 : dec cX11_get 0 1 1 (.aload_n 0) := ⟨by decide +kernel, rfl⟩
theorem dX11_get_1 : dec cX11_get 1 1 2 (.iload_n 1) := ⟨by decide +kernel, rfl⟩
theorem dX11_get_2 : dec cX11_get 2 1 3 (.iload_n 2) := ⟨by decide +kernel, rfl⟩
theorem dX11_get_3 : dec cX11_get 3 3 6 (.invokevirtual 375) := ⟨by decide +kernel, rfl⟩
theorem dX11_get_6 : dec cX11_get 6 1 7 (.istore_n 3) := ⟨by decide +kernel, rfl⟩
theorem dX11_get_7 : dec cX11_get 7 1 8 (.iload_n 3) := ⟨by decide +kernel, rfl⟩
theorem dX11_get_8 : dec cX11_get 8 3 11 (.ifCond .eq 11) := ⟨by decide +kernel, rfl⟩
theorem dX11_get_11 : dec cX11_get 11 1 12 (.aload_n 0) := ⟨by decide +kernel, rfl⟩
theorem dX11_get_12 : dec cX11_get 12 1 13 (.iload_n 3) := ⟨by decide +kernel, rfl⟩
theorem dX11_get_13 : dec cX11_get 13 3 16 (.invokevirtual 91) := ⟨by decide +kernel, rfl⟩
theorem dX11_get_16 : dec cX11_get 16 3 19 (.goto 14) := ⟨by decide +kernel, rfl⟩
theorem dX11_get_19 : dec cX11_get 19 1 20 (.aload_n 0) := ⟨by decide +kernel, rfl⟩
theorem dX11_get_20 : dec cX11_get 20 3 23 (.getfield 25) := ⟨by decide +kernel, rfl⟩
theorem dX11_get_23 : dec cX11_get 23 1 24 (.iload_n 1) := ⟨by decide +kernel, rfl⟩
theorem dX11_get_24 : dec cX11_get 24 1 25 (.aaload) := ⟨by decide +kernel, rfl⟩
theorem dX11_get_25 : dec cX11_get 25 3 28 (.getfield 381) := ⟨by decide +kernel, rfl⟩
theorem dX11_get_28 : dec cX11_get 28 1 29 (.iload_n 2) := ⟨by decide +kernel, rfl⟩
theorem dX11_get_29 : dec cX11_get 29 1 30 (.iaload) := ⟨by decide +kernel, rfl⟩
theorem dX11_get_30 : dec cX11_get 30 1 31 (.ireturn) := ⟨by decide +kernel, rfl⟩
set_option maxHeartbeats 4000000 in
set_option maxRecDepth 100000 in
theorem mX11_get (Y : Yx) (hF : Y.2.2.2.2 = true) (l : Launch) (a0 : Nat) (x1 : Int) (x2 : Int) (M0 : Mem) (Q : Int → Mem → Prop) (qa0 : 0 < a0 ∧ M0 0 a0 = kO 11) (h : wX11_get a0 x1 x2 M0 Q) : CT Y l yX11_get cX11_get 4 (some .int) rmX11_get [vR Y.1 a0, vI x1, vI x2] M0 (QI Q) := by
  unfold wX11_get at h
  refine ct_intro (by decide) (Nat.le_of_ble_eq_true rfl) ?_
  intro X hXl hC hL0
  have hL := hL0 hF
  change OKX X Y RX11 cX11_get 4 (some .int) rmX11_get at hC
  change WW X Y 4 rmX11_get (QI Q) M0 0 0 0 [(0, vR Y.1 a0), (1, vI x1), (2, vI x2)] [] M0
  refine r_aload_n hC 0 dX11_get_0 rfl rfl ?_
  refine r_iload_n hC 1 dX11_get_1 rfl rfl ?_
  refine r_iload_n hC 2 dX11_get_2 rfl rfl ?_
  refine r_callV (As := [vI x1, vI x2]) (st := []) hC cw_X11_375 rfl qa0.1 qa0.2 rfl rfl (Nat.le_of_ble_eq_true rfl) ⟨Nat.le_of_ble_eq_true rfl, Nat.le_of_ble_eq_true rfl⟩ ⟨Nat.le_of_ble_eq_true rfl, Nat.le_of_ble_eq_true rfl⟩ dX11_get_3 (fun hk => mX11_numberFault Y hF _ _ _ _ _ _ (kqO hk qa0) h) (fun v M_1 h => ?_)
  obtain ⟨r_2, rfl, h⟩ := h
  refine r_istore_n (lv' := [(3, vI r_2), (0, vR Y.1 a0), (1, vI x1), (2, vI x2)]) hC dX11_get_6 rfl (by decide) rfl ?_
  refine r_iload_n hC 0 dX11_get_7 rfl rfl ?_
  refine r_if_eq hC 19 rfl dX11_get_8 (by decide) (fun cq => ?_) (fun cq => ?_)
  · replace h := h.1 cq
    refine r_aload_n hC 1 dX11_get_19 rfl rfl ?_
    have q_3 : 0 < a0 + 84 ∧ M0 0 (a0 + 84) = kA 9 4 := lay_f0 (a := a0) hL qa0 fm_11_3
    refine r_getR0 (a' := a0 + 84) hC fg_X11_25 rfl hF fm_11_3 qa0.1 qa0.2 rfl dX11_get_20 ?_
    refine r_iload_n hC 2 dX11_get_23 rfl rfl ?_
    obtain ⟨i_4, h⟩ := h
    have q_5 : 0 < a0 + 116 + 2 * (bm x1).toNat ∧ M0 0 (a0 + 116 + 2 * (bm x1).toNat) = kO 8 := lay_a9 (a := a0 + 84) hL q_3 (inb_nat i_4)
    refine r_aald9 hC hF i_4 q_3.1 q_3.2 dX11_get_24 ?_
    have q_6 : 0 < a0 + 116 + 2 * (bm x1).toNat + 1 ∧ M0 0 (a0 + 116 + 2 * (bm x1).toNat + 1) = kA 0 24 := lay_f0 (a := a0 + 116 + 2 * (bm x1).toNat) hL q_5 fm_8_0
    refine r_getR0 (a' := a0 + 116 + 2 * (bm x1).toNat + 1) hC fg_X11_381 rfl hF fm_8_0 q_5.1 q_5.2 rfl dX11_get_25 ?_
    refine r_iload_n hC 3 dX11_get_28 rfl rfl ?_
    obtain ⟨i_7, h⟩ := h
    refine r_iald hC i_7 q_6.1 q_6.2 (by decide) dX11_get_29 ?_
    exact r_iret hC (Nat.zero_le _) (Nat.zero_le _) dX11_get_30 ⟨_, rfl, h⟩
  · replace h := h.2 cq
    refine r_aload_n hC 1 dX11_get_11 rfl rfl ?_
    refine r_iload_n hC 0 dX11_get_12 rfl rfl ?_
    refine r_callV (As := [vI r_2]) (st := []) hC cw_X11_91 rfl qa0.1 qa0.2 rfl rfl (Nat.le_of_ble_eq_true rfl) ⟨Nat.le_of_ble_eq_true rfl, Nat.le_of_ble_eq_true rfl⟩ ⟨Nat.le_of_ble_eq_true rfl, Nat.le_of_ble_eq_true rfl⟩ dX11_get_13 (fun hk => mX11_error Y hF _ _ _ _ _ (kqO hk qa0) h) (fun v M_8 h => ?_)
    obtain ⟨r_9, rfl, h⟩ := h
    refine r_goto hC 30 dX11_get_16 (by decide) ?_
    exact r_iret hC (Nat.zero_le _) (Nat.zero_le _) dX11_get_30 ⟨_, rfl, h⟩
theorem dX11_move_0 : dec cX11_move 0 1 1 (.iload_n 1) := ⟨by decide +kernel, rfl⟩
theorem dX11_move_1 : dec cX11_move 1 3 4 (.invokestatic 331) := ⟨by decide +kernel, rfl⟩
theorem dX11_move_4 : dec cX11_move 4 3 7 (.ifCond .ne 10) := ⟨by decide +kernel, rfl⟩
theorem dX11_move_7 : dec cX11_move 7 1 8 (.iload_n 3) := ⟨by decide +kernel, rfl⟩
theorem dX11_move_8 : dec cX11_move 8 3 11 (.invokestatic 331) := ⟨by decide +kernel, rfl⟩
theorem dX11_move_11 : dec cX11_move 11 3 14 (.ifCond .eq 9) := ⟨by decide +kernel, rfl⟩
theorem dX11_move_14 : dec cX11_move 14 1 15 (.aload_n 0) := ⟨by decide +kernel, rfl⟩
theorem dX11_move_15 : dec cX11_move 15 1 16 (.iconst 1) := ⟨by decide +kernel, rfl⟩
theorem dX11_move_16 : dec cX11_move 16 3 19 (.invokevirtual 91) := ⟨by decide +kernel, rfl⟩
theorem dX11_move_19 : dec cX11_move 19 1 20 (.ireturn) := ⟨by decide +kernel, rfl⟩
theorem dX11_move_20 : dec cX11_move 20 1 21 (.aload_n 0) := ⟨by decide +kernel, rfl⟩
theorem dX11_move_21 : dec cX11_move 21 3 24 (.getfield 25) := ⟨by decide +kernel, rfl⟩
theorem dX11_move_24 : dec cX11_move 24 1 25 (.iload_n 1) := ⟨by decide +kernel, rfl⟩
theorem dX11_move_25 : dec cX11_move 25 1 26 (.aaload) := ⟨by decide +kernel, rfl⟩
theorem dX11_move_26 : dec cX11_move 26 2 28 (.astore 6) := ⟨by decide +kernel, rfl⟩
theorem dX11_move_28 : dec cX11_move 28 1 29 (.aload_n 0) := ⟨by decide +kernel, rfl⟩
theorem dX11_move_29 : dec cX11_move 29 3 32 (.getfield 25) := ⟨by decide +kernel, rfl⟩
theorem dX11_move_32 : dec cX11_move 32 1 33 (.iload_n 3) := ⟨by decide +kernel, rfl⟩
theorem dX11_move_33 : dec cX11_move 33 1 34 (.aaload) := ⟨by decide +kernel, rfl⟩
theorem dX11_move_34 : dec cX11_move 34 2 36 (.astore 7) := ⟨by decide +kernel, rfl⟩
theorem dX11_move_36 : dec cX11_move 36 2 38 (.aload 6) := ⟨by decide +kernel, rfl⟩
theorem dX11_move_38 : dec cX11_move 38 3 41 (.getfield 334) := ⟨by decide +kernel, rfl⟩
theorem dX11_move_41 : dec cX11_move 41 3 44 (.ifCond .eq 11) := ⟨by decide +kernel, rfl⟩
theorem dX11_move_44 : dec cX11_move 44 2 46 (.aload 7) := ⟨by decide +kernel, rfl⟩
theorem dX11_move_46 : dec cX11_move 46 3 49 (.getfield 334) := ⟨by decide +kernel, rfl⟩
theorem dX11_move_49 : dec cX11_move 49 3 52 (.ifCond .ne 9) := ⟨by decide +kernel, rfl⟩
theorem dX11_move_52 : dec cX11_move 52 1 53 (.aload_n 0) := ⟨by decide +kernel, rfl⟩
theorem dX11_move_53 : dec cX11_move 53 1 54 (.iconst 2) := ⟨by decide +kernel, rfl⟩
theorem dX11_move_54 : dec cX11_move 54 3 57 (.invokevirtual 91) := ⟨by decide +kernel, rfl⟩
theorem dX11_move_57 : dec cX11_move 57 1 58 (.ireturn) := ⟨by decide +kernel, rfl⟩
theorem dX11_move_58 : dec cX11_move 58 2 60 (.aload 6) := ⟨by decide +kernel, rfl⟩
theorem dX11_move_60 : dec cX11_move 60 3 63 (.getfield 334) := ⟨by decide +kernel, rfl⟩
theorem dX11_move_63 : dec cX11_move 63 2 65 (.aload 7) := ⟨by decide +kernel, rfl⟩
theorem dX11_move_65 : dec cX11_move 65 3 68 (.getfield 334) := ⟨by decide +kernel, rfl⟩
theorem dX11_move_68 : dec cX11_move 68 3 71 (.if_icmp .eq 9) := ⟨by decide +kernel, rfl⟩
theorem dX11_move_71 : dec cX11_move 71 1 72 (.aload_n 0) := ⟨by decide +kernel, rfl⟩
theorem dX11_move_72 : dec cX11_move 72 1 73 (.iconst 5) := ⟨by decide +kernel, rfl⟩
theorem dX11_move_73 : dec cX11_move 73 3 76 (.invokevirtual 91) := ⟨by decide +kernel, rfl⟩
theorem dX11_move_76 : dec cX11_move 76 1 77 (.ireturn) := ⟨by decide +kernel, rfl⟩
theorem dX11_move_77 : dec cX11_move 77 2 79 (.aload 6) := ⟨by decide +kernel, rfl⟩
theorem dX11_move_79 : dec cX11_move 79 1 80 (.iload_n 2) := ⟨by decide +kernel, rfl⟩
theorem dX11_move_80 : dec cX11_move 80 2 82 (.iload 5) := ⟨by decide +kernel, rfl⟩
theorem dX11_move_82 : dec cX11_move 82 3 85 (.invokevirtual 384) := ⟨by decide +kernel, rfl⟩
theorem dX11_move_85 : dec cX11_move 85 3 88 (.ifCond .eq 15) := ⟨by decide +kernel, rfl⟩
theorem dX11_move_88 : dec cX11_move 88 2 90 (.aload 7) := ⟨by decide +kernel, rfl⟩
theorem dX11_move_90 : dec cX11_move 90 2 92 (.iload 4) := ⟨by decide +kernel, rfl⟩
theorem dX11_move_92 : dec cX11_move 92 2 94 (.iload 5) := ⟨by decide +kernel, rfl⟩
theorem dX11_move_94 : dec cX11_move 94 3 97 (.invokevirtual 384) := ⟨by decide +kernel, rfl⟩
theorem dX11_move_97 : dec cX11_move 97 3 100 (.ifCond .ne 9) := ⟨by decide +kernel, rfl⟩
theorem dX11_move_100 : dec cX11_move 100 1 101 (.aload_n 0) := ⟨by decide +kernel, rfl⟩
theorem dX11_move_101 : dec cX11_move 101 1 102 (.iconst 1) := ⟨by decide +kernel, rfl⟩
theorem dX11_move_102 : dec cX11_move 102 3 105 (.invokevirtual 91) := ⟨by decide +kernel, rfl⟩
theorem dX11_move_105 : dec cX11_move 105 1 106 (.ireturn) := ⟨by decide +kernel, rfl⟩
theorem dX11_move_106 : dec cX11_move 106 2 108 (.aload 6) := ⟨by decide +kernel, rfl⟩
theorem dX11_move_108 : dec cX11_move 108 3 111 (.getfield 381) := ⟨by decide +kernel, rfl⟩
theorem dX11_move_111 : dec cX11_move 111 1 112 (.iload_n 2) := ⟨by decide +kernel, rfl⟩
theorem dX11_move_112 : dec cX11_move 112 2 114 (.aload 7) := ⟨by decide +kernel, rfl⟩
theorem dX11_move_114 : dec cX11_move 114 3 117 (.getfield 381) := ⟨by decide +kernel, rfl⟩
theorem dX11_move_117 : dec cX11_move 117 2 119 (.iload 4) := ⟨by decide +kernel, rfl⟩
theorem dX11_move_119 : dec cX11_move 119 2 121 (.iload 5) := ⟨by decide +kernel, rfl⟩
theorem dX11_move_121 : dec cX11_move 121 3 124 (.invokestatic 388) := ⟨by decide +kernel, rfl⟩
theorem dX11_move_124 : dec cX11_move 124 2 126 (.iload 5) := ⟨by decide +kernel, rfl⟩
theorem dX11_move_126 : dec cX11_move 126 1 127 (.ireturn) := ⟨by decide +kernel, rfl⟩
set_option maxHeartbeats 4000000 in
set_option maxRecDepth 100000 in
theorem tX11_move_J14 {X : Cx} {Y : Yx} {M0 : Mem} (hC : OKX X Y RX11 cX11_move 8 (some .int) rmX11_move) (hF : Y.2.2.2.2 = true) (hL : Lay M0) (Q : Int → Mem → Prop)   (a0 : Nat) (qa0 : 0 < a0 ∧ M0 0 a0 = kO 11)  (M : Mem) (h : wX11_move_J14 Q  a0 M) : WW X Y 8 rmX11_move (QI Q) M0 0 0 14 [(0, vR Y.1 a0)] [] M := by
  unfold wX11_move_J14 at h
  refine r_aload_n hC 0 dX11_move_14 rfl rfl ?_
  refine r_iconst hC dX11_move_15 ?_
  refine r_callV (As := [vI 1]) (st := []) hC cw_X11_91 rfl qa0.1 qa0.2 rfl rfl (Nat.le_of_ble_eq_true rfl) ⟨Nat.le_of_ble_eq_true rfl, Nat.le_of_ble_eq_true rfl⟩ ⟨Nat.le_of_ble_eq_true rfl, Nat.le_of_ble_eq_true rfl⟩ dX11_move_16 (fun hk => mX11_error Y hF _ _ _ _ _ (kqO hk qa0) h) (fun v M_3 h => ?_)
  obtain ⟨r_4, rfl, h⟩ := h
  exact r_iret hC (Nat.zero_le _) (Nat.zero_le _) dX11_move_19 ⟨_, rfl, h⟩
set_option maxHeartbeats 4000000 in
set_option maxRecDepth 100000 in
theorem tX11_move_J52 {X : Cx} {Y : Yx} {M0 : Mem} (hC : OKX X Y RX11 cX11_move 8 (some .int) rmX11_move) (hF : Y.2.2.2.2 = true) (hL : Lay M0) (Q : Int → Mem → Prop)   (a0 : Nat) (qa0 : 0 < a0 ∧ M0 0 a0 = kO 11)  (M : Mem) (h : wX11_move_J52 Q  a0 M) : WW X Y 8 rmX11_move (QI Q) M0 0 0 52 [(0, vR Y.1 a0)] [] M := by
  unfold wX11_move_J52 at h
  refine r_aload_n hC 0 dX11_move_52 rfl rfl ?_
  refine r_iconst hC dX11_move_53 ?_
  refine r_callV (As := [vI 2]) (st := []) hC cw_X11_91 rfl qa0.1 qa0.2 rfl rfl (Nat.le_of_ble_eq_true rfl) ⟨Nat.le_of_ble_eq_true rfl, Nat.le_of_ble_eq_true rfl⟩ ⟨Nat.le_of_ble_eq_true rfl, Nat.le_of_ble_eq_true rfl⟩ dX11_move_54 (fun hk => mX11_error Y hF _ _ _ _ _ (kqO hk qa0) h) (fun v M_13 h => ?_)
  obtain ⟨r_14, rfl, h⟩ := h
  exact r_iret hC (Nat.zero_le _) (Nat.zero_le _) dX11_move_57 ⟨_, rfl, h⟩
set_option maxHeartbeats 4000000 in
set_option maxRecDepth 100000 in
theorem tX11_move_J100 {X : Cx} {Y : Yx} {M0 : Mem} (hC : OKX X Y RX11 cX11_move 8 (some .int) rmX11_move) (hF : Y.2.2.2.2 = true) (hL : Lay M0) (Q : Int → Mem → Prop)   (a0 : Nat) (qa0 : 0 < a0 ∧ M0 0 a0 = kO 11)  (M : Mem) (h : wX11_move_J100 Q  a0 M) : WW X Y 8 rmX11_move (QI Q) M0 0 0 100 [(0, vR Y.1 a0)] [] M := by
  unfold wX11_move_J100 at h
  refine r_aload_n hC 0 dX11_move_100 rfl rfl ?_
  refine r_iconst hC dX11_move_101 ?_
  refine r_callV (As := [vI 1]) (st := []) hC cw_X11_91 rfl qa0.1 qa0.2 rfl rfl (Nat.le_of_ble_eq_true rfl) ⟨Nat.le_of_ble_eq_true rfl, Nat.le_of_ble_eq_true rfl⟩ ⟨Nat.le_of_ble_eq_true rfl, Nat.le_of_ble_eq_true rfl⟩ dX11_move_102 (fun hk => mX11_error Y hF _ _ _ _ _ (kqO hk qa0) h) (fun v M_17 h => ?_)
  obtain ⟨r_18, rfl, h⟩ := h
  exact r_iret hC (Nat.zero_le _) (Nat.zero_le _) dX11_move_105 ⟨_, rfl, h⟩
set_option maxHeartbeats 4000000 in
set_option maxRecDepth 100000 in
theorem mX11_move (Y : Yx) (hF : Y.2.2.2.2 = true) (l : Launch) (a0 : Nat) (x1 : Int) (x2 : Int) (x3 : Int) (x4 : Int) (x5 : Int) (M0 : Mem) (Q : Int → Mem → Prop) (qa0 : 0 < a0 ∧ M0 0 a0 = kO 11) (h : wX11_move a0 x1 x2 x3 x4 x5 M0 Q) : CT Y l yX11_move cX11_move 8 (some .int) rmX11_move [vR Y.1 a0, vI x1, vI x2, vI x3, vI x4, vI x5] M0 (QI Q) := by
  unfold wX11_move at h
  refine ct_intro (by decide) (Nat.le_of_ble_eq_true rfl) ?_
  intro X hXl hC hL0
  have hL := hL0 hF
  change OKX X Y RX11 cX11_move 8 (some .int) rmX11_move at hC
  change WW X Y 8 rmX11_move (QI Q) M0 0 0 0 [(0, vR Y.1 a0), (1, vI x1), (2, vI x2), (3, vI x3), (4, vI x4), (5, vI x5)] [] M0
  refine r_iload_n hC 1 dX11_move_0 rfl rfl ?_
  refine r_callS (As := [vI x1]) (st := []) hC cw_X11_331 rfl rfl (Nat.le_of_ble_eq_true rfl) ⟨Nat.le_of_ble_eq_true rfl, Nat.le_of_ble_eq_true rfl⟩ ⟨Nat.le_of_ble_eq_true rfl, Nat.le_of_ble_eq_true rfl⟩ dX11_move_1 (fun hk => mX11_isNoSheet Y hF _ _ _ _  h) (fun v M_1 h => ?_)
  obtain ⟨r_2, rfl, h⟩ := h
  refine r_if_ne hC 14 rfl dX11_move_4 (by decide) (fun cq => ?_) (fun cq => ?_)
  · replace h := h.2 cq
    refine r_sub [0] rfl ?_
    exact tX11_move_J14 hC hF hL Q   _ qa0  _ h
  · replace h := h.1 cq
    refine r_iload_n hC 3 dX11_move_7 rfl rfl ?_
    refine r_callS (As := [vI x3]) (st := []) hC cw_X11_331 rfl rfl (Nat.le_of_ble_eq_true rfl) ⟨Nat.le_of_ble_eq_true rfl, Nat.le_of_ble_eq_true rfl⟩ ⟨Nat.le_of_ble_eq_true rfl, Nat.le_of_ble_eq_true rfl⟩ dX11_move_8 (fun hk => mX11_isNoSheet Y hF _ _ _ _  h) (fun v M_5 h => ?_)
    obtain ⟨r_6, rfl, h⟩ := h
    refine r_if_eq hC 20 rfl dX11_move_11 (by decide) (fun cq => ?_) (fun cq => ?_)
    · replace h := h.1 cq
      refine r_aload_n hC 0 dX11_move_20 rfl rfl ?_
      have q_7 : 0 < a0 + 84 ∧ M0 0 (a0 + 84) = kA 9 4 := lay_f0 (a := a0) hL qa0 fm_11_3
      refine r_getR0 (a' := a0 + 84) hC fg_X11_25 rfl hF fm_11_3 qa0.1 qa0.2 rfl dX11_move_21 ?_
      refine r_iload_n hC 1 dX11_move_24 rfl rfl ?_
      obtain ⟨i_8, h⟩ := h
      have q_9 : 0 < a0 + 116 + 2 * (bm x1).toNat ∧ M0 0 (a0 + 116 + 2 * (bm x1).toNat) = kO 8 := lay_a9 (a := a0 + 84) hL q_7 (inb_nat i_8)
      refine r_aald9 hC hF i_8 q_7.1 q_7.2 dX11_move_25 ?_
      refine r_astore (lv' := [(6, vR Y.1 (a0 + 116 + 2 * (bm x1).toNat)), (0, vR Y.1 a0), (1, vI x1), (2, vI x2), (3, vI x3), (4, vI x4), (5, vI x5)]) hC dX11_move_26 (by decide) rfl ?_
      refine r_aload_n hC 1 dX11_move_28 rfl rfl ?_
      have q_10 : 0 < a0 + 84 ∧ M0 0 (a0 + 84) = kA 9 4 := lay_f0 (a := a0) hL qa0 fm_11_3
      refine r_getR0 (a' := a0 + 84) hC fg_X11_25 rfl hF fm_11_3 qa0.1 qa0.2 rfl dX11_move_29 ?_
      refine r_iload_n hC 4 dX11_move_32 rfl rfl ?_
      obtain ⟨i_11, h⟩ := h
      have q_12 : 0 < a0 + 116 + 2 * (bm x3).toNat ∧ M0 0 (a0 + 116 + 2 * (bm x3).toNat) = kO 8 := lay_a9 (a := a0 + 84) hL q_10 (inb_nat i_11)
      refine r_aald9 hC hF i_11 q_10.1 q_10.2 dX11_move_33 ?_
      refine r_astore (lv' := [(7, vR Y.1 (a0 + 116 + 2 * (bm x3).toNat)), (6, vR Y.1 (a0 + 116 + 2 * (bm x1).toNat)), (0, vR Y.1 a0), (1, vI x1), (2, vI x2), (3, vI x3), (4, vI x4), (5, vI x5)]) hC dX11_move_34 (by decide) rfl ?_
      refine r_aload hC 1 dX11_move_36 rfl ?_
      refine r_getI hC fg_X11_334 rfl q_9.1 q_9.2 dX11_move_38 ?_
      refine r_if_eq hC 52 rfl dX11_move_41 (by decide) (fun cq => ?_) (fun cq => ?_)
      · replace h := h.1 cq
        refine r_sub [2] rfl ?_
        exact tX11_move_J52 hC hF hL Q   _ qa0  _ h
      · replace h := h.2 cq
        refine r_aload hC 0 dX11_move_44 rfl ?_
        refine r_getI hC fg_X11_334 rfl q_12.1 q_12.2 dX11_move_46 ?_
        refine r_if_ne hC 58 rfl dX11_move_49 (by decide) (fun cq => ?_) (fun cq => ?_)
        · replace h := h.2 cq
          refine r_aload hC 1 dX11_move_58 rfl ?_
          refine r_getI hC fg_X11_334 rfl q_9.1 q_9.2 dX11_move_60 ?_
          refine r_aload hC 0 dX11_move_63 rfl ?_
          refine r_getI hC fg_X11_334 rfl q_12.1 q_12.2 dX11_move_65 ?_
          refine r_icmp_eq hC 77 rfl rfl dX11_move_68 (by decide) (fun cq => ?_) (fun cq => ?_)
          · replace h := h.1 cq
            refine r_aload hC 1 dX11_move_77 rfl ?_
            refine r_iload_n hC 4 dX11_move_79 rfl rfl ?_
            refine r_iload hC 7 dX11_move_80 rfl ?_
            refine r_callV (As := [vI x2, vI x5]) (st := []) hC cw_X11_384 rfl q_9.1 q_9.2 rfl rfl (Nat.le_of_ble_eq_true rfl) ⟨Nat.le_of_ble_eq_true rfl, Nat.le_of_ble_eq_true rfl⟩ ⟨Nat.le_of_ble_eq_true rfl, Nat.le_of_ble_eq_true rfl⟩ dX11_move_82 (fun hk => mX8_holds Y hF _ _ _ _ _ _ (kqO hk q_9) h) (fun v M_15 h => ?_)
            obtain ⟨r_16, rfl, h⟩ := h
            refine r_if_eq hC 100 rfl dX11_move_85 (by decide) (fun cq => ?_) (fun cq => ?_)
            · replace h := h.1 cq
              refine r_sub [2] rfl ?_
              exact tX11_move_J100 hC hF hL Q   _ qa0  _ h
            · replace h := h.2 cq
              refine r_aload hC 0 dX11_move_88 rfl ?_
              refine r_iload hC 6 dX11_move_90 rfl ?_
              refine r_iload hC 7 dX11_move_92 rfl ?_
              refine r_callV (As := [vI x4, vI x5]) (st := []) hC cw_X11_384 rfl q_12.1 q_12.2 rfl rfl (Nat.le_of_ble_eq_true rfl) ⟨Nat.le_of_ble_eq_true rfl, Nat.le_of_ble_eq_true rfl⟩ ⟨Nat.le_of_ble_eq_true rfl, Nat.le_of_ble_eq_true rfl⟩ dX11_move_94 (fun hk => mX8_holds Y hF _ _ _ _ _ _ (kqO hk q_12) h) (fun v M_19 h => ?_)
              obtain ⟨r_20, rfl, h⟩ := h
              refine r_if_ne hC 106 rfl dX11_move_97 (by decide) (fun cq => ?_) (fun cq => ?_)
              · replace h := h.2 cq
                refine r_aload hC 1 dX11_move_106 rfl ?_
                have q_21 : 0 < a0 + 116 + 2 * (bm x1).toNat + 1 ∧ M0 0 (a0 + 116 + 2 * (bm x1).toNat + 1) = kA 0 24 := lay_f0 (a := a0 + 116 + 2 * (bm x1).toNat) hL q_9 fm_8_0
                refine r_getR0 (a' := a0 + 116 + 2 * (bm x1).toNat + 1) hC fg_X11_381 rfl hF fm_8_0 q_9.1 q_9.2 rfl dX11_move_108 ?_
                refine r_iload_n hC 4 dX11_move_111 rfl rfl ?_
                refine r_aload hC 0 dX11_move_112 rfl ?_
                have q_22 : 0 < a0 + 116 + 2 * (bm x3).toNat + 1 ∧ M0 0 (a0 + 116 + 2 * (bm x3).toNat + 1) = kA 0 24 := lay_f0 (a := a0 + 116 + 2 * (bm x3).toNat) hL q_12 fm_8_0
                refine r_getR0 (a' := a0 + 116 + 2 * (bm x3).toNat + 1) hC fg_X11_381 rfl hF fm_8_0 q_12.1 q_12.2 rfl dX11_move_114 ?_
                refine r_iload hC 6 dX11_move_117 rfl ?_
                refine r_iload hC 7 dX11_move_119 rfl ?_
                obtain ⟨i_23, h⟩ := h
                refine r_copy (t := 0) hC (by decide) cp_X11_388 (Nat.le_of_ble_eq_true rfl) (Nat.le_of_ble_eq_true rfl) (Nat.le_of_ble_eq_true rfl) i_23 (by intro q; cases q) q_21 q_22 (by decide) (by decide) dX11_move_121 ?_
                refine r_nameM h (fun M_25 h => ?_)
                refine r_iload hC 7 dX11_move_124 rfl ?_
                exact r_iret hC (Nat.zero_le _) (Nat.zero_le _) dX11_move_126 ⟨_, rfl, h⟩
              · replace h := h.1 cq
                refine r_sub [2] rfl ?_
                exact tX11_move_J100 hC hF hL Q   _ qa0  _ h
          · replace h := h.2 cq
            refine r_aload_n hC 2 dX11_move_71 rfl rfl ?_
            refine r_iconst hC dX11_move_72 ?_
            refine r_callV (As := [vI 5]) (st := []) hC cw_X11_91 rfl qa0.1 qa0.2 rfl rfl (Nat.le_of_ble_eq_true rfl) ⟨Nat.le_of_ble_eq_true rfl, Nat.le_of_ble_eq_true rfl⟩ ⟨Nat.le_of_ble_eq_true rfl, Nat.le_of_ble_eq_true rfl⟩ dX11_move_73 (fun hk => mX11_error Y hF _ _ _ _ _ (kqO hk qa0) h) (fun v M_26 h => ?_)
            obtain ⟨r_27, rfl, h⟩ := h
            exact r_iret hC (Nat.zero_le _) (Nat.zero_le _) dX11_move_76 ⟨_, rfl, h⟩
        · replace h := h.1 cq
          refine r_sub [2] rfl ?_
          exact tX11_move_J52 hC hF hL Q   _ qa0  _ h
    · replace h := h.2 cq
      refine r_sub [0] rfl ?_
      exact tX11_move_J14 hC hF hL Q   _ qa0  _ h
theorem dX11_image_0 : dec cX11_image 0 1 1 (.aload_n 0) := ⟨by decide +kernel, rfl⟩
theorem dX11_image_1 : dec cX11_image 1 3 4 (.getfield 16) := ⟨by decide +kernel, rfl⟩
theorem dX11_image_4 : dec cX11_image 4 3 7 (.ifnonnull 14) := ⟨by decide +kernel, rfl⟩
theorem dX11_image_7 : dec cX11_image 7 1 8 (.aload_n 0) := ⟨by decide +kernel, rfl⟩
theorem dX11_image_8 : dec cX11_image 8 3 11 (.new 7) := ⟨by decide +kernel, rfl⟩
theorem dX11_image_11 : dec cX11_image 11 1 12 (.dup) := ⟨by decide +kernel, rfl⟩
theorem dX11_image_12 : dec cX11_image 12 3 15 (.invokespecial 9) := ⟨by decide +kernel, rfl⟩
theorem dX11_image_15 : dec cX11_image 15 3 18 (.putfield 16) := ⟨by decide +kernel, rfl⟩
theorem dX11_image_18 : dec cX11_image 18 1 19 (.aload_n 0) := ⟨by decide +kernel, rfl⟩
theorem dX11_image_19 : dec cX11_image 19 3 22 (.getfield 16) := ⟨by decide +kernel, rfl⟩
theorem dX11_image_22 : dec cX11_image 22 1 23 (.aload_n 0) := ⟨by decide +kernel, rfl⟩
theorem dX11_image_23 : dec cX11_image 23 3 26 (.getfield 10) := ⟨by decide +kernel, rfl⟩
theorem dX11_image_26 : dec cX11_image 26 3 29 (.invokevirtual 394) := ⟨by decide +kernel, rfl⟩
theorem dX11_image_29 : dec cX11_image 29 1 30 (.aload_n 0) := ⟨by decide +kernel, rfl⟩
theorem dX11_image_30 : dec cX11_image 30 1 31 (.dup) := ⟨by decide +kernel, rfl⟩
theorem dX11_image_31 : dec cX11_image 31 3 34 (.getfield 19) := ⟨by decide +kernel, rfl⟩
theorem dX11_image_34 : dec cX11_image 34 1 35 (.iconst 1) := ⟨by decide +kernel, rfl⟩
theorem dX11_image_35 : dec cX11_image 35 1 36 (.iadd) := ⟨by decide +kernel, rfl⟩
theorem dX11_image_36 : dec cX11_image 36 3 39 (.putfield 19) := ⟨by decide +kernel, rfl⟩
theorem dX11_image_39 : dec cX11_image 39 1 40 (.aload_n 0) := ⟨by decide +kernel, rfl⟩
theorem dX11_image_40 : dec cX11_image 40 3 43 (.getfield 19) := ⟨by decide +kernel, rfl⟩
theorem dX11_image_43 : dec cX11_image 43 1 44 (.ireturn) := ⟨by decide +kernel, rfl⟩
set_option maxHeartbeats 4000000 in
set_option maxRecDepth 100000 in
theorem tX11_image_J18 {X : Cx} {Y : Yx} {M0 : Mem} (hC : OKX X Y RX11 cX11_image 1 (some .int) rmX11_image) (hF : Y.2.2.2.2 = true) (hL : Lay M0) (Q : Int → Mem → Prop)   (a0 : Nat) (qa0 : 0 < a0 ∧ M0 0 a0 = kO 11)  (M : Mem) (h : wX11_image_J18 Q  a0 M) : WW X Y 1 rmX11_image (QI Q) M0 83 4114 18 [(0, vR Y.1 a0)] [] M := by
  unfold wX11_image_J18 at h
  refine r_aload_n hC 0 dX11_image_18 rfl rfl ?_
  refine r_getN hC fg_X11_16 rfl qa0.1 qa0.2 dX11_image_19 ?_
  obtain ⟨q_1, h⟩ := h
  refine r_base (fun hk hL0 => ?_)
  have hL := hL0 hF
  have qa0 := kqO hk qa0
  rw [vN_R (q := (M a0 1).toNat) q_1.1 (by have := q_1.1; omega)]
  refine r_aload_n hC 0 dX11_image_22 rfl rfl ?_
  have q_2 : 0 < a0 + 1 ∧ M 0 (a0 + 1) = kO 0 := lay_f0 (a := a0) hL qa0 fm_11_0
  refine r_getR0 (a' := a0 + 1) hC fg_X11_10 rfl hF fm_11_0 qa0.1 qa0.2 rfl dX11_image_23 ?_
  refine r_callV (As := [vR Y.1 (a0 + 1)]) (st := []) hC cw_X11_394 rfl q_1.1 q_1.2 rfl rfl (Nat.le_of_ble_eq_true rfl) ⟨Nat.le_of_ble_eq_true rfl, Nat.le_of_ble_eq_true rfl⟩ ⟨Nat.le_of_ble_eq_true rfl, Nat.le_of_ble_eq_true rfl⟩ dX11_image_26 (fun hk => mX0_copyFrom Y hF _ _ _ _ _ (kqO hk q_1) (kqO hk q_2) h) (fun v M_3 h => ?_)
  obtain ⟨rfl, h⟩ := h
  refine r_aload_n hC 0 dX11_image_29 rfl rfl ?_
  refine r_dup hC rfl dX11_image_30 ?_
  refine r_getI hC fg_X11_19 rfl qa0.1 qa0.2 dX11_image_31 ?_
  refine r_iconst hC dX11_image_34 ?_
  refine r_iadd hC dX11_image_35 ?_
  refine r_putI hC fp_X11_19 rfl qa0.1 qa0.2 dX11_image_36 ?_
  refine r_nameM h (fun M_4 h => ?_)
  refine r_aload_n hC 0 dX11_image_39 rfl rfl ?_
  refine r_getI hC fg_X11_19 rfl qa0.1 qa0.2 dX11_image_40 ?_
  exact r_iret hC (Nat.le_of_ble_eq_true rfl) (Nat.le_of_ble_eq_true rfl) dX11_image_43 ⟨_, rfl, h⟩
set_option maxHeartbeats 4000000 in
set_option maxRecDepth 100000 in
theorem mX11_image (Y : Yx) (hF : Y.2.2.2.2 = true) (l : Launch) (a0 : Nat) (M0 : Mem) (Q : Int → Mem → Prop) (qa0 : 0 < a0 ∧ M0 0 a0 = kO 11) (h : wX11_image a0 M0 Q) : CT Y l yX11_image cX11_image 1 (some .int) rmX11_image [vR Y.1 a0] M0 (QI Q) := by
  unfold wX11_image at h
  refine ct_intro (by decide) (Nat.le_of_ble_eq_true rfl) ?_
  intro X hXl hC hL0
  have hL := hL0 hF
  change OKX X Y RX11 cX11_image 1 (some .int) rmX11_image at hC
  change WW X Y 1 rmX11_image (QI Q) M0 0 0 0 [(0, vR Y.1 a0)] [] M0
  refine r_aload_n hC 0 dX11_image_0 rfl rfl ?_
  refine r_getN hC fg_X11_16 rfl qa0.1 qa0.2 dX11_image_1 ?_
  refine r_ifnonnull hC 18 dX11_image_4 (by decide) (fun cq => ?_) (fun cq => ?_)
  · replace h := h.2 cq
    refine r_widen (n' := 83) (k' := 4114) (Nat.le_of_ble_eq_true rfl) (Nat.le_of_ble_eq_true rfl) ?_
    refine r_sub [0] rfl ?_
    exact tX11_image_J18 hC hF hL Q   _ qa0  _ h
  · replace h := h.1 cq
    refine r_aload_n hC 0 dX11_image_7 rfl rfl ?_
    refine r_off ?_
    have hCo := okx_off hC
    refine r_newobj hCo rfl rfl nw_X11_7 ⟨Nat.le_of_ble_eq_true rfl, Nat.le_of_ble_eq_true rfl⟩ dX11_image_8 ?_
    refine r_nameM h (fun M_6 h => ?_)
    obtain ⟨q_5, h⟩ := h
    refine r_base (fun hk hL0 => ?_)
    have qa0 := kqO hk qa0
    refine r_dup hCo rfl dX11_image_11 ?_
    refine r_callI (As := []) hCo ci_X11_9 rfl rfl (Nat.le_of_ble_eq_true rfl) ⟨Nat.le_of_ble_eq_true rfl, Nat.le_of_ble_eq_true rfl⟩ ⟨Nat.le_of_ble_eq_true rfl, Nat.le_of_ble_eq_true rfl⟩ dX11_image_12 (fun hk => mX0_init (offY Y) rfl _ _ _ _ (kqO hk q_5) h) (fun v M_7 h => ?_)
    obtain ⟨rfl, h⟩ := h
    obtain ⟨hl_8, h⟩ := h
    refine r_on hF hl_8 ?_
    refine r_base (fun hk hL0 => ?_)
    have hL := hL0 hF
    have q_5 := kqO hk q_5
    have qa0 := kqO hk qa0
    refine r_putN hC q_5.1 fp_X11_16 rfl (by first | exact Or.inl ⟨_, rfl⟩ | exact Or.inr ⟨_, rfl⟩) qa0.1 qa0.2 dX11_image_15 ?_
    refine r_nameM h (fun M_9 h => ?_)
    refine r_sub [0] rfl ?_
    exact tX11_image_J18 hC hF hL Q   _ qa0  _ h
theorem dX11_restore_0 : dec cX11_restore 0 1 1 (.aload_n 0) := ⟨by decide +kernel, rfl⟩
theorem dX11_restore_1 : dec cX11_restore 1 3 4 (.getfield 16) := ⟨by decide +kernel, rfl⟩
theorem dX11_restore_4 : dec cX11_restore 4 3 7 (.ifnonnull 9) := ⟨by decide +kernel, rfl⟩
theorem dX11_restore_7 : dec cX11_restore 7 1 8 (.aload_n 0) := ⟨by decide +kernel, rfl⟩
theorem dX11_restore_8 : dec cX11_restore 8 1 9 (.iconst 2) := ⟨by decide +kernel, rfl⟩
theorem dX11_restore_9 : dec cX11_restore 9 3 12 (.invokevirtual 91) := ⟨by decide +kernel, rfl⟩
theorem dX11_restore_12 : dec cX11_restore 12 1 13 (.ireturn) := ⟨by decide +kernel, rfl⟩
theorem dX11_restore_13 : dec cX11_restore 13 1 14 (.aload_n 0) := ⟨by decide +kernel, rfl⟩
theorem dX11_restore_14 : dec cX11_restore 14 3 17 (.getfield 10) := ⟨by decide +kernel, rfl⟩
theorem dX11_restore_17 : dec cX11_restore 17 1 18 (.aload_n 0) := ⟨by decide +kernel, rfl⟩
theorem dX11_restore_18 : dec cX11_restore 18 3 21 (.getfield 16) := ⟨by decide +kernel, rfl⟩
theorem dX11_restore_21 : dec cX11_restore 21 3 24 (.invokevirtual 394) := ⟨by decide +kernel, rfl⟩
theorem dX11_restore_24 : dec cX11_restore 24 1 25 (.aload_n 0) := ⟨by decide +kernel, rfl⟩
theorem dX11_restore_25 : dec cX11_restore 25 3 28 (.invokevirtual 122) := ⟨by decide +kernel, rfl⟩
theorem dX11_restore_28 : dec cX11_restore 28 1 29 (.aload_n 0) := ⟨by decide +kernel, rfl⟩
theorem dX11_restore_29 : dec cX11_restore 29 3 32 (.getfield 10) := ⟨by decide +kernel, rfl⟩
theorem dX11_restore_32 : dec cX11_restore 32 3 35 (.getfield 95) := ⟨by decide +kernel, rfl⟩
theorem dX11_restore_35 : dec cX11_restore 35 1 36 (.ireturn) := ⟨by decide +kernel, rfl⟩
set_option maxHeartbeats 4000000 in
set_option maxRecDepth 100000 in
theorem mX11_restore (Y : Yx) (hF : Y.2.2.2.2 = true) (l : Launch) (a0 : Nat) (M0 : Mem) (Q : Int → Mem → Prop) (qa0 : 0 < a0 ∧ M0 0 a0 = kO 11) (h : wX11_restore a0 M0 Q) : CT Y l yX11_restore cX11_restore 1 (some .int) rmX11_restore [vR Y.1 a0] M0 (QI Q) := by
  unfold wX11_restore at h
  refine ct_intro (by decide) (Nat.le_of_ble_eq_true rfl) ?_
  intro X hXl hC hL0
  have hL := hL0 hF
  change OKX X Y RX11 cX11_restore 1 (some .int) rmX11_restore at hC
  change WW X Y 1 rmX11_restore (QI Q) M0 0 0 0 [(0, vR Y.1 a0)] [] M0
  refine r_aload_n hC 0 dX11_restore_0 rfl rfl ?_
  refine r_getN hC fg_X11_16 rfl qa0.1 qa0.2 dX11_restore_1 ?_
  refine r_ifnonnull hC 13 dX11_restore_4 (by decide) (fun cq => ?_) (fun cq => ?_)
  · replace h := h.2 cq
    refine r_aload_n hC 0 dX11_restore_13 rfl rfl ?_
    have q_1 : 0 < a0 + 1 ∧ M0 0 (a0 + 1) = kO 0 := lay_f0 (a := a0) hL qa0 fm_11_0
    refine r_getR0 (a' := a0 + 1) hC fg_X11_10 rfl hF fm_11_0 qa0.1 qa0.2 rfl dX11_restore_14 ?_
    refine r_aload_n hC 0 dX11_restore_17 rfl rfl ?_
    refine r_getN hC fg_X11_16 rfl qa0.1 qa0.2 dX11_restore_18 ?_
    obtain ⟨q_2, h⟩ := h
    refine r_base (fun hk hL0 => ?_)
    have hL := hL0 hF
    have qa0 := kqO hk qa0
    have q_1 := kqO hk q_1
    rw [vN_R (q := (M0 a0 1).toNat) q_2.1 (by have := q_2.1; omega)]
    refine r_callV (As := [vR Y.1 ((M0 a0 1).toNat)]) (st := []) hC cw_X11_394 rfl q_1.1 q_1.2 rfl rfl (Nat.le_of_ble_eq_true rfl) ⟨Nat.le_of_ble_eq_true rfl, Nat.le_of_ble_eq_true rfl⟩ ⟨Nat.le_of_ble_eq_true rfl, Nat.le_of_ble_eq_true rfl⟩ dX11_restore_21 (fun hk => mX0_copyFrom Y hF _ _ _ _ _ (kqO hk q_1) (kqO hk q_2) h) (fun v M_3 h => ?_)
    obtain ⟨rfl, h⟩ := h
    refine r_aload_n hC 0 dX11_restore_24 rfl rfl ?_
    refine r_callV (As := []) (st := []) hC cw_X11_122 rfl qa0.1 qa0.2 rfl rfl (Nat.le_of_ble_eq_true rfl) ⟨Nat.le_of_ble_eq_true rfl, Nat.le_of_ble_eq_true rfl⟩ ⟨Nat.le_of_ble_eq_true rfl, Nat.le_of_ble_eq_true rfl⟩ dX11_restore_25 (fun hk => mX11_forget Y hF _ _ _ _ (kqO hk qa0) h) (fun v M_4 h => ?_)
    obtain ⟨rfl, h⟩ := h
    refine r_aload_n hC 0 dX11_restore_28 rfl rfl ?_
    have q_5 : 0 < a0 + 1 ∧ M0 0 (a0 + 1) = kO 0 := lay_f0 (a := a0) hL qa0 fm_11_0
    refine r_getR0 (a' := a0 + 1) hC fg_X11_10 rfl hF fm_11_0 qa0.1 qa0.2 rfl dX11_restore_29 ?_
    refine r_getI hC fg_X11_95 rfl q_5.1 q_5.2 dX11_restore_32 ?_
    exact r_iret hC (Nat.zero_le _) (Nat.zero_le _) dX11_restore_35 ⟨_, rfl, h⟩
  · replace h := h.1 cq
    refine r_aload_n hC 0 dX11_restore_7 rfl rfl ?_
    refine r_iconst hC dX11_restore_8 ?_
    refine r_callV (As := [vI 2]) (st := []) hC cw_X11_91 rfl qa0.1 qa0.2 rfl rfl (Nat.le_of_ble_eq_true rfl) ⟨Nat.le_of_ble_eq_true rfl, Nat.le_of_ble_eq_true rfl⟩ ⟨Nat.le_of_ble_eq_true rfl, Nat.le_of_ble_eq_true rfl⟩ dX11_restore_9 (fun hk => mX11_error Y hF _ _ _ _ _ (kqO hk qa0) h) (fun v M_6 h => ?_)
    obtain ⟨r_7, rfl, h⟩ := h
    exact r_iret hC (Nat.zero_le _) (Nat.zero_le _) dX11_restore_12 ⟨_, rfl, h⟩
theorem dX11_tell_0 : dec cX11_tell 0 1 1 (.aload_n 0) := ⟨by decide +kernel, rfl⟩
theorem dX11_tell_1 : dec cX11_tell 1 3 4 (.getfield 10) := ⟨by decide +kernel, rfl⟩
theorem dX11_tell_4 : dec cX11_tell 4 3 7 (.getfield 396) := ⟨by decide +kernel, rfl⟩
theorem dX11_tell_7 : dec cX11_tell 7 2 9 (.bipush 12) := ⟨by decide +kernel, rfl⟩
theorem dX11_tell_9 : dec cX11_tell 9 3 12 (.if_icmp .lt 9) := ⟨by decide +kernel, rfl⟩
theorem dX11_tell_12 : dec cX11_tell 12 1 13 (.aload_n 0) := ⟨by decide +kernel, rfl⟩
theorem dX11_tell_13 : dec cX11_tell 13 1 14 (.iconst 4) := ⟨by decide +kernel, rfl⟩
theorem dX11_tell_14 : dec cX11_tell 14 3 17 (.invokevirtual 91) := ⟨by decide +kernel, rfl⟩
theorem dX11_tell_17 : dec cX11_tell 17 1 18 (.ireturn) := ⟨by decide +kernel, rfl⟩
theorem dX11_tell_18 : dec cX11_tell 18 1 19 (.aload_n 0) := ⟨by decide +kernel, rfl⟩
theorem dX11_tell_19 : dec cX11_tell 19 3 22 (.getfield 10) := ⟨by decide +kernel, rfl⟩
theorem dX11_tell_22 : dec cX11_tell 22 3 25 (.getfield 399) := ⟨by decide +kernel, rfl⟩
theorem dX11_tell_25 : dec cX11_tell 25 1 26 (.aload_n 0) := ⟨by decide +kernel, rfl⟩
theorem dX11_tell_26 : dec cX11_tell 26 3 29 (.getfield 10) := ⟨by decide +kernel, rfl⟩
theorem dX11_tell_29 : dec cX11_tell 29 3 32 (.getfield 396) := ⟨by decide +kernel, rfl⟩
theorem dX11_tell_32 : dec cX11_tell 32 1 33 (.iload_n 1) := ⟨by decide +kernel, rfl⟩
theorem dX11_tell_33 : dec cX11_tell 33 1 34 (.iastore) := ⟨by decide +kernel, rfl⟩
theorem dX11_tell_34 : dec cX11_tell 34 1 35 (.aload_n 0) := ⟨by decide +kernel, rfl⟩
theorem dX11_tell_35 : dec cX11_tell 35 3 38 (.getfield 10) := ⟨by decide +kernel, rfl⟩
theorem dX11_tell_38 : dec cX11_tell 38 1 39 (.dup) := ⟨by decide +kernel, rfl⟩
theorem dX11_tell_39 : dec cX11_tell 39 3 42 (.getfield 396) := ⟨by decide +kernel, rfl⟩
theorem dX11_tell_42 : dec cX11_tell 42 1 43 (.iconst 1) := ⟨by decide +kernel, rfl⟩
theorem dX11_tell_43 : dec cX11_tell 43 1 44 (.iadd) := ⟨by decide +kernel, rfl⟩
theorem dX11_tell_44 : dec cX11_tell 44 3 47 (.putfield 396) := ⟨by decide +kernel, rfl⟩
theorem dX11_tell_47 : dec cX11_tell 47 1 48 (.aload_n 0) := ⟨by decide +kernel, rfl⟩
theorem dX11_tell_48 : dec cX11_tell 48 3 51 (.getfield 10) := ⟨by decide +kernel, rfl⟩
theorem dX11_tell_51 : dec cX11_tell 51 3 54 (.getfield 396) := ⟨by decide +kernel, rfl⟩
theorem dX11_tell_54 : dec cX11_tell 54 1 55 (.ireturn) := ⟨by decide +kernel, rfl⟩
set_option maxHeartbeats 4000000 in
set_option maxRecDepth 100000 in
theorem mX11_tell (Y : Yx) (hF : Y.2.2.2.2 = true) (l : Launch) (a0 : Nat) (x1 : Int) (M0 : Mem) (Q : Int → Mem → Prop) (qa0 : 0 < a0 ∧ M0 0 a0 = kO 11) (h : wX11_tell a0 x1 M0 Q) : CT Y l yX11_tell cX11_tell 2 (some .int) rmX11_tell [vR Y.1 a0, vI x1] M0 (QI Q) := by
  unfold wX11_tell at h
  refine ct_intro (by decide) (Nat.le_of_ble_eq_true rfl) ?_
  intro X hXl hC hL0
  have hL := hL0 hF
  change OKX X Y RX11 cX11_tell 2 (some .int) rmX11_tell at hC
  change WW X Y 2 rmX11_tell (QI Q) M0 0 0 0 [(0, vR Y.1 a0), (1, vI x1)] [] M0
  refine r_aload_n hC 0 dX11_tell_0 rfl rfl ?_
  have q_1 : 0 < a0 + 1 ∧ M0 0 (a0 + 1) = kO 0 := lay_f0 (a := a0) hL qa0 fm_11_0
  refine r_getR0 (a' := a0 + 1) hC fg_X11_10 rfl hF fm_11_0 qa0.1 qa0.2 rfl dX11_tell_1 ?_
  refine r_getI hC fg_X11_396 rfl q_1.1 q_1.2 dX11_tell_4 ?_
  refine r_bipush hC (by decide +kernel) dX11_tell_7 ?_
  refine r_icmp_lt hC 18 rfl bmL_12 dX11_tell_9 (by decide) (fun cq => ?_) (fun cq => ?_)
  · replace h := h.1 cq
    refine r_aload_n hC 0 dX11_tell_18 rfl rfl ?_
    have q_2 : 0 < a0 + 1 ∧ M0 0 (a0 + 1) = kO 0 := lay_f0 (a := a0) hL qa0 fm_11_0
    refine r_getR0 (a' := a0 + 1) hC fg_X11_10 rfl hF fm_11_0 qa0.1 qa0.2 rfl dX11_tell_19 ?_
    have q_3 : 0 < a0 + 9 ∧ M0 0 (a0 + 9) = kA 0 12 := lay_f0 (a := a0 + 1) hL q_2 fm_0_12
    refine r_getR0 (a' := a0 + 9) hC fg_X11_399 rfl hF fm_0_12 q_2.1 q_2.2 rfl dX11_tell_22 ?_
    refine r_aload_n hC 0 dX11_tell_25 rfl rfl ?_
    have q_4 : 0 < a0 + 1 ∧ M0 0 (a0 + 1) = kO 0 := lay_f0 (a := a0) hL qa0 fm_11_0
    refine r_getR0 (a' := a0 + 1) hC fg_X11_10 rfl hF fm_11_0 qa0.1 qa0.2 rfl dX11_tell_26 ?_
    refine r_getI hC fg_X11_396 rfl q_4.1 q_4.2 dX11_tell_29 ?_
    refine r_iload_n hC 1 dX11_tell_32 rfl rfl ?_
    obtain ⟨i_5, h⟩ := h
    refine r_iast hC i_5 q_3.1 q_3.2 (by decide) dX11_tell_33 ?_
    refine r_nameM h (fun M_6 h => ?_)
    refine r_aload_n hC 0 dX11_tell_34 rfl rfl ?_
    have q_7 : 0 < a0 + 1 ∧ M0 0 (a0 + 1) = kO 0 := lay_f0 (a := a0) hL qa0 fm_11_0
    refine r_getR0 (a' := a0 + 1) hC fg_X11_10 rfl hF fm_11_0 qa0.1 qa0.2 rfl dX11_tell_35 ?_
    refine r_dup hC rfl dX11_tell_38 ?_
    refine r_getI hC fg_X11_396 rfl q_7.1 q_7.2 dX11_tell_39 ?_
    refine r_iconst hC dX11_tell_42 ?_
    refine r_iadd hC dX11_tell_43 ?_
    refine r_putI hC fp_X11_396 rfl q_7.1 q_7.2 dX11_tell_44 ?_
    refine r_nameM h (fun M_8 h => ?_)
    refine r_aload_n hC 0 dX11_tell_47 rfl rfl ?_
    have q_9 : 0 < a0 + 1 ∧ M0 0 (a0 + 1) = kO 0 := lay_f0 (a := a0) hL qa0 fm_11_0
    refine r_getR0 (a' := a0 + 1) hC fg_X11_10 rfl hF fm_11_0 qa0.1 qa0.2 rfl dX11_tell_48 ?_
    refine r_getI hC fg_X11_396 rfl q_9.1 q_9.2 dX11_tell_51 ?_
    exact r_iret hC (Nat.zero_le _) (Nat.zero_le _) dX11_tell_54 ⟨_, rfl, h⟩
  · replace h := h.2 cq
    refine r_aload_n hC 0 dX11_tell_12 rfl rfl ?_
    refine r_iconst hC dX11_tell_13 ?_
    refine r_callV (As := [vI 4]) (st := []) hC cw_X11_91 rfl qa0.1 qa0.2 rfl rfl (Nat.le_of_ble_eq_true rfl) ⟨Nat.le_of_ble_eq_true rfl, Nat.le_of_ble_eq_true rfl⟩ ⟨Nat.le_of_ble_eq_true rfl, Nat.le_of_ble_eq_true rfl⟩ dX11_tell_14 (fun hk => mX11_error Y hF _ _ _ _ _ (kqO hk qa0) h) (fun v M_10 h => ?_)
    obtain ⟨r_11, rfl, h⟩ := h
    exact r_iret hC (Nat.zero_le _) (Nat.zero_le _) dX11_tell_17 ⟨_, rfl, h⟩
theorem dX11_firstUnlike_0 : dec cX11_firstUnlike 0 1 1 (.iconst 0) := ⟨by decide +kernel, rfl⟩
theorem dX11_firstUnlike_1 : dec cX11_firstUnlike 1 1 2 (.istore_n 2) := ⟨by decide +kernel, rfl⟩
theorem dX11_firstUnlike_2 : dec cX11_firstUnlike 2 1 3 (.iload_n 2) := ⟨by decide +kernel, rfl⟩
theorem dX11_firstUnlike_3 : dec cX11_firstUnlike 3 1 4 (.iload_n 1) := ⟨by decide +kernel, rfl⟩
theorem dX11_firstUnlike_4 : dec cX11_firstUnlike 4 3 7 (.if_icmp .lt 14) := ⟨by decide +kernel, rfl⟩
theorem dX11_firstUnlike_7 : dec cX11_firstUnlike 7 1 8 (.iload_n 2) := ⟨by decide +kernel, rfl⟩
theorem dX11_firstUnlike_8 : dec cX11_firstUnlike 8 1 9 (.aload_n 0) := ⟨by decide +kernel, rfl⟩
theorem dX11_firstUnlike_9 : dec cX11_firstUnlike 9 3 12 (.getfield 57) := ⟨by decide +kernel, rfl⟩
theorem dX11_firstUnlike_12 : dec cX11_firstUnlike 12 3 15 (.getfield 267) := ⟨by decide +kernel, rfl⟩
theorem dX11_firstUnlike_15 : dec cX11_firstUnlike 15 3 18 (.if_icmp .ge 61) := ⟨by decide +kernel, rfl⟩
theorem dX11_firstUnlike_18 : dec cX11_firstUnlike 18 1 19 (.iload_n 2) := ⟨by decide +kernel, rfl⟩
theorem dX11_firstUnlike_19 : dec cX11_firstUnlike 19 1 20 (.iload_n 1) := ⟨by decide +kernel, rfl⟩
theorem dX11_firstUnlike_20 : dec cX11_firstUnlike 20 3 23 (.if_icmp .ge 42) := ⟨by decide +kernel, rfl⟩
theorem dX11_firstUnlike_23 : dec cX11_firstUnlike 23 1 24 (.iload_n 2) := ⟨by decide +kernel, rfl⟩
theorem dX11_firstUnlike_24 : dec cX11_firstUnlike 24 1 25 (.aload_n 0) := ⟨by decide +kernel, rfl⟩
theorem dX11_firstUnlike_25 : dec cX11_firstUnlike 25 3 28 (.getfield 57) := ⟨by decide +kernel, rfl⟩
theorem dX11_firstUnlike_28 : dec cX11_firstUnlike 28 3 31 (.getfield 267) := ⟨by decide +kernel, rfl⟩
theorem dX11_firstUnlike_31 : dec cX11_firstUnlike 31 3 34 (.if_icmp .ge 31) := ⟨by decide +kernel, rfl⟩
theorem dX11_firstUnlike_34 : dec cX11_firstUnlike 34 1 35 (.aload_n 0) := ⟨by decide +kernel, rfl⟩
theorem dX11_firstUnlike_35 : dec cX11_firstUnlike 35 3 38 (.getfield 10) := ⟨by decide +kernel, rfl⟩
theorem dX11_firstUnlike_38 : dec cX11_firstUnlike 38 3 41 (.getfield 399) := ⟨by decide +kernel, rfl⟩
theorem dX11_firstUnlike_41 : dec cX11_firstUnlike 41 1 42 (.iload_n 2) := ⟨by decide +kernel, rfl⟩
theorem dX11_firstUnlike_42 : dec cX11_firstUnlike 42 1 43 (.iaload) := ⟨by decide +kernel, rfl⟩
theorem dX11_firstUnlike_43 : dec cX11_firstUnlike 43 1 44 (.aload_n 0) := ⟨by decide +kernel, rfl⟩
theorem dX11_firstUnlike_44 : dec cX11_firstUnlike 44 3 47 (.getfield 57) := ⟨by decide +kernel, rfl⟩
theorem dX11_firstUnlike_47 : dec cX11_firstUnlike 47 3 50 (.getfield 270) := ⟨by decide +kernel, rfl⟩
theorem dX11_firstUnlike_50 : dec cX11_firstUnlike 50 3 53 (.getfield 276) := ⟨by decide +kernel, rfl⟩
theorem dX11_firstUnlike_53 : dec cX11_firstUnlike 53 1 54 (.iload_n 2) := ⟨by decide +kernel, rfl⟩
theorem dX11_firstUnlike_54 : dec cX11_firstUnlike 54 1 55 (.iaload) := ⟨by decide +kernel, rfl⟩
theorem dX11_firstUnlike_55 : dec cX11_firstUnlike 55 3 58 (.if_icmp .ne 7) := ⟨by decide +kernel, rfl⟩
theorem dX11_firstUnlike_58 : dec cX11_firstUnlike 58 1 59 (.iconst 1) := ⟨by decide +kernel, rfl⟩
theorem dX11_firstUnlike_59 : dec cX11_firstUnlike 59 3 62 (.goto 4) := ⟨by decide +kernel, rfl⟩
theorem dX11_firstUnlike_62 : dec cX11_firstUnlike 62 1 63 (.iconst 0) := ⟨by decide +kernel, rfl⟩
theorem dX11_firstUnlike_63 : dec cX11_firstUnlike 63 1 64 (.istore_n 3) := ⟨by decide +kernel, rfl⟩
theorem dX11_firstUnlike_64 : dec cX11_firstUnlike 64 1 65 (.iload_n 3) := ⟨by decide +kernel, rfl⟩
theorem dX11_firstUnlike_65 : dec cX11_firstUnlike 65 3 68 (.ifCond .ne 5) := ⟨by decide +kernel, rfl⟩
theorem dX11_firstUnlike_68 : dec cX11_firstUnlike 68 1 69 (.iload_n 2) := ⟨by decide +kernel, rfl⟩
theorem dX11_firstUnlike_69 : dec cX11_firstUnlike 69 1 70 (.ireturn) := ⟨by decide +kernel, rfl⟩
theorem dX11_firstUnlike_70 : dec cX11_firstUnlike 70 3 73 (.iinc 2 1) := ⟨by decide +kernel, rfl⟩
theorem dX11_firstUnlike_73 : dec cX11_firstUnlike 73 3 76 (.goto (-71)) := ⟨by decide +kernel, rfl⟩
theorem dX11_firstUnlike_76 : dec cX11_firstUnlike 76 1 77 (.iconst (-1)) := ⟨by decide +kernel, rfl⟩
theorem dX11_firstUnlike_77 : dec cX11_firstUnlike 77 1 78 (.ireturn) := ⟨by decide +kernel, rfl⟩
set_option maxHeartbeats 4000000 in
set_option maxRecDepth 100000 in
theorem tX11_firstUnlike_J63 {X : Cx} {Y : Yx} {M0 : Mem} (hC : OKX X Y RX11 cX11_firstUnlike 4 (some .int) rmX11_firstUnlike) (hF : Y.2.2.2.2 = true) (hL : Lay M0) (Q : Int → Mem → Prop) (C2 : Int → Mem → Prop)  (a0 : Nat) (x1 : Int) (x2 : Int) (xs0 : Int) (qa0 : 0 < a0 ∧ M0 0 a0 = kO 11) (hC2 : ∀ (x2 : Int) (M : Mem), C2 x2 M → WW X Y 4 rmX11_firstUnlike (QI Q) M0 0 0 2 [(0, vR Y.1 a0), (1, vI x1), (2, vI x2)] [] M) (M : Mem) (h : wX11_firstUnlike_J63 Q C2 a0 x1 x2 xs0 M) : WW X Y 4 rmX11_firstUnlike (QI Q) M0 0 0 63 [(0, vR Y.1 a0), (1, vI x1), (2, vI x2)] [vI xs0] M := by
  unfold wX11_firstUnlike_J63 at h
  refine r_istore_n (lv' := [(3, vI xs0), (0, vR Y.1 a0), (1, vI x1), (2, vI x2)]) hC dX11_firstUnlike_63 rfl (by decide) rfl ?_
  refine r_iload_n hC 0 dX11_firstUnlike_64 rfl rfl ?_
  refine r_if_ne hC 70 rfl dX11_firstUnlike_65 (by decide) (fun cq => ?_) (fun cq => ?_)
  · replace h := h.2 cq
    refine let_elim h (fun x2_1 e_2 h => ?_)
    refine r_iinc (lv' := [(2, vI x2_1), (3, vI xs0), (0, vR Y.1 a0), (1, vI x1)]) hC 3 dX11_firstUnlike_70 rfl (by decide) e_2 rfl ?_
    refine r_goto hC 2 dX11_firstUnlike_73 (by decide) ?_
    refine r_sub [2, 3, 0] rfl ?_
    exact hC2 _ _ h
  · replace h := h.1 cq
    refine r_iload_n hC 3 dX11_firstUnlike_68 rfl rfl ?_
    exact r_iret hC (Nat.zero_le _) (Nat.zero_le _) dX11_firstUnlike_69 ⟨_, rfl, h⟩
set_option maxHeartbeats 4000000 in
set_option maxRecDepth 100000 in
theorem tX11_firstUnlike_J62 {X : Cx} {Y : Yx} {M0 : Mem} (hC : OKX X Y RX11 cX11_firstUnlike 4 (some .int) rmX11_firstUnlike) (hF : Y.2.2.2.2 = true) (hL : Lay M0) (Q : Int → Mem → Prop) (C2 : Int → Mem → Prop)  (a0 : Nat) (x1 : Int) (x2 : Int) (qa0 : 0 < a0 ∧ M0 0 a0 = kO 11) (hC2 : ∀ (x2 : Int) (M : Mem), C2 x2 M → WW X Y 4 rmX11_firstUnlike (QI Q) M0 0 0 2 [(0, vR Y.1 a0), (1, vI x1), (2, vI x2)] [] M) (M : Mem) (h : wX11_firstUnlike_J62 Q C2 a0 x1 x2 M) : WW X Y 4 rmX11_firstUnlike (QI Q) M0 0 0 62 [(0, vR Y.1 a0), (1, vI x1), (2, vI x2)] [] M := by
  unfold wX11_firstUnlike_J62 at h
  refine r_iconst hC dX11_firstUnlike_62 ?_
  refine r_sub [0, 1, 2] rfl ?_
  exact tX11_firstUnlike_J63 hC hF hL Q _  _ _ _ _ qa0 hC2 _ h
set_option maxHeartbeats 4000000 in
set_option maxRecDepth 100000 in
theorem tX11_firstUnlike_J18 {X : Cx} {Y : Yx} {M0 : Mem} (hC : OKX X Y RX11 cX11_firstUnlike 4 (some .int) rmX11_firstUnlike) (hF : Y.2.2.2.2 = true) (hL : Lay M0) (Q : Int → Mem → Prop) (C2 : Int → Mem → Prop)  (a0 : Nat) (x1 : Int) (x2 : Int) (qa0 : 0 < a0 ∧ M0 0 a0 = kO 11) (hC2 : ∀ (x2 : Int) (M : Mem), C2 x2 M → WW X Y 4 rmX11_firstUnlike (QI Q) M0 0 0 2 [(0, vR Y.1 a0), (1, vI x1), (2, vI x2)] [] M) (M : Mem) (h : wX11_firstUnlike_J18 Q C2 a0 x1 x2 M) : WW X Y 4 rmX11_firstUnlike (QI Q) M0 0 0 18 [(0, vR Y.1 a0), (1, vI x1), (2, vI x2)] [] M := by
  unfold wX11_firstUnlike_J18 at h
  refine r_iload_n hC 2 dX11_firstUnlike_18 rfl rfl ?_
  refine r_iload_n hC 1 dX11_firstUnlike_19 rfl rfl ?_
  refine r_icmp_ge hC 62 rfl rfl dX11_firstUnlike_20 (by decide) (fun cq => ?_) (fun cq => ?_)
  · replace h := h.1 cq
    refine r_sub [0, 1, 2] rfl ?_
    exact tX11_firstUnlike_J62 hC hF hL Q _  _ _ _ qa0 hC2 _ h
  · replace h := h.2 cq
    refine r_iload_n hC 2 dX11_firstUnlike_23 rfl rfl ?_
    refine r_aload_n hC 0 dX11_firstUnlike_24 rfl rfl ?_
    have q_3 : 0 < a0 + 102 ∧ M0 0 (a0 + 102) = kO 6 := lay_f0 (a := a0) hL qa0 fm_11_8
    refine r_getR0 (a' := a0 + 102) hC fg_X11_57 rfl hF fm_11_8 qa0.1 qa0.2 rfl dX11_firstUnlike_25 ?_
    refine r_getI hC fg_X11_267 rfl q_3.1 q_3.2 dX11_firstUnlike_28 ?_
    refine r_icmp_ge hC 62 rfl rfl dX11_firstUnlike_31 (by decide) (fun cq => ?_) (fun cq => ?_)
    · replace h := h.1 cq
      refine r_sub [0, 1, 2] rfl ?_
      exact tX11_firstUnlike_J62 hC hF hL Q _  _ _ _ qa0 hC2 _ h
    · replace h := h.2 cq
      refine r_aload_n hC 0 dX11_firstUnlike_34 rfl rfl ?_
      have q_4 : 0 < a0 + 1 ∧ M0 0 (a0 + 1) = kO 0 := lay_f0 (a := a0) hL qa0 fm_11_0
      refine r_getR0 (a' := a0 + 1) hC fg_X11_10 rfl hF fm_11_0 qa0.1 qa0.2 rfl dX11_firstUnlike_35 ?_
      have q_5 : 0 < a0 + 9 ∧ M0 0 (a0 + 9) = kA 0 12 := lay_f0 (a := a0 + 1) hL q_4 fm_0_12
      refine r_getR0 (a' := a0 + 9) hC fg_X11_399 rfl hF fm_0_12 q_4.1 q_4.2 rfl dX11_firstUnlike_38 ?_
      refine r_iload_n hC 2 dX11_firstUnlike_41 rfl rfl ?_
      obtain ⟨i_6, h⟩ := h
      refine r_iald hC i_6 q_5.1 q_5.2 (by decide) dX11_firstUnlike_42 ?_
      refine r_aload_n hC 0 dX11_firstUnlike_43 rfl rfl ?_
      have q_7 : 0 < a0 + 102 ∧ M0 0 (a0 + 102) = kO 6 := lay_f0 (a := a0) hL qa0 fm_11_8
      refine r_getR0 (a' := a0 + 102) hC fg_X11_57 rfl hF fm_11_8 qa0.1 qa0.2 rfl dX11_firstUnlike_44 ?_
      have q_8 : 0 < a0 + 104 ∧ M0 0 (a0 + 104) = kO 5 := lay_f0 (a := a0 + 102) hL q_7 fm_6_11
      refine r_getR0 (a' := a0 + 104) hC fg_X11_270 rfl hF fm_6_11 q_7.1 q_7.2 rfl dX11_firstUnlike_47 ?_
      have q_9 : 0 < a0 + 105 ∧ M0 0 (a0 + 105) = kA 0 12 := lay_f0 (a := a0 + 104) hL q_8 fm_5_0
      refine r_getR0 (a' := a0 + 105) hC fg_X11_276 rfl hF fm_5_0 q_8.1 q_8.2 rfl dX11_firstUnlike_50 ?_
      refine r_iload_n hC 2 dX11_firstUnlike_53 rfl rfl ?_
      obtain ⟨i_10, h⟩ := h
      refine r_iald hC i_10 q_9.1 q_9.2 (by decide) dX11_firstUnlike_54 ?_
      refine r_icmp_ne hC 62 rfl rfl dX11_firstUnlike_55 (by decide) (fun cq => ?_) (fun cq => ?_)
      · replace h := h.2 cq
        refine r_sub [0, 1, 2] rfl ?_
        exact tX11_firstUnlike_J62 hC hF hL Q _  _ _ _ qa0 hC2 _ h
      · replace h := h.1 cq
        refine r_iconst hC dX11_firstUnlike_58 ?_
        refine r_goto hC 63 dX11_firstUnlike_59 (by decide) ?_
        refine r_sub [0, 1, 2] rfl ?_
        exact tX11_firstUnlike_J63 hC hF hL Q _  _ _ _ _ qa0 hC2 _ h
set_option maxHeartbeats 4000000 in
set_option maxRecDepth 100000 in
theorem tX11_firstUnlike_L2 {X : Cx} {Y : Yx} {M0 : Mem} (hC : OKX X Y RX11 cX11_firstUnlike 4 (some .int) rmX11_firstUnlike) (hF : Y.2.2.2.2 = true) (hL : Lay M0) (Q : Int → Mem → Prop)  (a0 : Nat) (x1 : Int) (qa0 : 0 < a0 ∧ M0 0 a0 = kO 11)  : ∀ (N : Nat) (x2 : Int) (M : Mem) (_ : wX11_firstUnlike_L2 Q  a0 x1 N x2 M), WW X Y 4 rmX11_firstUnlike (QI Q) M0 0 0 2 [(0, vR Y.1 a0), (1, vI x1), (2, vI x2)] [] M := by
  intro N
  induction N with
  | zero =>
    intro x2 M h
    exact h.elim
  | succ N ih =>
    intro x2 M h
    unfold wX11_firstUnlike_L2 at h
    refine r_iload_n hC 2 dX11_firstUnlike_2 rfl rfl ?_
    refine r_iload_n hC 1 dX11_firstUnlike_3 rfl rfl ?_
    refine r_icmp_lt hC 18 rfl rfl dX11_firstUnlike_4 (by decide) (fun cq => ?_) (fun cq => ?_)
    · replace h := h.1 cq
      refine r_sub [0, 1, 2] rfl ?_
      exact tX11_firstUnlike_J18 hC hF hL Q _  _ _ _ qa0 ih _ h
    · replace h := h.2 cq
      refine r_iload_n hC 2 dX11_firstUnlike_7 rfl rfl ?_
      refine r_aload_n hC 0 dX11_firstUnlike_8 rfl rfl ?_
      have q_11 : 0 < a0 + 102 ∧ M0 0 (a0 + 102) = kO 6 := lay_f0 (a := a0) hL qa0 fm_11_8
      refine r_getR0 (a' := a0 + 102) hC fg_X11_57 rfl hF fm_11_8 qa0.1 qa0.2 rfl dX11_firstUnlike_9 ?_
      refine r_getI hC fg_X11_267 rfl q_11.1 q_11.2 dX11_firstUnlike_12 ?_
      refine r_icmp_ge hC 76 rfl rfl dX11_firstUnlike_15 (by decide) (fun cq => ?_) (fun cq => ?_)
      · replace h := h.1 cq
        refine r_iconst hC dX11_firstUnlike_76 ?_
        exact r_iret hC (Nat.zero_le _) (Nat.zero_le _) dX11_firstUnlike_77 ⟨_, rfl, h⟩
      · replace h := h.2 cq
        refine r_sub [0, 1, 2] rfl ?_
        exact tX11_firstUnlike_J18 hC hF hL Q _  _ _ _ qa0 ih _ h
set_option maxHeartbeats 4000000 in
set_option maxRecDepth 100000 in
theorem mX11_firstUnlike (Y : Yx) (hF : Y.2.2.2.2 = true) (l : Launch) (a0 : Nat) (x1 : Int) (M0 : Mem) (Q : Int → Mem → Prop) (qa0 : 0 < a0 ∧ M0 0 a0 = kO 11) (h : wX11_firstUnlike a0 x1 M0 Q) : CT Y l yX11_firstUnlike cX11_firstUnlike 4 (some .int) rmX11_firstUnlike [vR Y.1 a0, vI x1] M0 (QI Q) := by
  unfold wX11_firstUnlike at h
  refine ct_intro (by decide) (Nat.le_of_ble_eq_true rfl) ?_
  intro X hXl hC hL0
  have hL := hL0 hF
  change OKX X Y RX11 cX11_firstUnlike 4 (some .int) rmX11_firstUnlike at hC
  change WW X Y 4 rmX11_firstUnlike (QI Q) M0 0 0 0 [(0, vR Y.1 a0), (1, vI x1)] [] M0
  refine r_iconst hC dX11_firstUnlike_0 ?_
  refine r_istore_n (lv' := [(2, vI 0), (0, vR Y.1 a0), (1, vI x1)]) hC dX11_firstUnlike_1 rfl (by decide) rfl ?_
  refine r_sub [1, 2, 0] rfl ?_
  obtain ⟨N_12, h⟩ := h
  refine tX11_firstUnlike_L2 hC hF hL Q  _ _ qa0  N_12 _ _ h
theorem dX11_check_0 : dec cX11_check 0 1 1 (.aload_n 0) := ⟨by decide +kernel, rfl⟩
theorem dX11_check_1 : dec cX11_check 1 3 4 (.getfield 10) := ⟨by decide +kernel, rfl⟩
theorem dX11_check_4 : dec cX11_check 4 3 7 (.getfield 396) := ⟨by decide +kernel, rfl⟩
theorem dX11_check_7 : dec cX11_check 7 1 8 (.istore_n 2) := ⟨by decide +kernel, rfl⟩
theorem dX11_check_8 : dec cX11_check 8 1 9 (.aload_n 0) := ⟨by decide +kernel, rfl⟩
theorem dX11_check_9 : dec cX11_check 9 3 12 (.getfield 10) := ⟨by decide +kernel, rfl⟩
theorem dX11_check_12 : dec cX11_check 12 1 13 (.iconst 0) := ⟨by decide +kernel, rfl⟩
theorem dX11_check_13 : dec cX11_check 13 3 16 (.putfield 396) := ⟨by decide +kernel, rfl⟩
theorem dX11_check_16 : dec cX11_check 16 1 17 (.aload_n 0) := ⟨by decide +kernel, rfl⟩
theorem dX11_check_17 : dec cX11_check 17 1 18 (.iload_n 1) := ⟨by decide +kernel, rfl⟩
theorem dX11_check_18 : dec cX11_check 18 1 19 (.iconst 1) := ⟨by decide +kernel, rfl⟩
theorem dX11_check_19 : dec cX11_check 19 3 22 (.invokevirtual 260) := ⟨by decide +kernel, rfl⟩
theorem dX11_check_22 : dec cX11_check 22 1 23 (.istore_n 3) := ⟨by decide +kernel, rfl⟩
theorem dX11_check_23 : dec cX11_check 23 1 24 (.iload_n 3) := ⟨by decide +kernel, rfl⟩
theorem dX11_check_24 : dec cX11_check 24 3 27 (.ifCond .ne 15) := ⟨by decide +kernel, rfl⟩
theorem dX11_check_27 : dec cX11_check 27 1 28 (.aload_n 0) := ⟨by decide +kernel, rfl⟩
theorem dX11_check_28 : dec cX11_check 28 3 31 (.getfield 57) := ⟨by decide +kernel, rfl⟩
theorem dX11_check_31 : dec cX11_check 31 3 34 (.getfield 264) := ⟨by decide +kernel, rfl⟩
theorem dX11_check_34 : dec cX11_check 34 3 37 (.ifCond .ne 5) := ⟨by decide +kernel, rfl⟩
theorem dX11_check_37 : dec cX11_check 37 1 38 (.iconst 2) := ⟨by decide +kernel, rfl⟩
theorem dX11_check_38 : dec cX11_check 38 1 39 (.istore_n 3) := ⟨by decide +kernel, rfl⟩
theorem dX11_check_39 : dec cX11_check 39 1 40 (.iload_n 3) := ⟨by decide +kernel, rfl⟩
theorem dX11_check_40 : dec cX11_check 40 3 43 (.ifCond .eq 11) := ⟨by decide +kernel, rfl⟩
theorem dX11_check_43 : dec cX11_check 43 1 44 (.aload_n 0) := ⟨by decide +kernel, rfl⟩
theorem dX11_check_44 : dec cX11_check 44 1 45 (.iload_n 3) := ⟨by decide +kernel, rfl⟩
theorem dX11_check_45 : dec cX11_check 45 3 48 (.invokevirtual 91) := ⟨by decide +kernel, rfl⟩
theorem dX11_check_48 : dec cX11_check 48 3 51 (.goto 10) := ⟨by decide +kernel, rfl⟩
theorem dX11_check_51 : dec cX11_check 51 1 52 (.iconst 1) := ⟨by decide +kernel, rfl⟩
theorem dX11_check_52 : dec cX11_check 52 1 53 (.aload_n 0) := ⟨by decide +kernel, rfl⟩
theorem dX11_check_53 : dec cX11_check 53 1 54 (.iload_n 2) := ⟨by decide +kernel, rfl⟩
theorem dX11_check_54 : dec cX11_check 54 3 57 (.invokevirtual 402) := ⟨by decide +kernel, rfl⟩
theorem dX11_check_57 : dec cX11_check 57 1 58 (.iadd) := ⟨by decide +kernel, rfl⟩
theorem dX11_check_58 : dec cX11_check 58 1 59 (.ireturn) := ⟨by decide +kernel, rfl⟩
set_option maxHeartbeats 4000000 in
set_option maxRecDepth 100000 in
theorem tX11_check_J39 {X : Cx} {Y : Yx} {M0 : Mem} (hC : OKX X Y RX11 cX11_check 4 (some .int) rmX11_check) (hF : Y.2.2.2.2 = true) (hL : Lay M0) (Q : Int → Mem → Prop)   (a0 : Nat) (x2 : Int) (x3 : Int) (qa0 : 0 < a0 ∧ M0 0 a0 = kO 11)  (M : Mem) (h : wX11_check_J39 Q  a0 x2 x3 M) : WW X Y 4 rmX11_check (QI Q) M0 0 0 39 [(0, vR Y.1 a0), (2, vI x2), (3, vI x3)] [] M := by
  unfold wX11_check_J39 at h
  refine r_iload_n hC 2 dX11_check_39 rfl rfl ?_
  refine r_if_eq hC 51 rfl dX11_check_40 (by decide) (fun cq => ?_) (fun cq => ?_)
  · replace h := h.1 cq
    refine r_iconst hC dX11_check_51 ?_
    refine r_aload_n hC 0 dX11_check_52 rfl rfl ?_
    refine r_iload_n hC 1 dX11_check_53 rfl rfl ?_
    refine r_callV (As := [vI x2]) (st := [vI 1]) hC cw_X11_402 rfl qa0.1 qa0.2 rfl rfl (Nat.le_of_ble_eq_true rfl) ⟨Nat.le_of_ble_eq_true rfl, Nat.le_of_ble_eq_true rfl⟩ ⟨Nat.le_of_ble_eq_true rfl, Nat.le_of_ble_eq_true rfl⟩ dX11_check_54 (fun hk => mX11_firstUnlike Y hF _ _ _ _ _ (kqO hk qa0) h) (fun v M_7 h => ?_)
    obtain ⟨r_8, rfl, h⟩ := h
    refine r_iadd hC dX11_check_57 ?_
    exact r_iret hC (Nat.zero_le _) (Nat.zero_le _) dX11_check_58 ⟨_, rfl, h⟩
  · replace h := h.2 cq
    refine r_aload_n hC 0 dX11_check_43 rfl rfl ?_
    refine r_iload_n hC 2 dX11_check_44 rfl rfl ?_
    refine r_callV (As := [vI x3]) (st := []) hC cw_X11_91 rfl qa0.1 qa0.2 rfl rfl (Nat.le_of_ble_eq_true rfl) ⟨Nat.le_of_ble_eq_true rfl, Nat.le_of_ble_eq_true rfl⟩ ⟨Nat.le_of_ble_eq_true rfl, Nat.le_of_ble_eq_true rfl⟩ dX11_check_45 (fun hk => mX11_error Y hF _ _ _ _ _ (kqO hk qa0) h) (fun v M_9 h => ?_)
    obtain ⟨r_10, rfl, h⟩ := h
    refine r_goto hC 58 dX11_check_48 (by decide) ?_
    exact r_iret hC (Nat.zero_le _) (Nat.zero_le _) dX11_check_58 ⟨_, rfl, h⟩
set_option maxHeartbeats 4000000 in
set_option maxRecDepth 100000 in
theorem mX11_check (Y : Yx) (hF : Y.2.2.2.2 = true) (l : Launch) (a0 : Nat) (x1 : Int) (M0 : Mem) (Q : Int → Mem → Prop) (qa0 : 0 < a0 ∧ M0 0 a0 = kO 11) (h : wX11_check a0 x1 M0 Q) : CT Y l yX11_check cX11_check 4 (some .int) rmX11_check [vR Y.1 a0, vI x1] M0 (QI Q) := by
  unfold wX11_check at h
  refine ct_intro (by decide) (Nat.le_of_ble_eq_true rfl) ?_
  intro X hXl hC hL0
  have hL := hL0 hF
  change OKX X Y RX11 cX11_check 4 (some .int) rmX11_check at hC
  change WW X Y 4 rmX11_check (QI Q) M0 0 0 0 [(0, vR Y.1 a0), (1, vI x1)] [] M0
  refine r_aload_n hC 0 dX11_check_0 rfl rfl ?_
  have q_1 : 0 < a0 + 1 ∧ M0 0 (a0 + 1) = kO 0 := lay_f0 (a := a0) hL qa0 fm_11_0
  refine r_getR0 (a' := a0 + 1) hC fg_X11_10 rfl hF fm_11_0 qa0.1 qa0.2 rfl dX11_check_1 ?_
  refine r_getI hC fg_X11_396 rfl q_1.1 q_1.2 dX11_check_4 ?_
  refine r_nameI h (fun x2_2 h => ?_)
  refine r_istore_n (lv' := [(2, vI x2_2), (0, vR Y.1 a0), (1, vI x1)]) hC dX11_check_7 rfl (by decide) rfl ?_
  refine r_aload_n hC 1 dX11_check_8 rfl rfl ?_
  have q_3 : 0 < a0 + 1 ∧ M0 0 (a0 + 1) = kO 0 := lay_f0 (a := a0) hL qa0 fm_11_0
  refine r_getR0 (a' := a0 + 1) hC fg_X11_10 rfl hF fm_11_0 qa0.1 qa0.2 rfl dX11_check_9 ?_
  refine r_iconst hC dX11_check_12 ?_
  refine r_putI hC fp_X11_396 rfl q_3.1 q_3.2 dX11_check_13 ?_
  refine r_nameM h (fun M_4 h => ?_)
  refine r_aload_n hC 1 dX11_check_16 rfl rfl ?_
  refine r_iload_n hC 2 dX11_check_17 rfl rfl ?_
  refine r_iconst hC dX11_check_18 ?_
  refine r_callV (As := [vI x1, vI 1]) (st := []) hC cw_X11_260 rfl qa0.1 qa0.2 rfl rfl (Nat.le_of_ble_eq_true rfl) ⟨Nat.le_of_ble_eq_true rfl, Nat.le_of_ble_eq_true rfl⟩ ⟨Nat.le_of_ble_eq_true rfl, Nat.le_of_ble_eq_true rfl⟩ dX11_check_19 (fun hk => mX11_searchFault Y hF _ _ _ _ _ _ (kqO hk qa0) h) (fun v M_5 h => ?_)
  obtain ⟨r_6, rfl, h⟩ := h
  refine r_istore_n (lv' := [(3, vI r_6), (2, vI x2_2), (0, vR Y.1 a0), (1, vI x1)]) hC dX11_check_22 rfl (by decide) rfl ?_
  refine r_iload_n hC 0 dX11_check_23 rfl rfl ?_
  refine r_if_ne hC 39 rfl dX11_check_24 (by decide) (fun cq => ?_) (fun cq => ?_)
  · replace h := h.2 cq
    refine r_sub [2, 1, 0] rfl ?_
    exact tX11_check_J39 hC hF hL Q   _ _ _ qa0  _ h
  · replace h := h.1 cq
    refine r_aload_n hC 2 dX11_check_27 rfl rfl ?_
    have q_11 : 0 < a0 + 102 ∧ M0 0 (a0 + 102) = kO 6 := lay_f0 (a := a0) hL qa0 fm_11_8
    refine r_getR0 (a' := a0 + 102) hC fg_X11_57 rfl hF fm_11_8 qa0.1 qa0.2 rfl dX11_check_28 ?_
    refine r_getI hC fg_X11_264 rfl q_11.1 q_11.2 dX11_check_31 ?_
    refine r_if_ne hC 39 rfl dX11_check_34 (by decide) (fun cq => ?_) (fun cq => ?_)
    · replace h := h.2 cq
      refine r_sub [2, 1, 0] rfl ?_
      exact tX11_check_J39 hC hF hL Q   _ _ _ qa0  _ h
    · replace h := h.1 cq
      refine r_iconst hC dX11_check_37 ?_
      refine r_istore_n (lv' := [(3, vI 2), (2, vI x2_2), (0, vR Y.1 a0), (1, vI x1)]) hC dX11_check_38 rfl (by decide) rfl ?_
      refine r_sub [2, 1, 0] rfl ?_
      exact tX11_check_J39 hC hF hL Q   _ _ _ qa0  _ h
theorem dX11_count_0 : dec cX11_count 0 1 1 (.iload_n 1) := ⟨by decide +kernel, rfl⟩
theorem dX11_count_1 : dec cX11_count 1 47 48 (.tableswitch 114 0 7 #[47, 55, 63, 74, 82, 90, 98, 106]) := ⟨by decide +kernel, rfl⟩
theorem dX11_count_48 : dec cX11_count 48 1 49 (.aload_n 0) := ⟨by decide +kernel, rfl⟩
theorem dX11_count_49 : dec cX11_count 49 3 52 (.getfield 10) := ⟨by decide +kernel, rfl⟩
theorem dX11_count_52 : dec cX11_count 52 3 55 (.getfield 95) := ⟨by decide +kernel, rfl⟩
theorem dX11_count_55 : dec cX11_count 55 1 56 (.ireturn) := ⟨by decide +kernel, rfl⟩
theorem dX11_count_56 : dec cX11_count 56 1 57 (.aload_n 0) := ⟨by decide +kernel, rfl⟩
theorem dX11_count_57 : dec cX11_count 57 3 60 (.getfield 10) := ⟨by decide +kernel, rfl⟩
theorem dX11_count_60 : dec cX11_count 60 3 63 (.getfield 131) := ⟨by decide +kernel, rfl⟩
theorem dX11_count_63 : dec cX11_count 63 1 64 (.ireturn) := ⟨by decide +kernel, rfl⟩
theorem dX11_count_64 : dec cX11_count 64 1 65 (.aload_n 0) := ⟨by decide +kernel, rfl⟩
theorem dX11_count_65 : dec cX11_count 65 3 68 (.getfield 10) := ⟨by decide +kernel, rfl⟩
theorem dX11_count_68 : dec cX11_count 68 3 71 (.invokevirtual 217) := ⟨by decide +kernel, rfl⟩
theorem dX11_count_71 : dec cX11_count 71 3 74 (.invokestatic 295) := ⟨by decide +kernel, rfl⟩
theorem dX11_count_74 : dec cX11_count 74 1 75 (.ireturn) := ⟨by decide +kernel, rfl⟩
theorem dX11_count_75 : dec cX11_count 75 1 76 (.aload_n 0) := ⟨by decide +kernel, rfl⟩
theorem dX11_count_76 : dec cX11_count 76 3 79 (.getfield 10) := ⟨by decide +kernel, rfl⟩
theorem dX11_count_79 : dec cX11_count 79 3 82 (.getfield 161) := ⟨by decide +kernel, rfl⟩
theorem dX11_count_82 : dec cX11_count 82 1 83 (.ireturn) := ⟨by decide +kernel, rfl⟩
theorem dX11_count_83 : dec cX11_count 83 1 84 (.aload_n 0) := ⟨by decide +kernel, rfl⟩
theorem dX11_count_84 : dec cX11_count 84 3 87 (.getfield 10) := ⟨by decide +kernel, rfl⟩
theorem dX11_count_87 : dec cX11_count 87 3 90 (.getfield 341) := ⟨by decide +kernel, rfl⟩
theorem dX11_count_90 : dec cX11_count 90 1 91 (.ireturn) := ⟨by decide +kernel, rfl⟩
theorem dX11_count_91 : dec cX11_count 91 1 92 (.aload_n 0) := ⟨by decide +kernel, rfl⟩
theorem dX11_count_92 : dec cX11_count 92 3 95 (.getfield 10) := ⟨by decide +kernel, rfl⟩
theorem dX11_count_95 : dec cX11_count 95 3 98 (.getfield 182) := ⟨by decide +kernel, rfl⟩
theorem dX11_count_98 : dec cX11_count 98 1 99 (.ireturn) := ⟨by decide +kernel, rfl⟩
theorem dX11_count_99 : dec cX11_count 99 1 100 (.aload_n 0) := ⟨by decide +kernel, rfl⟩
theorem dX11_count_100 : dec cX11_count 100 3 103 (.getfield 10) := ⟨by decide +kernel, rfl⟩
theorem dX11_count_103 : dec cX11_count 103 3 106 (.getfield 396) := ⟨by decide +kernel, rfl⟩
theorem dX11_count_106 : dec cX11_count 106 1 107 (.ireturn) := ⟨by decide +kernel, rfl⟩
theorem dX11_count_107 : dec cX11_count 107 1 108 (.aload_n 0) := ⟨by decide +kernel, rfl⟩
theorem dX11_count_108 : dec cX11_count 108 3 111 (.getfield 78) := ⟨by decide +kernel, rfl⟩
theorem dX11_count_111 : dec cX11_count 111 3 114 (.getfield 367) := ⟨by decide +kernel, rfl⟩
theorem dX11_count_114 : dec cX11_count 114 1 115 (.ireturn) := ⟨by decide +kernel, rfl⟩
theorem dX11_count_115 : dec cX11_count 115 1 116 (.aload_n 0) := ⟨by decide +kernel, rfl⟩
theorem dX11_count_116 : dec cX11_count 116 1 117 (.iconst 1) := ⟨by decide +kernel, rfl⟩
theorem dX11_count_117 : dec cX11_count 117 3 120 (.invokevirtual 91) := ⟨by decide +kernel, rfl⟩
theorem dX11_count_120 : dec cX11_count 120 1 121 (.ireturn) := ⟨by decide +kernel, rfl⟩
set_option maxHeartbeats 4000000 in
set_option maxRecDepth 100000 in
theorem mX11_count (Y : Yx) (hF : Y.2.2.2.2 = true) (l : Launch) (a0 : Nat) (x1 : Int) (M0 : Mem) (Q : Int → Mem → Prop) (qa0 : 0 < a0 ∧ M0 0 a0 = kO 11) (h : wX11_count a0 x1 M0 Q) : CT Y l yX11_count cX11_count 2 (some .int) rmX11_count [vR Y.1 a0, vI x1] M0 (QI Q) := by
  unfold wX11_count at h
  refine ct_intro (by decide) (Nat.le_of_ble_eq_true rfl) ?_
  intro X hXl hC hL0
  have hL := hL0 hF
  change OKX X Y RX11 cX11_count 2 (some .int) rmX11_count at hC
  change WW X Y 2 rmX11_count (QI Q) M0 0 0 0 [(0, vR Y.1 a0), (1, vI x1)] [] M0
  refine r_iload_n hC 1 dX11_count_0 rfl rfl ?_
  by_cases c0 : bm x1 = 0
  · replace h := h.1 c0
    refine r_tabIn hC 48 0 dX11_count_1 c0 (by decide) (by decide) rfl (by decide) ?_
    refine r_aload_n hC 0 dX11_count_48 rfl rfl ?_
    have q_1 : 0 < a0 + 1 ∧ M0 0 (a0 + 1) = kO 0 := lay_f0 (a := a0) hL qa0 fm_11_0
    refine r_getR0 (a' := a0 + 1) hC fg_X11_10 rfl hF fm_11_0 qa0.1 qa0.2 rfl dX11_count_49 ?_
    refine r_getI hC fg_X11_95 rfl q_1.1 q_1.2 dX11_count_52 ?_
    exact r_iret hC (Nat.zero_le _) (Nat.zero_le _) dX11_count_55 ⟨_, rfl, h⟩
  · replace h := h.2 c0
    by_cases c1 : bm x1 = 1
    · replace h := h.1 c1
      refine r_tabIn hC 56 1 dX11_count_1 c1 (by decide) (by decide) rfl (by decide) ?_
      refine r_aload_n hC 0 dX11_count_56 rfl rfl ?_
      have q_2 : 0 < a0 + 1 ∧ M0 0 (a0 + 1) = kO 0 := lay_f0 (a := a0) hL qa0 fm_11_0
      refine r_getR0 (a' := a0 + 1) hC fg_X11_10 rfl hF fm_11_0 qa0.1 qa0.2 rfl dX11_count_57 ?_
      refine r_getI hC fg_X11_131 rfl q_2.1 q_2.2 dX11_count_60 ?_
      exact r_iret hC (Nat.zero_le _) (Nat.zero_le _) dX11_count_63 ⟨_, rfl, h⟩
    · replace h := h.2 c1
      by_cases c2 : bm x1 = 2
      · replace h := h.1 c2
        refine r_tabIn hC 64 2 dX11_count_1 c2 (by decide) (by decide) rfl (by decide) ?_
        refine r_aload_n hC 0 dX11_count_64 rfl rfl ?_
        have q_3 : 0 < a0 + 1 ∧ M0 0 (a0 + 1) = kO 0 := lay_f0 (a := a0) hL qa0 fm_11_0
        refine r_getR0 (a' := a0 + 1) hC fg_X11_10 rfl hF fm_11_0 qa0.1 qa0.2 rfl dX11_count_65 ?_
        refine r_callV (As := []) (st := []) hC cw_X11_217 rfl q_3.1 q_3.2 rfl rfl (Nat.le_of_ble_eq_true rfl) ⟨Nat.le_of_ble_eq_true rfl, Nat.le_of_ble_eq_true rfl⟩ ⟨Nat.le_of_ble_eq_true rfl, Nat.le_of_ble_eq_true rfl⟩ dX11_count_68 (fun hk => mX0_likingsOn Y hF _ _ _ _ (kqO hk q_3) h) (fun v M_4 h => ?_)
        obtain ⟨r_5, rfl, h⟩ := h
        refine r_callS (As := [vI r_5]) (st := []) hC cw_X11_295 rfl rfl (Nat.le_of_ble_eq_true rfl) ⟨Nat.le_of_ble_eq_true rfl, Nat.le_of_ble_eq_true rfl⟩ ⟨Nat.le_of_ble_eq_true rfl, Nat.le_of_ble_eq_true rfl⟩ dX11_count_71 (fun hk => mJ6_bitCount_0f7a4 Y hF _ _ _ _  h) (fun v M_6 h => ?_)
        obtain ⟨r_7, rfl, h⟩ := h
        exact r_iret hC (Nat.zero_le _) (Nat.zero_le _) dX11_count_74 ⟨_, rfl, h⟩
      · replace h := h.2 c2
        by_cases c3 : bm x1 = 3
        · replace h := h.1 c3
          refine r_tabIn hC 75 3 dX11_count_1 c3 (by decide) (by decide) rfl (by decide) ?_
          refine r_aload_n hC 0 dX11_count_75 rfl rfl ?_
          have q_8 : 0 < a0 + 1 ∧ M0 0 (a0 + 1) = kO 0 := lay_f0 (a := a0) hL qa0 fm_11_0
          refine r_getR0 (a' := a0 + 1) hC fg_X11_10 rfl hF fm_11_0 qa0.1 qa0.2 rfl dX11_count_76 ?_
          refine r_getI hC fg_X11_161 rfl q_8.1 q_8.2 dX11_count_79 ?_
          exact r_iret hC (Nat.zero_le _) (Nat.zero_le _) dX11_count_82 ⟨_, rfl, h⟩
        · replace h := h.2 c3
          by_cases c4 : bm x1 = 4
          · replace h := h.1 c4
            refine r_tabIn hC 83 4 dX11_count_1 c4 (by decide) (by decide) rfl (by decide) ?_
            refine r_aload_n hC 0 dX11_count_83 rfl rfl ?_
            have q_9 : 0 < a0 + 1 ∧ M0 0 (a0 + 1) = kO 0 := lay_f0 (a := a0) hL qa0 fm_11_0
            refine r_getR0 (a' := a0 + 1) hC fg_X11_10 rfl hF fm_11_0 qa0.1 qa0.2 rfl dX11_count_84 ?_
            refine r_getI hC fg_X11_341 rfl q_9.1 q_9.2 dX11_count_87 ?_
            exact r_iret hC (Nat.zero_le _) (Nat.zero_le _) dX11_count_90 ⟨_, rfl, h⟩
          · replace h := h.2 c4
            by_cases c5 : bm x1 = 5
            · replace h := h.1 c5
              refine r_tabIn hC 91 5 dX11_count_1 c5 (by decide) (by decide) rfl (by decide) ?_
              refine r_aload_n hC 0 dX11_count_91 rfl rfl ?_
              have q_10 : 0 < a0 + 1 ∧ M0 0 (a0 + 1) = kO 0 := lay_f0 (a := a0) hL qa0 fm_11_0
              refine r_getR0 (a' := a0 + 1) hC fg_X11_10 rfl hF fm_11_0 qa0.1 qa0.2 rfl dX11_count_92 ?_
              refine r_getI hC fg_X11_182 rfl q_10.1 q_10.2 dX11_count_95 ?_
              exact r_iret hC (Nat.zero_le _) (Nat.zero_le _) dX11_count_98 ⟨_, rfl, h⟩
            · replace h := h.2 c5
              by_cases c6 : bm x1 = 6
              · replace h := h.1 c6
                refine r_tabIn hC 99 6 dX11_count_1 c6 (by decide) (by decide) rfl (by decide) ?_
                refine r_aload_n hC 0 dX11_count_99 rfl rfl ?_
                have q_11 : 0 < a0 + 1 ∧ M0 0 (a0 + 1) = kO 0 := lay_f0 (a := a0) hL qa0 fm_11_0
                refine r_getR0 (a' := a0 + 1) hC fg_X11_10 rfl hF fm_11_0 qa0.1 qa0.2 rfl dX11_count_100 ?_
                refine r_getI hC fg_X11_396 rfl q_11.1 q_11.2 dX11_count_103 ?_
                exact r_iret hC (Nat.zero_le _) (Nat.zero_le _) dX11_count_106 ⟨_, rfl, h⟩
              · replace h := h.2 c6
                by_cases c7 : bm x1 = 7
                · replace h := h.1 c7
                  refine r_tabIn hC 107 7 dX11_count_1 c7 (by decide) (by decide) rfl (by decide) ?_
                  refine r_aload_n hC 0 dX11_count_107 rfl rfl ?_
                  have q_12 : 0 < a0 + 113 ∧ M0 0 (a0 + 113) = kO 9 := lay_f0 (a := a0) hL qa0 fm_11_11
                  refine r_getR0 (a' := a0 + 113) hC fg_X11_78 rfl hF fm_11_11 qa0.1 qa0.2 rfl dX11_count_108 ?_
                  refine r_getI hC fg_X11_367 rfl q_12.1 q_12.2 dX11_count_111 ?_
                  exact r_iret hC (Nat.zero_le _) (Nat.zero_le _) dX11_count_114 ⟨_, rfl, h⟩
                · replace h := h.2 c7
                  refine r_tabOut hC 115 dX11_count_1 (by omega) (by decide) ?_
                  refine r_aload_n hC 0 dX11_count_115 rfl rfl ?_
                  refine r_iconst hC dX11_count_116 ?_
                  refine r_callV (As := [vI 1]) (st := []) hC cw_X11_91 rfl qa0.1 qa0.2 rfl rfl (Nat.le_of_ble_eq_true rfl) ⟨Nat.le_of_ble_eq_true rfl, Nat.le_of_ble_eq_true rfl⟩ ⟨Nat.le_of_ble_eq_true rfl, Nat.le_of_ble_eq_true rfl⟩ dX11_count_117 (fun hk => mX11_error Y hF _ _ _ _ _ (kqO hk qa0) h) (fun v M_13 h => ?_)
                  obtain ⟨r_14, rfl, h⟩ := h
                  exact r_iret hC (Nat.zero_le _) (Nat.zero_le _) dX11_count_120 ⟨_, rfl, h⟩
theorem dX11_told_0 : dec cX11_told 0 1 1 (.iload_n 1) := ⟨by decide +kernel, rfl⟩
theorem dX11_told_1 : dec cX11_told 1 1 2 (.iconst 1) := ⟨by decide +kernel, rfl⟩
theorem dX11_told_2 : dec cX11_told 2 2 4 (.bipush 6) := ⟨by decide +kernel, rfl⟩
theorem dX11_told_4 : dec cX11_told 4 3 7 (.invokestatic 87) := ⟨by decide +kernel, rfl⟩
theorem dX11_told_7 : dec cX11_told 7 3 10 (.ifCond .eq 12) := ⟨by decide +kernel, rfl⟩
theorem dX11_told_10 : dec cX11_told 10 1 11 (.aload_n 0) := ⟨by decide +kernel, rfl⟩
theorem dX11_told_11 : dec cX11_told 11 3 14 (.getfield 29) := ⟨by decide +kernel, rfl⟩
theorem dX11_told_14 : dec cX11_told 14 1 15 (.iload_n 1) := ⟨by decide +kernel, rfl⟩
theorem dX11_told_15 : dec cX11_told 15 1 16 (.iaload) := ⟨by decide +kernel, rfl⟩
theorem dX11_told_16 : dec cX11_told 16 3 19 (.goto 8) := ⟨by decide +kernel, rfl⟩
theorem dX11_told_19 : dec cX11_told 19 1 20 (.aload_n 0) := ⟨by decide +kernel, rfl⟩
theorem dX11_told_20 : dec cX11_told 20 1 21 (.iconst 1) := ⟨by decide +kernel, rfl⟩
theorem dX11_told_21 : dec cX11_told 21 3 24 (.invokevirtual 91) := ⟨by decide +kernel, rfl⟩
theorem dX11_told_24 : dec cX11_told 24 1 25 (.ireturn) := ⟨by decide +kernel, rfl⟩
set_option maxHeartbeats 4000000 in
set_option maxRecDepth 100000 in
theorem mX11_told (Y : Yx) (hF : Y.2.2.2.2 = true) (l : Launch) (a0 : Nat) (x1 : Int) (M0 : Mem) (Q : Int → Mem → Prop) (qa0 : 0 < a0 ∧ M0 0 a0 = kO 11) (h : wX11_told a0 x1 M0 Q) : CT Y l yX11_told cX11_told 2 (some .int) rmX11_told [vR Y.1 a0, vI x1] M0 (QI Q) := by
  unfold wX11_told at h
  refine ct_intro (by decide) (Nat.le_of_ble_eq_true rfl) ?_
  intro X hXl hC hL0
  have hL := hL0 hF
  change OKX X Y RX11 cX11_told 2 (some .int) rmX11_told at hC
  change WW X Y 2 rmX11_told (QI Q) M0 0 0 0 [(0, vR Y.1 a0), (1, vI x1)] [] M0
  refine r_iload_n hC 1 dX11_told_0 rfl rfl ?_
  refine r_iconst hC dX11_told_1 ?_
  refine r_bipush hC (by decide +kernel) dX11_told_2 ?_
  refine r_callS (As := [vI x1, vI 1, vI 6]) (st := []) hC cw_X11_87 rfl rfl (Nat.le_of_ble_eq_true rfl) ⟨Nat.le_of_ble_eq_true rfl, Nat.le_of_ble_eq_true rfl⟩ ⟨Nat.le_of_ble_eq_true rfl, Nat.le_of_ble_eq_true rfl⟩ dX11_told_4 (fun hk => mX11_within Y hF _ _ _ _ _ _  h) (fun v M_1 h => ?_)
  obtain ⟨r_2, rfl, h⟩ := h
  refine r_if_eq hC 19 rfl dX11_told_7 (by decide) (fun cq => ?_) (fun cq => ?_)
  · replace h := h.1 cq
    refine r_aload_n hC 0 dX11_told_19 rfl rfl ?_
    refine r_iconst hC dX11_told_20 ?_
    refine r_callV (As := [vI 1]) (st := []) hC cw_X11_91 rfl qa0.1 qa0.2 rfl rfl (Nat.le_of_ble_eq_true rfl) ⟨Nat.le_of_ble_eq_true rfl, Nat.le_of_ble_eq_true rfl⟩ ⟨Nat.le_of_ble_eq_true rfl, Nat.le_of_ble_eq_true rfl⟩ dX11_told_21 (fun hk => mX11_error Y hF _ _ _ _ _ (kqO hk qa0) h) (fun v M_3 h => ?_)
    obtain ⟨r_4, rfl, h⟩ := h
    exact r_iret hC (Nat.zero_le _) (Nat.zero_le _) dX11_told_24 ⟨_, rfl, h⟩
  · replace h := h.2 cq
    refine r_aload_n hC 0 dX11_told_10 rfl rfl ?_
    have q_5 : 0 < a0 + 85 ∧ M0 0 (a0 + 85) = kA 0 7 := lay_f0 (a := a0) hL qa0 fm_11_4
    refine r_getR0 (a' := a0 + 85) hC fg_X11_29 rfl hF fm_11_4 qa0.1 qa0.2 rfl dX11_told_11 ?_
    refine r_iload_n hC 1 dX11_told_14 rfl rfl ?_
    obtain ⟨i_6, h⟩ := h
    refine r_iald hC i_6 q_5.1 q_5.2 (by decide) dX11_told_15 ?_
    refine r_goto hC 24 dX11_told_16 (by decide) ?_
    exact r_iret hC (Nat.zero_le _) (Nat.zero_le _) dX11_told_24 ⟨_, rfl, h⟩
