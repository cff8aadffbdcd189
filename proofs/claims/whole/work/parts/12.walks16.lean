theorem dX12_turn_0 : dec cX12_turn 0 1 1 (.aload_n 0) := ⟨by decide +kernel, rfl⟩
theorem dX12_turn_1 : dec cX12_turn 1 1 2 (.iload_n 1) := ⟨by decide +kernel, rfl⟩
theorem dX12_turn_2 : dec cX12_turn 2 3 5 (.invokevirtual 98) := ⟨by decide +kernel, rfl⟩
theorem dX12_turn_5 : dec cX12_turn 5 3 8 (.ifCond .ne 9) := ⟨by decide +kernel, rfl⟩
theorem dX12_turn_8 : dec cX12_turn 8 1 9 (.aload_n 0) := ⟨by decide +kernel, rfl⟩
theorem dX12_turn_9 : dec cX12_turn 9 1 10 (.iconst 1) := ⟨by decide +kernel, rfl⟩
theorem dX12_turn_10 : dec cX12_turn 10 3 13 (.invokevirtual 83) := ⟨by decide +kernel, rfl⟩
theorem dX12_turn_13 : dec cX12_turn 13 1 14 (.ireturn) := ⟨by decide +kernel, rfl⟩
theorem dX12_turn_14 : dec cX12_turn 14 1 15 (.iload_n 2) := ⟨by decide +kernel, rfl⟩
theorem dX12_turn_15 : dec cX12_turn 15 3 18 (.ifCond .eq 7) := ⟨by decide +kernel, rfl⟩
theorem dX12_turn_18 : dec cX12_turn 18 1 19 (.iconst 1) := ⟨by decide +kernel, rfl⟩
theorem dX12_turn_19 : dec cX12_turn 19 3 22 (.goto 4) := ⟨by decide +kernel, rfl⟩
theorem dX12_turn_22 : dec cX12_turn 22 1 23 (.iconst 0) := ⟨by decide +kernel, rfl⟩
theorem dX12_turn_23 : dec cX12_turn 23 1 24 (.istore_n 3) := ⟨by decide +kernel, rfl⟩
theorem dX12_turn_24 : dec cX12_turn 24 1 25 (.aload_n 0) := ⟨by decide +kernel, rfl⟩
theorem dX12_turn_25 : dec cX12_turn 25 2 27 (.bipush 100) := ⟨by decide +kernel, rfl⟩
theorem dX12_turn_27 : dec cX12_turn 27 1 28 (.iconst 4) := ⟨by decide +kernel, rfl⟩
theorem dX12_turn_28 : dec cX12_turn 28 1 29 (.iload_n 1) := ⟨by decide +kernel, rfl⟩
theorem dX12_turn_29 : dec cX12_turn 29 1 30 (.imul) := ⟨by decide +kernel, rfl⟩
theorem dX12_turn_30 : dec cX12_turn 30 1 31 (.iadd) := ⟨by decide +kernel, rfl⟩
theorem dX12_turn_31 : dec cX12_turn 31 1 32 (.iconst 3) := ⟨by decide +kernel, rfl⟩
theorem dX12_turn_32 : dec cX12_turn 32 1 33 (.iadd) := ⟨by decide +kernel, rfl⟩
theorem dX12_turn_33 : dec cX12_turn 33 1 34 (.iload_n 3) := ⟨by decide +kernel, rfl⟩
theorem dX12_turn_34 : dec cX12_turn 34 3 37 (.invokevirtual 95) := ⟨by decide +kernel, rfl⟩
theorem dX12_turn_37 : dec cX12_turn 37 1 38 (.iload_n 3) := ⟨by decide +kernel, rfl⟩
theorem dX12_turn_38 : dec cX12_turn 38 3 41 (.if_icmp .ne 7) := ⟨by decide +kernel, rfl⟩
theorem dX12_turn_41 : dec cX12_turn 41 1 42 (.iconst 0) := ⟨by decide +kernel, rfl⟩
theorem dX12_turn_42 : dec cX12_turn 42 3 45 (.goto 4) := ⟨by decide +kernel, rfl⟩
theorem dX12_turn_45 : dec cX12_turn 45 1 46 (.iconst 1) := ⟨by decide +kernel, rfl⟩
theorem dX12_turn_46 : dec cX12_turn 46 1 47 (.ireturn) := ⟨by decide +kernel, rfl⟩
set_option maxHeartbeats 4000000 in
set_option maxRecDepth 100000 in
theorem tX12_turn_J23 {X : Cx} {Y : Yx} {M0 : Mem} (hC : OKX X Y RX12 cX12_turn 4 (some .int) rmX12_turn) (hF : Y.2.2.2.2 = true) (hL : Lay M0) (Q : Int → Mem → Prop)   (a0 : Nat) (x1 : Int) (xs0 : Int) (qa0 : 0 < a0 ∧ M0 0 a0 = kO 12)  (M : Mem) (h : wX12_turn_J23 Q  a0 x1 xs0 M) : WW X Y 4 rmX12_turn (QI Q) M0 0 0 23 [(0, vR Y.1 a0), (1, vI x1)] [vI xs0] M := by
  unfold wX12_turn_J23 at h
  refine r_istore_n (lv' := [(3, vI xs0), (0, vR Y.1 a0), (1, vI x1)]) hC dX12_turn_23 rfl (by decide) rfl ?_
  refine r_aload_n hC 1 dX12_turn_24 rfl rfl ?_
  refine r_bipush hC (by decide +kernel) dX12_turn_25 ?_
  refine r_iconst hC dX12_turn_27 ?_
  refine r_iload_n hC 2 dX12_turn_28 rfl rfl ?_
  refine r_imul hC dX12_turn_29 ?_
  refine r_iadd hC dX12_turn_30 ?_
  refine r_iconst hC dX12_turn_31 ?_
  refine r_iadd hC dX12_turn_32 ?_
  refine r_iload_n hC 0 dX12_turn_33 rfl rfl ?_
  refine r_callV (As := [vI ((100 + (4 * x1)) + 3), vI xs0]) (st := []) hC cw_X12_95 rfl qa0.1 qa0.2 rfl rfl (Nat.le_of_ble_eq_true rfl) ⟨Nat.le_of_ble_eq_true rfl, Nat.le_of_ble_eq_true rfl⟩ ⟨Nat.le_of_ble_eq_true rfl, Nat.le_of_ble_eq_true rfl⟩ dX12_turn_34 (fun hk => mX12_become Y hF _ _ _ _ _ _ (kqO hk qa0) h) (fun v M_3 h => ?_)
  obtain ⟨r_4, rfl, h⟩ := h
  refine r_iload_n hC 0 dX12_turn_37 rfl rfl ?_
  refine r_icmp_ne hC 45 rfl rfl dX12_turn_38 (by decide) (fun cq => ?_) (fun cq => ?_)
  · replace h := h.2 cq
    refine r_iconst hC dX12_turn_45 ?_
    exact r_iret hC (Nat.zero_le _) (Nat.zero_le _) dX12_turn_46 ⟨_, rfl, h⟩
  · replace h := h.1 cq
    refine r_iconst hC dX12_turn_41 ?_
    refine r_goto hC 46 dX12_turn_42 (by decide) ?_
    exact r_iret hC (Nat.zero_le _) (Nat.zero_le _) dX12_turn_46 ⟨_, rfl, h⟩
set_option maxHeartbeats 4000000 in
set_option maxRecDepth 100000 in
theorem mX12_turn (Y : Yx) (hF : Y.2.2.2.2 = true) (l : Launch) (a0 : Nat) (x1 : Int) (x2 : Int) (M0 : Mem) (Q : Int → Mem → Prop) (qa0 : 0 < a0 ∧ M0 0 a0 = kO 12) (h : wX12_turn a0 x1 x2 M0 Q) : CT Y l yX12_turn cX12_turn 4 (some .int) rmX12_turn [vR Y.1 a0, vI x1, vI x2] M0 (QI Q) := by
  unfold wX12_turn at h
  refine ct_intro (by decide) (Nat.le_of_ble_eq_true rfl) ?_
  intro X hXl hC hL0
  have hL := hL0 hF
  change OKX X Y RX12 cX12_turn 4 (some .int) rmX12_turn at hC
  change WW X Y 4 rmX12_turn (QI Q) M0 0 0 0 [(0, vR Y.1 a0), (1, vI x1), (2, vI x2)] [] M0
  refine r_aload_n hC 0 dX12_turn_0 rfl rfl ?_
  refine r_iload_n hC 1 dX12_turn_1 rfl rfl ?_
  refine r_callV (As := [vI x1]) (st := []) hC cw_X12_98 rfl qa0.1 qa0.2 rfl rfl (Nat.le_of_ble_eq_true rfl) ⟨Nat.le_of_ble_eq_true rfl, Nat.le_of_ble_eq_true rfl⟩ ⟨Nat.le_of_ble_eq_true rfl, Nat.le_of_ble_eq_true rfl⟩ dX12_turn_2 (fun hk => mX12_isLiking Y hF _ _ _ _ _ (kqO hk qa0) h) (fun v M_1 h => ?_)
  obtain ⟨r_2, rfl, h⟩ := h
  refine r_if_ne hC 14 rfl dX12_turn_5 (by decide) (fun cq => ?_) (fun cq => ?_)
  · replace h := h.2 cq
    refine r_iload_n hC 2 dX12_turn_14 rfl rfl ?_
    refine r_if_eq hC 22 rfl dX12_turn_15 (by decide) (fun cq => ?_) (fun cq => ?_)
    · replace h := h.1 cq
      refine r_iconst hC dX12_turn_22 ?_
      refine r_sub [0, 1] rfl ?_
      exact tX12_turn_J23 hC hF hL Q   _ _ _ qa0  _ h
    · replace h := h.2 cq
      refine r_iconst hC dX12_turn_18 ?_
      refine r_goto hC 23 dX12_turn_19 (by decide) ?_
      refine r_sub [0, 1] rfl ?_
      exact tX12_turn_J23 hC hF hL Q   _ _ _ qa0  _ h
  · replace h := h.1 cq
    refine r_aload_n hC 0 dX12_turn_8 rfl rfl ?_
    refine r_iconst hC dX12_turn_9 ?_
    refine r_callV (As := [vI 1]) (st := []) hC cw_X12_83 rfl qa0.1 qa0.2 rfl rfl (Nat.le_of_ble_eq_true rfl) ⟨Nat.le_of_ble_eq_true rfl, Nat.le_of_ble_eq_true rfl⟩ ⟨Nat.le_of_ble_eq_true rfl, Nat.le_of_ble_eq_true rfl⟩ dX12_turn_10 (fun hk => mX12_error Y hF _ _ _ _ _ (kqO hk qa0) h) (fun v M_5 h => ?_)
    obtain ⟨r_6, rfl, h⟩ := h
    exact r_iret hC (Nat.zero_le _) (Nat.zero_le _) dX12_turn_13 ⟨_, rfl, h⟩
theorem dX12_as_0 : dec cX12_as 0 1 1 (.aload_n 0) := ⟨by decide +kernel, rfl⟩
theorem dX12_as_1 : dec cX12_as 1 1 2 (.iload_n 1) := ⟨by decide +kernel, rfl⟩
theorem dX12_as_2 : dec cX12_as 2 3 5 (.invokevirtual 98) := ⟨by decide +kernel, rfl⟩
theorem dX12_as_5 : dec cX12_as 5 3 8 (.ifCond .eq 13) := ⟨by decide +kernel, rfl⟩
theorem dX12_as_8 : dec cX12_as 8 1 9 (.iload_n 2) := ⟨by decide +kernel, rfl⟩
theorem dX12_as_9 : dec cX12_as 9 1 10 (.iconst 0) := ⟨by decide +kernel, rfl⟩
theorem dX12_as_10 : dec cX12_as 10 2 12 (.bipush 6) := ⟨by decide +kernel, rfl⟩
theorem dX12_as_12 : dec cX12_as 12 3 15 (.invokestatic 79) := ⟨by decide +kernel, rfl⟩
theorem dX12_as_15 : dec cX12_as 15 3 18 (.ifCond .ne 9) := ⟨by decide +kernel, rfl⟩
theorem dX12_as_18 : dec cX12_as 18 1 19 (.aload_n 0) := ⟨by decide +kernel, rfl⟩
theorem dX12_as_19 : dec cX12_as 19 1 20 (.iconst 1) := ⟨by decide +kernel, rfl⟩
theorem dX12_as_20 : dec cX12_as 20 3 23 (.invokevirtual 83) := ⟨by decide +kernel, rfl⟩
theorem dX12_as_23 : dec cX12_as 23 1 24 (.ireturn) := ⟨by decide +kernel, rfl⟩
theorem dX12_as_24 : dec cX12_as 24 1 25 (.aload_n 0) := ⟨by decide +kernel, rfl⟩
theorem dX12_as_25 : dec cX12_as 25 1 26 (.iload_n 1) := ⟨by decide +kernel, rfl⟩
theorem dX12_as_26 : dec cX12_as 26 1 27 (.iconst 0) := ⟨by decide +kernel, rfl⟩
theorem dX12_as_27 : dec cX12_as 27 3 30 (.invokevirtual 101) := ⟨by decide +kernel, rfl⟩
theorem dX12_as_30 : dec cX12_as 30 1 31 (.istore_n 3) := ⟨by decide +kernel, rfl⟩
theorem dX12_as_31 : dec cX12_as 31 1 32 (.iload_n 2) := ⟨by decide +kernel, rfl⟩
theorem dX12_as_32 : dec cX12_as 32 3 35 (.ifCond .eq 18) := ⟨by decide +kernel, rfl⟩
theorem dX12_as_35 : dec cX12_as 35 1 36 (.iload_n 2) := ⟨by decide +kernel, rfl⟩
theorem dX12_as_36 : dec cX12_as 36 1 37 (.iload_n 3) := ⟨by decide +kernel, rfl⟩
theorem dX12_as_37 : dec cX12_as 37 3 40 (.if_icmp .eq 13) := ⟨by decide +kernel, rfl⟩
theorem dX12_as_40 : dec cX12_as 40 1 41 (.iload_n 2) := ⟨by decide +kernel, rfl⟩
theorem dX12_as_41 : dec cX12_as 41 1 42 (.iconst 1) := ⟨by decide +kernel, rfl⟩
theorem dX12_as_42 : dec cX12_as 42 3 45 (.if_icmp .ne 12) := ⟨by decide +kernel, rfl⟩
theorem dX12_as_45 : dec cX12_as 45 1 46 (.iload_n 3) := ⟨by decide +kernel, rfl⟩
theorem dX12_as_46 : dec cX12_as 46 1 47 (.iconst 5) := ⟨by decide +kernel, rfl⟩
theorem dX12_as_47 : dec cX12_as 47 3 50 (.if_icmp .ne 7) := ⟨by decide +kernel, rfl⟩
theorem dX12_as_50 : dec cX12_as 50 1 51 (.iconst 1) := ⟨by decide +kernel, rfl⟩
theorem dX12_as_51 : dec cX12_as 51 3 54 (.goto 4) := ⟨by decide +kernel, rfl⟩
theorem dX12_as_54 : dec cX12_as 54 1 55 (.iconst 0) := ⟨by decide +kernel, rfl⟩
theorem dX12_as_55 : dec cX12_as 55 2 57 (.istore 4) := ⟨by decide +kernel, rfl⟩
theorem dX12_as_57 : dec cX12_as 57 2 59 (.iload 4) := ⟨by decide +kernel, rfl⟩
theorem dX12_as_59 : dec cX12_as 59 3 62 (.ifCond .eq 22) := ⟨by decide +kernel, rfl⟩
theorem dX12_as_62 : dec cX12_as 62 2 64 (.bipush 100) := ⟨by decide +kernel, rfl⟩
theorem dX12_as_64 : dec cX12_as 64 1 65 (.aload_n 0) := ⟨by decide +kernel, rfl⟩
theorem dX12_as_65 : dec cX12_as 65 1 66 (.iload_n 1) := ⟨by decide +kernel, rfl⟩
theorem dX12_as_66 : dec cX12_as 66 1 67 (.iconst 1) := ⟨by decide +kernel, rfl⟩
theorem dX12_as_67 : dec cX12_as 67 3 70 (.invokevirtual 101) := ⟨by decide +kernel, rfl⟩
theorem dX12_as_70 : dec cX12_as 70 1 71 (.imul) := ⟨by decide +kernel, rfl⟩
theorem dX12_as_71 : dec cX12_as 71 1 72 (.aload_n 0) := ⟨by decide +kernel, rfl⟩
theorem dX12_as_72 : dec cX12_as 72 1 73 (.iload_n 1) := ⟨by decide +kernel, rfl⟩
theorem dX12_as_73 : dec cX12_as 73 1 74 (.iconst 2) := ⟨by decide +kernel, rfl⟩
theorem dX12_as_74 : dec cX12_as 74 3 77 (.invokevirtual 101) := ⟨by decide +kernel, rfl⟩
theorem dX12_as_77 : dec cX12_as 77 1 78 (.iadd) := ⟨by decide +kernel, rfl⟩
theorem dX12_as_78 : dec cX12_as 78 3 81 (.goto 8) := ⟨by decide +kernel, rfl⟩
theorem dX12_as_81 : dec cX12_as 81 1 82 (.aload_n 0) := ⟨by decide +kernel, rfl⟩
theorem dX12_as_82 : dec cX12_as 82 1 83 (.iconst 5) := ⟨by decide +kernel, rfl⟩
theorem dX12_as_83 : dec cX12_as 83 3 86 (.invokevirtual 83) := ⟨by decide +kernel, rfl⟩
theorem dX12_as_86 : dec cX12_as 86 1 87 (.ireturn) := ⟨by decide +kernel, rfl⟩
set_option maxHeartbeats 4000000 in
set_option maxRecDepth 100000 in
theorem tX12_as_J18 {X : Cx} {Y : Yx} {M0 : Mem} (hC : OKX X Y RX12 cX12_as 5 (some .int) rmX12_as) (hF : Y.2.2.2.2 = true) (hL : Lay M0) (Q : Int → Mem → Prop)   (a0 : Nat) (qa0 : 0 < a0 ∧ M0 0 a0 = kO 12)  (M : Mem) (h : wX12_as_J18 Q  a0 M) : WW X Y 5 rmX12_as (QI Q) M0 0 0 18 [(0, vR Y.1 a0)] [] M := by
  unfold wX12_as_J18 at h
  refine r_aload_n hC 0 dX12_as_18 rfl rfl ?_
  refine r_iconst hC dX12_as_19 ?_
  refine r_callV (As := [vI 1]) (st := []) hC cw_X12_83 rfl qa0.1 qa0.2 rfl rfl (Nat.le_of_ble_eq_true rfl) ⟨Nat.le_of_ble_eq_true rfl, Nat.le_of_ble_eq_true rfl⟩ ⟨Nat.le_of_ble_eq_true rfl, Nat.le_of_ble_eq_true rfl⟩ dX12_as_20 (fun hk => mX12_error Y hF _ _ _ _ _ (kqO hk qa0) h) (fun v M_3 h => ?_)
  obtain ⟨r_4, rfl, h⟩ := h
  exact r_iret hC (Nat.zero_le _) (Nat.zero_le _) dX12_as_23 ⟨_, rfl, h⟩
set_option maxHeartbeats 4000000 in
set_option maxRecDepth 100000 in
theorem tX12_as_J55 {X : Cx} {Y : Yx} {M0 : Mem} (hC : OKX X Y RX12 cX12_as 5 (some .int) rmX12_as) (hF : Y.2.2.2.2 = true) (hL : Lay M0) (Q : Int → Mem → Prop)   (a0 : Nat) (x1 : Int) (xs0 : Int) (qa0 : 0 < a0 ∧ M0 0 a0 = kO 12)  (M : Mem) (h : wX12_as_J55 Q  a0 x1 xs0 M) : WW X Y 5 rmX12_as (QI Q) M0 0 0 55 [(0, vR Y.1 a0), (1, vI x1)] [vI xs0] M := by
  unfold wX12_as_J55 at h
  refine r_istore (lv' := [(4, vI xs0), (0, vR Y.1 a0), (1, vI x1)]) hC dX12_as_55 (by decide) rfl ?_
  refine r_iload hC 0 dX12_as_57 rfl ?_
  refine r_if_eq hC 81 rfl dX12_as_59 (by decide) (fun cq => ?_) (fun cq => ?_)
  · replace h := h.1 cq
    refine r_aload_n hC 1 dX12_as_81 rfl rfl ?_
    refine r_iconst hC dX12_as_82 ?_
    refine r_callV (As := [vI 5]) (st := []) hC cw_X12_83 rfl qa0.1 qa0.2 rfl rfl (Nat.le_of_ble_eq_true rfl) ⟨Nat.le_of_ble_eq_true rfl, Nat.le_of_ble_eq_true rfl⟩ ⟨Nat.le_of_ble_eq_true rfl, Nat.le_of_ble_eq_true rfl⟩ dX12_as_83 (fun hk => mX12_error Y hF _ _ _ _ _ (kqO hk qa0) h) (fun v M_9 h => ?_)
    obtain ⟨r_10, rfl, h⟩ := h
    exact r_iret hC (Nat.zero_le _) (Nat.zero_le _) dX12_as_86 ⟨_, rfl, h⟩
  · replace h := h.2 cq
    refine r_bipush hC (by decide +kernel) dX12_as_62 ?_
    refine r_aload_n hC 1 dX12_as_64 rfl rfl ?_
    refine r_iload_n hC 2 dX12_as_65 rfl rfl ?_
    refine r_iconst hC dX12_as_66 ?_
    refine r_callV (As := [vI x1, vI 1]) (st := [vI 100]) hC cw_X12_101 rfl qa0.1 qa0.2 rfl rfl (Nat.le_of_ble_eq_true rfl) ⟨Nat.le_of_ble_eq_true rfl, Nat.le_of_ble_eq_true rfl⟩ ⟨Nat.le_of_ble_eq_true rfl, Nat.le_of_ble_eq_true rfl⟩ dX12_as_67 (fun hk => mX12_likingIs Y hF _ _ _ _ _ _ (kqO hk qa0) h) (fun v M_11 h => ?_)
    obtain ⟨r_12, rfl, h⟩ := h
    refine r_imul hC dX12_as_70 ?_
    refine r_aload_n hC 1 dX12_as_71 rfl rfl ?_
    refine r_iload_n hC 2 dX12_as_72 rfl rfl ?_
    refine r_iconst hC dX12_as_73 ?_
    refine r_callV (As := [vI x1, vI 2]) (st := [vI (100 * r_12)]) hC cw_X12_101 rfl qa0.1 qa0.2 rfl rfl (Nat.le_of_ble_eq_true rfl) ⟨Nat.le_of_ble_eq_true rfl, Nat.le_of_ble_eq_true rfl⟩ ⟨Nat.le_of_ble_eq_true rfl, Nat.le_of_ble_eq_true rfl⟩ dX12_as_74 (fun hk => mX12_likingIs Y hF _ _ _ _ _ _ (kqO hk qa0) h) (fun v M_13 h => ?_)
    obtain ⟨r_14, rfl, h⟩ := h
    refine r_iadd hC dX12_as_77 ?_
    refine r_goto hC 86 dX12_as_78 (by decide) ?_
    exact r_iret hC (Nat.zero_le _) (Nat.zero_le _) dX12_as_86 ⟨_, rfl, h⟩
set_option maxHeartbeats 4000000 in
set_option maxRecDepth 100000 in
theorem tX12_as_J50 {X : Cx} {Y : Yx} {M0 : Mem} (hC : OKX X Y RX12 cX12_as 5 (some .int) rmX12_as) (hF : Y.2.2.2.2 = true) (hL : Lay M0) (Q : Int → Mem → Prop)   (a0 : Nat) (x1 : Int) (qa0 : 0 < a0 ∧ M0 0 a0 = kO 12)  (M : Mem) (h : wX12_as_J50 Q  a0 x1 M) : WW X Y 5 rmX12_as (QI Q) M0 0 0 50 [(0, vR Y.1 a0), (1, vI x1)] [] M := by
  unfold wX12_as_J50 at h
  refine r_iconst hC dX12_as_50 ?_
  refine r_goto hC 55 dX12_as_51 (by decide) ?_
  refine r_sub [0, 1] rfl ?_
  exact tX12_as_J55 hC hF hL Q   _ _ _ qa0  _ h
set_option maxHeartbeats 4000000 in
set_option maxRecDepth 100000 in
theorem tX12_as_J54 {X : Cx} {Y : Yx} {M0 : Mem} (hC : OKX X Y RX12 cX12_as 5 (some .int) rmX12_as) (hF : Y.2.2.2.2 = true) (hL : Lay M0) (Q : Int → Mem → Prop)   (a0 : Nat) (x1 : Int) (qa0 : 0 < a0 ∧ M0 0 a0 = kO 12)  (M : Mem) (h : wX12_as_J54 Q  a0 x1 M) : WW X Y 5 rmX12_as (QI Q) M0 0 0 54 [(0, vR Y.1 a0), (1, vI x1)] [] M := by
  unfold wX12_as_J54 at h
  refine r_iconst hC dX12_as_54 ?_
  refine r_sub [0, 1] rfl ?_
  exact tX12_as_J55 hC hF hL Q   _ _ _ qa0  _ h
set_option maxHeartbeats 4000000 in
set_option maxRecDepth 100000 in
theorem mX12_as (Y : Yx) (hF : Y.2.2.2.2 = true) (l : Launch) (a0 : Nat) (x1 : Int) (x2 : Int) (M0 : Mem) (Q : Int → Mem → Prop) (qa0 : 0 < a0 ∧ M0 0 a0 = kO 12) (h : wX12_as a0 x1 x2 M0 Q) : CT Y l yX12_as cX12_as 5 (some .int) rmX12_as [vR Y.1 a0, vI x1, vI x2] M0 (QI Q) := by
  unfold wX12_as at h
  refine ct_intro (by decide) (Nat.le_of_ble_eq_true rfl) ?_
  intro X hXl hC hL0
  have hL := hL0 hF
  change OKX X Y RX12 cX12_as 5 (some .int) rmX12_as at hC
  change WW X Y 5 rmX12_as (QI Q) M0 0 0 0 [(0, vR Y.1 a0), (1, vI x1), (2, vI x2)] [] M0
  refine r_aload_n hC 0 dX12_as_0 rfl rfl ?_
  refine r_iload_n hC 1 dX12_as_1 rfl rfl ?_
  refine r_callV (As := [vI x1]) (st := []) hC cw_X12_98 rfl qa0.1 qa0.2 rfl rfl (Nat.le_of_ble_eq_true rfl) ⟨Nat.le_of_ble_eq_true rfl, Nat.le_of_ble_eq_true rfl⟩ ⟨Nat.le_of_ble_eq_true rfl, Nat.le_of_ble_eq_true rfl⟩ dX12_as_2 (fun hk => mX12_isLiking Y hF _ _ _ _ _ (kqO hk qa0) h) (fun v M_1 h => ?_)
  obtain ⟨r_2, rfl, h⟩ := h
  refine r_if_eq hC 18 rfl dX12_as_5 (by decide) (fun cq => ?_) (fun cq => ?_)
  · replace h := h.1 cq
    refine r_sub [0] rfl ?_
    exact tX12_as_J18 hC hF hL Q   _ qa0  _ h
  · replace h := h.2 cq
    refine r_iload_n hC 2 dX12_as_8 rfl rfl ?_
    refine r_iconst hC dX12_as_9 ?_
    refine r_bipush hC (by decide +kernel) dX12_as_10 ?_
    refine r_callS (As := [vI x2, vI 0, vI 6]) (st := []) hC cw_X12_79 rfl rfl (Nat.le_of_ble_eq_true rfl) ⟨Nat.le_of_ble_eq_true rfl, Nat.le_of_ble_eq_true rfl⟩ ⟨Nat.le_of_ble_eq_true rfl, Nat.le_of_ble_eq_true rfl⟩ dX12_as_12 (fun hk => mX12_in Y hF _ _ _ _ _ _  h) (fun v M_5 h => ?_)
    obtain ⟨r_6, rfl, h⟩ := h
    refine r_if_ne hC 24 rfl dX12_as_15 (by decide) (fun cq => ?_) (fun cq => ?_)
    · replace h := h.2 cq
      refine r_aload_n hC 0 dX12_as_24 rfl rfl ?_
      refine r_iload_n hC 1 dX12_as_25 rfl rfl ?_
      refine r_iconst hC dX12_as_26 ?_
      refine r_callV (As := [vI x1, vI 0]) (st := []) hC cw_X12_101 rfl qa0.1 qa0.2 rfl rfl (Nat.le_of_ble_eq_true rfl) ⟨Nat.le_of_ble_eq_true rfl, Nat.le_of_ble_eq_true rfl⟩ ⟨Nat.le_of_ble_eq_true rfl, Nat.le_of_ble_eq_true rfl⟩ dX12_as_27 (fun hk => mX12_likingIs Y hF _ _ _ _ _ _ (kqO hk qa0) h) (fun v M_7 h => ?_)
      obtain ⟨r_8, rfl, h⟩ := h
      refine r_istore_n (lv' := [(3, vI r_8), (0, vR Y.1 a0), (1, vI x1), (2, vI x2)]) hC dX12_as_30 rfl (by decide) rfl ?_
      refine r_iload_n hC 3 dX12_as_31 rfl rfl ?_
      refine r_if_eq hC 50 rfl dX12_as_32 (by decide) (fun cq => ?_) (fun cq => ?_)
      · replace h := h.1 cq
        refine r_sub [1, 2] rfl ?_
        exact tX12_as_J50 hC hF hL Q   _ _ qa0  _ h
      · replace h := h.2 cq
        refine r_iload_n hC 3 dX12_as_35 rfl rfl ?_
        refine r_iload_n hC 0 dX12_as_36 rfl rfl ?_
        refine r_icmp_eq hC 50 rfl rfl dX12_as_37 (by decide) (fun cq => ?_) (fun cq => ?_)
        · replace h := h.1 cq
          refine r_sub [1, 2] rfl ?_
          exact tX12_as_J50 hC hF hL Q   _ _ qa0  _ h
        · replace h := h.2 cq
          refine r_iload_n hC 3 dX12_as_40 rfl rfl ?_
          refine r_iconst hC dX12_as_41 ?_
          refine r_icmp_ne hC 54 rfl bmL_1 dX12_as_42 (by decide) (fun cq => ?_) (fun cq => ?_)
          · replace h := h.2 cq
            refine r_sub [1, 2] rfl ?_
            exact tX12_as_J54 hC hF hL Q   _ _ qa0  _ h
          · replace h := h.1 cq
            refine r_iload_n hC 0 dX12_as_45 rfl rfl ?_
            refine r_iconst hC dX12_as_46 ?_
            refine r_icmp_ne hC 54 rfl bmL_5 dX12_as_47 (by decide) (fun cq => ?_) (fun cq => ?_)
            · replace h := h.2 cq
              refine r_sub [1, 2] rfl ?_
              exact tX12_as_J54 hC hF hL Q   _ _ qa0  _ h
            · replace h := h.1 cq
              refine r_sub [1, 2] rfl ?_
              exact tX12_as_J50 hC hF hL Q   _ _ qa0  _ h
    · replace h := h.1 cq
      refine r_sub [0] rfl ?_
      exact tX12_as_J18 hC hF hL Q   _ qa0  _ h
theorem dX12_must_0 : dec cX12_must 0 1 1 (.iload_n 1) := ⟨by decide +kernel, rfl⟩
theorem dX12_must_1 : dec cX12_must 1 1 2 (.iconst 0) := ⟨by decide +kernel, rfl⟩
theorem dX12_must_2 : dec cX12_must 2 2 4 (.bipush 7) := ⟨by decide +kernel, rfl⟩
theorem dX12_must_4 : dec cX12_must 4 3 7 (.invokestatic 79) := ⟨by decide +kernel, rfl⟩
theorem dX12_must_7 : dec cX12_must 7 3 10 (.ifCond .eq 51) := ⟨by decide +kernel, rfl⟩
theorem dX12_must_10 : dec cX12_must 10 1 11 (.iload_n 2) := ⟨by decide +kernel, rfl⟩
theorem dX12_must_11 : dec cX12_must 11 3 14 (.ifCond .lt 47) := ⟨by decide +kernel, rfl⟩
theorem dX12_must_14 : dec cX12_must 14 1 15 (.aload_n 0) := ⟨by decide +kernel, rfl⟩
theorem dX12_must_15 : dec cX12_must 15 1 16 (.iload_n 2) := ⟨by decide +kernel, rfl⟩
theorem dX12_must_16 : dec cX12_must 16 2 18 (.bipush 100) := ⟨by decide +kernel, rfl⟩
theorem dX12_must_18 : dec cX12_must 18 1 19 (.idiv) := ⟨by decide +kernel, rfl⟩
theorem dX12_must_19 : dec cX12_must 19 3 22 (.invokevirtual 87) := ⟨by decide +kernel, rfl⟩
theorem dX12_must_22 : dec cX12_must 22 3 25 (.ifCond .eq 36) := ⟨by decide +kernel, rfl⟩
theorem dX12_must_25 : dec cX12_must 25 1 26 (.aload_n 0) := ⟨by decide +kernel, rfl⟩
theorem dX12_must_26 : dec cX12_must 26 1 27 (.iload_n 2) := ⟨by decide +kernel, rfl⟩
theorem dX12_must_27 : dec cX12_must 27 2 29 (.bipush 100) := ⟨by decide +kernel, rfl⟩
theorem dX12_must_29 : dec cX12_must 29 1 30 (.irem) := ⟨by decide +kernel, rfl⟩
theorem dX12_must_30 : dec cX12_must 30 3 33 (.invokevirtual 87) := ⟨by decide +kernel, rfl⟩
theorem dX12_must_33 : dec cX12_must 33 3 36 (.ifCond .eq 25) := ⟨by decide +kernel, rfl⟩
theorem dX12_must_36 : dec cX12_must 36 1 37 (.iload_n 2) := ⟨by decide +kernel, rfl⟩
theorem dX12_must_37 : dec cX12_must 37 2 39 (.bipush 100) := ⟨by decide +kernel, rfl⟩
theorem dX12_must_39 : dec cX12_must 39 1 40 (.idiv) := ⟨by decide +kernel, rfl⟩
theorem dX12_must_40 : dec cX12_must 40 1 41 (.iload_n 2) := ⟨by decide +kernel, rfl⟩
theorem dX12_must_41 : dec cX12_must 41 2 43 (.bipush 100) := ⟨by decide +kernel, rfl⟩
theorem dX12_must_43 : dec cX12_must 43 1 44 (.irem) := ⟨by decide +kernel, rfl⟩
theorem dX12_must_44 : dec cX12_must 44 3 47 (.if_icmp .eq 14) := ⟨by decide +kernel, rfl⟩
theorem dX12_must_47 : dec cX12_must 47 1 48 (.iload_n 3) := ⟨by decide +kernel, rfl⟩
theorem dX12_must_48 : dec cX12_must 48 1 49 (.iconst 0) := ⟨by decide +kernel, rfl⟩
theorem dX12_must_49 : dec cX12_must 49 3 52 (.sipush 999) := ⟨by decide +kernel, rfl⟩
theorem dX12_must_52 : dec cX12_must 52 3 55 (.invokestatic 79) := ⟨by decide +kernel, rfl⟩
theorem dX12_must_55 : dec cX12_must 55 3 58 (.ifCond .ne 9) := ⟨by decide +kernel, rfl⟩
theorem dX12_must_58 : dec cX12_must 58 1 59 (.aload_n 0) := ⟨by decide +kernel, rfl⟩
theorem dX12_must_59 : dec cX12_must 59 1 60 (.iconst 1) := ⟨by decide +kernel, rfl⟩
theorem dX12_must_60 : dec cX12_must 60 3 63 (.invokevirtual 83) := ⟨by decide +kernel, rfl⟩
theorem dX12_must_63 : dec cX12_must 63 1 64 (.ireturn) := ⟨by decide +kernel, rfl⟩
theorem dX12_must_64 : dec cX12_must 64 1 65 (.aload_n 0) := ⟨by decide +kernel, rfl⟩
theorem dX12_must_65 : dec cX12_must 65 3 68 (.getfield 7) := ⟨by decide +kernel, rfl⟩
theorem dX12_must_68 : dec cX12_must 68 1 69 (.iconst 2) := ⟨by decide +kernel, rfl⟩
theorem dX12_must_69 : dec cX12_must 69 1 70 (.iaload) := ⟨by decide +kernel, rfl⟩
theorem dX12_must_70 : dec cX12_must 70 2 72 (.bipush 10) := ⟨by decide +kernel, rfl⟩
theorem dX12_must_72 : dec cX12_must 72 3 75 (.if_icmp .ne 9) := ⟨by decide +kernel, rfl⟩
theorem dX12_must_75 : dec cX12_must 75 1 76 (.aload_n 0) := ⟨by decide +kernel, rfl⟩
theorem dX12_must_76 : dec cX12_must 76 1 77 (.iconst 4) := ⟨by decide +kernel, rfl⟩
theorem dX12_must_77 : dec cX12_must 77 3 80 (.invokevirtual 83) := ⟨by decide +kernel, rfl⟩
theorem dX12_must_80 : dec cX12_must 80 1 81 (.ireturn) := ⟨by decide +kernel, rfl⟩
theorem dX12_must_81 : dec cX12_must 81 3 84 (.sipush 1200) := ⟨by decide +kernel, rfl⟩
theorem dX12_must_84 : dec cX12_must 84 1 85 (.iconst 4) := ⟨by decide +kernel, rfl⟩
theorem dX12_must_85 : dec cX12_must 85 1 86 (.aload_n 0) := ⟨by decide +kernel, rfl⟩
theorem dX12_must_86 : dec cX12_must 86 3 89 (.getfield 7) := ⟨by decide +kernel, rfl⟩
theorem dX12_must_89 : dec cX12_must 89 1 90 (.iconst 2) := ⟨by decide +kernel, rfl⟩
theorem dX12_must_90 : dec cX12_must 90 1 91 (.iaload) := ⟨by decide +kernel, rfl⟩
theorem dX12_must_91 : dec cX12_must 91 1 92 (.imul) := ⟨by decide +kernel, rfl⟩
theorem dX12_must_92 : dec cX12_must 92 1 93 (.iadd) := ⟨by decide +kernel, rfl⟩
theorem dX12_must_93 : dec cX12_must 93 2 95 (.istore 4) := ⟨by decide +kernel, rfl⟩
theorem dX12_must_95 : dec cX12_must 95 1 96 (.aload_n 0) := ⟨by decide +kernel, rfl⟩
theorem dX12_must_96 : dec cX12_must 96 3 99 (.getfield 7) := ⟨by decide +kernel, rfl⟩
theorem dX12_must_99 : dec cX12_must 99 2 101 (.iload 4) := ⟨by decide +kernel, rfl⟩
theorem dX12_must_101 : dec cX12_must 101 1 102 (.iload_n 1) := ⟨by decide +kernel, rfl⟩
theorem dX12_must_102 : dec cX12_must 102 1 103 (.iastore) := ⟨by decide +kernel, rfl⟩
theorem dX12_must_103 : dec cX12_must 103 1 104 (.aload_n 0) := ⟨by decide +kernel, rfl⟩
theorem dX12_must_104 : dec cX12_must 104 3 107 (.getfield 7) := ⟨by decide +kernel, rfl⟩
theorem dX12_must_107 : dec cX12_must 107 2 109 (.iload 4) := ⟨by decide +kernel, rfl⟩
theorem dX12_must_109 : dec cX12_must 109 1 110 (.iconst 1) := ⟨by decide +kernel, rfl⟩
theorem dX12_must_110 : dec cX12_must 110 1 111 (.iadd) := ⟨by decide +kernel, rfl⟩
theorem dX12_must_111 : dec cX12_must 111 1 112 (.iload_n 2) := ⟨by decide +kernel, rfl⟩
theorem dX12_must_112 : dec cX12_must 112 2 114 (.bipush 100) := ⟨by decide +kernel, rfl⟩
theorem dX12_must_114 : dec cX12_must 114 1 115 (.idiv) := ⟨by decide +kernel, rfl⟩
theorem dX12_must_115 : dec cX12_must 115 1 116 (.iastore) := ⟨by decide +kernel, rfl⟩
theorem dX12_must_116 : dec cX12_must 116 1 117 (.aload_n 0) := ⟨by decide +kernel, rfl⟩
theorem dX12_must_117 : dec cX12_must 117 3 120 (.getfield 7) := ⟨by decide +kernel, rfl⟩
theorem dX12_must_120 : dec cX12_must 120 2 122 (.iload 4) := ⟨by decide +kernel, rfl⟩
theorem dX12_must_122 : dec cX12_must 122 1 123 (.iconst 2) := ⟨by decide +kernel, rfl⟩
theorem dX12_must_123 : dec cX12_must 123 1 124 (.iadd) := ⟨by decide +kernel, rfl⟩
theorem dX12_must_124 : dec cX12_must 124 1 125 (.iload_n 2) := ⟨by decide +kernel, rfl⟩
theorem dX12_must_125 : dec cX12_must 125 2 127 (.bipush 100) := ⟨by decide +kernel, rfl⟩
theorem dX12_must_127 : dec cX12_must 127 1 128 (.irem) := ⟨by decide +kernel, rfl⟩
theorem dX12_must_128 : dec cX12_must 128 1 129 (.iastore) := ⟨by decide +kernel, rfl⟩
theorem dX12_must_129 : dec cX12_must 129 1 130 (.aload_n 0) := ⟨by decide +kernel, rfl⟩
theorem dX12_must_130 : dec cX12_must 130 3 133 (.getfield 7) := ⟨by decide +kernel, rfl⟩
theorem dX12_must_133 : dec cX12_must 133 2 135 (.iload 4) := ⟨by decide +kernel, rfl⟩
theorem dX12_must_135 : dec cX12_must 135 1 136 (.iconst 3) := ⟨by decide +kernel, rfl⟩
theorem dX12_must_136 : dec cX12_must 136 1 137 (.iadd) := ⟨by decide +kernel, rfl⟩
theorem dX12_must_137 : dec cX12_must 137 1 138 (.iload_n 3) := ⟨by decide +kernel, rfl⟩
theorem dX12_must_138 : dec cX12_must 138 1 139 (.iastore) := ⟨by decide +kernel, rfl⟩
theorem dX12_must_139 : dec cX12_must 139 1 140 (.aload_n 0) := ⟨by decide +kernel, rfl⟩
theorem dX12_must_140 : dec cX12_must 140 3 143 (.getfield 7) := ⟨by decide +kernel, rfl⟩
theorem dX12_must_143 : dec cX12_must 143 1 144 (.iconst 2) := ⟨by decide +kernel, rfl⟩
theorem dX12_must_144 : dec cX12_must 144 1 145 (.dup2) := ⟨by decide +kernel, rfl⟩
theorem dX12_must_145 : dec cX12_must 145 1 146 (.iaload) := ⟨by decide +kernel, rfl⟩
theorem dX12_must_146 : dec cX12_must 146 1 147 (.iconst 1) := ⟨by decide +kernel, rfl⟩
theorem dX12_must_147 : dec cX12_must 147 1 148 (.iadd) := ⟨by decide +kernel, rfl⟩
theorem dX12_must_148 : dec cX12_must 148 1 149 (.iastore) := ⟨by decide +kernel, rfl⟩
theorem dX12_must_149 : dec cX12_must 149 1 150 (.aload_n 0) := ⟨by decide +kernel, rfl⟩
theorem dX12_must_150 : dec cX12_must 150 3 153 (.getfield 7) := ⟨by decide +kernel, rfl⟩
theorem dX12_must_153 : dec cX12_must 153 1 154 (.iconst 2) := ⟨by decide +kernel, rfl⟩
theorem dX12_must_154 : dec cX12_must 154 1 155 (.iaload) := ⟨by decide +kernel, rfl⟩
theorem dX12_must_155 : dec cX12_must 155 1 156 (.iconst 1) := ⟨by decide +kernel, rfl⟩
theorem dX12_must_156 : dec cX12_must 156 1 157 (.isub) := ⟨by decide +kernel, rfl⟩
theorem dX12_must_157 : dec cX12_must 157 1 158 (.ireturn) := ⟨by decide +kernel, rfl⟩
set_option maxHeartbeats 4000000 in
set_option maxRecDepth 100000 in
theorem tX12_must_J58 {X : Cx} {Y : Yx} {M0 : Mem} (hC : OKX X Y RX12 cX12_must 5 (some .int) rmX12_must) (hF : Y.2.2.2.2 = true) (hL : Lay M0) (Q : Int → Mem → Prop)   (a0 : Nat) (qa0 : 0 < a0 ∧ M0 0 a0 = kO 12)  (M : Mem) (h : wX12_must_J58 Q  a0 M) : WW X Y 5 rmX12_must (QI Q) M0 0 0 58 [(0, vR Y.1 a0)] [] M := by
  unfold wX12_must_J58 at h
  refine r_aload_n hC 0 dX12_must_58 rfl rfl ?_
  refine r_iconst hC dX12_must_59 ?_
  refine r_callV (As := [vI 1]) (st := []) hC cw_X12_83 rfl qa0.1 qa0.2 rfl rfl (Nat.le_of_ble_eq_true rfl) ⟨Nat.le_of_ble_eq_true rfl, Nat.le_of_ble_eq_true rfl⟩ ⟨Nat.le_of_ble_eq_true rfl, Nat.le_of_ble_eq_true rfl⟩ dX12_must_60 (fun hk => mX12_error Y hF _ _ _ _ _ (kqO hk qa0) h) (fun v M_3 h => ?_)
  obtain ⟨r_4, rfl, h⟩ := h
  exact r_iret hC (Nat.zero_le _) (Nat.zero_le _) dX12_must_63 ⟨_, rfl, h⟩
set_option maxHeartbeats 4000000 in
set_option maxRecDepth 100000 in
theorem mX12_must (Y : Yx) (hF : Y.2.2.2.2 = true) (l : Launch) (a0 : Nat) (x1 : Int) (x2 : Int) (x3 : Int) (M0 : Mem) (Q : Int → Mem → Prop) (qa0 : 0 < a0 ∧ M0 0 a0 = kO 12) (h : wX12_must a0 x1 x2 x3 M0 Q) : CT Y l yX12_must cX12_must 5 (some .int) rmX12_must [vR Y.1 a0, vI x1, vI x2, vI x3] M0 (QI Q) := by
  unfold wX12_must at h
  refine ct_intro (by decide) (Nat.le_of_ble_eq_true rfl) ?_
  intro X hXl hC hL0
  have hL := hL0 hF
  change OKX X Y RX12 cX12_must 5 (some .int) rmX12_must at hC
  change WW X Y 5 rmX12_must (QI Q) M0 0 0 0 [(0, vR Y.1 a0), (1, vI x1), (2, vI x2), (3, vI x3)] [] M0
  refine r_iload_n hC 1 dX12_must_0 rfl rfl ?_
  refine r_iconst hC dX12_must_1 ?_
  refine r_bipush hC (by decide +kernel) dX12_must_2 ?_
  refine r_callS (As := [vI x1, vI 0, vI 7]) (st := []) hC cw_X12_79 rfl rfl (Nat.le_of_ble_eq_true rfl) ⟨Nat.le_of_ble_eq_true rfl, Nat.le_of_ble_eq_true rfl⟩ ⟨Nat.le_of_ble_eq_true rfl, Nat.le_of_ble_eq_true rfl⟩ dX12_must_4 (fun hk => mX12_in Y hF _ _ _ _ _ _  h) (fun v M_1 h => ?_)
  obtain ⟨r_2, rfl, h⟩ := h
  refine r_if_eq hC 58 rfl dX12_must_7 (by decide) (fun cq => ?_) (fun cq => ?_)
  · replace h := h.1 cq
    refine r_sub [0] rfl ?_
    exact tX12_must_J58 hC hF hL Q   _ qa0  _ h
  · replace h := h.2 cq
    refine r_iload_n hC 2 dX12_must_10 rfl rfl ?_
    refine r_if_lt hC 58 rfl dX12_must_11 (by decide) (fun cq => ?_) (fun cq => ?_)
    · replace h := h.1 cq
      refine r_sub [0] rfl ?_
      exact tX12_must_J58 hC hF hL Q   _ qa0  _ h
    · replace h := h.2 cq
      refine r_aload_n hC 0 dX12_must_14 rfl rfl ?_
      refine r_iload_n hC 2 dX12_must_15 rfl rfl ?_
      refine r_bipush hC (by decide +kernel) dX12_must_16 ?_
      refine r_idiv hC (by decide +kernel) dX12_must_18 ?_
      refine r_callV (As := [vI (iDiv x2 100)]) (st := []) hC cw_X12_87 rfl qa0.1 qa0.2 rfl rfl (Nat.le_of_ble_eq_true rfl) ⟨Nat.le_of_ble_eq_true rfl, Nat.le_of_ble_eq_true rfl⟩ ⟨Nat.le_of_ble_eq_true rfl, Nat.le_of_ble_eq_true rfl⟩ dX12_must_19 (fun hk => mX12_isPiece Y hF _ _ _ _ _ (kqO hk qa0) h) (fun v M_5 h => ?_)
      obtain ⟨r_6, rfl, h⟩ := h
      refine r_if_eq hC 58 rfl dX12_must_22 (by decide) (fun cq => ?_) (fun cq => ?_)
      · replace h := h.1 cq
        refine r_sub [0] rfl ?_
        exact tX12_must_J58 hC hF hL Q   _ qa0  _ h
      · replace h := h.2 cq
        refine r_aload_n hC 0 dX12_must_25 rfl rfl ?_
        refine r_iload_n hC 2 dX12_must_26 rfl rfl ?_
        refine r_bipush hC (by decide +kernel) dX12_must_27 ?_
        refine r_irem hC (by decide +kernel) dX12_must_29 ?_
        refine r_callV (As := [vI (iRem x2 100)]) (st := []) hC cw_X12_87 rfl qa0.1 qa0.2 rfl rfl (Nat.le_of_ble_eq_true rfl) ⟨Nat.le_of_ble_eq_true rfl, Nat.le_of_ble_eq_true rfl⟩ ⟨Nat.le_of_ble_eq_true rfl, Nat.le_of_ble_eq_true rfl⟩ dX12_must_30 (fun hk => mX12_isPiece Y hF _ _ _ _ _ (kqO hk qa0) h) (fun v M_7 h => ?_)
        obtain ⟨r_8, rfl, h⟩ := h
        refine r_if_eq hC 58 rfl dX12_must_33 (by decide) (fun cq => ?_) (fun cq => ?_)
        · replace h := h.1 cq
          refine r_sub [0] rfl ?_
          exact tX12_must_J58 hC hF hL Q   _ qa0  _ h
        · replace h := h.2 cq
          refine r_iload_n hC 2 dX12_must_36 rfl rfl ?_
          refine r_bipush hC (by decide +kernel) dX12_must_37 ?_
          refine r_idiv hC (by decide +kernel) dX12_must_39 ?_
          refine r_iload_n hC 2 dX12_must_40 rfl rfl ?_
          refine r_bipush hC (by decide +kernel) dX12_must_41 ?_
          refine r_irem hC (by decide +kernel) dX12_must_43 ?_
          refine r_icmp_eq hC 58 rfl rfl dX12_must_44 (by decide) (fun cq => ?_) (fun cq => ?_)
          · replace h := h.1 cq
            refine r_sub [0] rfl ?_
            exact tX12_must_J58 hC hF hL Q   _ qa0  _ h
          · replace h := h.2 cq
            refine r_iload_n hC 3 dX12_must_47 rfl rfl ?_
            refine r_iconst hC dX12_must_48 ?_
            refine r_sipush hC (by decide +kernel) dX12_must_49 ?_
            refine r_callS (As := [vI x3, vI 0, vI 999]) (st := []) hC cw_X12_79 rfl rfl (Nat.le_of_ble_eq_true rfl) ⟨Nat.le_of_ble_eq_true rfl, Nat.le_of_ble_eq_true rfl⟩ ⟨Nat.le_of_ble_eq_true rfl, Nat.le_of_ble_eq_true rfl⟩ dX12_must_52 (fun hk => mX12_in Y hF _ _ _ _ _ _  h) (fun v M_9 h => ?_)
            obtain ⟨r_10, rfl, h⟩ := h
            refine r_if_ne hC 64 rfl dX12_must_55 (by decide) (fun cq => ?_) (fun cq => ?_)
            · replace h := h.2 cq
              refine r_aload_n hC 0 dX12_must_64 rfl rfl ?_
              have q_11 : 0 < a0 + 1 ∧ M0 0 (a0 + 1) = kA 0 1522 := lay_f0 (a := a0) hL qa0 fm_12_0
              refine r_getR0 (a' := a0 + 1) hC fg_X12_7 rfl hF fm_12_0 qa0.1 qa0.2 rfl dX12_must_65 ?_
              refine r_iconst hC dX12_must_68 ?_
              refine r_iald hC ⟨by decide +kernel, by decide +kernel⟩ q_11.1 q_11.2 (by decide) dX12_must_69 ?_
              refine r_bipush hC (by decide +kernel) dX12_must_70 ?_
              refine r_icmp_ne hC 81 rfl bmL_10 dX12_must_72 (by decide) (fun cq => ?_) (fun cq => ?_)
              · replace h := h.2 cq
                refine r_sipush hC (by decide +kernel) dX12_must_81 ?_
                refine r_iconst hC dX12_must_84 ?_
                refine r_aload_n hC 0 dX12_must_85 rfl rfl ?_
                have q_12 : 0 < a0 + 1 ∧ M0 0 (a0 + 1) = kA 0 1522 := lay_f0 (a := a0) hL qa0 fm_12_0
                refine r_getR0 (a' := a0 + 1) hC fg_X12_7 rfl hF fm_12_0 qa0.1 qa0.2 rfl dX12_must_86 ?_
                refine r_iconst hC dX12_must_89 ?_
                refine r_iald hC ⟨by decide +kernel, by decide +kernel⟩ q_12.1 q_12.2 (by decide) dX12_must_90 ?_
                refine r_imul hC dX12_must_91 ?_
                refine r_iadd hC dX12_must_92 ?_
                refine r_nameI h (fun x4_13 h => ?_)
                refine r_istore (lv' := [(4, vI x4_13), (0, vR Y.1 a0), (1, vI x1), (2, vI x2), (3, vI x3)]) hC dX12_must_93 (by decide) rfl ?_
                refine r_aload_n hC 1 dX12_must_95 rfl rfl ?_
                have q_14 : 0 < a0 + 1 ∧ M0 0 (a0 + 1) = kA 0 1522 := lay_f0 (a := a0) hL qa0 fm_12_0
                refine r_getR0 (a' := a0 + 1) hC fg_X12_7 rfl hF fm_12_0 qa0.1 qa0.2 rfl dX12_must_96 ?_
                refine r_iload hC 0 dX12_must_99 rfl ?_
                refine r_iload_n hC 2 dX12_must_101 rfl rfl ?_
                obtain ⟨i_15, h⟩ := h
                refine r_iast hC i_15 q_14.1 q_14.2 (by decide) dX12_must_102 ?_
                refine r_nameM h (fun M_16 h => ?_)
                refine r_aload_n hC 1 dX12_must_103 rfl rfl ?_
                have q_17 : 0 < a0 + 1 ∧ M0 0 (a0 + 1) = kA 0 1522 := lay_f0 (a := a0) hL qa0 fm_12_0
                refine r_getR0 (a' := a0 + 1) hC fg_X12_7 rfl hF fm_12_0 qa0.1 qa0.2 rfl dX12_must_104 ?_
                refine r_iload hC 0 dX12_must_107 rfl ?_
                refine r_iconst hC dX12_must_109 ?_
                refine r_iadd hC dX12_must_110 ?_
                refine r_iload_n hC 3 dX12_must_111 rfl rfl ?_
                refine r_bipush hC (by decide +kernel) dX12_must_112 ?_
                refine r_idiv hC (by decide +kernel) dX12_must_114 ?_
                obtain ⟨i_18, h⟩ := h
                refine r_iast hC i_18 q_17.1 q_17.2 (by decide) dX12_must_115 ?_
                refine r_nameM h (fun M_19 h => ?_)
                refine r_aload_n hC 1 dX12_must_116 rfl rfl ?_
                have q_20 : 0 < a0 + 1 ∧ M0 0 (a0 + 1) = kA 0 1522 := lay_f0 (a := a0) hL qa0 fm_12_0
                refine r_getR0 (a' := a0 + 1) hC fg_X12_7 rfl hF fm_12_0 qa0.1 qa0.2 rfl dX12_must_117 ?_
                refine r_iload hC 0 dX12_must_120 rfl ?_
                refine r_iconst hC dX12_must_122 ?_
                refine r_iadd hC dX12_must_123 ?_
                refine r_iload_n hC 3 dX12_must_124 rfl rfl ?_
                refine r_bipush hC (by decide +kernel) dX12_must_125 ?_
                refine r_irem hC (by decide +kernel) dX12_must_127 ?_
                obtain ⟨i_21, h⟩ := h
                refine r_iast hC i_21 q_20.1 q_20.2 (by decide) dX12_must_128 ?_
                refine r_nameM h (fun M_22 h => ?_)
                refine r_aload_n hC 1 dX12_must_129 rfl rfl ?_
                have q_23 : 0 < a0 + 1 ∧ M0 0 (a0 + 1) = kA 0 1522 := lay_f0 (a := a0) hL qa0 fm_12_0
                refine r_getR0 (a' := a0 + 1) hC fg_X12_7 rfl hF fm_12_0 qa0.1 qa0.2 rfl dX12_must_130 ?_
                refine r_iload hC 0 dX12_must_133 rfl ?_
                refine r_iconst hC dX12_must_135 ?_
                refine r_iadd hC dX12_must_136 ?_
                refine r_iload_n hC 4 dX12_must_137 rfl rfl ?_
                obtain ⟨i_24, h⟩ := h
                refine r_iast hC i_24 q_23.1 q_23.2 (by decide) dX12_must_138 ?_
                refine r_nameM h (fun M_25 h => ?_)
                refine r_aload_n hC 1 dX12_must_139 rfl rfl ?_
                have q_26 : 0 < a0 + 1 ∧ M0 0 (a0 + 1) = kA 0 1522 := lay_f0 (a := a0) hL qa0 fm_12_0
                refine r_getR0 (a' := a0 + 1) hC fg_X12_7 rfl hF fm_12_0 qa0.1 qa0.2 rfl dX12_must_140 ?_
                refine r_iconst hC dX12_must_143 ?_
                refine r_dup2 hC rfl rfl dX12_must_144 ?_
                refine r_iald hC ⟨by decide +kernel, by decide +kernel⟩ q_26.1 q_26.2 (by decide) dX12_must_145 ?_
                refine r_iconst hC dX12_must_146 ?_
                refine r_iadd hC dX12_must_147 ?_
                refine r_iast hC ⟨by decide +kernel, by decide +kernel⟩ q_26.1 q_26.2 (by decide) dX12_must_148 ?_
                refine r_nameM h (fun M_27 h => ?_)
                refine r_aload_n hC 1 dX12_must_149 rfl rfl ?_
                have q_28 : 0 < a0 + 1 ∧ M0 0 (a0 + 1) = kA 0 1522 := lay_f0 (a := a0) hL qa0 fm_12_0
                refine r_getR0 (a' := a0 + 1) hC fg_X12_7 rfl hF fm_12_0 qa0.1 qa0.2 rfl dX12_must_150 ?_
                refine r_iconst hC dX12_must_153 ?_
                refine r_iald hC ⟨by decide +kernel, by decide +kernel⟩ q_28.1 q_28.2 (by decide) dX12_must_154 ?_
                refine r_iconst hC dX12_must_155 ?_
                refine r_isub hC dX12_must_156 ?_
                exact r_iret hC (Nat.zero_le _) (Nat.zero_le _) dX12_must_157 ⟨_, rfl, h⟩
              · replace h := h.1 cq
                refine r_aload_n hC 0 dX12_must_75 rfl rfl ?_
                refine r_iconst hC dX12_must_76 ?_
                refine r_callV (As := [vI 4]) (st := []) hC cw_X12_83 rfl qa0.1 qa0.2 rfl rfl (Nat.le_of_ble_eq_true rfl) ⟨Nat.le_of_ble_eq_true rfl, Nat.le_of_ble_eq_true rfl⟩ ⟨Nat.le_of_ble_eq_true rfl, Nat.le_of_ble_eq_true rfl⟩ dX12_must_77 (fun hk => mX12_error Y hF _ _ _ _ _ (kqO hk qa0) h) (fun v M_29 h => ?_)
                obtain ⟨r_30, rfl, h⟩ := h
                exact r_iret hC (Nat.zero_le _) (Nat.zero_le _) dX12_must_80 ⟨_, rfl, h⟩
            · replace h := h.1 cq
              refine r_sub [0] rfl ?_
              exact tX12_must_J58 hC hF hL Q   _ qa0  _ h
theorem dX12_feed_0 : dec cX12_feed 0 1 1 (.iload_n 3) := ⟨by decide +kernel, rfl⟩
theorem dX12_feed_1 : dec cX12_feed 1 1 2 (.iconst 1) := ⟨by decide +kernel, rfl⟩
theorem dX12_feed_2 : dec cX12_feed 2 2 4 (.bipush 8) := ⟨by decide +kernel, rfl⟩
theorem dX12_feed_4 : dec cX12_feed 4 3 7 (.invokestatic 79) := ⟨by decide +kernel, rfl⟩
theorem dX12_feed_7 : dec cX12_feed 7 3 10 (.ifCond .ne 9) := ⟨by decide +kernel, rfl⟩
theorem dX12_feed_10 : dec cX12_feed 10 1 11 (.aload_n 0) := ⟨by decide +kernel, rfl⟩
theorem dX12_feed_11 : dec cX12_feed 11 1 12 (.iconst 1) := ⟨by decide +kernel, rfl⟩
theorem dX12_feed_12 : dec cX12_feed 12 3 15 (.invokevirtual 83) := ⟨by decide +kernel, rfl⟩
theorem dX12_feed_15 : dec cX12_feed 15 1 16 (.ireturn) := ⟨by decide +kernel, rfl⟩
theorem dX12_feed_16 : dec cX12_feed 16 1 17 (.aload_n 0) := ⟨by decide +kernel, rfl⟩
theorem dX12_feed_17 : dec cX12_feed 17 3 20 (.getfield 7) := ⟨by decide +kernel, rfl⟩
theorem dX12_feed_20 : dec cX12_feed 20 1 21 (.iconst 4) := ⟨by decide +kernel, rfl⟩
theorem dX12_feed_21 : dec cX12_feed 21 1 22 (.iaload) := ⟨by decide +kernel, rfl⟩
theorem dX12_feed_22 : dec cX12_feed 22 1 23 (.iload_n 3) := ⟨by decide +kernel, rfl⟩
theorem dX12_feed_23 : dec cX12_feed 23 1 24 (.iadd) := ⟨by decide +kernel, rfl⟩
theorem dX12_feed_24 : dec cX12_feed 24 2 26 (.bipush 50) := ⟨by decide +kernel, rfl⟩
theorem dX12_feed_26 : dec cX12_feed 26 3 29 (.if_icmp .le 9) := ⟨by decide +kernel, rfl⟩
theorem dX12_feed_29 : dec cX12_feed 29 1 30 (.aload_n 0) := ⟨by decide +kernel, rfl⟩
theorem dX12_feed_30 : dec cX12_feed 30 1 31 (.iconst 4) := ⟨by decide +kernel, rfl⟩
theorem dX12_feed_31 : dec cX12_feed 31 3 34 (.invokevirtual 83) := ⟨by decide +kernel, rfl⟩
theorem dX12_feed_34 : dec cX12_feed 34 1 35 (.ireturn) := ⟨by decide +kernel, rfl⟩
theorem dX12_feed_35 : dec cX12_feed 35 1 36 (.iconst 0) := ⟨by decide +kernel, rfl⟩
theorem dX12_feed_36 : dec cX12_feed 36 2 38 (.istore 4) := ⟨by decide +kernel, rfl⟩
theorem dX12_feed_38 : dec cX12_feed 38 2 40 (.iload 4) := ⟨by decide +kernel, rfl⟩
theorem dX12_feed_40 : dec cX12_feed 40 1 41 (.iload_n 3) := ⟨by decide +kernel, rfl⟩
theorem dX12_feed_41 : dec cX12_feed 41 3 44 (.if_icmp .ge 46) := ⟨by decide +kernel, rfl⟩
theorem dX12_feed_44 : dec cX12_feed 44 1 45 (.aload_n 0) := ⟨by decide +kernel, rfl⟩
theorem dX12_feed_45 : dec cX12_feed 45 3 48 (.getfield 7) := ⟨by decide +kernel, rfl⟩
theorem dX12_feed_48 : dec cX12_feed 48 3 51 (.sipush 1460) := ⟨by decide +kernel, rfl⟩
theorem dX12_feed_51 : dec cX12_feed 51 1 52 (.aload_n 0) := ⟨by decide +kernel, rfl⟩
theorem dX12_feed_52 : dec cX12_feed 52 3 55 (.getfield 7) := ⟨by decide +kernel, rfl⟩
theorem dX12_feed_55 : dec cX12_feed 55 1 56 (.iconst 4) := ⟨by decide +kernel, rfl⟩
theorem dX12_feed_56 : dec cX12_feed 56 1 57 (.iaload) := ⟨by decide +kernel, rfl⟩
theorem dX12_feed_57 : dec cX12_feed 57 1 58 (.iadd) := ⟨by decide +kernel, rfl⟩
theorem dX12_feed_58 : dec cX12_feed 58 1 59 (.lload_n 1) := ⟨by decide +kernel, rfl⟩
theorem dX12_feed_59 : dec cX12_feed 59 2 61 (.bipush 8) := ⟨by decide +kernel, rfl⟩
theorem dX12_feed_61 : dec cX12_feed 61 2 63 (.iload 4) := ⟨by decide +kernel, rfl⟩
theorem dX12_feed_63 : dec cX12_feed 63 1 64 (.imul) := ⟨by decide +kernel, rfl⟩
theorem dX12_feed_64 : dec cX12_feed 64 1 65 (.lshr) := ⟨by decide +kernel, rfl⟩
theorem dX12_feed_65 : dec cX12_feed 65 3 68 (.ldc2_w 104) := ⟨by decide +kernel, rfl⟩
theorem dX12_feed_68 : dec cX12_feed 68 1 69 (.land) := ⟨by decide +kernel, rfl⟩
theorem dX12_feed_69 : dec cX12_feed 69 1 70 (.l2i) := ⟨by decide +kernel, rfl⟩
theorem dX12_feed_70 : dec cX12_feed 70 1 71 (.iastore) := ⟨by decide +kernel, rfl⟩
theorem dX12_feed_71 : dec cX12_feed 71 1 72 (.aload_n 0) := ⟨by decide +kernel, rfl⟩
theorem dX12_feed_72 : dec cX12_feed 72 3 75 (.getfield 7) := ⟨by decide +kernel, rfl⟩
theorem dX12_feed_75 : dec cX12_feed 75 1 76 (.iconst 4) := ⟨by decide +kernel, rfl⟩
theorem dX12_feed_76 : dec cX12_feed 76 1 77 (.dup2) := ⟨by decide +kernel, rfl⟩
theorem dX12_feed_77 : dec cX12_feed 77 1 78 (.iaload) := ⟨by decide +kernel, rfl⟩
theorem dX12_feed_78 : dec cX12_feed 78 1 79 (.iconst 1) := ⟨by decide +kernel, rfl⟩
theorem dX12_feed_79 : dec cX12_feed 79 1 80 (.iadd) := ⟨by decide +kernel, rfl⟩
theorem dX12_feed_80 : dec cX12_feed 80 1 81 (.iastore) := ⟨by decide +kernel, rfl⟩
theorem dX12_feed_81 : dec cX12_feed 81 3 84 (.iinc 4 1) := ⟨by decide +kernel, rfl⟩
theorem dX12_feed_84 : dec cX12_feed 84 3 87 (.goto (-46)) := ⟨by decide +kernel, rfl⟩
theorem dX12_feed_87 : dec cX12_feed 87 1 88 (.aload_n 0) := ⟨by decide +kernel, rfl⟩
theorem dX12_feed_88 : dec cX12_feed 88 3 91 (.getfield 7) := ⟨by decide +kernel, rfl⟩
theorem dX12_feed_91 : dec cX12_feed 91 1 92 (.iconst 4) := ⟨by decide +kernel, rfl⟩
theorem dX12_feed_92 : dec cX12_feed 92 1 93 (.iaload) := ⟨by decide +kernel, rfl⟩
theorem dX12_feed_93 : dec cX12_feed 93 1 94 (.ireturn) := ⟨by decide +kernel, rfl⟩
set_option maxHeartbeats 4000000 in
set_option maxRecDepth 100000 in
theorem tX12_feed_L38 {X : Cx} {Y : Yx} {M0 : Mem} (hC : OKX X Y RX12 cX12_feed 5 (some .int) rmX12_feed) (hF : Y.2.2.2.2 = true) (hL : Lay M0) (Q : Int → Mem → Prop)  (a0 : Nat) (l1 : Int) (x3 : Int) (qa0 : 0 < a0 ∧ M0 0 a0 = kO 12)  : ∀ (N : Nat) (x4 : Int) (M : Mem) (_ : wX12_feed_L38 Q  a0 l1 x3 N x4 M), WW X Y 5 rmX12_feed (QI Q) M0 0 0 38 [(0, vR Y.1 a0), (1, vL l1), (3, vI x3), (4, vI x4)] [] M := by
  intro N
  induction N with
  | zero =>
    intro x4 M h
    exact h.elim
  | succ N ih =>
    intro x4 M h
    unfold wX12_feed_L38 at h
    refine r_iload hC 3 dX12_feed_38 rfl ?_
    refine r_iload_n hC 2 dX12_feed_40 rfl rfl ?_
    refine r_icmp_ge hC 87 rfl rfl dX12_feed_41 (by decide) (fun cq => ?_) (fun cq => ?_)
    · replace h := h.1 cq
      refine r_aload_n hC 0 dX12_feed_87 rfl rfl ?_
      have q_4 : 0 < a0 + 1 ∧ M0 0 (a0 + 1) = kA 0 1522 := lay_f0 (a := a0) hL qa0 fm_12_0
      refine r_getR0 (a' := a0 + 1) hC fg_X12_7 rfl hF fm_12_0 qa0.1 qa0.2 rfl dX12_feed_88 ?_
      refine r_iconst hC dX12_feed_91 ?_
      refine r_iald hC ⟨by decide +kernel, by decide +kernel⟩ q_4.1 q_4.2 (by decide) dX12_feed_92 ?_
      exact r_iret hC (Nat.zero_le _) (Nat.zero_le _) dX12_feed_93 ⟨_, rfl, h⟩
    · replace h := h.2 cq
      refine r_aload_n hC 0 dX12_feed_44 rfl rfl ?_
      have q_5 : 0 < a0 + 1 ∧ M0 0 (a0 + 1) = kA 0 1522 := lay_f0 (a := a0) hL qa0 fm_12_0
      refine r_getR0 (a' := a0 + 1) hC fg_X12_7 rfl hF fm_12_0 qa0.1 qa0.2 rfl dX12_feed_45 ?_
      refine r_sipush hC (by decide +kernel) dX12_feed_48 ?_
      refine r_aload_n hC 0 dX12_feed_51 rfl rfl ?_
      have q_6 : 0 < a0 + 1 ∧ M0 0 (a0 + 1) = kA 0 1522 := lay_f0 (a := a0) hL qa0 fm_12_0
      refine r_getR0 (a' := a0 + 1) hC fg_X12_7 rfl hF fm_12_0 qa0.1 qa0.2 rfl dX12_feed_52 ?_
      refine r_iconst hC dX12_feed_55 ?_
      refine r_iald hC ⟨by decide +kernel, by decide +kernel⟩ q_6.1 q_6.2 (by decide) dX12_feed_56 ?_
      refine r_iadd hC dX12_feed_57 ?_
      refine r_lload_n hC 1 dX12_feed_58 rfl rfl ?_
      refine r_bipush hC (by decide +kernel) dX12_feed_59 ?_
      refine r_iload hC 3 dX12_feed_61 rfl ?_
      refine r_imul hC dX12_feed_63 ?_
      refine r_lshr hC dX12_feed_64 ?_
      refine r_ldc2 hC kl_X12_104 dX12_feed_65 ?_
      refine r_land hC dX12_feed_68 ?_
      refine r_l2i hC dX12_feed_69 ?_
      obtain ⟨i_7, h⟩ := h
      refine r_iast hC i_7 q_5.1 q_5.2 (by decide) dX12_feed_70 ?_
      refine r_nameM h (fun M_8 h => ?_)
      refine r_aload_n hC 0 dX12_feed_71 rfl rfl ?_
      have q_9 : 0 < a0 + 1 ∧ M0 0 (a0 + 1) = kA 0 1522 := lay_f0 (a := a0) hL qa0 fm_12_0
      refine r_getR0 (a' := a0 + 1) hC fg_X12_7 rfl hF fm_12_0 qa0.1 qa0.2 rfl dX12_feed_72 ?_
      refine r_iconst hC dX12_feed_75 ?_
      refine r_dup2 hC rfl rfl dX12_feed_76 ?_
      refine r_iald hC ⟨by decide +kernel, by decide +kernel⟩ q_9.1 q_9.2 (by decide) dX12_feed_77 ?_
      refine r_iconst hC dX12_feed_78 ?_
      refine r_iadd hC dX12_feed_79 ?_
      refine r_iast hC ⟨by decide +kernel, by decide +kernel⟩ q_9.1 q_9.2 (by decide) dX12_feed_80 ?_
      refine r_nameM h (fun M_10 h => ?_)
      refine let_elim h (fun x4_11 e_12 h => ?_)
      refine r_iinc (lv' := [(4, vI x4_11), (0, vR Y.1 a0), (1, vL l1), (3, vI x3)]) hC 3 dX12_feed_81 rfl (by decide) e_12 rfl ?_
      refine r_goto hC 38 dX12_feed_84 (by decide) ?_
      refine r_sub [1, 2, 3, 0] rfl ?_
      exact ih _ _ h
set_option maxHeartbeats 4000000 in
set_option maxRecDepth 100000 in
theorem mX12_feed (Y : Yx) (hF : Y.2.2.2.2 = true) (l : Launch) (a0 : Nat) (l1 : Int) (x3 : Int) (M0 : Mem) (Q : Int → Mem → Prop) (qa0 : 0 < a0 ∧ M0 0 a0 = kO 12) (h : wX12_feed a0 l1 x3 M0 Q) : CT Y l yX12_feed cX12_feed 5 (some .int) rmX12_feed [vR Y.1 a0, vL l1, vI x3] M0 (QI Q) := by
  unfold wX12_feed at h
  refine ct_intro (by decide) (Nat.le_of_ble_eq_true rfl) ?_
  intro X hXl hC hL0
  have hL := hL0 hF
  change OKX X Y RX12 cX12_feed 5 (some .int) rmX12_feed at hC
  change WW X Y 5 rmX12_feed (QI Q) M0 0 0 0 [(0, vR Y.1 a0), (1, vL l1), (3, vI x3)] [] M0
  refine r_iload_n hC 2 dX12_feed_0 rfl rfl ?_
  refine r_iconst hC dX12_feed_1 ?_
  refine r_bipush hC (by decide +kernel) dX12_feed_2 ?_
  refine r_callS (As := [vI x3, vI 1, vI 8]) (st := []) hC cw_X12_79 rfl rfl (Nat.le_of_ble_eq_true rfl) ⟨Nat.le_of_ble_eq_true rfl, Nat.le_of_ble_eq_true rfl⟩ ⟨Nat.le_of_ble_eq_true rfl, Nat.le_of_ble_eq_true rfl⟩ dX12_feed_4 (fun hk => mX12_in Y hF _ _ _ _ _ _  h) (fun v M_1 h => ?_)
  obtain ⟨r_2, rfl, h⟩ := h
  refine r_if_ne hC 16 rfl dX12_feed_7 (by decide) (fun cq => ?_) (fun cq => ?_)
  · replace h := h.2 cq
    refine r_aload_n hC 0 dX12_feed_16 rfl rfl ?_
    have q_3 : 0 < a0 + 1 ∧ M0 0 (a0 + 1) = kA 0 1522 := lay_f0 (a := a0) hL qa0 fm_12_0
    refine r_getR0 (a' := a0 + 1) hC fg_X12_7 rfl hF fm_12_0 qa0.1 qa0.2 rfl dX12_feed_17 ?_
    refine r_iconst hC dX12_feed_20 ?_
    refine r_iald hC ⟨by decide +kernel, by decide +kernel⟩ q_3.1 q_3.2 (by decide) dX12_feed_21 ?_
    refine r_iload_n hC 2 dX12_feed_22 rfl rfl ?_
    refine r_iadd hC dX12_feed_23 ?_
    refine r_bipush hC (by decide +kernel) dX12_feed_24 ?_
    refine r_icmp_le hC 35 rfl bmL_50 dX12_feed_26 (by decide) (fun cq => ?_) (fun cq => ?_)
    · replace h := h.1 cq
      refine r_iconst hC dX12_feed_35 ?_
      refine r_istore (lv' := [(4, vI 0), (0, vR Y.1 a0), (1, vL l1), (3, vI x3)]) hC dX12_feed_36 (by decide) rfl ?_
      refine r_sub [1, 2, 3, 0] rfl ?_
      obtain ⟨N_13, h⟩ := h
      refine tX12_feed_L38 hC hF hL Q  _ _ _ qa0  N_13 _ _ h
    · replace h := h.2 cq
      refine r_aload_n hC 0 dX12_feed_29 rfl rfl ?_
      refine r_iconst hC dX12_feed_30 ?_
      refine r_callV (As := [vI 4]) (st := []) hC cw_X12_83 rfl qa0.1 qa0.2 rfl rfl (Nat.le_of_ble_eq_true rfl) ⟨Nat.le_of_ble_eq_true rfl, Nat.le_of_ble_eq_true rfl⟩ ⟨Nat.le_of_ble_eq_true rfl, Nat.le_of_ble_eq_true rfl⟩ dX12_feed_31 (fun hk => mX12_error Y hF _ _ _ _ _ (kqO hk qa0) h) (fun v M_14 h => ?_)
      obtain ⟨r_15, rfl, h⟩ := h
      exact r_iret hC (Nat.zero_le _) (Nat.zero_le _) dX12_feed_34 ⟨_, rfl, h⟩
  · replace h := h.1 cq
    refine r_aload_n hC 0 dX12_feed_10 rfl rfl ?_
    refine r_iconst hC dX12_feed_11 ?_
    refine r_callV (As := [vI 1]) (st := []) hC cw_X12_83 rfl qa0.1 qa0.2 rfl rfl (Nat.le_of_ble_eq_true rfl) ⟨Nat.le_of_ble_eq_true rfl, Nat.le_of_ble_eq_true rfl⟩ ⟨Nat.le_of_ble_eq_true rfl, Nat.le_of_ble_eq_true rfl⟩ dX12_feed_12 (fun hk => mX12_error Y hF _ _ _ _ _ (kqO hk qa0) h) (fun v M_16 h => ?_)
    obtain ⟨r_17, rfl, h⟩ := h
    exact r_iret hC (Nat.zero_le _) (Nat.zero_le _) dX12_feed_15 ⟨_, rfl, h⟩
theorem dX12_look_0 : dec cX12_look 0 1 1 (.aload_n 0) := ⟨by decide +kernel, rfl⟩
theorem dX12_look_1 : dec cX12_look 1 3 4 (.getfield 106) := ⟨by decide +kernel, rfl⟩
theorem dX12_look_4 : dec cX12_look 4 1 5 (.aload_n 0) := ⟨by decide +kernel, rfl⟩
theorem dX12_look_5 : dec cX12_look 5 3 8 (.getfield 7) := ⟨by decide +kernel, rfl⟩
theorem dX12_look_8 : dec cX12_look 8 1 9 (.iconst 4) := ⟨by decide +kernel, rfl⟩
theorem dX12_look_9 : dec cX12_look 9 1 10 (.iaload) := ⟨by decide +kernel, rfl⟩
theorem dX12_look_10 : dec cX12_look 10 3 13 (.if_icmp .ge 19) := ⟨by decide +kernel, rfl⟩
theorem dX12_look_13 : dec cX12_look 13 1 14 (.aload_n 0) := ⟨by decide +kernel, rfl⟩
theorem dX12_look_14 : dec cX12_look 14 3 17 (.getfield 7) := ⟨by decide +kernel, rfl⟩
theorem dX12_look_17 : dec cX12_look 17 3 20 (.sipush 1460) := ⟨by decide +kernel, rfl⟩
theorem dX12_look_20 : dec cX12_look 20 1 21 (.aload_n 0) := ⟨by decide +kernel, rfl⟩
theorem dX12_look_21 : dec cX12_look 21 3 24 (.getfield 106) := ⟨by decide +kernel, rfl⟩
theorem dX12_look_24 : dec cX12_look 24 1 25 (.iadd) := ⟨by decide +kernel, rfl⟩
theorem dX12_look_25 : dec cX12_look 25 1 26 (.iaload) := ⟨by decide +kernel, rfl⟩
theorem dX12_look_26 : dec cX12_look 26 3 29 (.goto 4) := ⟨by decide +kernel, rfl⟩
theorem dX12_look_29 : dec cX12_look 29 1 30 (.iconst (-1)) := ⟨by decide +kernel, rfl⟩
theorem dX12_look_30 : dec cX12_look 30 1 31 (.ireturn) := ⟨by decide +kernel, rfl⟩
set_option maxHeartbeats 4000000 in
set_option maxRecDepth 100000 in
theorem mX12_look (Y : Yx) (hF : Y.2.2.2.2 = true) (l : Launch) (a0 : Nat) (M0 : Mem) (Q : Int → Mem → Prop) (qa0 : 0 < a0 ∧ M0 0 a0 = kO 12) (h : wX12_look a0 M0 Q) : CT Y l yX12_look cX12_look 1 (some .int) rmX12_look [vR Y.1 a0] M0 (QI Q) := by
  unfold wX12_look at h
  refine ct_intro (by decide) (Nat.le_of_ble_eq_true rfl) ?_
  intro X hXl hC hL0
  have hL := hL0 hF
  change OKX X Y RX12 cX12_look 1 (some .int) rmX12_look at hC
  change WW X Y 1 rmX12_look (QI Q) M0 0 0 0 [(0, vR Y.1 a0)] [] M0
  refine r_aload_n hC 0 dX12_look_0 rfl rfl ?_
  refine r_getI hC fg_X12_106 rfl qa0.1 qa0.2 dX12_look_1 ?_
  refine r_aload_n hC 0 dX12_look_4 rfl rfl ?_
  have q_1 : 0 < a0 + 1 ∧ M0 0 (a0 + 1) = kA 0 1522 := lay_f0 (a := a0) hL qa0 fm_12_0
  refine r_getR0 (a' := a0 + 1) hC fg_X12_7 rfl hF fm_12_0 qa0.1 qa0.2 rfl dX12_look_5 ?_
  refine r_iconst hC dX12_look_8 ?_
  refine r_iald hC ⟨by decide +kernel, by decide +kernel⟩ q_1.1 q_1.2 (by decide) dX12_look_9 ?_
  refine r_icmp_ge hC 29 rfl rfl dX12_look_10 (by decide) (fun cq => ?_) (fun cq => ?_)
  · replace h := h.1 cq
    refine r_iconst hC dX12_look_29 ?_
    exact r_iret hC (Nat.zero_le _) (Nat.zero_le _) dX12_look_30 ⟨_, rfl, h⟩
  · replace h := h.2 cq
    refine r_aload_n hC 0 dX12_look_13 rfl rfl ?_
    have q_2 : 0 < a0 + 1 ∧ M0 0 (a0 + 1) = kA 0 1522 := lay_f0 (a := a0) hL qa0 fm_12_0
    refine r_getR0 (a' := a0 + 1) hC fg_X12_7 rfl hF fm_12_0 qa0.1 qa0.2 rfl dX12_look_14 ?_
    refine r_sipush hC (by decide +kernel) dX12_look_17 ?_
    refine r_aload_n hC 0 dX12_look_20 rfl rfl ?_
    refine r_getI hC fg_X12_106 rfl qa0.1 qa0.2 dX12_look_21 ?_
    refine r_iadd hC dX12_look_24 ?_
    obtain ⟨i_3, h⟩ := h
    refine r_iald hC i_3 q_2.1 q_2.2 (by decide) dX12_look_25 ?_
    refine r_goto hC 30 dX12_look_26 (by decide) ?_
    exact r_iret hC (Nat.zero_le _) (Nat.zero_le _) dX12_look_30 ⟨_, rfl, h⟩
theorem dX12_isName_0 : dec cX12_isName 0 1 1 (.aload_n 0) := ⟨by decide +kernel, rfl⟩
theorem dX12_isName_1 : dec cX12_isName 1 3 4 (.getfield 110) := ⟨by decide +kernel, rfl⟩
theorem dX12_isName_4 : dec cX12_isName 4 36 40 (.tableswitch 114 1 5 #[36, 66, 78, 114, 36]) := ⟨by decide +kernel, rfl⟩
theorem dX12_isName_40 : dec cX12_isName 40 1 41 (.iload_n 1) := ⟨by decide +kernel, rfl⟩
theorem dX12_isName_41 : dec cX12_isName 41 2 43 (.bipush 97) := ⟨by decide +kernel, rfl⟩
theorem dX12_isName_43 : dec cX12_isName 43 3 46 (.if_icmp .eq 21) := ⟨by decide +kernel, rfl⟩
theorem dX12_isName_46 : dec cX12_isName 46 1 47 (.iload_n 1) := ⟨by decide +kernel, rfl⟩
theorem dX12_isName_47 : dec cX12_isName 47 2 49 (.bipush 98) := ⟨by decide +kernel, rfl⟩
theorem dX12_isName_49 : dec cX12_isName 49 3 52 (.if_icmp .eq 15) := ⟨by decide +kernel, rfl⟩
theorem dX12_isName_52 : dec cX12_isName 52 1 53 (.iload_n 1) := ⟨by decide +kernel, rfl⟩
theorem dX12_isName_53 : dec cX12_isName 53 2 55 (.bipush 107) := ⟨by decide +kernel, rfl⟩
theorem dX12_isName_55 : dec cX12_isName 55 3 58 (.if_icmp .eq 9) := ⟨by decide +kernel, rfl⟩
theorem dX12_isName_58 : dec cX12_isName 58 1 59 (.iload_n 1) := ⟨by decide +kernel, rfl⟩
theorem dX12_isName_59 : dec cX12_isName 59 2 61 (.bipush 115) := ⟨by decide +kernel, rfl⟩
theorem dX12_isName_61 : dec cX12_isName 61 3 64 (.if_icmp .ne 7) := ⟨by decide +kernel, rfl⟩
theorem dX12_isName_64 : dec cX12_isName 64 1 65 (.iconst 1) := ⟨by decide +kernel, rfl⟩
theorem dX12_isName_65 : dec cX12_isName 65 3 68 (.goto 4) := ⟨by decide +kernel, rfl⟩
theorem dX12_isName_68 : dec cX12_isName 68 1 69 (.iconst 0) := ⟨by decide +kernel, rfl⟩
theorem dX12_isName_69 : dec cX12_isName 69 1 70 (.ireturn) := ⟨by decide +kernel, rfl⟩
theorem dX12_isName_70 : dec cX12_isName 70 1 71 (.iload_n 1) := ⟨by decide +kernel, rfl⟩
theorem dX12_isName_71 : dec cX12_isName 71 2 73 (.bipush 109) := ⟨by decide +kernel, rfl⟩
theorem dX12_isName_73 : dec cX12_isName 73 3 76 (.if_icmp .ne 7) := ⟨by decide +kernel, rfl⟩
theorem dX12_isName_76 : dec cX12_isName 76 1 77 (.iconst 1) := ⟨by decide +kernel, rfl⟩
theorem dX12_isName_77 : dec cX12_isName 77 3 80 (.goto 4) := ⟨by decide +kernel, rfl⟩
theorem dX12_isName_80 : dec cX12_isName 80 1 81 (.iconst 0) := ⟨by decide +kernel, rfl⟩
theorem dX12_isName_81 : dec cX12_isName 81 1 82 (.ireturn) := ⟨by decide +kernel, rfl⟩
theorem dX12_isName_82 : dec cX12_isName 82 1 83 (.iload_n 1) := ⟨by decide +kernel, rfl⟩
theorem dX12_isName_83 : dec cX12_isName 83 2 85 (.bipush 112) := ⟨by decide +kernel, rfl⟩
theorem dX12_isName_85 : dec cX12_isName 85 3 88 (.if_icmp .eq 27) := ⟨by decide +kernel, rfl⟩
theorem dX12_isName_88 : dec cX12_isName 88 1 89 (.iload_n 1) := ⟨by decide +kernel, rfl⟩
theorem dX12_isName_89 : dec cX12_isName 89 2 91 (.bipush 110) := ⟨by decide +kernel, rfl⟩
theorem dX12_isName_91 : dec cX12_isName 91 3 94 (.if_icmp .eq 21) := ⟨by decide +kernel, rfl⟩
theorem dX12_isName_94 : dec cX12_isName 94 1 95 (.iload_n 1) := ⟨by decide +kernel, rfl⟩
theorem dX12_isName_95 : dec cX12_isName 95 2 97 (.bipush 108) := ⟨by decide +kernel, rfl⟩
theorem dX12_isName_97 : dec cX12_isName 97 3 100 (.if_icmp .eq 15) := ⟨by decide +kernel, rfl⟩
theorem dX12_isName_100 : dec cX12_isName 100 1 101 (.iload_n 1) := ⟨by decide +kernel, rfl⟩
theorem dX12_isName_101 : dec cX12_isName 101 2 103 (.bipush 105) := ⟨by decide +kernel, rfl⟩
theorem dX12_isName_103 : dec cX12_isName 103 3 106 (.if_icmp .eq 9) := ⟨by decide +kernel, rfl⟩
theorem dX12_isName_106 : dec cX12_isName 106 1 107 (.iload_n 1) := ⟨by decide +kernel, rfl⟩
theorem dX12_isName_107 : dec cX12_isName 107 2 109 (.bipush 106) := ⟨by decide +kernel, rfl⟩
theorem dX12_isName_109 : dec cX12_isName 109 3 112 (.if_icmp .ne 7) := ⟨by decide +kernel, rfl⟩
theorem dX12_isName_112 : dec cX12_isName 112 1 113 (.iconst 1) := ⟨by decide +kernel, rfl⟩
theorem dX12_isName_113 : dec cX12_isName 113 3 116 (.goto 4) := ⟨by decide +kernel, rfl⟩
theorem dX12_isName_116 : dec cX12_isName 116 1 117 (.iconst 0) := ⟨by decide +kernel, rfl⟩
theorem dX12_isName_117 : dec cX12_isName 117 1 118 (.ireturn) := ⟨by decide +kernel, rfl⟩
theorem dX12_isName_118 : dec cX12_isName 118 1 119 (.iload_n 1) := ⟨by decide +kernel, rfl⟩
theorem dX12_isName_119 : dec cX12_isName 119 2 121 (.bipush 116) := ⟨by decide +kernel, rfl⟩
theorem dX12_isName_121 : dec cX12_isName 121 3 124 (.if_icmp .ne 7) := ⟨by decide +kernel, rfl⟩
theorem dX12_isName_124 : dec cX12_isName 124 1 125 (.iconst 1) := ⟨by decide +kernel, rfl⟩
theorem dX12_isName_125 : dec cX12_isName 125 3 128 (.goto 4) := ⟨by decide +kernel, rfl⟩
theorem dX12_isName_128 : dec cX12_isName 128 1 129 (.iconst 0) := ⟨by decide +kernel, rfl⟩
theorem dX12_isName_129 : dec cX12_isName 129 1 130 (.ireturn) := ⟨by decide +kernel, rfl⟩
set_option maxHeartbeats 4000000 in
set_option maxRecDepth 100000 in
theorem tX12_isName_J40 {X : Cx} {Y : Yx} {M0 : Mem} (hC : OKX X Y RX12 cX12_isName 2 (some .boolean) rmX12_isName) (hF : Y.2.2.2.2 = true) (hL : Lay M0) (Q : Int → Mem → Prop)   (x1 : Int)   (M : Mem) (h : wX12_isName_J40 Q  x1 M) : WW X Y 2 rmX12_isName (QI Q) M0 0 0 40 [(1, vI x1)] [] M := by
  unfold wX12_isName_J40 at h
  refine r_iload_n hC 0 dX12_isName_40 rfl rfl ?_
  refine r_bipush hC (by decide +kernel) dX12_isName_41 ?_
  refine r_icmp_eq hC 64 rfl bmL_97 dX12_isName_43 (by decide) (fun cq => ?_) (fun cq => ?_)
  · replace h := h.1 cq
    refine r_iconst hC dX12_isName_64 ?_
    refine r_goto hC 69 dX12_isName_65 (by decide) ?_
    exact r_zret hC (Or.inr rfl) (Nat.zero_le _) (Nat.zero_le _) dX12_isName_69 ⟨_, rfl, h⟩
  · replace h := h.2 cq
    refine r_iload_n hC 0 dX12_isName_46 rfl rfl ?_
    refine r_bipush hC (by decide +kernel) dX12_isName_47 ?_
    refine r_icmp_eq hC 64 rfl bmL_98 dX12_isName_49 (by decide) (fun cq => ?_) (fun cq => ?_)
    · replace h := h.1 cq
      refine r_iconst hC dX12_isName_64 ?_
      refine r_goto hC 69 dX12_isName_65 (by decide) ?_
      exact r_zret hC (Or.inr rfl) (Nat.zero_le _) (Nat.zero_le _) dX12_isName_69 ⟨_, rfl, h⟩
    · replace h := h.2 cq
      refine r_iload_n hC 0 dX12_isName_52 rfl rfl ?_
      refine r_bipush hC (by decide +kernel) dX12_isName_53 ?_
      refine r_icmp_eq hC 64 rfl bmL_107 dX12_isName_55 (by decide) (fun cq => ?_) (fun cq => ?_)
      · replace h := h.1 cq
        refine r_iconst hC dX12_isName_64 ?_
        refine r_goto hC 69 dX12_isName_65 (by decide) ?_
        exact r_zret hC (Or.inr rfl) (Nat.zero_le _) (Nat.zero_le _) dX12_isName_69 ⟨_, rfl, h⟩
      · replace h := h.2 cq
        refine r_iload_n hC 0 dX12_isName_58 rfl rfl ?_
        refine r_bipush hC (by decide +kernel) dX12_isName_59 ?_
        refine r_icmp_ne hC 68 rfl bmL_115 dX12_isName_61 (by decide) (fun cq => ?_) (fun cq => ?_)
        · replace h := h.2 cq
          refine r_iconst hC dX12_isName_68 ?_
          exact r_zret hC (Or.inl rfl) (Nat.zero_le _) (Nat.zero_le _) dX12_isName_69 ⟨_, rfl, h⟩
        · replace h := h.1 cq
          refine r_iconst hC dX12_isName_64 ?_
          refine r_goto hC 69 dX12_isName_65 (by decide) ?_
          exact r_zret hC (Or.inr rfl) (Nat.zero_le _) (Nat.zero_le _) dX12_isName_69 ⟨_, rfl, h⟩
set_option maxHeartbeats 4000000 in
set_option maxRecDepth 100000 in
theorem tX12_isName_J118 {X : Cx} {Y : Yx} {M0 : Mem} (hC : OKX X Y RX12 cX12_isName 2 (some .boolean) rmX12_isName) (hF : Y.2.2.2.2 = true) (hL : Lay M0) (Q : Int → Mem → Prop)   (x1 : Int)   (M : Mem) (h : wX12_isName_J118 Q  x1 M) : WW X Y 2 rmX12_isName (QI Q) M0 0 0 118 [(1, vI x1)] [] M := by
  unfold wX12_isName_J118 at h
  refine r_iload_n hC 0 dX12_isName_118 rfl rfl ?_
  refine r_bipush hC (by decide +kernel) dX12_isName_119 ?_
  refine r_icmp_ne hC 128 rfl bmL_116 dX12_isName_121 (by decide) (fun cq => ?_) (fun cq => ?_)
  · replace h := h.2 cq
    refine r_iconst hC dX12_isName_128 ?_
    exact r_zret hC (Or.inl rfl) (Nat.zero_le _) (Nat.zero_le _) dX12_isName_129 ⟨_, rfl, h⟩
  · replace h := h.1 cq
    refine r_iconst hC dX12_isName_124 ?_
    refine r_goto hC 129 dX12_isName_125 (by decide) ?_
    exact r_zret hC (Or.inr rfl) (Nat.zero_le _) (Nat.zero_le _) dX12_isName_129 ⟨_, rfl, h⟩
set_option maxHeartbeats 4000000 in
set_option maxRecDepth 100000 in
theorem mX12_isName (Y : Yx) (hF : Y.2.2.2.2 = true) (l : Launch) (a0 : Nat) (x1 : Int) (M0 : Mem) (Q : Int → Mem → Prop) (qa0 : 0 < a0 ∧ M0 0 a0 = kO 12) (h : wX12_isName a0 x1 M0 Q) : CT Y l yX12_isName cX12_isName 2 (some .boolean) rmX12_isName [vR Y.1 a0, vI x1] M0 (QI Q) := by
  unfold wX12_isName at h
  refine ct_intro (by decide) (Nat.le_of_ble_eq_true rfl) ?_
  intro X hXl hC hL0
  have hL := hL0 hF
  change OKX X Y RX12 cX12_isName 2 (some .boolean) rmX12_isName at hC
  change WW X Y 2 rmX12_isName (QI Q) M0 0 0 0 [(0, vR Y.1 a0), (1, vI x1)] [] M0
  refine r_aload_n hC 0 dX12_isName_0 rfl rfl ?_
  refine r_getI hC fg_X12_110 rfl qa0.1 qa0.2 dX12_isName_1 ?_
  by_cases c0 : bm (M0 a0 8) = 1
  · replace h := h.1 c0
    refine r_tabIn hC 40 1 dX12_isName_4 c0 (by decide) (by decide) rfl (by decide) ?_
    refine r_sub [1] rfl ?_
    exact tX12_isName_J40 hC hF hL Q   _   _ h
  · replace h := h.2 c0
    by_cases c1 : bm (M0 a0 8) = 2
    · replace h := h.1 c1
      refine r_tabIn hC 70 2 dX12_isName_4 c1 (by decide) (by decide) rfl (by decide) ?_
      refine r_iload_n hC 1 dX12_isName_70 rfl rfl ?_
      refine r_bipush hC (by decide +kernel) dX12_isName_71 ?_
      refine r_icmp_ne hC 80 rfl bmL_109 dX12_isName_73 (by decide) (fun cq => ?_) (fun cq => ?_)
      · replace h := h.2 cq
        refine r_iconst hC dX12_isName_80 ?_
        exact r_zret hC (Or.inl rfl) (Nat.zero_le _) (Nat.zero_le _) dX12_isName_81 ⟨_, rfl, h⟩
      · replace h := h.1 cq
        refine r_iconst hC dX12_isName_76 ?_
        refine r_goto hC 81 dX12_isName_77 (by decide) ?_
        exact r_zret hC (Or.inr rfl) (Nat.zero_le _) (Nat.zero_le _) dX12_isName_81 ⟨_, rfl, h⟩
    · replace h := h.2 c1
      by_cases c2 : bm (M0 a0 8) = 3
      · replace h := h.1 c2
        refine r_tabIn hC 82 3 dX12_isName_4 c2 (by decide) (by decide) rfl (by decide) ?_
        refine r_iload_n hC 1 dX12_isName_82 rfl rfl ?_
        refine r_bipush hC (by decide +kernel) dX12_isName_83 ?_
        refine r_icmp_eq hC 112 rfl bmL_112 dX12_isName_85 (by decide) (fun cq => ?_) (fun cq => ?_)
        · replace h := h.1 cq
          refine r_iconst hC dX12_isName_112 ?_
          refine r_goto hC 117 dX12_isName_113 (by decide) ?_
          exact r_zret hC (Or.inr rfl) (Nat.zero_le _) (Nat.zero_le _) dX12_isName_117 ⟨_, rfl, h⟩
        · replace h := h.2 cq
          refine r_iload_n hC 1 dX12_isName_88 rfl rfl ?_
          refine r_bipush hC (by decide +kernel) dX12_isName_89 ?_
          refine r_icmp_eq hC 112 rfl bmL_110 dX12_isName_91 (by decide) (fun cq => ?_) (fun cq => ?_)
          · replace h := h.1 cq
            refine r_iconst hC dX12_isName_112 ?_
            refine r_goto hC 117 dX12_isName_113 (by decide) ?_
            exact r_zret hC (Or.inr rfl) (Nat.zero_le _) (Nat.zero_le _) dX12_isName_117 ⟨_, rfl, h⟩
          · replace h := h.2 cq
            refine r_iload_n hC 1 dX12_isName_94 rfl rfl ?_
            refine r_bipush hC (by decide +kernel) dX12_isName_95 ?_
            refine r_icmp_eq hC 112 rfl bmL_108 dX12_isName_97 (by decide) (fun cq => ?_) (fun cq => ?_)
            · replace h := h.1 cq
              refine r_iconst hC dX12_isName_112 ?_
              refine r_goto hC 117 dX12_isName_113 (by decide) ?_
              exact r_zret hC (Or.inr rfl) (Nat.zero_le _) (Nat.zero_le _) dX12_isName_117 ⟨_, rfl, h⟩
            · replace h := h.2 cq
              refine r_iload_n hC 1 dX12_isName_100 rfl rfl ?_
              refine r_bipush hC (by decide +kernel) dX12_isName_101 ?_
              refine r_icmp_eq hC 112 rfl bmL_105 dX12_isName_103 (by decide) (fun cq => ?_) (fun cq => ?_)
              · replace h := h.1 cq
                refine r_iconst hC dX12_isName_112 ?_
                refine r_goto hC 117 dX12_isName_113 (by decide) ?_
                exact r_zret hC (Or.inr rfl) (Nat.zero_le _) (Nat.zero_le _) dX12_isName_117 ⟨_, rfl, h⟩
              · replace h := h.2 cq
                refine r_iload_n hC 1 dX12_isName_106 rfl rfl ?_
                refine r_bipush hC (by decide +kernel) dX12_isName_107 ?_
                refine r_icmp_ne hC 116 rfl bmL_106 dX12_isName_109 (by decide) (fun cq => ?_) (fun cq => ?_)
                · replace h := h.2 cq
                  refine r_iconst hC dX12_isName_116 ?_
                  exact r_zret hC (Or.inl rfl) (Nat.zero_le _) (Nat.zero_le _) dX12_isName_117 ⟨_, rfl, h⟩
                · replace h := h.1 cq
                  refine r_iconst hC dX12_isName_112 ?_
                  refine r_goto hC 117 dX12_isName_113 (by decide) ?_
                  exact r_zret hC (Or.inr rfl) (Nat.zero_le _) (Nat.zero_le _) dX12_isName_117 ⟨_, rfl, h⟩
      · replace h := h.2 c2
        by_cases c3 : bm (M0 a0 8) = 4
        · replace h := h.1 c3
          refine r_tabIn hC 118 4 dX12_isName_4 c3 (by decide) (by decide) rfl (by decide) ?_
          refine r_sub [1] rfl ?_
          exact tX12_isName_J118 hC hF hL Q   _   _ h
        · replace h := h.2 c3
          by_cases c4 : bm (M0 a0 8) = 5
          · replace h := h.1 c4
            refine r_tabIn hC 40 5 dX12_isName_4 c4 (by decide) (by decide) rfl (by decide) ?_
            refine r_sub [1] rfl ?_
            exact tX12_isName_J40 hC hF hL Q   _   _ h
          · replace h := h.2 c4
            refine r_tabOut hC 118 dX12_isName_4 (by omega) (by decide) ?_
            refine r_sub [1] rfl ?_
            exact tX12_isName_J118 hC hF hL Q   _   _ h
theorem dX12_lay_0 : dec cX12_lay 0 1 1 (.aload_n 0) := ⟨by decide +kernel, rfl⟩
theorem dX12_lay_1 : dec cX12_lay 1 3 4 (.getfield 19) := ⟨by decide +kernel, rfl⟩
theorem dX12_lay_4 : dec cX12_lay 4 1 5 (.iconst 2) := ⟨by decide +kernel, rfl⟩
theorem dX12_lay_5 : dec cX12_lay 5 1 6 (.aload_n 0) := ⟨by decide +kernel, rfl⟩
theorem dX12_lay_6 : dec cX12_lay 6 3 9 (.getfield 113) := ⟨by decide +kernel, rfl⟩
theorem dX12_lay_9 : dec cX12_lay 9 1 10 (.imul) := ⟨by decide +kernel, rfl⟩
theorem dX12_lay_10 : dec cX12_lay 10 1 11 (.iload_n 1) := ⟨by decide +kernel, rfl⟩
theorem dX12_lay_11 : dec cX12_lay 11 1 12 (.iastore) := ⟨by decide +kernel, rfl⟩
theorem dX12_lay_12 : dec cX12_lay 12 1 13 (.aload_n 0) := ⟨by decide +kernel, rfl⟩
theorem dX12_lay_13 : dec cX12_lay 13 3 16 (.getfield 19) := ⟨by decide +kernel, rfl⟩
theorem dX12_lay_16 : dec cX12_lay 16 1 17 (.iconst 2) := ⟨by decide +kernel, rfl⟩
theorem dX12_lay_17 : dec cX12_lay 17 1 18 (.aload_n 0) := ⟨by decide +kernel, rfl⟩
theorem dX12_lay_18 : dec cX12_lay 18 3 21 (.getfield 113) := ⟨by decide +kernel, rfl⟩
theorem dX12_lay_21 : dec cX12_lay 21 1 22 (.imul) := ⟨by decide +kernel, rfl⟩
theorem dX12_lay_22 : dec cX12_lay 22 1 23 (.iconst 1) := ⟨by decide +kernel, rfl⟩
theorem dX12_lay_23 : dec cX12_lay 23 1 24 (.iadd) := ⟨by decide +kernel, rfl⟩
theorem dX12_lay_24 : dec cX12_lay 24 1 25 (.iload_n 2) := ⟨by decide +kernel, rfl⟩
theorem dX12_lay_25 : dec cX12_lay 25 1 26 (.iastore) := ⟨by decide +kernel, rfl⟩
theorem dX12_lay_26 : dec cX12_lay 26 1 27 (.aload_n 0) := ⟨by decide +kernel, rfl⟩
theorem dX12_lay_27 : dec cX12_lay 27 1 28 (.dup) := ⟨by decide +kernel, rfl⟩
theorem dX12_lay_28 : dec cX12_lay 28 3 31 (.getfield 113) := ⟨by decide +kernel, rfl⟩
theorem dX12_lay_31 : dec cX12_lay 31 1 32 (.iconst 1) := ⟨by decide +kernel, rfl⟩
theorem dX12_lay_32 : dec cX12_lay 32 1 33 (.iadd) := ⟨by decide +kernel, rfl⟩
theorem dX12_lay_33 : dec cX12_lay 33 3 36 (.putfield 113) := ⟨by decide +kernel, rfl⟩
theorem dX12_lay_36 : dec cX12_lay 36 1 37 (.return_) := ⟨by decide +kernel, rfl⟩
set_option maxHeartbeats 4000000 in
set_option maxRecDepth 100000 in
theorem mX12_lay (Y : Yx) (hF : Y.2.2.2.2 = true) (l : Launch) (a0 : Nat) (x1 : Int) (x2 : Int) (M0 : Mem) (Q : Mem → Prop) (qa0 : 0 < a0 ∧ M0 0 a0 = kO 12) (h : wX12_lay a0 x1 x2 M0 Q) : CT Y l yX12_lay cX12_lay 3 none rmX12_lay [vR Y.1 a0, vI x1, vI x2] M0 (QV Q) := by
  unfold wX12_lay at h
  refine ct_intro (by decide) (Nat.le_of_ble_eq_true rfl) ?_
  intro X hXl hC hL0
  have hL := hL0 hF
  change OKX X Y RX12 cX12_lay 3 none rmX12_lay at hC
  change WW X Y 3 rmX12_lay (QV Q) M0 0 0 0 [(0, vR Y.1 a0), (1, vI x1), (2, vI x2)] [] M0
  refine r_aload_n hC 0 dX12_lay_0 rfl rfl ?_
  have q_1 : 0 < a0 + 4 ∧ M0 0 (a0 + 4) = kA 0 104 := lay_f0 (a := a0) hL qa0 fm_12_9
  refine r_getR0 (a' := a0 + 4) hC fg_X12_19 rfl hF fm_12_9 qa0.1 qa0.2 rfl dX12_lay_1 ?_
  refine r_iconst hC dX12_lay_4 ?_
  refine r_aload_n hC 0 dX12_lay_5 rfl rfl ?_
  refine r_getI hC fg_X12_113 rfl qa0.1 qa0.2 dX12_lay_6 ?_
  refine r_imul hC dX12_lay_9 ?_
  refine r_iload_n hC 1 dX12_lay_10 rfl rfl ?_
  obtain ⟨i_2, h⟩ := h
  refine r_iast hC i_2 q_1.1 q_1.2 (by decide) dX12_lay_11 ?_
  refine r_nameM h (fun M_3 h => ?_)
  refine r_aload_n hC 0 dX12_lay_12 rfl rfl ?_
  have q_4 : 0 < a0 + 4 ∧ M0 0 (a0 + 4) = kA 0 104 := lay_f0 (a := a0) hL qa0 fm_12_9
  refine r_getR0 (a' := a0 + 4) hC fg_X12_19 rfl hF fm_12_9 qa0.1 qa0.2 rfl dX12_lay_13 ?_
  refine r_iconst hC dX12_lay_16 ?_
  refine r_aload_n hC 0 dX12_lay_17 rfl rfl ?_
  refine r_getI hC fg_X12_113 rfl qa0.1 qa0.2 dX12_lay_18 ?_
  refine r_imul hC dX12_lay_21 ?_
  refine r_iconst hC dX12_lay_22 ?_
  refine r_iadd hC dX12_lay_23 ?_
  refine r_iload_n hC 2 dX12_lay_24 rfl rfl ?_
  obtain ⟨i_5, h⟩ := h
  refine r_iast hC i_5 q_4.1 q_4.2 (by decide) dX12_lay_25 ?_
  refine r_nameM h (fun M_6 h => ?_)
  refine r_aload_n hC 0 dX12_lay_26 rfl rfl ?_
  refine r_dup hC rfl dX12_lay_27 ?_
  refine r_getI hC fg_X12_113 rfl qa0.1 qa0.2 dX12_lay_28 ?_
  refine r_iconst hC dX12_lay_31 ?_
  refine r_iadd hC dX12_lay_32 ?_
  refine r_putI hC fp_X12_113 rfl qa0.1 qa0.2 dX12_lay_33 ?_
  refine r_nameM h (fun M_7 h => ?_)
  exact r_vret hC (Nat.zero_le _) (Nat.zero_le _) dX12_lay_36 ⟨rfl, h⟩
theorem dX12_opens_0 : dec cX12_opens 0 1 1 (.aload_n 0) := ⟨by decide +kernel, rfl⟩
theorem dX12_opens_1 : dec cX12_opens 1 3 4 (.getfield 116) := ⟨by decide +kernel, rfl⟩
theorem dX12_opens_4 : dec cX12_opens 4 1 5 (.iconst 5) := ⟨by decide +kernel, rfl⟩
theorem dX12_opens_5 : dec cX12_opens 5 3 8 (.if_icmp .ne 5) := ⟨by decide +kernel, rfl⟩
theorem dX12_opens_8 : dec cX12_opens 8 1 9 (.iconst 0) := ⟨by decide +kernel, rfl⟩
theorem dX12_opens_9 : dec cX12_opens 9 1 10 (.ireturn) := ⟨by decide +kernel, rfl⟩
theorem dX12_opens_10 : dec cX12_opens 10 1 11 (.aload_n 0) := ⟨by decide +kernel, rfl⟩
theorem dX12_opens_11 : dec cX12_opens 11 1 12 (.dup) := ⟨by decide +kernel, rfl⟩
theorem dX12_opens_12 : dec cX12_opens 12 3 15 (.getfield 116) := ⟨by decide +kernel, rfl⟩
theorem dX12_opens_15 : dec cX12_opens 15 1 16 (.iconst 1) := ⟨by decide +kernel, rfl⟩
theorem dX12_opens_16 : dec cX12_opens 16 1 17 (.iadd) := ⟨by decide +kernel, rfl⟩
theorem dX12_opens_17 : dec cX12_opens 17 3 20 (.putfield 116) := ⟨by decide +kernel, rfl⟩
theorem dX12_opens_20 : dec cX12_opens 20 1 21 (.aload_n 0) := ⟨by decide +kernel, rfl⟩
theorem dX12_opens_21 : dec cX12_opens 21 1 22 (.dup) := ⟨by decide +kernel, rfl⟩
theorem dX12_opens_22 : dec cX12_opens 22 3 25 (.getfield 106) := ⟨by decide +kernel, rfl⟩
theorem dX12_opens_25 : dec cX12_opens 25 1 26 (.iconst 1) := ⟨by decide +kernel, rfl⟩
theorem dX12_opens_26 : dec cX12_opens 26 1 27 (.iadd) := ⟨by decide +kernel, rfl⟩
theorem dX12_opens_27 : dec cX12_opens 27 3 30 (.putfield 106) := ⟨by decide +kernel, rfl⟩
theorem dX12_opens_30 : dec cX12_opens 30 1 31 (.iconst 1) := ⟨by decide +kernel, rfl⟩
theorem dX12_opens_31 : dec cX12_opens 31 1 32 (.ireturn) := ⟨by decide +kernel, rfl⟩
set_option maxHeartbeats 4000000 in
set_option maxRecDepth 100000 in
theorem mX12_opens (Y : Yx) (hF : Y.2.2.2.2 = true) (l : Launch) (a0 : Nat) (M0 : Mem) (Q : Int → Mem → Prop) (qa0 : 0 < a0 ∧ M0 0 a0 = kO 12) (h : wX12_opens a0 M0 Q) : CT Y l yX12_opens cX12_opens 1 (some .boolean) rmX12_opens [vR Y.1 a0] M0 (QI Q) := by
  unfold wX12_opens at h
  refine ct_intro (by decide) (Nat.le_of_ble_eq_true rfl) ?_
  intro X hXl hC hL0
  have hL := hL0 hF
  change OKX X Y RX12 cX12_opens 1 (some .boolean) rmX12_opens at hC
  change WW X Y 1 rmX12_opens (QI Q) M0 0 0 0 [(0, vR Y.1 a0)] [] M0
  refine r_aload_n hC 0 dX12_opens_0 rfl rfl ?_
  refine r_getI hC fg_X12_116 rfl qa0.1 qa0.2 dX12_opens_1 ?_
  refine r_iconst hC dX12_opens_4 ?_
  refine r_icmp_ne hC 10 rfl bmL_5 dX12_opens_5 (by decide) (fun cq => ?_) (fun cq => ?_)
  · replace h := h.2 cq
    refine r_aload_n hC 0 dX12_opens_10 rfl rfl ?_
    refine r_dup hC rfl dX12_opens_11 ?_
    refine r_getI hC fg_X12_116 rfl qa0.1 qa0.2 dX12_opens_12 ?_
    refine r_iconst hC dX12_opens_15 ?_
    refine r_iadd hC dX12_opens_16 ?_
    refine r_putI hC fp_X12_116 rfl qa0.1 qa0.2 dX12_opens_17 ?_
    refine r_nameM h (fun M_1 h => ?_)
    refine r_aload_n hC 0 dX12_opens_20 rfl rfl ?_
    refine r_dup hC rfl dX12_opens_21 ?_
    refine r_getI hC fg_X12_106 rfl qa0.1 qa0.2 dX12_opens_22 ?_
    refine r_iconst hC dX12_opens_25 ?_
    refine r_iadd hC dX12_opens_26 ?_
    refine r_putI hC fp_X12_106 rfl qa0.1 qa0.2 dX12_opens_27 ?_
    refine r_nameM h (fun M_2 h => ?_)
    refine r_iconst hC dX12_opens_30 ?_
    exact r_zret hC (Or.inr rfl) (Nat.zero_le _) (Nat.zero_le _) dX12_opens_31 ⟨_, rfl, h⟩
  · replace h := h.1 cq
    refine r_iconst hC dX12_opens_8 ?_
    exact r_zret hC (Or.inl rfl) (Nat.zero_le _) (Nat.zero_le _) dX12_opens_9 ⟨_, rfl, h⟩
theorem dX12_passes_0 : dec cX12_passes 0 1 1 (.aload_n 0) := ⟨by decide +kernel, rfl⟩
theorem dX12_passes_1 : dec cX12_passes 1 3 4 (.invokevirtual 119) := ⟨by decide +kernel, rfl⟩
theorem dX12_passes_4 : dec cX12_passes 4 1 5 (.iload_n 1) := ⟨by decide +kernel, rfl⟩
theorem dX12_passes_5 : dec cX12_passes 5 3 8 (.if_icmp .eq 5) := ⟨by decide +kernel, rfl⟩
theorem dX12_passes_8 : dec cX12_passes 8 1 9 (.iconst 0) := ⟨by decide +kernel, rfl⟩
theorem dX12_passes_9 : dec cX12_passes 9 1 10 (.ireturn) := ⟨by decide +kernel, rfl⟩
theorem dX12_passes_10 : dec cX12_passes 10 1 11 (.aload_n 0) := ⟨by decide +kernel, rfl⟩
theorem dX12_passes_11 : dec cX12_passes 11 1 12 (.dup) := ⟨by decide +kernel, rfl⟩
theorem dX12_passes_12 : dec cX12_passes 12 3 15 (.getfield 106) := ⟨by decide +kernel, rfl⟩
theorem dX12_passes_15 : dec cX12_passes 15 1 16 (.iconst 1) := ⟨by decide +kernel, rfl⟩
theorem dX12_passes_16 : dec cX12_passes 16 1 17 (.iadd) := ⟨by decide +kernel, rfl⟩
theorem dX12_passes_17 : dec cX12_passes 17 3 20 (.putfield 106) := ⟨by decide +kernel, rfl⟩
theorem dX12_passes_20 : dec cX12_passes 20 1 21 (.iconst 1) := ⟨by decide +kernel, rfl⟩
theorem dX12_passes_21 : dec cX12_passes 21 1 22 (.ireturn) := ⟨by decide +kernel, rfl⟩
set_option maxHeartbeats 4000000 in
set_option maxRecDepth 100000 in
theorem mX12_passes (Y : Yx) (hF : Y.2.2.2.2 = true) (l : Launch) (a0 : Nat) (x1 : Int) (M0 : Mem) (Q : Int → Mem → Prop) (qa0 : 0 < a0 ∧ M0 0 a0 = kO 12) (h : wX12_passes a0 x1 M0 Q) : CT Y l yX12_passes cX12_passes 2 (some .boolean) rmX12_passes [vR Y.1 a0, vI x1] M0 (QI Q) := by
  unfold wX12_passes at h
  refine ct_intro (by decide) (Nat.le_of_ble_eq_true rfl) ?_
  intro X hXl hC hL0
  have hL := hL0 hF
  change OKX X Y RX12 cX12_passes 2 (some .boolean) rmX12_passes at hC
  change WW X Y 2 rmX12_passes (QI Q) M0 0 0 0 [(0, vR Y.1 a0), (1, vI x1)] [] M0
  refine r_aload_n hC 0 dX12_passes_0 rfl rfl ?_
  refine r_callV (As := []) (st := []) hC cw_X12_119 rfl qa0.1 qa0.2 rfl rfl (Nat.le_of_ble_eq_true rfl) ⟨Nat.le_of_ble_eq_true rfl, Nat.le_of_ble_eq_true rfl⟩ ⟨Nat.le_of_ble_eq_true rfl, Nat.le_of_ble_eq_true rfl⟩ dX12_passes_1 (fun hk => mX12_look Y hF _ _ _ _ (kqO hk qa0) h) (fun v M_1 h => ?_)
  obtain ⟨r_2, rfl, h⟩ := h
  refine r_iload_n hC 1 dX12_passes_4 rfl rfl ?_
  refine r_icmp_eq hC 10 rfl rfl dX12_passes_5 (by decide) (fun cq => ?_) (fun cq => ?_)
  · replace h := h.1 cq
    refine r_aload_n hC 0 dX12_passes_10 rfl rfl ?_
    refine r_dup hC rfl dX12_passes_11 ?_
    refine r_getI hC fg_X12_106 rfl qa0.1 qa0.2 dX12_passes_12 ?_
    refine r_iconst hC dX12_passes_15 ?_
    refine r_iadd hC dX12_passes_16 ?_
    refine r_putI hC fp_X12_106 rfl qa0.1 qa0.2 dX12_passes_17 ?_
    refine r_nameM h (fun M_3 h => ?_)
    refine r_iconst hC dX12_passes_20 ?_
    exact r_zret hC (Or.inr rfl) (Nat.zero_le _) (Nat.zero_le _) dX12_passes_21 ⟨_, rfl, h⟩
  · replace h := h.2 cq
    refine r_iconst hC dX12_passes_8 ?_
    exact r_zret hC (Or.inl rfl) (Nat.zero_le _) (Nat.zero_le _) dX12_passes_9 ⟨_, rfl, h⟩
theorem dX12_whole_0 : dec cX12_whole 0 1 1 (.aload_n 0) := ⟨by decide +kernel, rfl⟩
theorem dX12_whole_1 : dec cX12_whole 1 3 4 (.invokevirtual 123) := ⟨by decide +kernel, rfl⟩
theorem dX12_whole_4 : dec cX12_whole 4 3 7 (.ifCond .ne 5) := ⟨by decide +kernel, rfl⟩
theorem dX12_whole_7 : dec cX12_whole 7 1 8 (.iconst 0) := ⟨by decide +kernel, rfl⟩
theorem dX12_whole_8 : dec cX12_whole 8 1 9 (.ireturn) := ⟨by decide +kernel, rfl⟩
theorem dX12_whole_9 : dec cX12_whole 9 1 10 (.aload_n 0) := ⟨by decide +kernel, rfl⟩
theorem dX12_whole_10 : dec cX12_whole 10 3 13 (.invokevirtual 119) := ⟨by decide +kernel, rfl⟩
theorem dX12_whole_13 : dec cX12_whole 13 2 15 (.bipush 63) := ⟨by decide +kernel, rfl⟩
theorem dX12_whole_15 : dec cX12_whole 15 3 18 (.if_icmp .eq 5) := ⟨by decide +kernel, rfl⟩
theorem dX12_whole_18 : dec cX12_whole 18 1 19 (.iconst 1) := ⟨by decide +kernel, rfl⟩
theorem dX12_whole_19 : dec cX12_whole 19 1 20 (.ireturn) := ⟨by decide +kernel, rfl⟩
theorem dX12_whole_20 : dec cX12_whole 20 1 21 (.aload_n 0) := ⟨by decide +kernel, rfl⟩
theorem dX12_whole_21 : dec cX12_whole 21 3 24 (.invokevirtual 127) := ⟨by decide +kernel, rfl⟩
theorem dX12_whole_24 : dec cX12_whole 24 3 27 (.ifCond .ne 5) := ⟨by decide +kernel, rfl⟩
theorem dX12_whole_27 : dec cX12_whole 27 1 28 (.iconst 0) := ⟨by decide +kernel, rfl⟩
theorem dX12_whole_28 : dec cX12_whole 28 1 29 (.ireturn) := ⟨by decide +kernel, rfl⟩
theorem dX12_whole_29 : dec cX12_whole 29 1 30 (.aload_n 0) := ⟨by decide +kernel, rfl⟩
theorem dX12_whole_30 : dec cX12_whole 30 1 31 (.dup) := ⟨by decide +kernel, rfl⟩
theorem dX12_whole_31 : dec cX12_whole 31 3 34 (.getfield 130) := ⟨by decide +kernel, rfl⟩
theorem dX12_whole_34 : dec cX12_whole 34 1 35 (.iconst 1) := ⟨by decide +kernel, rfl⟩
theorem dX12_whole_35 : dec cX12_whole 35 1 36 (.iadd) := ⟨by decide +kernel, rfl⟩
theorem dX12_whole_36 : dec cX12_whole 36 3 39 (.putfield 130) := ⟨by decide +kernel, rfl⟩
theorem dX12_whole_39 : dec cX12_whole 39 1 40 (.aload_n 0) := ⟨by decide +kernel, rfl⟩
theorem dX12_whole_40 : dec cX12_whole 40 3 43 (.invokevirtual 133) := ⟨by decide +kernel, rfl⟩
theorem dX12_whole_43 : dec cX12_whole 43 3 46 (.ifCond .eq 19) := ⟨by decide +kernel, rfl⟩
theorem dX12_whole_46 : dec cX12_whole 46 1 47 (.aload_n 0) := ⟨by decide +kernel, rfl⟩
theorem dX12_whole_47 : dec cX12_whole 47 2 49 (.bipush 58) := ⟨by decide +kernel, rfl⟩
theorem dX12_whole_49 : dec cX12_whole 49 3 52 (.invokevirtual 136) := ⟨by decide +kernel, rfl⟩
theorem dX12_whole_52 : dec cX12_whole 52 3 55 (.ifCond .eq 10) := ⟨by decide +kernel, rfl⟩
theorem dX12_whole_55 : dec cX12_whole 55 1 56 (.aload_n 0) := ⟨by decide +kernel, rfl⟩
theorem dX12_whole_56 : dec cX12_whole 56 3 59 (.invokevirtual 133) := ⟨by decide +kernel, rfl⟩
theorem dX12_whole_59 : dec cX12_whole 59 3 62 (.ifCond .ne 5) := ⟨by decide +kernel, rfl⟩
theorem dX12_whole_62 : dec cX12_whole 62 1 63 (.iconst 0) := ⟨by decide +kernel, rfl⟩
theorem dX12_whole_63 : dec cX12_whole 63 1 64 (.ireturn) := ⟨by decide +kernel, rfl⟩
theorem dX12_whole_64 : dec cX12_whole 64 1 65 (.aload_n 0) := ⟨by decide +kernel, rfl⟩
theorem dX12_whole_65 : dec cX12_whole 65 1 66 (.dup) := ⟨by decide +kernel, rfl⟩
theorem dX12_whole_66 : dec cX12_whole 66 3 69 (.getfield 116) := ⟨by decide +kernel, rfl⟩
theorem dX12_whole_69 : dec cX12_whole 69 1 70 (.iconst 1) := ⟨by decide +kernel, rfl⟩
theorem dX12_whole_70 : dec cX12_whole 70 1 71 (.isub) := ⟨by decide +kernel, rfl⟩
theorem dX12_whole_71 : dec cX12_whole 71 3 74 (.putfield 116) := ⟨by decide +kernel, rfl⟩
theorem dX12_whole_74 : dec cX12_whole 74 1 75 (.aload_n 0) := ⟨by decide +kernel, rfl⟩
theorem dX12_whole_75 : dec cX12_whole 75 1 76 (.iconst 4) := ⟨by decide +kernel, rfl⟩
theorem dX12_whole_76 : dec cX12_whole 76 1 77 (.iconst 0) := ⟨by decide +kernel, rfl⟩
theorem dX12_whole_77 : dec cX12_whole 77 3 80 (.invokevirtual 139) := ⟨by decide +kernel, rfl⟩
theorem dX12_whole_80 : dec cX12_whole 80 1 81 (.iconst 1) := ⟨by decide +kernel, rfl⟩
theorem dX12_whole_81 : dec cX12_whole 81 1 82 (.ireturn) := ⟨by decide +kernel, rfl⟩
set_option maxHeartbeats 4000000 in
set_option maxRecDepth 100000 in
theorem mbX12_whole (Y : Yx) (hF : Y.2.2.2.2 = true) (l : Launch) {Γ : Nat → List Int → Mem → (Int → Mem → Prop) → Prop} {d : Nat} (a0 : Nat) (hG0 : ∀ (M : Mem) (Q : Int → Mem → Prop), (0 < a0 ∧ M 0 a0 = kO 12) → Γ 0 [] M Q → CT Y l yX12_whole cX12_whole 1 (some .boolean) (rmX12_whole d) [vR Y.1 a0] M (QI Q)) (hG1 : ∀ (M : Mem) (Q : Int → Mem → Prop), (0 < a0 ∧ M 0 a0 = kO 12) → Γ 1 [] M Q → CT Y l yX12_sum cX12_sum 2 (some .boolean) (rmX12_sum d) [vR Y.1 a0] M (QI Q)) (hG2 : ∀ (M : Mem) (Q : Int → Mem → Prop), (0 < a0 ∧ M 0 a0 = kO 12) → Γ 2 [] M Q → CT Y l yX12_product cX12_product 2 (some .boolean) (rmX12_product d) [vR Y.1 a0] M (QI Q)) (hG3 : ∀ (M : Mem) (Q : Int → Mem → Prop), (0 < a0 ∧ M 0 a0 = kO 12) → Γ 3 [] M Q → CT Y l yX12_one cX12_one 3 (some .boolean) (rmX12_one d) [vR Y.1 a0] M (QI Q)) (M0 : Mem) (Q : Int → Mem → Prop) (qa0 : 0 < a0 ∧ M0 0 a0 = kO 12) (h : wbX12_whole Γ a0 M0 Q) : CT Y l yX12_whole cX12_whole 1 (some .boolean) (rmX12_whole (d + 1)) [vR Y.1 a0] M0 (QI Q) := by
  unfold wbX12_whole at h
  refine ct_intro (by decide) (Nat.le_of_ble_eq_true rfl) ?_
  intro X hXl hC hL0
  have hL := hL0 hF
  change OKX X Y RX12 cX12_whole 1 (some .boolean) (rmX12_whole (d + 1)) at hC
  subst hXl
  change WW X Y 1 (rmX12_whole (d + 1)) (QI Q) M0 0 0 0 [(0, vR Y.1 a0)] [] M0
  refine r_aload_n hC 0 dX12_whole_0 rfl rfl ?_
  refine r_callV (As := []) (st := []) hC cw_X12_123 rfl qa0.1 qa0.2 rfl rfl (Nat.le_of_ble_eq_true rfl) (by constructor <;> simp only [rmX12_whole, rmX12_sum] <;> omega) ⟨Nat.le_of_ble_eq_true rfl, Nat.le_of_ble_eq_true rfl⟩ dX12_whole_1 (fun hk => hG1  _ _ (kqO hk qa0) h) (fun v M_1 h => ?_)
  obtain ⟨r_2, rfl, h⟩ := h
  refine r_if_ne hC 9 rfl dX12_whole_4 (by decide) (fun cq => ?_) (fun cq => ?_)
  · replace h := h.2 cq
    refine r_aload_n hC 0 dX12_whole_9 rfl rfl ?_
    refine r_callV (As := []) (st := []) hC cw_X12_119 rfl qa0.1 qa0.2 rfl rfl (Nat.le_of_ble_eq_true rfl) (by constructor <;> simp only [rmX12_whole, rmX12_look] <;> omega) ⟨Nat.le_of_ble_eq_true rfl, Nat.le_of_ble_eq_true rfl⟩ dX12_whole_10 (fun hk => mX12_look Y hF _ _ _ _ (kqO hk qa0) h) (fun v M_3 h => ?_)
    obtain ⟨r_4, rfl, h⟩ := h
    refine r_bipush hC (by decide +kernel) dX12_whole_13 ?_
    refine r_icmp_eq hC 20 rfl bmL_63 dX12_whole_15 (by decide) (fun cq => ?_) (fun cq => ?_)
    · replace h := h.1 cq
      refine r_aload_n hC 0 dX12_whole_20 rfl rfl ?_
      refine r_callV (As := []) (st := []) hC cw_X12_127 rfl qa0.1 qa0.2 rfl rfl (Nat.le_of_ble_eq_true rfl) (by constructor <;> simp only [rmX12_whole, rmX12_opens] <;> omega) ⟨Nat.le_of_ble_eq_true rfl, Nat.le_of_ble_eq_true rfl⟩ dX12_whole_21 (fun hk => mX12_opens Y hF _ _ _ _ (kqO hk qa0) h) (fun v M_5 h => ?_)
      obtain ⟨r_6, rfl, h⟩ := h
      refine r_if_ne hC 29 rfl dX12_whole_24 (by decide) (fun cq => ?_) (fun cq => ?_)
      · replace h := h.2 cq
        refine r_aload_n hC 0 dX12_whole_29 rfl rfl ?_
        refine r_dup hC rfl dX12_whole_30 ?_
        refine r_getI hC fg_X12_130 rfl qa0.1 qa0.2 dX12_whole_31 ?_
        refine r_iconst hC dX12_whole_34 ?_
        refine r_iadd hC dX12_whole_35 ?_
        refine r_putI hC fp_X12_130 rfl qa0.1 qa0.2 dX12_whole_36 ?_
        refine r_nameM h (fun M_7 h => ?_)
        refine r_aload_n hC 0 dX12_whole_39 rfl rfl ?_
        refine r_callV (As := []) (st := []) hC cw_X12_133 rfl qa0.1 qa0.2 rfl rfl (Nat.le_of_ble_eq_true rfl) (by constructor <;> simp only [rmX12_whole, rmX12_whole] <;> omega) ⟨Nat.le_of_ble_eq_true rfl, Nat.le_of_ble_eq_true rfl⟩ dX12_whole_40 (fun hk => hG0  _ _ (kqO hk qa0) h) (fun v M_8 h => ?_)
        obtain ⟨r_9, rfl, h⟩ := h
        refine r_if_eq hC 62 rfl dX12_whole_43 (by decide) (fun cq => ?_) (fun cq => ?_)
        · replace h := h.1 cq
          refine r_iconst hC dX12_whole_62 ?_
          exact r_zret hC (Or.inl rfl) (Nat.zero_le _) (Nat.zero_le _) dX12_whole_63 ⟨_, rfl, h⟩
        · replace h := h.2 cq
          refine r_aload_n hC 0 dX12_whole_46 rfl rfl ?_
          refine r_bipush hC (by decide +kernel) dX12_whole_47 ?_
          refine r_callV (As := [vI 58]) (st := []) hC cw_X12_136 rfl qa0.1 qa0.2 rfl rfl (Nat.le_of_ble_eq_true rfl) (by constructor <;> simp only [rmX12_whole, rmX12_passes] <;> omega) ⟨Nat.le_of_ble_eq_true rfl, Nat.le_of_ble_eq_true rfl⟩ dX12_whole_49 (fun hk => mX12_passes Y hF _ _ _ _ _ (kqO hk qa0) h) (fun v M_10 h => ?_)
          obtain ⟨r_11, rfl, h⟩ := h
          refine r_if_eq hC 62 rfl dX12_whole_52 (by decide) (fun cq => ?_) (fun cq => ?_)
          · replace h := h.1 cq
            refine r_iconst hC dX12_whole_62 ?_
            exact r_zret hC (Or.inl rfl) (Nat.zero_le _) (Nat.zero_le _) dX12_whole_63 ⟨_, rfl, h⟩
          · replace h := h.2 cq
            refine r_aload_n hC 0 dX12_whole_55 rfl rfl ?_
            refine r_callV (As := []) (st := []) hC cw_X12_133 rfl qa0.1 qa0.2 rfl rfl (Nat.le_of_ble_eq_true rfl) (by constructor <;> simp only [rmX12_whole, rmX12_whole] <;> omega) ⟨Nat.le_of_ble_eq_true rfl, Nat.le_of_ble_eq_true rfl⟩ dX12_whole_56 (fun hk => hG0  _ _ (kqO hk qa0) h) (fun v M_12 h => ?_)
            obtain ⟨r_13, rfl, h⟩ := h
            refine r_if_ne hC 64 rfl dX12_whole_59 (by decide) (fun cq => ?_) (fun cq => ?_)
            · replace h := h.2 cq
              refine r_aload_n hC 0 dX12_whole_64 rfl rfl ?_
              refine r_dup hC rfl dX12_whole_65 ?_
              refine r_getI hC fg_X12_116 rfl qa0.1 qa0.2 dX12_whole_66 ?_
              refine r_iconst hC dX12_whole_69 ?_
              refine r_isub hC dX12_whole_70 ?_
              refine r_putI hC fp_X12_116 rfl qa0.1 qa0.2 dX12_whole_71 ?_
              refine r_nameM h (fun M_14 h => ?_)
              refine r_aload_n hC 0 dX12_whole_74 rfl rfl ?_
              refine r_iconst hC dX12_whole_75 ?_
              refine r_iconst hC dX12_whole_76 ?_
              refine r_callV (As := [vI 4, vI 0]) (st := []) hC cw_X12_139 rfl qa0.1 qa0.2 rfl rfl (Nat.le_of_ble_eq_true rfl) (by constructor <;> simp only [rmX12_whole, rmX12_lay] <;> omega) ⟨Nat.le_of_ble_eq_true rfl, Nat.le_of_ble_eq_true rfl⟩ dX12_whole_77 (fun hk => mX12_lay Y hF _ _ _ _ _ _ (kqO hk qa0) h) (fun v M_15 h => ?_)
              obtain ⟨rfl, h⟩ := h
              refine r_iconst hC dX12_whole_80 ?_
              exact r_zret hC (Or.inr rfl) (Nat.zero_le _) (Nat.zero_le _) dX12_whole_81 ⟨_, rfl, h⟩
            · replace h := h.1 cq
              refine r_iconst hC dX12_whole_62 ?_
              exact r_zret hC (Or.inl rfl) (Nat.zero_le _) (Nat.zero_le _) dX12_whole_63 ⟨_, rfl, h⟩
      · replace h := h.1 cq
        refine r_iconst hC dX12_whole_27 ?_
        exact r_zret hC (Or.inl rfl) (Nat.zero_le _) (Nat.zero_le _) dX12_whole_28 ⟨_, rfl, h⟩
    · replace h := h.2 cq
      refine r_iconst hC dX12_whole_18 ?_
      exact r_zret hC (Or.inr rfl) (Nat.zero_le _) (Nat.zero_le _) dX12_whole_19 ⟨_, rfl, h⟩
  · replace h := h.1 cq
    refine r_iconst hC dX12_whole_7 ?_
    exact r_zret hC (Or.inl rfl) (Nat.zero_le _) (Nat.zero_le _) dX12_whole_8 ⟨_, rfl, h⟩
theorem dX12_sum_0 : dec cX12_sum 0 1 1 (.aload_n 0) := ⟨by decide +kernel, rfl⟩
theorem dX12_sum_1 : dec cX12_sum 1 3 4 (.invokevirtual 143) := ⟨by decide +kernel, rfl⟩
theorem dX12_sum_4 : dec cX12_sum 4 3 7 (.ifCond .ne 5) := ⟨by decide +kernel, rfl⟩
theorem dX12_sum_7 : dec cX12_sum 7 1 8 (.iconst 0) := ⟨by decide +kernel, rfl⟩
theorem dX12_sum_8 : dec cX12_sum 8 1 9 (.ireturn) := ⟨by decide +kernel, rfl⟩
theorem dX12_sum_9 : dec cX12_sum 9 1 10 (.aload_n 0) := ⟨by decide +kernel, rfl⟩
theorem dX12_sum_10 : dec cX12_sum 10 3 13 (.invokevirtual 119) := ⟨by decide +kernel, rfl⟩
theorem dX12_sum_13 : dec cX12_sum 13 2 15 (.bipush 43) := ⟨by decide +kernel, rfl⟩
theorem dX12_sum_15 : dec cX12_sum 15 3 18 (.if_icmp .eq 12) := ⟨by decide +kernel, rfl⟩
theorem dX12_sum_18 : dec cX12_sum 18 1 19 (.aload_n 0) := ⟨by decide +kernel, rfl⟩
theorem dX12_sum_19 : dec cX12_sum 19 3 22 (.invokevirtual 119) := ⟨by decide +kernel, rfl⟩
theorem dX12_sum_22 : dec cX12_sum 22 2 24 (.bipush 45) := ⟨by decide +kernel, rfl⟩
theorem dX12_sum_24 : dec cX12_sum 24 3 27 (.if_icmp .ne 46) := ⟨by decide +kernel, rfl⟩
theorem dX12_sum_27 : dec cX12_sum 27 1 28 (.aload_n 0) := ⟨by decide +kernel, rfl⟩
theorem dX12_sum_28 : dec cX12_sum 28 3 31 (.invokevirtual 119) := ⟨by decide +kernel, rfl⟩
theorem dX12_sum_31 : dec cX12_sum 31 1 32 (.istore_n 1) := ⟨by decide +kernel, rfl⟩
theorem dX12_sum_32 : dec cX12_sum 32 1 33 (.aload_n 0) := ⟨by decide +kernel, rfl⟩
theorem dX12_sum_33 : dec cX12_sum 33 1 34 (.dup) := ⟨by decide +kernel, rfl⟩
theorem dX12_sum_34 : dec cX12_sum 34 3 37 (.getfield 106) := ⟨by decide +kernel, rfl⟩
theorem dX12_sum_37 : dec cX12_sum 37 1 38 (.iconst 1) := ⟨by decide +kernel, rfl⟩
theorem dX12_sum_38 : dec cX12_sum 38 1 39 (.iadd) := ⟨by decide +kernel, rfl⟩
theorem dX12_sum_39 : dec cX12_sum 39 3 42 (.putfield 106) := ⟨by decide +kernel, rfl⟩
theorem dX12_sum_42 : dec cX12_sum 42 1 43 (.aload_n 0) := ⟨by decide +kernel, rfl⟩
theorem dX12_sum_43 : dec cX12_sum 43 1 44 (.dup) := ⟨by decide +kernel, rfl⟩
theorem dX12_sum_44 : dec cX12_sum 44 3 47 (.getfield 130) := ⟨by decide +kernel, rfl⟩
theorem dX12_sum_47 : dec cX12_sum 47 1 48 (.iconst 1) := ⟨by decide +kernel, rfl⟩
theorem dX12_sum_48 : dec cX12_sum 48 1 49 (.iadd) := ⟨by decide +kernel, rfl⟩
theorem dX12_sum_49 : dec cX12_sum 49 3 52 (.putfield 130) := ⟨by decide +kernel, rfl⟩
theorem dX12_sum_52 : dec cX12_sum 52 1 53 (.aload_n 0) := ⟨by decide +kernel, rfl⟩
theorem dX12_sum_53 : dec cX12_sum 53 3 56 (.invokevirtual 143) := ⟨by decide +kernel, rfl⟩
theorem dX12_sum_56 : dec cX12_sum 56 3 59 (.ifCond .ne 5) := ⟨by decide +kernel, rfl⟩
theorem dX12_sum_59 : dec cX12_sum 59 1 60 (.iconst 0) := ⟨by decide +kernel, rfl⟩
theorem dX12_sum_60 : dec cX12_sum 60 1 61 (.ireturn) := ⟨by decide +kernel, rfl⟩
theorem dX12_sum_61 : dec cX12_sum 61 1 62 (.aload_n 0) := ⟨by decide +kernel, rfl⟩
theorem dX12_sum_62 : dec cX12_sum 62 1 63 (.iconst 3) := ⟨by decide +kernel, rfl⟩
theorem dX12_sum_63 : dec cX12_sum 63 1 64 (.iload_n 1) := ⟨by decide +kernel, rfl⟩
theorem dX12_sum_64 : dec cX12_sum 64 3 67 (.invokevirtual 139) := ⟨by decide +kernel, rfl⟩
theorem dX12_sum_67 : dec cX12_sum 67 3 70 (.goto (-58)) := ⟨by decide +kernel, rfl⟩
theorem dX12_sum_70 : dec cX12_sum 70 1 71 (.iconst 1) := ⟨by decide +kernel, rfl⟩
theorem dX12_sum_71 : dec cX12_sum 71 1 72 (.ireturn) := ⟨by decide +kernel, rfl⟩
set_option maxHeartbeats 4000000 in
set_option maxRecDepth 100000 in
theorem tX12_sum_J27 {X : Cx} {Y : Yx} {M0 : Mem} {Γ : Nat → List Int → Mem → (Int → Mem → Prop) → Prop} {d : Nat} (hC : OKX X Y RX12 cX12_sum 2 (some .boolean) (rmX12_sum (d + 1))) (hF : Y.2.2.2.2 = true) (hL : Lay M0) (a0 : Nat) (hG0 : ∀ (M : Mem) (Q : Int → Mem → Prop), (0 < a0 ∧ M 0 a0 = kO 12) → Γ 0 [] M Q → CT Y X.2.1 yX12_whole cX12_whole 1 (some .boolean) (rmX12_whole d) [vR Y.1 a0] M (QI Q)) (hG1 : ∀ (M : Mem) (Q : Int → Mem → Prop), (0 < a0 ∧ M 0 a0 = kO 12) → Γ 1 [] M Q → CT Y X.2.1 yX12_sum cX12_sum 2 (some .boolean) (rmX12_sum d) [vR Y.1 a0] M (QI Q)) (hG2 : ∀ (M : Mem) (Q : Int → Mem → Prop), (0 < a0 ∧ M 0 a0 = kO 12) → Γ 2 [] M Q → CT Y X.2.1 yX12_product cX12_product 2 (some .boolean) (rmX12_product d) [vR Y.1 a0] M (QI Q)) (hG3 : ∀ (M : Mem) (Q : Int → Mem → Prop), (0 < a0 ∧ M 0 a0 = kO 12) → Γ 3 [] M Q → CT Y X.2.1 yX12_one cX12_one 3 (some .boolean) (rmX12_one d) [vR Y.1 a0] M (QI Q)) (Q : Int → Mem → Prop) (C9 : Mem → Prop)   (qa0 : 0 < a0 ∧ M0 0 a0 = kO 12) (hC9 : ∀  (M : Mem), C9  M → WW X Y 2 (rmX12_sum (d + 1)) (QI Q) M0 0 0 9 [(0, vR Y.1 a0)] [] M) (M : Mem) (h : wX12_sum_J27 Γ Q C9 a0 M) : WW X Y 2 (rmX12_sum (d + 1)) (QI Q) M0 0 0 27 [(0, vR Y.1 a0)] [] M := by
  unfold wX12_sum_J27 at h
  refine r_aload_n hC 0 dX12_sum_27 rfl rfl ?_
  refine r_callV (As := []) (st := []) hC cw_X12_119 rfl qa0.1 qa0.2 rfl rfl (Nat.le_of_ble_eq_true rfl) (by constructor <;> simp only [rmX12_sum, rmX12_look] <;> omega) ⟨Nat.le_of_ble_eq_true rfl, Nat.le_of_ble_eq_true rfl⟩ dX12_sum_28 (fun hk => mX12_look Y hF _ _ _ _ (kqO hk qa0) h) (fun v M_5 h => ?_)
  obtain ⟨r_6, rfl, h⟩ := h
  refine r_istore_n (lv' := [(1, vI r_6), (0, vR Y.1 a0)]) hC dX12_sum_31 rfl (by decide) rfl ?_
  refine r_aload_n hC 1 dX12_sum_32 rfl rfl ?_
  refine r_dup hC rfl dX12_sum_33 ?_
  refine r_getI hC fg_X12_106 rfl qa0.1 qa0.2 dX12_sum_34 ?_
  refine r_iconst hC dX12_sum_37 ?_
  refine r_iadd hC dX12_sum_38 ?_
  refine r_putI hC fp_X12_106 rfl qa0.1 qa0.2 dX12_sum_39 ?_
  refine r_nameM h (fun M_7 h => ?_)
  refine r_aload_n hC 1 dX12_sum_42 rfl rfl ?_
  refine r_dup hC rfl dX12_sum_43 ?_
  refine r_getI hC fg_X12_130 rfl qa0.1 qa0.2 dX12_sum_44 ?_
  refine r_iconst hC dX12_sum_47 ?_
  refine r_iadd hC dX12_sum_48 ?_
  refine r_putI hC fp_X12_130 rfl qa0.1 qa0.2 dX12_sum_49 ?_
  refine r_nameM h (fun M_8 h => ?_)
  refine r_aload_n hC 1 dX12_sum_52 rfl rfl ?_
  refine r_callV (As := []) (st := []) hC cw_X12_143 rfl qa0.1 qa0.2 rfl rfl (Nat.le_of_ble_eq_true rfl) (by constructor <;> simp only [rmX12_sum, rmX12_product] <;> omega) ⟨Nat.le_of_ble_eq_true rfl, Nat.le_of_ble_eq_true rfl⟩ dX12_sum_53 (fun hk => hG2  _ _ (kqO hk qa0) h) (fun v M_9 h => ?_)
  obtain ⟨r_10, rfl, h⟩ := h
  refine r_if_ne hC 61 rfl dX12_sum_56 (by decide) (fun cq => ?_) (fun cq => ?_)
  · replace h := h.2 cq
    refine r_aload_n hC 1 dX12_sum_61 rfl rfl ?_
    refine r_iconst hC dX12_sum_62 ?_
    refine r_iload_n hC 0 dX12_sum_63 rfl rfl ?_
    refine r_callV (As := [vI 3, vI r_6]) (st := []) hC cw_X12_139 rfl qa0.1 qa0.2 rfl rfl (Nat.le_of_ble_eq_true rfl) (by constructor <;> simp only [rmX12_sum, rmX12_lay] <;> omega) ⟨Nat.le_of_ble_eq_true rfl, Nat.le_of_ble_eq_true rfl⟩ dX12_sum_64 (fun hk => mX12_lay Y hF _ _ _ _ _ _ (kqO hk qa0) h) (fun v M_11 h => ?_)
    obtain ⟨rfl, h⟩ := h
    refine r_goto hC 9 dX12_sum_67 (by decide) ?_
    refine r_sub [1] rfl ?_
    exact hC9  _ h
  · replace h := h.1 cq
    refine r_iconst hC dX12_sum_59 ?_
    exact r_zret hC (Or.inl rfl) (Nat.zero_le _) (Nat.zero_le _) dX12_sum_60 ⟨_, rfl, h⟩
set_option maxHeartbeats 4000000 in
set_option maxRecDepth 100000 in
theorem tX12_sum_L9 {X : Cx} {Y : Yx} {M0 : Mem} {Γ : Nat → List Int → Mem → (Int → Mem → Prop) → Prop} {d : Nat} (hC : OKX X Y RX12 cX12_sum 2 (some .boolean) (rmX12_sum (d + 1))) (hF : Y.2.2.2.2 = true) (hL : Lay M0) (a0 : Nat) (hG0 : ∀ (M : Mem) (Q : Int → Mem → Prop), (0 < a0 ∧ M 0 a0 = kO 12) → Γ 0 [] M Q → CT Y X.2.1 yX12_whole cX12_whole 1 (some .boolean) (rmX12_whole d) [vR Y.1 a0] M (QI Q)) (hG1 : ∀ (M : Mem) (Q : Int → Mem → Prop), (0 < a0 ∧ M 0 a0 = kO 12) → Γ 1 [] M Q → CT Y X.2.1 yX12_sum cX12_sum 2 (some .boolean) (rmX12_sum d) [vR Y.1 a0] M (QI Q)) (hG2 : ∀ (M : Mem) (Q : Int → Mem → Prop), (0 < a0 ∧ M 0 a0 = kO 12) → Γ 2 [] M Q → CT Y X.2.1 yX12_product cX12_product 2 (some .boolean) (rmX12_product d) [vR Y.1 a0] M (QI Q)) (hG3 : ∀ (M : Mem) (Q : Int → Mem → Prop), (0 < a0 ∧ M 0 a0 = kO 12) → Γ 3 [] M Q → CT Y X.2.1 yX12_one cX12_one 3 (some .boolean) (rmX12_one d) [vR Y.1 a0] M (QI Q)) (Q : Int → Mem → Prop)   (qa0 : 0 < a0 ∧ M0 0 a0 = kO 12)  : ∀ (N : Nat)  (M : Mem) (_ : wX12_sum_L9 Γ Q  a0 N  M), WW X Y 2 (rmX12_sum (d + 1)) (QI Q) M0 0 0 9 [(0, vR Y.1 a0)] [] M := by
  intro N
  induction N with
  | zero =>
    intro M h
    exact h.elim
  | succ N ih =>
    intro M h
    unfold wX12_sum_L9 at h
    refine r_aload_n hC 0 dX12_sum_9 rfl rfl ?_
    refine r_callV (As := []) (st := []) hC cw_X12_119 rfl qa0.1 qa0.2 rfl rfl (Nat.le_of_ble_eq_true rfl) (by constructor <;> simp only [rmX12_sum, rmX12_look] <;> omega) ⟨Nat.le_of_ble_eq_true rfl, Nat.le_of_ble_eq_true rfl⟩ dX12_sum_10 (fun hk => mX12_look Y hF _ _ _ _ (kqO hk qa0) h) (fun v M_3 h => ?_)
    obtain ⟨r_4, rfl, h⟩ := h
    refine r_bipush hC (by decide +kernel) dX12_sum_13 ?_
    refine r_icmp_eq hC 27 rfl bmL_43 dX12_sum_15 (by decide) (fun cq => ?_) (fun cq => ?_)
    · replace h := h.1 cq
      refine r_sub [0] rfl ?_
      exact tX12_sum_J27 hC hF hL _ hG0 hG1 hG2 hG3 Q _   qa0 ih _ h
    · replace h := h.2 cq
      refine r_aload_n hC 0 dX12_sum_18 rfl rfl ?_
      refine r_callV (As := []) (st := []) hC cw_X12_119 rfl qa0.1 qa0.2 rfl rfl (Nat.le_of_ble_eq_true rfl) (by constructor <;> simp only [rmX12_sum, rmX12_look] <;> omega) ⟨Nat.le_of_ble_eq_true rfl, Nat.le_of_ble_eq_true rfl⟩ dX12_sum_19 (fun hk => mX12_look Y hF _ _ _ _ (kqO hk qa0) h) (fun v M_12 h => ?_)
      obtain ⟨r_13, rfl, h⟩ := h
      refine r_bipush hC (by decide +kernel) dX12_sum_22 ?_
      refine r_icmp_ne hC 70 rfl bmL_45 dX12_sum_24 (by decide) (fun cq => ?_) (fun cq => ?_)
      · replace h := h.2 cq
        refine r_iconst hC dX12_sum_70 ?_
        exact r_zret hC (Or.inr rfl) (Nat.zero_le _) (Nat.zero_le _) dX12_sum_71 ⟨_, rfl, h⟩
      · replace h := h.1 cq
        refine r_sub [0] rfl ?_
        exact tX12_sum_J27 hC hF hL _ hG0 hG1 hG2 hG3 Q _   qa0 ih _ h
set_option maxHeartbeats 4000000 in
set_option maxRecDepth 100000 in
theorem mbX12_sum (Y : Yx) (hF : Y.2.2.2.2 = true) (l : Launch) {Γ : Nat → List Int → Mem → (Int → Mem → Prop) → Prop} {d : Nat} (a0 : Nat) (hG0 : ∀ (M : Mem) (Q : Int → Mem → Prop), (0 < a0 ∧ M 0 a0 = kO 12) → Γ 0 [] M Q → CT Y l yX12_whole cX12_whole 1 (some .boolean) (rmX12_whole d) [vR Y.1 a0] M (QI Q)) (hG1 : ∀ (M : Mem) (Q : Int → Mem → Prop), (0 < a0 ∧ M 0 a0 = kO 12) → Γ 1 [] M Q → CT Y l yX12_sum cX12_sum 2 (some .boolean) (rmX12_sum d) [vR Y.1 a0] M (QI Q)) (hG2 : ∀ (M : Mem) (Q : Int → Mem → Prop), (0 < a0 ∧ M 0 a0 = kO 12) → Γ 2 [] M Q → CT Y l yX12_product cX12_product 2 (some .boolean) (rmX12_product d) [vR Y.1 a0] M (QI Q)) (hG3 : ∀ (M : Mem) (Q : Int → Mem → Prop), (0 < a0 ∧ M 0 a0 = kO 12) → Γ 3 [] M Q → CT Y l yX12_one cX12_one 3 (some .boolean) (rmX12_one d) [vR Y.1 a0] M (QI Q)) (M0 : Mem) (Q : Int → Mem → Prop) (qa0 : 0 < a0 ∧ M0 0 a0 = kO 12) (h : wbX12_sum Γ a0 M0 Q) : CT Y l yX12_sum cX12_sum 2 (some .boolean) (rmX12_sum (d + 1)) [vR Y.1 a0] M0 (QI Q) := by
  unfold wbX12_sum at h
  refine ct_intro (by decide) (Nat.le_of_ble_eq_true rfl) ?_
  intro X hXl hC hL0
  have hL := hL0 hF
  change OKX X Y RX12 cX12_sum 2 (some .boolean) (rmX12_sum (d + 1)) at hC
  subst hXl
  change WW X Y 2 (rmX12_sum (d + 1)) (QI Q) M0 0 0 0 [(0, vR Y.1 a0)] [] M0
  refine r_aload_n hC 0 dX12_sum_0 rfl rfl ?_
  refine r_callV (As := []) (st := []) hC cw_X12_143 rfl qa0.1 qa0.2 rfl rfl (Nat.le_of_ble_eq_true rfl) (by constructor <;> simp only [rmX12_sum, rmX12_product] <;> omega) ⟨Nat.le_of_ble_eq_true rfl, Nat.le_of_ble_eq_true rfl⟩ dX12_sum_1 (fun hk => hG2  _ _ (kqO hk qa0) h) (fun v M_1 h => ?_)
  obtain ⟨r_2, rfl, h⟩ := h
  refine r_if_ne hC 9 rfl dX12_sum_4 (by decide) (fun cq => ?_) (fun cq => ?_)
  · replace h := h.2 cq
    refine r_sub [0] rfl ?_
    obtain ⟨N_14, h⟩ := h
    refine tX12_sum_L9 hC hF hL _ hG0 hG1 hG2 hG3 Q   qa0  N_14  _ h
  · replace h := h.1 cq
    refine r_iconst hC dX12_sum_7 ?_
    exact r_zret hC (Or.inl rfl) (Nat.zero_le _) (Nat.zero_le _) dX12_sum_8 ⟨_, rfl, h⟩
