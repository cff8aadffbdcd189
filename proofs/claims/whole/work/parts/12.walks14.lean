theorem dX11_check_0 : dec cX11_check 0 1 1 (.aload_n 0) := ⟨by decide +kernel, rfl⟩
theorem dX11_check_1 : dec cX11_check 1 3 4 (.getfield 10) := ⟨by decide +kernel, rfl⟩
theorem dX11_check_4 : dec cX11_check 4 3 7 (.getfield 396) := ⟨by decide +kernel, rfl⟩
theorem dX11_check_7 : dec cX11_check 7 1 8 (.istore_n 2) := ⟨by decide +kernel, rfl⟩
theorem dX11_check_8 : dec cX11_check 8 1 9 (.aload_n 0) := ⟨by decide +kernel, rfl⟩
theorem dX11_check_9 : dec cX11_check 9 3 12 (.getfield 10) := ⟨by decide +kernel, rfl⟩
theorem dX11_check_12 : dec cX11_check 12 1 13 (.iconst 0) := ⟨by decide +kernel, rfl⟩
theorem dX11_check_13 : dec cX11_check 13 3 16 (.putfield 396) := ⟨by decide +kernel, rfl⟩
theorem dX11_check_16 : dec cX11_check 16 1 17 (.aload_n 0) := ⟨by decide +kernel, rfl⟩
theorem dX11_check_17 : dec cX11_check 17 1 18 (.iload_n 1) := ⟨by decide +kernel, rfl⟩
theorem dX11_check_18 : dec cX11_check 18 1 19 (.iconst 1) := ⟨by decide +kernel, rfl⟩
theorem dX11_check_19 : dec cX11_check 19 3 22 (.invokevirtual 260) := ⟨by decide +kernel, rfl⟩
theorem dX11_check_22 : dec cX11_check 22 1 23 (.istore_n 3) := ⟨by decide +kernel, rfl⟩
theorem dX11_check_23 : dec cX11_check 23 1 24 (.iload_n 3) := ⟨by decide +kernel, rfl⟩
theorem dX11_check_24 : dec cX11_check 24 3 27 (.ifCond .ne 15) := ⟨by decide +kernel, rfl⟩
theorem dX11_check_27 : dec cX11_check 27 1 28 (.aload_n 0) := ⟨by decide +kernel, rfl⟩
theorem dX11_check_28 : dec cX11_check 28 3 31 (.getfield 57) := ⟨by decide +kernel, rfl⟩
theorem dX11_check_31 : dec cX11_check 31 3 34 (.getfield 264) := ⟨by decide +kernel, rfl⟩
theorem dX11_check_34 : dec cX11_check 34 3 37 (.ifCond .ne 5) := ⟨by decide +kernel, rfl⟩
theorem dX11_check_37 : dec cX11_check 37 1 38 (.iconst 2) := ⟨by decide +kernel, rfl⟩
theorem dX11_check_38 : dec cX11_check 38 1 39 (.istore_n 3) := ⟨by decide +kernel, rfl⟩
theorem dX11_check_39 : dec cX11_check 39 1 40 (.iload_n 3) := ⟨by decide +kernel, rfl⟩
theorem dX11_check_40 : dec cX11_check 40 3 43 (.ifCond .eq 11) := ⟨by decide +kernel, rfl⟩
theorem dX11_check_43 : dec cX11_check 43 1 44 (.aload_n 0) := ⟨by decide +kernel, rfl⟩
theorem dX11_check_44 : dec cX11_check 44 1 45 (.iload_n 3) := ⟨by decide +kernel, rfl⟩
theorem dX11_check_45 : dec cX11_check 45 3 48 (.invokevirtual 91) := ⟨by decide +kernel, rfl⟩
theorem dX11_check_48 : dec cX11_check 48 3 51 (.goto 10) := ⟨by decide +kernel, rfl⟩
theorem dX11_check_51 : dec cX11_check 51 1 52 (.iconst 1) := ⟨by decide +kernel, rfl⟩
theorem dX11_check_52 : dec cX11_check 52 1 53 (.aload_n 0) := ⟨by decide +kernel, rfl⟩
theorem dX11_check_53 : dec cX11_check 53 1 54 (.iload_n 2) := ⟨by decide +kernel, rfl⟩
theorem dX11_check_54 : dec cX11_check 54 3 57 (.invokevirtual 402) := ⟨by decide +kernel, rfl⟩
theorem dX11_check_57 : dec cX11_check 57 1 58 (.iadd) := ⟨by decide +kernel, rfl⟩
theorem dX11_check_58 : dec cX11_check 58 1 59 (.ireturn) := ⟨by decide +kernel, rfl⟩
set_option maxHeartbeats 4000000 in
set_option maxRecDepth 100000 in
theorem tX11_check_J39 {X : Cx} {Y : Yx} {M0 : Mem} (hC : OKX X Y RX11 cX11_check 4 (some .int) rmX11_check) (hF : Y.2.2.2.2 = true) (hL : Lay M0) (Q : Int → Mem → Prop)   (a0 : Nat) (x2 : Int) (x3 : Int) (qa0 : 0 < a0 ∧ M0 0 a0 = kO 11)  (M : Mem) (h : wX11_check_J39 Q  a0 x2 x3 M) : WW X Y 4 rmX11_check (QI Q) M0 0 0 39 [(0, vR Y.1 a0), (2, vI x2), (3, vI x3)] [] M := by
  unfold wX11_check_J39 at h
  refine r_iload_n hC 2 dX11_check_39 rfl rfl ?_
  refine r_if_eq hC 51 rfl dX11_check_40 (by decide) (fun c => ?_) (fun c => ?_)
  · replace h := h.1 c
    refine r_iconst hC dX11_check_51 ?_
    refine r_aload_n hC 0 dX11_check_52 rfl rfl ?_
    refine r_iload_n hC 1 dX11_check_53 rfl rfl ?_
    refine r_callV (As := [vI x2]) (st := [vI 1]) hC cw_X11_402 rfl qa0.1 qa0.2 rfl rfl (Nat.le_of_ble_eq_true rfl) ⟨Nat.le_of_ble_eq_true rfl, Nat.le_of_ble_eq_true rfl⟩ ⟨Nat.le_of_ble_eq_true rfl, Nat.le_of_ble_eq_true rfl⟩ dX11_check_54 (fun hk => mX11_firstUnlike Y hF _ _ _ _ _ (kqO hk qa0) h) (fun v M_7 h => ?_)
    obtain ⟨r_8, rfl, h⟩ := h
    refine r_iadd hC dX11_check_57 ?_
    exact r_iret hC (Nat.zero_le _) (Nat.zero_le _) dX11_check_58 ⟨_, rfl, h⟩
  · replace h := h.2 c
    refine r_aload_n hC 0 dX11_check_43 rfl rfl ?_
    refine r_iload_n hC 2 dX11_check_44 rfl rfl ?_
    refine r_callV (As := [vI x3]) (st := []) hC cw_X11_91 rfl qa0.1 qa0.2 rfl rfl (Nat.le_of_ble_eq_true rfl) ⟨Nat.le_of_ble_eq_true rfl, Nat.le_of_ble_eq_true rfl⟩ ⟨Nat.le_of_ble_eq_true rfl, Nat.le_of_ble_eq_true rfl⟩ dX11_check_45 (fun hk => mX11_error Y hF _ _ _ _ _ (kqO hk qa0) h) (fun v M_9 h => ?_)
    obtain ⟨r_10, rfl, h⟩ := h
    refine r_goto hC 58 dX11_check_48 (by decide) ?_
    exact r_iret hC (Nat.zero_le _) (Nat.zero_le _) dX11_check_58 ⟨_, rfl, h⟩
set_option maxHeartbeats 4000000 in
set_option maxRecDepth 100000 in
theorem mX11_check (Y : Yx) (hF : Y.2.2.2.2 = true) (l : Launch) (a0 : Nat) (x1 : Int) (M0 : Mem) (Q : Int → Mem → Prop) (qa0 : 0 < a0 ∧ M0 0 a0 = kO 11) (h : wX11_check a0 x1 M0 Q) : CT Y l yX11_check cX11_check 4 (some .int) rmX11_check [vR Y.1 a0, vI x1] M0 (QI Q) := by
  unfold wX11_check at h
  refine ct_intro (by decide) (Nat.le_of_ble_eq_true rfl) ?_
  intro X hXl hC hL0
  have hL := hL0 hF
  change OKX X Y RX11 cX11_check 4 (some .int) rmX11_check at hC
  change WW X Y 4 rmX11_check (QI Q) M0 0 0 0 [(0, vR Y.1 a0), (1, vI x1)] [] M0
  refine r_aload_n hC 0 dX11_check_0 rfl rfl ?_
  have q_1 : 0 < a0 + 1 ∧ M0 0 (a0 + 1) = kO 0 := lay_f0 hL qa0 fm_11_0
  refine r_getR0 (a' := a0 + 1) hC fg_X11_10 rfl hF fm_11_0 qa0.1 qa0.2 rfl dX11_check_1 ?_
  refine r_getI hC fg_X11_396 rfl q_1.1 q_1.2 dX11_check_4 ?_
  refine r_nameI h (fun x2_2 h => ?_)
  refine r_istore_n (lv' := [(2, vI x2_2), (0, vR Y.1 a0), (1, vI x1)]) hC dX11_check_7 rfl (by decide) rfl ?_
  refine r_aload_n hC 1 dX11_check_8 rfl rfl ?_
  have q_3 : 0 < a0 + 1 ∧ M0 0 (a0 + 1) = kO 0 := lay_f0 hL qa0 fm_11_0
  refine r_getR0 (a' := a0 + 1) hC fg_X11_10 rfl hF fm_11_0 qa0.1 qa0.2 rfl dX11_check_9 ?_
  refine r_iconst hC dX11_check_12 ?_
  refine r_putI hC fp_X11_396 rfl q_3.1 q_3.2 dX11_check_13 ?_
  refine r_nameM h (fun M_4 h => ?_)
  refine r_aload_n hC 1 dX11_check_16 rfl rfl ?_
  refine r_iload_n hC 2 dX11_check_17 rfl rfl ?_
  refine r_iconst hC dX11_check_18 ?_
  refine r_callV (As := [vI x1, vI 1]) (st := []) hC cw_X11_260 rfl qa0.1 qa0.2 rfl rfl (Nat.le_of_ble_eq_true rfl) ⟨Nat.le_of_ble_eq_true rfl, Nat.le_of_ble_eq_true rfl⟩ ⟨Nat.le_of_ble_eq_true rfl, Nat.le_of_ble_eq_true rfl⟩ dX11_check_19 (fun hk => mX11_searchFault Y hF _ _ _ _ _ _ (kqO hk qa0) h) (fun v M_5 h => ?_)
  obtain ⟨r_6, rfl, h⟩ := h
  refine r_istore_n (lv' := [(3, vI r_6), (2, vI x2_2), (0, vR Y.1 a0), (1, vI x1)]) hC dX11_check_22 rfl (by decide) rfl ?_
  refine r_iload_n hC 0 dX11_check_23 rfl rfl ?_
  refine r_if_ne hC 39 rfl dX11_check_24 (by decide) (fun c => ?_) (fun c => ?_)
  · replace h := h.2 c
    refine r_sub [2, 1, 0] rfl ?_
    exact tX11_check_J39 hC hF hL Q   _ _ _ qa0  _ h
  · replace h := h.1 c
    refine r_aload_n hC 2 dX11_check_27 rfl rfl ?_
    have q_11 : 0 < a0 + 102 ∧ M0 0 (a0 + 102) = kO 6 := lay_f0 hL qa0 fm_11_8
    refine r_getR0 (a' := a0 + 102) hC fg_X11_57 rfl hF fm_11_8 qa0.1 qa0.2 rfl dX11_check_28 ?_
    refine r_getI hC fg_X11_264 rfl q_11.1 q_11.2 dX11_check_31 ?_
    refine r_if_ne hC 39 rfl dX11_check_34 (by decide) (fun c => ?_) (fun c => ?_)
    · replace h := h.2 c
      refine r_sub [2, 1, 0] rfl ?_
      exact tX11_check_J39 hC hF hL Q   _ _ _ qa0  _ h
    · replace h := h.1 c
      refine r_iconst hC dX11_check_37 ?_
      refine r_istore_n (lv' := [(3, vI 2), (2, vI x2_2), (0, vR Y.1 a0), (1, vI x1)]) hC dX11_check_38 rfl (by decide) rfl ?_
      refine r_sub [2, 1, 0] rfl ?_
      exact tX11_check_J39 hC hF hL Q   _ _ _ qa0  _ h
theorem dX11_count_0 : dec cX11_count 0 1 1 (.iload_n 1) := ⟨by decide +kernel, rfl⟩
theorem dX11_count_1 : dec cX11_count 1 47 48 (.tableswitch 114 0 7 #[47, 55, 63, 74, 82, 90, 98, 106]) := ⟨by decide +kernel, rfl⟩
theorem dX11_count_48 : dec cX11_count 48 1 49 (.aload_n 0) := ⟨by decide +kernel, rfl⟩
theorem dX11_count_49 : dec cX11_count 49 3 52 (.getfield 10) := ⟨by decide +kernel, rfl⟩
theorem dX11_count_52 : dec cX11_count 52 3 55 (.getfield 95) := ⟨by decide +kernel, rfl⟩
theorem dX11_count_55 : dec cX11_count 55 1 56 (.ireturn) := ⟨by decide +kernel, rfl⟩
theorem dX11_count_56 : dec cX11_count 56 1 57 (.aload_n 0) := ⟨by decide +kernel, rfl⟩
theorem dX11_count_57 : dec cX11_count 57 3 60 (.getfield 10) := ⟨by decide +kernel, rfl⟩
theorem dX11_count_60 : dec cX11_count 60 3 63 (.getfield 131) := ⟨by decide +kernel, rfl⟩
theorem dX11_count_63 : dec cX11_count 63 1 64 (.ireturn) := ⟨by decide +kernel, rfl⟩
theorem dX11_count_64 : dec cX11_count 64 1 65 (.aload_n 0) := ⟨by decide +kernel, rfl⟩
theorem dX11_count_65 : dec cX11_count 65 3 68 (.getfield 10) := ⟨by decide +kernel, rfl⟩
theorem dX11_count_68 : dec cX11_count 68 3 71 (.invokevirtual 217) := ⟨by decide +kernel, rfl⟩
theorem dX11_count_71 : dec cX11_count 71 3 74 (.invokestatic 295) := ⟨by decide +kernel, rfl⟩
theorem dX11_count_74 : dec cX11_count 74 1 75 (.ireturn) := ⟨by decide +kernel, rfl⟩
theorem dX11_count_75 : dec cX11_count 75 1 76 (.aload_n 0) := ⟨by decide +kernel, rfl⟩
theorem dX11_count_76 : dec cX11_count 76 3 79 (.getfield 10) := ⟨by decide +kernel, rfl⟩
theorem dX11_count_79 : dec cX11_count 79 3 82 (.getfield 161) := ⟨by decide +kernel, rfl⟩
theorem dX11_count_82 : dec cX11_count 82 1 83 (.ireturn) := ⟨by decide +kernel, rfl⟩
theorem dX11_count_83 : dec cX11_count 83 1 84 (.aload_n 0) := ⟨by decide +kernel, rfl⟩
theorem dX11_count_84 : dec cX11_count 84 3 87 (.getfield 10) := ⟨by decide +kernel, rfl⟩
theorem dX11_count_87 : dec cX11_count 87 3 90 (.getfield 341) := ⟨by decide +kernel, rfl⟩
theorem dX11_count_90 : dec cX11_count 90 1 91 (.ireturn) := ⟨by decide +kernel, rfl⟩
theorem dX11_count_91 : dec cX11_count 91 1 92 (.aload_n 0) := ⟨by decide +kernel, rfl⟩
theorem dX11_count_92 : dec cX11_count 92 3 95 (.getfield 10) := ⟨by decide +kernel, rfl⟩
theorem dX11_count_95 : dec cX11_count 95 3 98 (.getfield 182) := ⟨by decide +kernel, rfl⟩
theorem dX11_count_98 : dec cX11_count 98 1 99 (.ireturn) := ⟨by decide +kernel, rfl⟩
theorem dX11_count_99 : dec cX11_count 99 1 100 (.aload_n 0) := ⟨by decide +kernel, rfl⟩
theorem dX11_count_100 : dec cX11_count 100 3 103 (.getfield 10) := ⟨by decide +kernel, rfl⟩
theorem dX11_count_103 : dec cX11_count 103 3 106 (.getfield 396) := ⟨by decide +kernel, rfl⟩
theorem dX11_count_106 : dec cX11_count 106 1 107 (.ireturn) := ⟨by decide +kernel, rfl⟩
theorem dX11_count_107 : dec cX11_count 107 1 108 (.aload_n 0) := ⟨by decide +kernel, rfl⟩
theorem dX11_count_108 : dec cX11_count 108 3 111 (.getfield 78) := ⟨by decide +kernel, rfl⟩
theorem dX11_count_111 : dec cX11_count 111 3 114 (.getfield 367) := ⟨by decide +kernel, rfl⟩
theorem dX11_count_114 : dec cX11_count 114 1 115 (.ireturn) := ⟨by decide +kernel, rfl⟩
theorem dX11_count_115 : dec cX11_count 115 1 116 (.aload_n 0) := ⟨by decide +kernel, rfl⟩
theorem dX11_count_116 : dec cX11_count 116 1 117 (.iconst 1) := ⟨by decide +kernel, rfl⟩
theorem dX11_count_117 : dec cX11_count 117 3 120 (.invokevirtual 91) := ⟨by decide +kernel, rfl⟩
theorem dX11_count_120 : dec cX11_count 120 1 121 (.ireturn) := ⟨by decide +kernel, rfl⟩
set_option maxHeartbeats 4000000 in
set_option maxRecDepth 100000 in
theorem mX11_count (Y : Yx) (hF : Y.2.2.2.2 = true) (l : Launch) (a0 : Nat) (x1 : Int) (M0 : Mem) (Q : Int → Mem → Prop) (qa0 : 0 < a0 ∧ M0 0 a0 = kO 11) (h : wX11_count a0 x1 M0 Q) : CT Y l yX11_count cX11_count 2 (some .int) rmX11_count [vR Y.1 a0, vI x1] M0 (QI Q) := by
  unfold wX11_count at h
  refine ct_intro (by decide) (Nat.le_of_ble_eq_true rfl) ?_
  intro X hXl hC hL0
  have hL := hL0 hF
  change OKX X Y RX11 cX11_count 2 (some .int) rmX11_count at hC
  change WW X Y 2 rmX11_count (QI Q) M0 0 0 0 [(0, vR Y.1 a0), (1, vI x1)] [] M0
  refine r_iload_n hC 1 dX11_count_0 rfl rfl ?_
  by_cases c0 : bm x1 = 0
  · replace h := h.1 c0
    refine r_tabIn hC 48 0 dX11_count_1 c0 (by decide) (by decide) rfl (by decide) ?_
    refine r_aload_n hC 0 dX11_count_48 rfl rfl ?_
    have q_1 : 0 < a0 + 1 ∧ M0 0 (a0 + 1) = kO 0 := lay_f0 hL qa0 fm_11_0
    refine r_getR0 (a' := a0 + 1) hC fg_X11_10 rfl hF fm_11_0 qa0.1 qa0.2 rfl dX11_count_49 ?_
    refine r_getI hC fg_X11_95 rfl q_1.1 q_1.2 dX11_count_52 ?_
    exact r_iret hC (Nat.zero_le _) (Nat.zero_le _) dX11_count_55 ⟨_, rfl, h⟩
  · replace h := h.2 c0
    by_cases c1 : bm x1 = 1
    · replace h := h.1 c1
      refine r_tabIn hC 56 1 dX11_count_1 c1 (by decide) (by decide) rfl (by decide) ?_
      refine r_aload_n hC 0 dX11_count_56 rfl rfl ?_
      have q_2 : 0 < a0 + 1 ∧ M0 0 (a0 + 1) = kO 0 := lay_f0 hL qa0 fm_11_0
      refine r_getR0 (a' := a0 + 1) hC fg_X11_10 rfl hF fm_11_0 qa0.1 qa0.2 rfl dX11_count_57 ?_
      refine r_getI hC fg_X11_131 rfl q_2.1 q_2.2 dX11_count_60 ?_
      exact r_iret hC (Nat.zero_le _) (Nat.zero_le _) dX11_count_63 ⟨_, rfl, h⟩
    · replace h := h.2 c1
      by_cases c2 : bm x1 = 2
      · replace h := h.1 c2
        refine r_tabIn hC 64 2 dX11_count_1 c2 (by decide) (by decide) rfl (by decide) ?_
        refine r_aload_n hC 0 dX11_count_64 rfl rfl ?_
        have q_3 : 0 < a0 + 1 ∧ M0 0 (a0 + 1) = kO 0 := lay_f0 hL qa0 fm_11_0
        refine r_getR0 (a' := a0 + 1) hC fg_X11_10 rfl hF fm_11_0 qa0.1 qa0.2 rfl dX11_count_65 ?_
        refine r_callV (As := []) (st := []) hC cw_X11_217 rfl q_3.1 q_3.2 rfl rfl (Nat.le_of_ble_eq_true rfl) ⟨Nat.le_of_ble_eq_true rfl, Nat.le_of_ble_eq_true rfl⟩ ⟨Nat.le_of_ble_eq_true rfl, Nat.le_of_ble_eq_true rfl⟩ dX11_count_68 (fun hk => mX0_likingsOn Y hF _ _ _ _ (kqO hk q_3) h) (fun v M_4 h => ?_)
        obtain ⟨r_5, rfl, h⟩ := h
        refine r_callS (As := [vI r_5]) (st := []) hC cw_X11_295 rfl rfl (Nat.le_of_ble_eq_true rfl) ⟨Nat.le_of_ble_eq_true rfl, Nat.le_of_ble_eq_true rfl⟩ ⟨Nat.le_of_ble_eq_true rfl, Nat.le_of_ble_eq_true rfl⟩ dX11_count_71 (fun hk => mJ6_bitCount_0f7a4 Y hF _ _ _ _  h) (fun v M_6 h => ?_)
        obtain ⟨r_7, rfl, h⟩ := h
        exact r_iret hC (Nat.zero_le _) (Nat.zero_le _) dX11_count_74 ⟨_, rfl, h⟩
      · replace h := h.2 c2
        by_cases c3 : bm x1 = 3
        · replace h := h.1 c3
          refine r_tabIn hC 75 3 dX11_count_1 c3 (by decide) (by decide) rfl (by decide) ?_
          refine r_aload_n hC 0 dX11_count_75 rfl rfl ?_
          have q_8 : 0 < a0 + 1 ∧ M0 0 (a0 + 1) = kO 0 := lay_f0 hL qa0 fm_11_0
          refine r_getR0 (a' := a0 + 1) hC fg_X11_10 rfl hF fm_11_0 qa0.1 qa0.2 rfl dX11_count_76 ?_
          refine r_getI hC fg_X11_161 rfl q_8.1 q_8.2 dX11_count_79 ?_
          exact r_iret hC (Nat.zero_le _) (Nat.zero_le _) dX11_count_82 ⟨_, rfl, h⟩
        · replace h := h.2 c3
          by_cases c4 : bm x1 = 4
          · replace h := h.1 c4
            refine r_tabIn hC 83 4 dX11_count_1 c4 (by decide) (by decide) rfl (by decide) ?_
            refine r_aload_n hC 0 dX11_count_83 rfl rfl ?_
            have q_9 : 0 < a0 + 1 ∧ M0 0 (a0 + 1) = kO 0 := lay_f0 hL qa0 fm_11_0
            refine r_getR0 (a' := a0 + 1) hC fg_X11_10 rfl hF fm_11_0 qa0.1 qa0.2 rfl dX11_count_84 ?_
            refine r_getI hC fg_X11_341 rfl q_9.1 q_9.2 dX11_count_87 ?_
            exact r_iret hC (Nat.zero_le _) (Nat.zero_le _) dX11_count_90 ⟨_, rfl, h⟩
          · replace h := h.2 c4
            by_cases c5 : bm x1 = 5
            · replace h := h.1 c5
              refine r_tabIn hC 91 5 dX11_count_1 c5 (by decide) (by decide) rfl (by decide) ?_
              refine r_aload_n hC 0 dX11_count_91 rfl rfl ?_
              have q_10 : 0 < a0 + 1 ∧ M0 0 (a0 + 1) = kO 0 := lay_f0 hL qa0 fm_11_0
              refine r_getR0 (a' := a0 + 1) hC fg_X11_10 rfl hF fm_11_0 qa0.1 qa0.2 rfl dX11_count_92 ?_
              refine r_getI hC fg_X11_182 rfl q_10.1 q_10.2 dX11_count_95 ?_
              exact r_iret hC (Nat.zero_le _) (Nat.zero_le _) dX11_count_98 ⟨_, rfl, h⟩
            · replace h := h.2 c5
              by_cases c6 : bm x1 = 6
              · replace h := h.1 c6
                refine r_tabIn hC 99 6 dX11_count_1 c6 (by decide) (by decide) rfl (by decide) ?_
                refine r_aload_n hC 0 dX11_count_99 rfl rfl ?_
                have q_11 : 0 < a0 + 1 ∧ M0 0 (a0 + 1) = kO 0 := lay_f0 hL qa0 fm_11_0
                refine r_getR0 (a' := a0 + 1) hC fg_X11_10 rfl hF fm_11_0 qa0.1 qa0.2 rfl dX11_count_100 ?_
                refine r_getI hC fg_X11_396 rfl q_11.1 q_11.2 dX11_count_103 ?_
                exact r_iret hC (Nat.zero_le _) (Nat.zero_le _) dX11_count_106 ⟨_, rfl, h⟩
              · replace h := h.2 c6
                by_cases c7 : bm x1 = 7
                · replace h := h.1 c7
                  refine r_tabIn hC 107 7 dX11_count_1 c7 (by decide) (by decide) rfl (by decide) ?_
                  refine r_aload_n hC 0 dX11_count_107 rfl rfl ?_
                  have q_12 : 0 < a0 + 113 ∧ M0 0 (a0 + 113) = kO 9 := lay_f0 hL qa0 fm_11_11
                  refine r_getR0 (a' := a0 + 113) hC fg_X11_78 rfl hF fm_11_11 qa0.1 qa0.2 rfl dX11_count_108 ?_
                  refine r_getI hC fg_X11_367 rfl q_12.1 q_12.2 dX11_count_111 ?_
                  exact r_iret hC (Nat.zero_le _) (Nat.zero_le _) dX11_count_114 ⟨_, rfl, h⟩
                · replace h := h.2 c7
                  refine r_tabOut hC 115 dX11_count_1 (by omega) (by decide) ?_
                  refine r_aload_n hC 0 dX11_count_115 rfl rfl ?_
                  refine r_iconst hC dX11_count_116 ?_
                  refine r_callV (As := [vI 1]) (st := []) hC cw_X11_91 rfl qa0.1 qa0.2 rfl rfl (Nat.le_of_ble_eq_true rfl) ⟨Nat.le_of_ble_eq_true rfl, Nat.le_of_ble_eq_true rfl⟩ ⟨Nat.le_of_ble_eq_true rfl, Nat.le_of_ble_eq_true rfl⟩ dX11_count_117 (fun hk => mX11_error Y hF _ _ _ _ _ (kqO hk qa0) h) (fun v M_13 h => ?_)
                  obtain ⟨r_14, rfl, h⟩ := h
                  exact r_iret hC (Nat.zero_le _) (Nat.zero_le _) dX11_count_120 ⟨_, rfl, h⟩
theorem dX11_told_0 : dec cX11_told 0 1 1 (.iload_n 1) := ⟨by decide +kernel, rfl⟩
theorem dX11_told_1 : dec cX11_told 1 1 2 (.iconst 1) := ⟨by decide +kernel, rfl⟩
theorem dX11_told_2 : dec cX11_told 2 2 4 (.bipush 6) := ⟨by decide +kernel, rfl⟩
theorem dX11_told_4 : dec cX11_told 4 3 7 (.invokestatic 87) := ⟨by decide +kernel, rfl⟩
theorem dX11_told_7 : dec cX11_told 7 3 10 (.ifCond .eq 12) := ⟨by decide +kernel, rfl⟩
theorem dX11_told_10 : dec cX11_told 10 1 11 (.aload_n 0) := ⟨by decide +kernel, rfl⟩
theorem dX11_told_11 : dec cX11_told 11 3 14 (.getfield 29) := ⟨by decide +kernel, rfl⟩
theorem dX11_told_14 : dec cX11_told 14 1 15 (.iload_n 1) := ⟨by decide +kernel, rfl⟩
theorem dX11_told_15 : dec cX11_told 15 1 16 (.iaload) := ⟨by decide +kernel, rfl⟩
theorem dX11_told_16 : dec cX11_told 16 3 19 (.goto 8) := ⟨by decide +kernel, rfl⟩
theorem dX11_told_19 : dec cX11_told 19 1 20 (.aload_n 0) := ⟨by decide +kernel, rfl⟩
theorem dX11_told_20 : dec cX11_told 20 1 21 (.iconst 1) := ⟨by decide +kernel, rfl⟩
theorem dX11_told_21 : dec cX11_told 21 3 24 (.invokevirtual 91) := ⟨by decide +kernel, rfl⟩
theorem dX11_told_24 : dec cX11_told 24 1 25 (.ireturn) := ⟨by decide +kernel, rfl⟩
set_option maxHeartbeats 4000000 in
set_option maxRecDepth 100000 in
theorem mX11_told (Y : Yx) (hF : Y.2.2.2.2 = true) (l : Launch) (a0 : Nat) (x1 : Int) (M0 : Mem) (Q : Int → Mem → Prop) (qa0 : 0 < a0 ∧ M0 0 a0 = kO 11) (h : wX11_told a0 x1 M0 Q) : CT Y l yX11_told cX11_told 2 (some .int) rmX11_told [vR Y.1 a0, vI x1] M0 (QI Q) := by
  unfold wX11_told at h
  refine ct_intro (by decide) (Nat.le_of_ble_eq_true rfl) ?_
  intro X hXl hC hL0
  have hL := hL0 hF
  change OKX X Y RX11 cX11_told 2 (some .int) rmX11_told at hC
  change WW X Y 2 rmX11_told (QI Q) M0 0 0 0 [(0, vR Y.1 a0), (1, vI x1)] [] M0
  refine r_iload_n hC 1 dX11_told_0 rfl rfl ?_
  refine r_iconst hC dX11_told_1 ?_
  refine r_bipush hC (by decide +kernel) dX11_told_2 ?_
  refine r_callS (As := [vI x1, vI 1, vI 6]) (st := []) hC cw_X11_87 rfl rfl (Nat.le_of_ble_eq_true rfl) ⟨Nat.le_of_ble_eq_true rfl, Nat.le_of_ble_eq_true rfl⟩ ⟨Nat.le_of_ble_eq_true rfl, Nat.le_of_ble_eq_true rfl⟩ dX11_told_4 (fun hk => mX11_within Y hF _ _ _ _ _ _  h) (fun v M_1 h => ?_)
  obtain ⟨r_2, rfl, h⟩ := h
  refine r_if_eq hC 19 rfl dX11_told_7 (by decide) (fun c => ?_) (fun c => ?_)
  · replace h := h.1 c
    refine r_aload_n hC 0 dX11_told_19 rfl rfl ?_
    refine r_iconst hC dX11_told_20 ?_
    refine r_callV (As := [vI 1]) (st := []) hC cw_X11_91 rfl qa0.1 qa0.2 rfl rfl (Nat.le_of_ble_eq_true rfl) ⟨Nat.le_of_ble_eq_true rfl, Nat.le_of_ble_eq_true rfl⟩ ⟨Nat.le_of_ble_eq_true rfl, Nat.le_of_ble_eq_true rfl⟩ dX11_told_21 (fun hk => mX11_error Y hF _ _ _ _ _ (kqO hk qa0) h) (fun v M_3 h => ?_)
    obtain ⟨r_4, rfl, h⟩ := h
    exact r_iret hC (Nat.zero_le _) (Nat.zero_le _) dX11_told_24 ⟨_, rfl, h⟩
  · replace h := h.2 c
    refine r_aload_n hC 0 dX11_told_10 rfl rfl ?_
    have q_5 : 0 < a0 + 85 ∧ M0 0 (a0 + 85) = kA 0 7 := lay_f0 hL qa0 fm_11_4
    refine r_getR0 (a' := a0 + 85) hC fg_X11_29 rfl hF fm_11_4 qa0.1 qa0.2 rfl dX11_told_11 ?_
    refine r_iload_n hC 1 dX11_told_14 rfl rfl ?_
    obtain ⟨i_6, h⟩ := h
    refine r_iald hC i_6 q_5.1 q_5.2 (by decide) dX11_told_15 ?_
    refine r_goto hC 24 dX11_told_16 (by decide) ?_
    exact r_iret hC (Nat.zero_le _) (Nat.zero_le _) dX11_told_24 ⟨_, rfl, h⟩
theorem dX12_error_0 : dec cX12_error 0 1 1 (.aload_n 0) := ⟨by decide +kernel, rfl⟩
theorem dX12_error_1 : dec cX12_error 1 3 4 (.getfield 16) := ⟨by decide +kernel, rfl⟩
theorem dX12_error_4 : dec cX12_error 4 1 5 (.iload_n 1) := ⟨by decide +kernel, rfl⟩
theorem dX12_error_5 : dec cX12_error 5 1 6 (.dup2) := ⟨by decide +kernel, rfl⟩
theorem dX12_error_6 : dec cX12_error 6 1 7 (.iaload) := ⟨by decide +kernel, rfl⟩
theorem dX12_error_7 : dec cX12_error 7 1 8 (.iconst 1) := ⟨by decide +kernel, rfl⟩
theorem dX12_error_8 : dec cX12_error 8 1 9 (.iadd) := ⟨by decide +kernel, rfl⟩
theorem dX12_error_9 : dec cX12_error 9 1 10 (.iastore) := ⟨by decide +kernel, rfl⟩
theorem dX12_error_10 : dec cX12_error 10 2 12 (.ldc 78) := ⟨by decide +kernel, rfl⟩
theorem dX12_error_12 : dec cX12_error 12 1 13 (.iload_n 1) := ⟨by decide +kernel, rfl⟩
theorem dX12_error_13 : dec cX12_error 13 1 14 (.isub) := ⟨by decide +kernel, rfl⟩
theorem dX12_error_14 : dec cX12_error 14 1 15 (.ireturn) := ⟨by decide +kernel, rfl⟩
set_option maxHeartbeats 4000000 in
set_option maxRecDepth 100000 in
theorem mX12_error (Y : Yx) (hF : Y.2.2.2.2 = true) (l : Launch) (a0 : Nat) (x1 : Int) (M0 : Mem) (Q : Int → Mem → Prop) (qa0 : 0 < a0 ∧ M0 0 a0 = kO 12) (h : wX12_error a0 x1 M0 Q) : CT Y l yX12_error cX12_error 2 (some .int) rmX12_error [vR Y.1 a0, vI x1] M0 (QI Q) := by
  unfold wX12_error at h
  refine ct_intro (by decide) (Nat.le_of_ble_eq_true rfl) ?_
  intro X hXl hC hL0
  have hL := hL0 hF
  change OKX X Y RX12 cX12_error 2 (some .int) rmX12_error at hC
  change WW X Y 2 rmX12_error (QI Q) M0 0 0 0 [(0, vR Y.1 a0), (1, vI x1)] [] M0
  refine r_aload_n hC 0 dX12_error_0 rfl rfl ?_
  have q_1 : 0 < a0 + 3 ∧ M0 0 (a0 + 3) = kA 0 7 := lay_f0 hL qa0 fm_12_3
  refine r_getR0 (a' := a0 + 3) hC fg_X12_16 rfl hF fm_12_3 qa0.1 qa0.2 rfl dX12_error_1 ?_
  refine r_iload_n hC 1 dX12_error_4 rfl rfl ?_
  refine r_dup2 hC rfl rfl dX12_error_5 ?_
  obtain ⟨i_2, h⟩ := h
  refine r_iald hC i_2 q_1.1 q_1.2 (by decide) dX12_error_6 ?_
  refine r_iconst hC dX12_error_7 ?_
  refine r_iadd hC dX12_error_8 ?_
  obtain ⟨i_3, h⟩ := h
  refine r_iast hC i_3 q_1.1 q_1.2 (by decide) dX12_error_9 ?_
  refine r_nameM h (fun M_4 h => ?_)
  refine r_ldc hC kc_X12_78 dX12_error_10 ?_
  refine r_iload_n hC 1 dX12_error_12 rfl rfl ?_
  refine r_isub hC dX12_error_13 ?_
  exact r_iret hC (Nat.zero_le _) (Nat.zero_le _) dX12_error_14 ⟨_, rfl, h⟩
theorem dX12_in_0 : dec cX12_in 0 1 1 (.iload_n 0) := ⟨by decide +kernel, rfl⟩
theorem dX12_in_1 : dec cX12_in 1 1 2 (.iload_n 1) := ⟨by decide +kernel, rfl⟩
theorem dX12_in_2 : dec cX12_in 2 3 5 (.if_icmp .lt 12) := ⟨by decide +kernel, rfl⟩
theorem dX12_in_5 : dec cX12_in 5 1 6 (.iload_n 0) := ⟨by decide +kernel, rfl⟩
theorem dX12_in_6 : dec cX12_in 6 1 7 (.iload_n 2) := ⟨by decide +kernel, rfl⟩
theorem dX12_in_7 : dec cX12_in 7 3 10 (.if_icmp .gt 7) := ⟨by decide +kernel, rfl⟩
theorem dX12_in_10 : dec cX12_in 10 1 11 (.iconst 1) := ⟨by decide +kernel, rfl⟩
theorem dX12_in_11 : dec cX12_in 11 3 14 (.goto 4) := ⟨by decide +kernel, rfl⟩
theorem dX12_in_14 : dec cX12_in 14 1 15 (.iconst 0) := ⟨by decide +kernel, rfl⟩
theorem dX12_in_15 : dec cX12_in 15 1 16 (.ireturn) := ⟨by decide +kernel, rfl⟩
set_option maxHeartbeats 4000000 in
set_option maxRecDepth 100000 in
theorem mX12_in (Y : Yx) (hF : Y.2.2.2.2 = true) (l : Launch) (x0 : Int) (x1 : Int) (x2 : Int) (M0 : Mem) (Q : Int → Mem → Prop)  (h : wX12_in x0 x1 x2 M0 Q) : CT Y l yX12_in cX12_in 3 (some .boolean) rmX12_in [vI x0, vI x1, vI x2] M0 (QI Q) := by
  unfold wX12_in at h
  refine ct_intro (by decide) (Nat.le_of_ble_eq_true rfl) ?_
  intro X hXl hC hL0
  have hL := hL0 hF
  change OKX X Y RX12 cX12_in 3 (some .boolean) rmX12_in at hC
  change WW X Y 3 rmX12_in (QI Q) M0 0 0 0 [(0, vI x0), (1, vI x1), (2, vI x2)] [] M0
  refine r_iload_n hC 0 dX12_in_0 rfl rfl ?_
  refine r_iload_n hC 1 dX12_in_1 rfl rfl ?_
  refine r_icmp_lt hC 14 rfl rfl dX12_in_2 (by decide) (fun c => ?_) (fun c => ?_)
  · replace h := h.1 c
    refine r_iconst hC dX12_in_14 ?_
    exact r_zret hC (Or.inl rfl) (Nat.zero_le _) (Nat.zero_le _) dX12_in_15 ⟨_, rfl, h⟩
  · replace h := h.2 c
    refine r_iload_n hC 0 dX12_in_5 rfl rfl ?_
    refine r_iload_n hC 2 dX12_in_6 rfl rfl ?_
    refine r_icmp_gt hC 14 rfl rfl dX12_in_7 (by decide) (fun c => ?_) (fun c => ?_)
    · replace h := h.1 c
      refine r_iconst hC dX12_in_14 ?_
      exact r_zret hC (Or.inl rfl) (Nat.zero_le _) (Nat.zero_le _) dX12_in_15 ⟨_, rfl, h⟩
    · replace h := h.2 c
      refine r_iconst hC dX12_in_10 ?_
      refine r_goto hC 15 dX12_in_11 (by decide) ?_
      exact r_zret hC (Or.inr rfl) (Nat.zero_le _) (Nat.zero_le _) dX12_in_15 ⟨_, rfl, h⟩
theorem dX12_ones_0 : dec cX12_ones 0 1 1 (.iconst 0) := ⟨by decide +kernel, rfl⟩
theorem dX12_ones_1 : dec cX12_ones 1 1 2 (.istore_n 1) := ⟨by decide +kernel, rfl⟩
theorem dX12_ones_2 : dec cX12_ones 2 1 3 (.iconst 0) := ⟨by decide +kernel, rfl⟩
theorem dX12_ones_3 : dec cX12_ones 3 1 4 (.istore_n 2) := ⟨by decide +kernel, rfl⟩
theorem dX12_ones_4 : dec cX12_ones 4 1 5 (.iload_n 2) := ⟨by decide +kernel, rfl⟩
theorem dX12_ones_5 : dec cX12_ones 5 2 7 (.bipush 12) := ⟨by decide +kernel, rfl⟩
theorem dX12_ones_7 : dec cX12_ones 7 3 10 (.if_icmp .ge 17) := ⟨by decide +kernel, rfl⟩
theorem dX12_ones_10 : dec cX12_ones 10 1 11 (.iload_n 1) := ⟨by decide +kernel, rfl⟩
theorem dX12_ones_11 : dec cX12_ones 11 1 12 (.iload_n 0) := ⟨by decide +kernel, rfl⟩
theorem dX12_ones_12 : dec cX12_ones 12 1 13 (.iload_n 2) := ⟨by decide +kernel, rfl⟩
theorem dX12_ones_13 : dec cX12_ones 13 1 14 (.ishr) := ⟨by decide +kernel, rfl⟩
theorem dX12_ones_14 : dec cX12_ones 14 1 15 (.iconst 1) := ⟨by decide +kernel, rfl⟩
theorem dX12_ones_15 : dec cX12_ones 15 1 16 (.iand) := ⟨by decide +kernel, rfl⟩
theorem dX12_ones_16 : dec cX12_ones 16 1 17 (.iadd) := ⟨by decide +kernel, rfl⟩
theorem dX12_ones_17 : dec cX12_ones 17 1 18 (.istore_n 1) := ⟨by decide +kernel, rfl⟩
theorem dX12_ones_18 : dec cX12_ones 18 3 21 (.iinc 2 1) := ⟨by decide +kernel, rfl⟩
theorem dX12_ones_21 : dec cX12_ones 21 3 24 (.goto (-17)) := ⟨by decide +kernel, rfl⟩
theorem dX12_ones_24 : dec cX12_ones 24 1 25 (.iload_n 1) := ⟨by decide +kernel, rfl⟩
theorem dX12_ones_25 : dec cX12_ones 25 1 26 (.ireturn) := ⟨by decide +kernel, rfl⟩
set_option maxHeartbeats 4000000 in
set_option maxRecDepth 100000 in
theorem tX12_ones_L4 {X : Cx} {Y : Yx} {M0 : Mem} (hC : OKX X Y RX12 cX12_ones 3 (some .int) rmX12_ones) (hF : Y.2.2.2.2 = true) (hL : Lay M0) (Q : Int → Mem → Prop)  (x0 : Int)   : ∀ (N : Nat) (x1 : Int) (x2 : Int) (M : Mem) (_ : wX12_ones_L4 Q  x0 N x1 x2 M), WW X Y 3 rmX12_ones (QI Q) M0 0 0 4 [(0, vI x0), (1, vI x1), (2, vI x2)] [] M := by
  intro N
  induction N with
  | zero =>
    intro x1 x2 M h
    exact h.elim
  | succ N ih =>
    intro x1 x2 M h
    unfold wX12_ones_L4 at h
    refine r_iload_n hC 2 dX12_ones_4 rfl rfl ?_
    refine r_bipush hC (by decide +kernel) dX12_ones_5 ?_
    refine r_icmp_ge hC 24 rfl bmL_12 dX12_ones_7 (by decide) (fun c => ?_) (fun c => ?_)
    · replace h := h.1 c
      refine r_iload_n hC 1 dX12_ones_24 rfl rfl ?_
      exact r_iret hC (Nat.zero_le _) (Nat.zero_le _) dX12_ones_25 ⟨_, rfl, h⟩
    · replace h := h.2 c
      refine r_iload_n hC 1 dX12_ones_10 rfl rfl ?_
      refine r_iload_n hC 0 dX12_ones_11 rfl rfl ?_
      refine r_iload_n hC 2 dX12_ones_12 rfl rfl ?_
      refine r_ishr hC dX12_ones_13 ?_
      refine r_iconst hC dX12_ones_14 ?_
      refine r_iand hC dX12_ones_15 ?_
      refine r_iadd hC dX12_ones_16 ?_
      refine r_nameI h (fun x1_1 h => ?_)
      refine r_istore_n (lv' := [(1, vI x1_1), (0, vI x0), (2, vI x2)]) hC dX12_ones_17 rfl (by decide) rfl ?_
      refine let_elim h (fun x2_2 e_3 h => ?_)
      refine r_iinc (lv' := [(2, vI x2_2), (1, vI x1_1), (0, vI x0)]) hC 2 dX12_ones_18 rfl (by decide) e_3 rfl ?_
      refine r_goto hC 4 dX12_ones_21 (by decide) ?_
      refine r_sub [2, 1, 0] rfl ?_
      exact ih _ _ _ h
set_option maxHeartbeats 4000000 in
set_option maxRecDepth 100000 in
theorem mX12_ones (Y : Yx) (hF : Y.2.2.2.2 = true) (l : Launch) (x0 : Int) (M0 : Mem) (Q : Int → Mem → Prop)  (h : wX12_ones x0 M0 Q) : CT Y l yX12_ones cX12_ones 3 (some .int) rmX12_ones [vI x0] M0 (QI Q) := by
  unfold wX12_ones at h
  refine ct_intro (by decide) (Nat.le_of_ble_eq_true rfl) ?_
  intro X hXl hC hL0
  have hL := hL0 hF
  change OKX X Y RX12 cX12_ones 3 (some .int) rmX12_ones at hC
  change WW X Y 3 rmX12_ones (QI Q) M0 0 0 0 [(0, vI x0)] [] M0
  refine r_iconst hC dX12_ones_0 ?_
  refine r_istore_n (lv' := [(1, vI 0), (0, vI x0)]) hC dX12_ones_1 rfl (by decide) rfl ?_
  refine r_iconst hC dX12_ones_2 ?_
  refine r_istore_n (lv' := [(2, vI 0), (1, vI 0), (0, vI x0)]) hC dX12_ones_3 rfl (by decide) rfl ?_
  refine r_sub [2, 1, 0] rfl ?_
  obtain ⟨N_4, h⟩ := h
  refine tX12_ones_L4 hC hF hL Q  _   N_4 _ _ _ h
theorem dX12_become_0 : dec cX12_become 0 1 1 (.aload_n 0) := ⟨by decide +kernel, rfl⟩
theorem dX12_become_1 : dec cX12_become 1 3 4 (.getfield 7) := ⟨by decide +kernel, rfl⟩
theorem dX12_become_4 : dec cX12_become 4 1 5 (.iload_n 1) := ⟨by decide +kernel, rfl⟩
theorem dX12_become_5 : dec cX12_become 5 1 6 (.iaload) := ⟨by decide +kernel, rfl⟩
theorem dX12_become_6 : dec cX12_become 6 1 7 (.istore_n 3) := ⟨by decide +kernel, rfl⟩
theorem dX12_become_7 : dec cX12_become 7 1 8 (.aload_n 0) := ⟨by decide +kernel, rfl⟩
theorem dX12_become_8 : dec cX12_become 8 3 11 (.getfield 7) := ⟨by decide +kernel, rfl⟩
theorem dX12_become_11 : dec cX12_become 11 1 12 (.iload_n 1) := ⟨by decide +kernel, rfl⟩
theorem dX12_become_12 : dec cX12_become 12 1 13 (.iload_n 2) := ⟨by decide +kernel, rfl⟩
theorem dX12_become_13 : dec cX12_become 13 1 14 (.iastore) := ⟨by decide +kernel, rfl⟩
theorem dX12_become_14 : dec cX12_become 14 1 15 (.iload_n 3) := ⟨by decide +kernel, rfl⟩
theorem dX12_become_15 : dec cX12_become 15 1 16 (.ireturn) := ⟨by decide +kernel, rfl⟩
set_option maxHeartbeats 4000000 in
set_option maxRecDepth 100000 in
theorem mX12_become (Y : Yx) (hF : Y.2.2.2.2 = true) (l : Launch) (a0 : Nat) (x1 : Int) (x2 : Int) (M0 : Mem) (Q : Int → Mem → Prop) (qa0 : 0 < a0 ∧ M0 0 a0 = kO 12) (h : wX12_become a0 x1 x2 M0 Q) : CT Y l yX12_become cX12_become 4 (some .int) rmX12_become [vR Y.1 a0, vI x1, vI x2] M0 (QI Q) := by
  unfold wX12_become at h
  refine ct_intro (by decide) (Nat.le_of_ble_eq_true rfl) ?_
  intro X hXl hC hL0
  have hL := hL0 hF
  change OKX X Y RX12 cX12_become 4 (some .int) rmX12_become at hC
  change WW X Y 4 rmX12_become (QI Q) M0 0 0 0 [(0, vR Y.1 a0), (1, vI x1), (2, vI x2)] [] M0
  refine r_aload_n hC 0 dX12_become_0 rfl rfl ?_
  have q_1 : 0 < a0 + 1 ∧ M0 0 (a0 + 1) = kA 0 1522 := lay_f0 hL qa0 fm_12_0
  refine r_getR0 (a' := a0 + 1) hC fg_X12_7 rfl hF fm_12_0 qa0.1 qa0.2 rfl dX12_become_1 ?_
  refine r_iload_n hC 1 dX12_become_4 rfl rfl ?_
  obtain ⟨i_2, h⟩ := h
  refine r_iald hC i_2 q_1.1 q_1.2 (by decide) dX12_become_5 ?_
  refine r_nameI h (fun x3_3 h => ?_)
  refine r_istore_n (lv' := [(3, vI x3_3), (0, vR Y.1 a0), (1, vI x1), (2, vI x2)]) hC dX12_become_6 rfl (by decide) rfl ?_
  refine r_aload_n hC 1 dX12_become_7 rfl rfl ?_
  have q_4 : 0 < a0 + 1 ∧ M0 0 (a0 + 1) = kA 0 1522 := lay_f0 hL qa0 fm_12_0
  refine r_getR0 (a' := a0 + 1) hC fg_X12_7 rfl hF fm_12_0 qa0.1 qa0.2 rfl dX12_become_8 ?_
  refine r_iload_n hC 2 dX12_become_11 rfl rfl ?_
  refine r_iload_n hC 3 dX12_become_12 rfl rfl ?_
  obtain ⟨i_5, h⟩ := h
  refine r_iast hC i_5 q_4.1 q_4.2 (by decide) dX12_become_13 ?_
  refine r_nameM h (fun M_6 h => ?_)
  refine r_iload_n hC 0 dX12_become_14 rfl rfl ?_
  exact r_iret hC (Nat.zero_le _) (Nat.zero_le _) dX12_become_15 ⟨_, rfl, h⟩
theorem dX12_isPiece_0 : dec cX12_isPiece 0 1 1 (.iload_n 1) := ⟨by decide +kernel, rfl⟩
theorem dX12_isPiece_1 : dec cX12_isPiece 1 1 2 (.iconst 0) := ⟨by decide +kernel, rfl⟩
theorem dX12_isPiece_2 : dec cX12_isPiece 2 1 3 (.aload_n 0) := ⟨by decide +kernel, rfl⟩
theorem dX12_isPiece_3 : dec cX12_isPiece 3 3 6 (.getfield 7) := ⟨by decide +kernel, rfl⟩
theorem dX12_isPiece_6 : dec cX12_isPiece 6 1 7 (.iconst 0) := ⟨by decide +kernel, rfl⟩
theorem dX12_isPiece_7 : dec cX12_isPiece 7 1 8 (.iaload) := ⟨by decide +kernel, rfl⟩
theorem dX12_isPiece_8 : dec cX12_isPiece 8 1 9 (.iconst 1) := ⟨by decide +kernel, rfl⟩
theorem dX12_isPiece_9 : dec cX12_isPiece 9 1 10 (.isub) := ⟨by decide +kernel, rfl⟩
theorem dX12_isPiece_10 : dec cX12_isPiece 10 3 13 (.invokestatic 79) := ⟨by decide +kernel, rfl⟩
theorem dX12_isPiece_13 : dec cX12_isPiece 13 1 14 (.ireturn) := ⟨by decide +kernel, rfl⟩
set_option maxHeartbeats 4000000 in
set_option maxRecDepth 100000 in
theorem mX12_isPiece (Y : Yx) (hF : Y.2.2.2.2 = true) (l : Launch) (a0 : Nat) (x1 : Int) (M0 : Mem) (Q : Int → Mem → Prop) (qa0 : 0 < a0 ∧ M0 0 a0 = kO 12) (h : wX12_isPiece a0 x1 M0 Q) : CT Y l yX12_isPiece cX12_isPiece 2 (some .boolean) rmX12_isPiece [vR Y.1 a0, vI x1] M0 (QI Q) := by
  unfold wX12_isPiece at h
  refine ct_intro (by decide) (Nat.le_of_ble_eq_true rfl) ?_
  intro X hXl hC hL0
  have hL := hL0 hF
  change OKX X Y RX12 cX12_isPiece 2 (some .boolean) rmX12_isPiece at hC
  change WW X Y 2 rmX12_isPiece (QI Q) M0 0 0 0 [(0, vR Y.1 a0), (1, vI x1)] [] M0
  refine r_iload_n hC 1 dX12_isPiece_0 rfl rfl ?_
  refine r_iconst hC dX12_isPiece_1 ?_
  refine r_aload_n hC 0 dX12_isPiece_2 rfl rfl ?_
  have q_1 : 0 < a0 + 1 ∧ M0 0 (a0 + 1) = kA 0 1522 := lay_f0 hL qa0 fm_12_0
  refine r_getR0 (a' := a0 + 1) hC fg_X12_7 rfl hF fm_12_0 qa0.1 qa0.2 rfl dX12_isPiece_3 ?_
  refine r_iconst hC dX12_isPiece_6 ?_
  refine r_iald hC ⟨by decide +kernel, by decide +kernel⟩ q_1.1 q_1.2 (by decide) dX12_isPiece_7 ?_
  refine r_iconst hC dX12_isPiece_8 ?_
  refine r_isub hC dX12_isPiece_9 ?_
  refine r_callS (As := [vI x1, vI 0, vI ((rd M (a0 + 1) 0) - 1)]) (st := []) hC cw_X12_79 rfl rfl (Nat.le_of_ble_eq_true rfl) ⟨Nat.le_of_ble_eq_true rfl, Nat.le_of_ble_eq_true rfl⟩ ⟨Nat.le_of_ble_eq_true rfl, Nat.le_of_ble_eq_true rfl⟩ dX12_isPiece_10 (fun hk => mX12_in Y hF _ _ _ _ _ _  h) (fun v M_2 h => ?_)
  obtain ⟨r_3, rfl, h⟩ := h
  exact r_zret hC h.1 (Nat.zero_le _) (Nat.zero_le _) dX12_isPiece_13 ⟨_, rfl, h.2⟩
theorem dX12_isLiking_0 : dec cX12_isLiking 0 1 1 (.iload_n 1) := ⟨by decide +kernel, rfl⟩
theorem dX12_isLiking_1 : dec cX12_isLiking 1 1 2 (.iconst 0) := ⟨by decide +kernel, rfl⟩
theorem dX12_isLiking_2 : dec cX12_isLiking 2 1 3 (.aload_n 0) := ⟨by decide +kernel, rfl⟩
theorem dX12_isLiking_3 : dec cX12_isLiking 3 3 6 (.getfield 7) := ⟨by decide +kernel, rfl⟩
theorem dX12_isLiking_6 : dec cX12_isLiking 6 1 7 (.iconst 1) := ⟨by decide +kernel, rfl⟩
theorem dX12_isLiking_7 : dec cX12_isLiking 7 1 8 (.iaload) := ⟨by decide +kernel, rfl⟩
theorem dX12_isLiking_8 : dec cX12_isLiking 8 1 9 (.iconst 1) := ⟨by decide +kernel, rfl⟩
theorem dX12_isLiking_9 : dec cX12_isLiking 9 1 10 (.isub) := ⟨by decide +kernel, rfl⟩
theorem dX12_isLiking_10 : dec cX12_isLiking 10 3 13 (.invokestatic 79) := ⟨by decide +kernel, rfl⟩
theorem dX12_isLiking_13 : dec cX12_isLiking 13 1 14 (.ireturn) := ⟨by decide +kernel, rfl⟩
set_option maxHeartbeats 4000000 in
set_option maxRecDepth 100000 in
theorem mX12_isLiking (Y : Yx) (hF : Y.2.2.2.2 = true) (l : Launch) (a0 : Nat) (x1 : Int) (M0 : Mem) (Q : Int → Mem → Prop) (qa0 : 0 < a0 ∧ M0 0 a0 = kO 12) (h : wX12_isLiking a0 x1 M0 Q) : CT Y l yX12_isLiking cX12_isLiking 2 (some .boolean) rmX12_isLiking [vR Y.1 a0, vI x1] M0 (QI Q) := by
  unfold wX12_isLiking at h
  refine ct_intro (by decide) (Nat.le_of_ble_eq_true rfl) ?_
  intro X hXl hC hL0
  have hL := hL0 hF
  change OKX X Y RX12 cX12_isLiking 2 (some .boolean) rmX12_isLiking at hC
  change WW X Y 2 rmX12_isLiking (QI Q) M0 0 0 0 [(0, vR Y.1 a0), (1, vI x1)] [] M0
  refine r_iload_n hC 1 dX12_isLiking_0 rfl rfl ?_
  refine r_iconst hC dX12_isLiking_1 ?_
  refine r_aload_n hC 0 dX12_isLiking_2 rfl rfl ?_
  have q_1 : 0 < a0 + 1 ∧ M0 0 (a0 + 1) = kA 0 1522 := lay_f0 hL qa0 fm_12_0
  refine r_getR0 (a' := a0 + 1) hC fg_X12_7 rfl hF fm_12_0 qa0.1 qa0.2 rfl dX12_isLiking_3 ?_
  refine r_iconst hC dX12_isLiking_6 ?_
  refine r_iald hC ⟨by decide +kernel, by decide +kernel⟩ q_1.1 q_1.2 (by decide) dX12_isLiking_7 ?_
  refine r_iconst hC dX12_isLiking_8 ?_
  refine r_isub hC dX12_isLiking_9 ?_
  refine r_callS (As := [vI x1, vI 0, vI ((rd M (a0 + 1) 1) - 1)]) (st := []) hC cw_X12_79 rfl rfl (Nat.le_of_ble_eq_true rfl) ⟨Nat.le_of_ble_eq_true rfl, Nat.le_of_ble_eq_true rfl⟩ ⟨Nat.le_of_ble_eq_true rfl, Nat.le_of_ble_eq_true rfl⟩ dX12_isLiking_10 (fun hk => mX12_in Y hF _ _ _ _ _ _  h) (fun v M_2 h => ?_)
  obtain ⟨r_3, rfl, h⟩ := h
  exact r_zret hC h.1 (Nat.zero_le _) (Nat.zero_le _) dX12_isLiking_13 ⟨_, rfl, h.2⟩
theorem dX12_of_0 : dec cX12_of 0 1 1 (.aload_n 0) := ⟨by decide +kernel, rfl⟩
theorem dX12_of_1 : dec cX12_of 1 3 4 (.getfield 7) := ⟨by decide +kernel, rfl⟩
theorem dX12_of_4 : dec cX12_of 4 2 6 (.bipush 20) := ⟨by decide +kernel, rfl⟩
theorem dX12_of_6 : dec cX12_of 6 2 8 (.bipush 6) := ⟨by decide +kernel, rfl⟩
theorem dX12_of_8 : dec cX12_of 8 1 9 (.iload_n 1) := ⟨by decide +kernel, rfl⟩
theorem dX12_of_9 : dec cX12_of 9 1 10 (.imul) := ⟨by decide +kernel, rfl⟩
theorem dX12_of_10 : dec cX12_of 10 1 11 (.iadd) := ⟨by decide +kernel, rfl⟩
theorem dX12_of_11 : dec cX12_of 11 1 12 (.iload_n 2) := ⟨by decide +kernel, rfl⟩
theorem dX12_of_12 : dec cX12_of 12 1 13 (.iadd) := ⟨by decide +kernel, rfl⟩
theorem dX12_of_13 : dec cX12_of 13 1 14 (.iaload) := ⟨by decide +kernel, rfl⟩
theorem dX12_of_14 : dec cX12_of 14 1 15 (.ireturn) := ⟨by decide +kernel, rfl⟩
set_option maxHeartbeats 4000000 in
set_option maxRecDepth 100000 in
theorem mX12_of (Y : Yx) (hF : Y.2.2.2.2 = true) (l : Launch) (a0 : Nat) (x1 : Int) (x2 : Int) (M0 : Mem) (Q : Int → Mem → Prop) (qa0 : 0 < a0 ∧ M0 0 a0 = kO 12) (h : wX12_of a0 x1 x2 M0 Q) : CT Y l yX12_of cX12_of 3 (some .int) rmX12_of [vR Y.1 a0, vI x1, vI x2] M0 (QI Q) := by
  unfold wX12_of at h
  refine ct_intro (by decide) (Nat.le_of_ble_eq_true rfl) ?_
  intro X hXl hC hL0
  have hL := hL0 hF
  change OKX X Y RX12 cX12_of 3 (some .int) rmX12_of at hC
  change WW X Y 3 rmX12_of (QI Q) M0 0 0 0 [(0, vR Y.1 a0), (1, vI x1), (2, vI x2)] [] M0
  refine r_aload_n hC 0 dX12_of_0 rfl rfl ?_
  have q_1 : 0 < a0 + 1 ∧ M0 0 (a0 + 1) = kA 0 1522 := lay_f0 hL qa0 fm_12_0
  refine r_getR0 (a' := a0 + 1) hC fg_X12_7 rfl hF fm_12_0 qa0.1 qa0.2 rfl dX12_of_1 ?_
  refine r_bipush hC (by decide +kernel) dX12_of_4 ?_
  refine r_bipush hC (by decide +kernel) dX12_of_6 ?_
  refine r_iload_n hC 1 dX12_of_8 rfl rfl ?_
  refine r_imul hC dX12_of_9 ?_
  refine r_iadd hC dX12_of_10 ?_
  refine r_iload_n hC 2 dX12_of_11 rfl rfl ?_
  refine r_iadd hC dX12_of_12 ?_
  obtain ⟨i_2, h⟩ := h
  refine r_iald hC i_2 q_1.1 q_1.2 (by decide) dX12_of_13 ?_
  exact r_iret hC (Nat.zero_le _) (Nat.zero_le _) dX12_of_14 ⟨_, rfl, h⟩
theorem dX12_likingIs_0 : dec cX12_likingIs 0 1 1 (.aload_n 0) := ⟨by decide +kernel, rfl⟩
theorem dX12_likingIs_1 : dec cX12_likingIs 1 3 4 (.getfield 7) := ⟨by decide +kernel, rfl⟩
theorem dX12_likingIs_4 : dec cX12_likingIs 4 2 6 (.bipush 100) := ⟨by decide +kernel, rfl⟩
theorem dX12_likingIs_6 : dec cX12_likingIs 6 1 7 (.iconst 4) := ⟨by decide +kernel, rfl⟩
theorem dX12_likingIs_7 : dec cX12_likingIs 7 1 8 (.iload_n 1) := ⟨by decide +kernel, rfl⟩
theorem dX12_likingIs_8 : dec cX12_likingIs 8 1 9 (.imul) := ⟨by decide +kernel, rfl⟩
theorem dX12_likingIs_9 : dec cX12_likingIs 9 1 10 (.iadd) := ⟨by decide +kernel, rfl⟩
theorem dX12_likingIs_10 : dec cX12_likingIs 10 1 11 (.iload_n 2) := ⟨by decide +kernel, rfl⟩
theorem dX12_likingIs_11 : dec cX12_likingIs 11 1 12 (.iadd) := ⟨by decide +kernel, rfl⟩
theorem dX12_likingIs_12 : dec cX12_likingIs 12 1 13 (.iaload) := ⟨by decide +kernel, rfl⟩
theorem dX12_likingIs_13 : dec cX12_likingIs 13 1 14 (.ireturn) := ⟨by decide +kernel, rfl⟩
set_option maxHeartbeats 4000000 in
set_option maxRecDepth 100000 in
theorem mX12_likingIs (Y : Yx) (hF : Y.2.2.2.2 = true) (l : Launch) (a0 : Nat) (x1 : Int) (x2 : Int) (M0 : Mem) (Q : Int → Mem → Prop) (qa0 : 0 < a0 ∧ M0 0 a0 = kO 12) (h : wX12_likingIs a0 x1 x2 M0 Q) : CT Y l yX12_likingIs cX12_likingIs 3 (some .int) rmX12_likingIs [vR Y.1 a0, vI x1, vI x2] M0 (QI Q) := by
  unfold wX12_likingIs at h
  refine ct_intro (by decide) (Nat.le_of_ble_eq_true rfl) ?_
  intro X hXl hC hL0
  have hL := hL0 hF
  change OKX X Y RX12 cX12_likingIs 3 (some .int) rmX12_likingIs at hC
  change WW X Y 3 rmX12_likingIs (QI Q) M0 0 0 0 [(0, vR Y.1 a0), (1, vI x1), (2, vI x2)] [] M0
  refine r_aload_n hC 0 dX12_likingIs_0 rfl rfl ?_
  have q_1 : 0 < a0 + 1 ∧ M0 0 (a0 + 1) = kA 0 1522 := lay_f0 hL qa0 fm_12_0
  refine r_getR0 (a' := a0 + 1) hC fg_X12_7 rfl hF fm_12_0 qa0.1 qa0.2 rfl dX12_likingIs_1 ?_
  refine r_bipush hC (by decide +kernel) dX12_likingIs_4 ?_
  refine r_iconst hC dX12_likingIs_6 ?_
  refine r_iload_n hC 1 dX12_likingIs_7 rfl rfl ?_
  refine r_imul hC dX12_likingIs_8 ?_
  refine r_iadd hC dX12_likingIs_9 ?_
  refine r_iload_n hC 2 dX12_likingIs_10 rfl rfl ?_
  refine r_iadd hC dX12_likingIs_11 ?_
  obtain ⟨i_2, h⟩ := h
  refine r_iald hC i_2 q_1.1 q_1.2 (by decide) dX12_likingIs_12 ?_
  exact r_iret hC (Nat.zero_le _) (Nat.zero_le _) dX12_likingIs_13 ⟨_, rfl, h⟩
theorem dX12_piece_0 : dec cX12_piece 0 1 1 (.iload_n 1) := ⟨by decide +kernel, rfl⟩
theorem dX12_piece_1 : dec cX12_piece 1 3 4 (.sipush 1000) := ⟨by decide +kernel, rfl⟩
theorem dX12_piece_4 : dec cX12_piece 4 1 5 (.idiv) := ⟨by decide +kernel, rfl⟩
theorem dX12_piece_5 : dec cX12_piece 5 1 6 (.iconst 1) := ⟨by decide +kernel, rfl⟩
theorem dX12_piece_6 : dec cX12_piece 6 2 8 (.bipush 60) := ⟨by decide +kernel, rfl⟩
theorem dX12_piece_8 : dec cX12_piece 8 3 11 (.invokestatic 79) := ⟨by decide +kernel, rfl⟩
theorem dX12_piece_11 : dec cX12_piece 11 3 14 (.ifCond .eq 53) := ⟨by decide +kernel, rfl⟩
theorem dX12_piece_14 : dec cX12_piece 14 1 15 (.iload_n 1) := ⟨by decide +kernel, rfl⟩
theorem dX12_piece_15 : dec cX12_piece 15 3 18 (.sipush 1000) := ⟨by decide +kernel, rfl⟩
theorem dX12_piece_18 : dec cX12_piece 18 1 19 (.irem) := ⟨by decide +kernel, rfl⟩
theorem dX12_piece_19 : dec cX12_piece 19 2 21 (.bipush 10) := ⟨by decide +kernel, rfl⟩
theorem dX12_piece_21 : dec cX12_piece 21 1 22 (.idiv) := ⟨by decide +kernel, rfl⟩
theorem dX12_piece_22 : dec cX12_piece 22 2 24 (.bipush 11) := ⟨by decide +kernel, rfl⟩
theorem dX12_piece_24 : dec cX12_piece 24 3 27 (.if_icmp .gt 40) := ⟨by decide +kernel, rfl⟩
theorem dX12_piece_27 : dec cX12_piece 27 1 28 (.iload_n 2) := ⟨by decide +kernel, rfl⟩
theorem dX12_piece_28 : dec cX12_piece 28 1 29 (.iconst 0) := ⟨by decide +kernel, rfl⟩
theorem dX12_piece_29 : dec cX12_piece 29 3 32 (.sipush 255) := ⟨by decide +kernel, rfl⟩
theorem dX12_piece_32 : dec cX12_piece 32 3 35 (.invokestatic 79) := ⟨by decide +kernel, rfl⟩
theorem dX12_piece_35 : dec cX12_piece 35 3 38 (.ifCond .eq 29) := ⟨by decide +kernel, rfl⟩
theorem dX12_piece_38 : dec cX12_piece 38 1 39 (.iload_n 3) := ⟨by decide +kernel, rfl⟩
theorem dX12_piece_39 : dec cX12_piece 39 1 40 (.iconst 0) := ⟨by decide +kernel, rfl⟩
theorem dX12_piece_40 : dec cX12_piece 40 3 43 (.sipush 255) := ⟨by decide +kernel, rfl⟩
theorem dX12_piece_43 : dec cX12_piece 43 3 46 (.invokestatic 79) := ⟨by decide +kernel, rfl⟩
theorem dX12_piece_46 : dec cX12_piece 46 3 49 (.ifCond .eq 18) := ⟨by decide +kernel, rfl⟩
theorem dX12_piece_49 : dec cX12_piece 49 2 51 (.iload 4) := ⟨by decide +kernel, rfl⟩
theorem dX12_piece_51 : dec cX12_piece 51 1 52 (.iconst 0) := ⟨by decide +kernel, rfl⟩
theorem dX12_piece_52 : dec cX12_piece 52 2 54 (.bipush 99) := ⟨by decide +kernel, rfl⟩
theorem dX12_piece_54 : dec cX12_piece 54 3 57 (.invokestatic 79) := ⟨by decide +kernel, rfl⟩
theorem dX12_piece_57 : dec cX12_piece 57 3 60 (.ifCond .eq 7) := ⟨by decide +kernel, rfl⟩
theorem dX12_piece_60 : dec cX12_piece 60 1 61 (.iconst 1) := ⟨by decide +kernel, rfl⟩
theorem dX12_piece_61 : dec cX12_piece 61 3 64 (.goto 4) := ⟨by decide +kernel, rfl⟩
theorem dX12_piece_64 : dec cX12_piece 64 1 65 (.iconst 0) := ⟨by decide +kernel, rfl⟩
theorem dX12_piece_65 : dec cX12_piece 65 2 67 (.istore 5) := ⟨by decide +kernel, rfl⟩
theorem dX12_piece_67 : dec cX12_piece 67 1 68 (.iload_n 1) := ⟨by decide +kernel, rfl⟩
theorem dX12_piece_68 : dec cX12_piece 68 3 71 (.ifCond .lt 8) := ⟨by decide +kernel, rfl⟩
theorem dX12_piece_71 : dec cX12_piece 71 2 73 (.iload 5) := ⟨by decide +kernel, rfl⟩
theorem dX12_piece_73 : dec cX12_piece 73 3 76 (.ifCond .ne 9) := ⟨by decide +kernel, rfl⟩
theorem dX12_piece_76 : dec cX12_piece 76 1 77 (.aload_n 0) := ⟨by decide +kernel, rfl⟩
theorem dX12_piece_77 : dec cX12_piece 77 1 78 (.iconst 1) := ⟨by decide +kernel, rfl⟩
theorem dX12_piece_78 : dec cX12_piece 78 3 81 (.invokevirtual 83) := ⟨by decide +kernel, rfl⟩
theorem dX12_piece_81 : dec cX12_piece 81 1 82 (.ireturn) := ⟨by decide +kernel, rfl⟩
theorem dX12_piece_82 : dec cX12_piece 82 1 83 (.aload_n 0) := ⟨by decide +kernel, rfl⟩
theorem dX12_piece_83 : dec cX12_piece 83 3 86 (.getfield 7) := ⟨by decide +kernel, rfl⟩
theorem dX12_piece_86 : dec cX12_piece 86 1 87 (.iconst 0) := ⟨by decide +kernel, rfl⟩
theorem dX12_piece_87 : dec cX12_piece 87 1 88 (.iaload) := ⟨by decide +kernel, rfl⟩
theorem dX12_piece_88 : dec cX12_piece 88 2 90 (.bipush 12) := ⟨by decide +kernel, rfl⟩
theorem dX12_piece_90 : dec cX12_piece 90 3 93 (.if_icmp .ne 9) := ⟨by decide +kernel, rfl⟩
theorem dX12_piece_93 : dec cX12_piece 93 1 94 (.aload_n 0) := ⟨by decide +kernel, rfl⟩
theorem dX12_piece_94 : dec cX12_piece 94 1 95 (.iconst 4) := ⟨by decide +kernel, rfl⟩
theorem dX12_piece_95 : dec cX12_piece 95 3 98 (.invokevirtual 83) := ⟨by decide +kernel, rfl⟩
theorem dX12_piece_98 : dec cX12_piece 98 1 99 (.ireturn) := ⟨by decide +kernel, rfl⟩
theorem dX12_piece_99 : dec cX12_piece 99 2 101 (.bipush 20) := ⟨by decide +kernel, rfl⟩
theorem dX12_piece_101 : dec cX12_piece 101 2 103 (.bipush 6) := ⟨by decide +kernel, rfl⟩
theorem dX12_piece_103 : dec cX12_piece 103 1 104 (.aload_n 0) := ⟨by decide +kernel, rfl⟩
theorem dX12_piece_104 : dec cX12_piece 104 3 107 (.getfield 7) := ⟨by decide +kernel, rfl⟩
theorem dX12_piece_107 : dec cX12_piece 107 1 108 (.iconst 0) := ⟨by decide +kernel, rfl⟩
theorem dX12_piece_108 : dec cX12_piece 108 1 109 (.iaload) := ⟨by decide +kernel, rfl⟩
theorem dX12_piece_109 : dec cX12_piece 109 1 110 (.imul) := ⟨by decide +kernel, rfl⟩
theorem dX12_piece_110 : dec cX12_piece 110 1 111 (.iadd) := ⟨by decide +kernel, rfl⟩
theorem dX12_piece_111 : dec cX12_piece 111 2 113 (.istore 6) := ⟨by decide +kernel, rfl⟩
theorem dX12_piece_113 : dec cX12_piece 113 1 114 (.aload_n 0) := ⟨by decide +kernel, rfl⟩
theorem dX12_piece_114 : dec cX12_piece 114 3 117 (.getfield 7) := ⟨by decide +kernel, rfl⟩
theorem dX12_piece_117 : dec cX12_piece 117 2 119 (.iload 6) := ⟨by decide +kernel, rfl⟩
theorem dX12_piece_119 : dec cX12_piece 119 1 120 (.iconst 0) := ⟨by decide +kernel, rfl⟩
theorem dX12_piece_120 : dec cX12_piece 120 1 121 (.iadd) := ⟨by decide +kernel, rfl⟩
theorem dX12_piece_121 : dec cX12_piece 121 1 122 (.iload_n 1) := ⟨by decide +kernel, rfl⟩
theorem dX12_piece_122 : dec cX12_piece 122 3 125 (.sipush 1000) := ⟨by decide +kernel, rfl⟩
theorem dX12_piece_125 : dec cX12_piece 125 1 126 (.idiv) := ⟨by decide +kernel, rfl⟩
theorem dX12_piece_126 : dec cX12_piece 126 1 127 (.iastore) := ⟨by decide +kernel, rfl⟩
theorem dX12_piece_127 : dec cX12_piece 127 1 128 (.aload_n 0) := ⟨by decide +kernel, rfl⟩
theorem dX12_piece_128 : dec cX12_piece 128 3 131 (.getfield 7) := ⟨by decide +kernel, rfl⟩
theorem dX12_piece_131 : dec cX12_piece 131 2 133 (.iload 6) := ⟨by decide +kernel, rfl⟩
theorem dX12_piece_133 : dec cX12_piece 133 1 134 (.iconst 1) := ⟨by decide +kernel, rfl⟩
theorem dX12_piece_134 : dec cX12_piece 134 1 135 (.iadd) := ⟨by decide +kernel, rfl⟩
theorem dX12_piece_135 : dec cX12_piece 135 1 136 (.iload_n 1) := ⟨by decide +kernel, rfl⟩
theorem dX12_piece_136 : dec cX12_piece 136 3 139 (.sipush 1000) := ⟨by decide +kernel, rfl⟩
theorem dX12_piece_139 : dec cX12_piece 139 1 140 (.irem) := ⟨by decide +kernel, rfl⟩
theorem dX12_piece_140 : dec cX12_piece 140 2 142 (.bipush 10) := ⟨by decide +kernel, rfl⟩
theorem dX12_piece_142 : dec cX12_piece 142 1 143 (.idiv) := ⟨by decide +kernel, rfl⟩
theorem dX12_piece_143 : dec cX12_piece 143 1 144 (.iastore) := ⟨by decide +kernel, rfl⟩
theorem dX12_piece_144 : dec cX12_piece 144 1 145 (.aload_n 0) := ⟨by decide +kernel, rfl⟩
theorem dX12_piece_145 : dec cX12_piece 145 3 148 (.getfield 7) := ⟨by decide +kernel, rfl⟩
theorem dX12_piece_148 : dec cX12_piece 148 2 150 (.iload 6) := ⟨by decide +kernel, rfl⟩
theorem dX12_piece_150 : dec cX12_piece 150 1 151 (.iconst 2) := ⟨by decide +kernel, rfl⟩
theorem dX12_piece_151 : dec cX12_piece 151 1 152 (.iadd) := ⟨by decide +kernel, rfl⟩
theorem dX12_piece_152 : dec cX12_piece 152 1 153 (.iload_n 1) := ⟨by decide +kernel, rfl⟩
theorem dX12_piece_153 : dec cX12_piece 153 2 155 (.bipush 10) := ⟨by decide +kernel, rfl⟩
theorem dX12_piece_155 : dec cX12_piece 155 1 156 (.irem) := ⟨by decide +kernel, rfl⟩
theorem dX12_piece_156 : dec cX12_piece 156 1 157 (.iastore) := ⟨by decide +kernel, rfl⟩
theorem dX12_piece_157 : dec cX12_piece 157 1 158 (.aload_n 0) := ⟨by decide +kernel, rfl⟩
theorem dX12_piece_158 : dec cX12_piece 158 3 161 (.getfield 7) := ⟨by decide +kernel, rfl⟩
theorem dX12_piece_161 : dec cX12_piece 161 2 163 (.iload 6) := ⟨by decide +kernel, rfl⟩
theorem dX12_piece_163 : dec cX12_piece 163 1 164 (.iconst 3) := ⟨by decide +kernel, rfl⟩
theorem dX12_piece_164 : dec cX12_piece 164 1 165 (.iadd) := ⟨by decide +kernel, rfl⟩
theorem dX12_piece_165 : dec cX12_piece 165 1 166 (.iload_n 2) := ⟨by decide +kernel, rfl⟩
theorem dX12_piece_166 : dec cX12_piece 166 1 167 (.iastore) := ⟨by decide +kernel, rfl⟩
theorem dX12_piece_167 : dec cX12_piece 167 1 168 (.aload_n 0) := ⟨by decide +kernel, rfl⟩
theorem dX12_piece_168 : dec cX12_piece 168 3 171 (.getfield 7) := ⟨by decide +kernel, rfl⟩
theorem dX12_piece_171 : dec cX12_piece 171 2 173 (.iload 6) := ⟨by decide +kernel, rfl⟩
theorem dX12_piece_173 : dec cX12_piece 173 1 174 (.iconst 4) := ⟨by decide +kernel, rfl⟩
theorem dX12_piece_174 : dec cX12_piece 174 1 175 (.iadd) := ⟨by decide +kernel, rfl⟩
theorem dX12_piece_175 : dec cX12_piece 175 1 176 (.iload_n 3) := ⟨by decide +kernel, rfl⟩
theorem dX12_piece_176 : dec cX12_piece 176 1 177 (.iastore) := ⟨by decide +kernel, rfl⟩
theorem dX12_piece_177 : dec cX12_piece 177 1 178 (.aload_n 0) := ⟨by decide +kernel, rfl⟩
theorem dX12_piece_178 : dec cX12_piece 178 3 181 (.getfield 7) := ⟨by decide +kernel, rfl⟩
theorem dX12_piece_181 : dec cX12_piece 181 2 183 (.iload 6) := ⟨by decide +kernel, rfl⟩
theorem dX12_piece_183 : dec cX12_piece 183 1 184 (.iconst 5) := ⟨by decide +kernel, rfl⟩
theorem dX12_piece_184 : dec cX12_piece 184 1 185 (.iadd) := ⟨by decide +kernel, rfl⟩
theorem dX12_piece_185 : dec cX12_piece 185 2 187 (.iload 4) := ⟨by decide +kernel, rfl⟩
theorem dX12_piece_187 : dec cX12_piece 187 1 188 (.iastore) := ⟨by decide +kernel, rfl⟩
theorem dX12_piece_188 : dec cX12_piece 188 1 189 (.aload_n 0) := ⟨by decide +kernel, rfl⟩
theorem dX12_piece_189 : dec cX12_piece 189 3 192 (.getfield 7) := ⟨by decide +kernel, rfl⟩
theorem dX12_piece_192 : dec cX12_piece 192 1 193 (.iconst 0) := ⟨by decide +kernel, rfl⟩
theorem dX12_piece_193 : dec cX12_piece 193 1 194 (.dup2) := ⟨by decide +kernel, rfl⟩
theorem dX12_piece_194 : dec cX12_piece 194 1 195 (.iaload) := ⟨by decide +kernel, rfl⟩
theorem dX12_piece_195 : dec cX12_piece 195 1 196 (.iconst 1) := ⟨by decide +kernel, rfl⟩
theorem dX12_piece_196 : dec cX12_piece 196 1 197 (.iadd) := ⟨by decide +kernel, rfl⟩
theorem dX12_piece_197 : dec cX12_piece 197 1 198 (.iastore) := ⟨by decide +kernel, rfl⟩
theorem dX12_piece_198 : dec cX12_piece 198 1 199 (.aload_n 0) := ⟨by decide +kernel, rfl⟩
theorem dX12_piece_199 : dec cX12_piece 199 3 202 (.getfield 7) := ⟨by decide +kernel, rfl⟩
theorem dX12_piece_202 : dec cX12_piece 202 1 203 (.iconst 0) := ⟨by decide +kernel, rfl⟩
theorem dX12_piece_203 : dec cX12_piece 203 1 204 (.iaload) := ⟨by decide +kernel, rfl⟩
theorem dX12_piece_204 : dec cX12_piece 204 1 205 (.iconst 1) := ⟨by decide +kernel, rfl⟩
theorem dX12_piece_205 : dec cX12_piece 205 1 206 (.isub) := ⟨by decide +kernel, rfl⟩
theorem dX12_piece_206 : dec cX12_piece 206 1 207 (.ireturn) := ⟨by decide +kernel, rfl⟩
set_option maxHeartbeats 4000000 in
set_option maxRecDepth 100000 in
theorem tX12_piece_J76 {X : Cx} {Y : Yx} {M0 : Mem} (hC : OKX X Y RX12 cX12_piece 7 (some .int) rmX12_piece) (hF : Y.2.2.2.2 = true) (hL : Lay M0) (Q : Int → Mem → Prop)   (a0 : Nat) (qa0 : 0 < a0 ∧ M0 0 a0 = kO 12)  (M : Mem) (h : wX12_piece_J76 Q  a0 M) : WW X Y 7 rmX12_piece (QI Q) M0 0 0 76 [(0, vR Y.1 a0)] [] M := by
  unfold wX12_piece_J76 at h
  refine r_aload_n hC 0 dX12_piece_76 rfl rfl ?_
  refine r_iconst hC dX12_piece_77 ?_
  refine r_callV (As := [vI 1]) (st := []) hC cw_X12_83 rfl qa0.1 qa0.2 rfl rfl (Nat.le_of_ble_eq_true rfl) ⟨Nat.le_of_ble_eq_true rfl, Nat.le_of_ble_eq_true rfl⟩ ⟨Nat.le_of_ble_eq_true rfl, Nat.le_of_ble_eq_true rfl⟩ dX12_piece_78 (fun hk => mX12_error Y hF _ _ _ _ _ (kqO hk qa0) h) (fun v M_3 h => ?_)
  obtain ⟨r_4, rfl, h⟩ := h
  exact r_iret hC (Nat.zero_le _) (Nat.zero_le _) dX12_piece_81 ⟨_, rfl, h⟩
set_option maxHeartbeats 4000000 in
set_option maxRecDepth 100000 in
theorem tX12_piece_J65 {X : Cx} {Y : Yx} {M0 : Mem} (hC : OKX X Y RX12 cX12_piece 7 (some .int) rmX12_piece) (hF : Y.2.2.2.2 = true) (hL : Lay M0) (Q : Int → Mem → Prop)   (a0 : Nat) (x1 : Int) (x2 : Int) (x3 : Int) (x4 : Int) (xs0 : Int) (qa0 : 0 < a0 ∧ M0 0 a0 = kO 12)  (M : Mem) (h : wX12_piece_J65 Q  a0 x1 x2 x3 x4 xs0 M) : WW X Y 7 rmX12_piece (QI Q) M0 0 0 65 [(0, vR Y.1 a0), (1, vI x1), (2, vI x2), (3, vI x3), (4, vI x4)] [vI xs0] M := by
  unfold wX12_piece_J65 at h
  refine r_istore (lv' := [(5, vI xs0), (0, vR Y.1 a0), (1, vI x1), (2, vI x2), (3, vI x3), (4, vI x4)]) hC dX12_piece_65 (by decide) rfl ?_
  refine r_iload_n hC 2 dX12_piece_67 rfl rfl ?_
  refine r_if_lt hC 76 rfl dX12_piece_68 (by decide) (fun c => ?_) (fun c => ?_)
  · replace h := h.1 c
    refine r_sub [1] rfl ?_
    exact tX12_piece_J76 hC hF hL Q   _ qa0  _ h
  · replace h := h.2 c
    refine r_iload hC 0 dX12_piece_71 rfl ?_
    refine r_if_ne hC 82 rfl dX12_piece_73 (by decide) (fun c => ?_) (fun c => ?_)
    · replace h := h.2 c
      refine r_aload_n hC 1 dX12_piece_82 rfl rfl ?_
      have q_5 : 0 < a0 + 1 ∧ M0 0 (a0 + 1) = kA 0 1522 := lay_f0 hL qa0 fm_12_0
      refine r_getR0 (a' := a0 + 1) hC fg_X12_7 rfl hF fm_12_0 qa0.1 qa0.2 rfl dX12_piece_83 ?_
      refine r_iconst hC dX12_piece_86 ?_
      refine r_iald hC ⟨by decide +kernel, by decide +kernel⟩ q_5.1 q_5.2 (by decide) dX12_piece_87 ?_
      refine r_bipush hC (by decide +kernel) dX12_piece_88 ?_
      refine r_icmp_ne hC 99 rfl bmL_12 dX12_piece_90 (by decide) (fun c => ?_) (fun c => ?_)
      · replace h := h.2 c
        refine r_bipush hC (by decide +kernel) dX12_piece_99 ?_
        refine r_bipush hC (by decide +kernel) dX12_piece_101 ?_
        refine r_aload_n hC 1 dX12_piece_103 rfl rfl ?_
        have q_6 : 0 < a0 + 1 ∧ M0 0 (a0 + 1) = kA 0 1522 := lay_f0 hL qa0 fm_12_0
        refine r_getR0 (a' := a0 + 1) hC fg_X12_7 rfl hF fm_12_0 qa0.1 qa0.2 rfl dX12_piece_104 ?_
        refine r_iconst hC dX12_piece_107 ?_
        refine r_iald hC ⟨by decide +kernel, by decide +kernel⟩ q_6.1 q_6.2 (by decide) dX12_piece_108 ?_
        refine r_imul hC dX12_piece_109 ?_
        refine r_iadd hC dX12_piece_110 ?_
        refine r_nameI h (fun x6_7 h => ?_)
        refine r_istore (lv' := [(6, vI x6_7), (5, vI xs0), (0, vR Y.1 a0), (1, vI x1), (2, vI x2), (3, vI x3), (4, vI x4)]) hC dX12_piece_111 (by decide) rfl ?_
        refine r_aload_n hC 2 dX12_piece_113 rfl rfl ?_
        have q_8 : 0 < a0 + 1 ∧ M0 0 (a0 + 1) = kA 0 1522 := lay_f0 hL qa0 fm_12_0
        refine r_getR0 (a' := a0 + 1) hC fg_X12_7 rfl hF fm_12_0 qa0.1 qa0.2 rfl dX12_piece_114 ?_
        refine r_iload hC 0 dX12_piece_117 rfl ?_
        refine r_iconst hC dX12_piece_119 ?_
        refine r_iadd hC dX12_piece_120 ?_
        refine r_iload_n hC 3 dX12_piece_121 rfl rfl ?_
        refine r_sipush hC (by decide +kernel) dX12_piece_122 ?_
        refine r_idiv hC (by decide +kernel) dX12_piece_125 ?_
        obtain ⟨i_9, h⟩ := h
        refine r_iast hC i_9 q_8.1 q_8.2 (by decide) dX12_piece_126 ?_
        refine r_nameM h (fun M_10 h => ?_)
        refine r_aload_n hC 2 dX12_piece_127 rfl rfl ?_
        have q_11 : 0 < a0 + 1 ∧ M0 0 (a0 + 1) = kA 0 1522 := lay_f0 hL qa0 fm_12_0
        refine r_getR0 (a' := a0 + 1) hC fg_X12_7 rfl hF fm_12_0 qa0.1 qa0.2 rfl dX12_piece_128 ?_
        refine r_iload hC 0 dX12_piece_131 rfl ?_
        refine r_iconst hC dX12_piece_133 ?_
        refine r_iadd hC dX12_piece_134 ?_
        refine r_iload_n hC 3 dX12_piece_135 rfl rfl ?_
        refine r_sipush hC (by decide +kernel) dX12_piece_136 ?_
        refine r_irem hC (by decide +kernel) dX12_piece_139 ?_
        refine r_bipush hC (by decide +kernel) dX12_piece_140 ?_
        refine r_idiv hC (by decide +kernel) dX12_piece_142 ?_
        obtain ⟨i_12, h⟩ := h
        refine r_iast hC i_12 q_11.1 q_11.2 (by decide) dX12_piece_143 ?_
        refine r_nameM h (fun M_13 h => ?_)
        refine r_aload_n hC 2 dX12_piece_144 rfl rfl ?_
        have q_14 : 0 < a0 + 1 ∧ M0 0 (a0 + 1) = kA 0 1522 := lay_f0 hL qa0 fm_12_0
        refine r_getR0 (a' := a0 + 1) hC fg_X12_7 rfl hF fm_12_0 qa0.1 qa0.2 rfl dX12_piece_145 ?_
        refine r_iload hC 0 dX12_piece_148 rfl ?_
        refine r_iconst hC dX12_piece_150 ?_
        refine r_iadd hC dX12_piece_151 ?_
        refine r_iload_n hC 3 dX12_piece_152 rfl rfl ?_
        refine r_bipush hC (by decide +kernel) dX12_piece_153 ?_
        refine r_irem hC (by decide +kernel) dX12_piece_155 ?_
        obtain ⟨i_15, h⟩ := h
        refine r_iast hC i_15 q_14.1 q_14.2 (by decide) dX12_piece_156 ?_
        refine r_nameM h (fun M_16 h => ?_)
        refine r_aload_n hC 2 dX12_piece_157 rfl rfl ?_
        have q_17 : 0 < a0 + 1 ∧ M0 0 (a0 + 1) = kA 0 1522 := lay_f0 hL qa0 fm_12_0
        refine r_getR0 (a' := a0 + 1) hC fg_X12_7 rfl hF fm_12_0 qa0.1 qa0.2 rfl dX12_piece_158 ?_
        refine r_iload hC 0 dX12_piece_161 rfl ?_
        refine r_iconst hC dX12_piece_163 ?_
        refine r_iadd hC dX12_piece_164 ?_
        refine r_iload_n hC 4 dX12_piece_165 rfl rfl ?_
        obtain ⟨i_18, h⟩ := h
        refine r_iast hC i_18 q_17.1 q_17.2 (by decide) dX12_piece_166 ?_
        refine r_nameM h (fun M_19 h => ?_)
        refine r_aload_n hC 2 dX12_piece_167 rfl rfl ?_
        have q_20 : 0 < a0 + 1 ∧ M0 0 (a0 + 1) = kA 0 1522 := lay_f0 hL qa0 fm_12_0
        refine r_getR0 (a' := a0 + 1) hC fg_X12_7 rfl hF fm_12_0 qa0.1 qa0.2 rfl dX12_piece_168 ?_
        refine r_iload hC 0 dX12_piece_171 rfl ?_
        refine r_iconst hC dX12_piece_173 ?_
        refine r_iadd hC dX12_piece_174 ?_
        refine r_iload_n hC 5 dX12_piece_175 rfl rfl ?_
        obtain ⟨i_21, h⟩ := h
        refine r_iast hC i_21 q_20.1 q_20.2 (by decide) dX12_piece_176 ?_
        refine r_nameM h (fun M_22 h => ?_)
        refine r_aload_n hC 2 dX12_piece_177 rfl rfl ?_
        have q_23 : 0 < a0 + 1 ∧ M0 0 (a0 + 1) = kA 0 1522 := lay_f0 hL qa0 fm_12_0
        refine r_getR0 (a' := a0 + 1) hC fg_X12_7 rfl hF fm_12_0 qa0.1 qa0.2 rfl dX12_piece_178 ?_
        refine r_iload hC 0 dX12_piece_181 rfl ?_
        refine r_iconst hC dX12_piece_183 ?_
        refine r_iadd hC dX12_piece_184 ?_
        refine r_iload hC 6 dX12_piece_185 rfl ?_
        obtain ⟨i_24, h⟩ := h
        refine r_iast hC i_24 q_23.1 q_23.2 (by decide) dX12_piece_187 ?_
        refine r_nameM h (fun M_25 h => ?_)
        refine r_aload_n hC 2 dX12_piece_188 rfl rfl ?_
        have q_26 : 0 < a0 + 1 ∧ M0 0 (a0 + 1) = kA 0 1522 := lay_f0 hL qa0 fm_12_0
        refine r_getR0 (a' := a0 + 1) hC fg_X12_7 rfl hF fm_12_0 qa0.1 qa0.2 rfl dX12_piece_189 ?_
        refine r_iconst hC dX12_piece_192 ?_
        refine r_dup2 hC rfl rfl dX12_piece_193 ?_
        refine r_iald hC ⟨by decide +kernel, by decide +kernel⟩ q_26.1 q_26.2 (by decide) dX12_piece_194 ?_
        refine r_iconst hC dX12_piece_195 ?_
        refine r_iadd hC dX12_piece_196 ?_
        refine r_iast hC ⟨by decide +kernel, by decide +kernel⟩ q_26.1 q_26.2 (by decide) dX12_piece_197 ?_
        refine r_nameM h (fun M_27 h => ?_)
        refine r_aload_n hC 2 dX12_piece_198 rfl rfl ?_
        have q_28 : 0 < a0 + 1 ∧ M0 0 (a0 + 1) = kA 0 1522 := lay_f0 hL qa0 fm_12_0
        refine r_getR0 (a' := a0 + 1) hC fg_X12_7 rfl hF fm_12_0 qa0.1 qa0.2 rfl dX12_piece_199 ?_
        refine r_iconst hC dX12_piece_202 ?_
        refine r_iald hC ⟨by decide +kernel, by decide +kernel⟩ q_28.1 q_28.2 (by decide) dX12_piece_203 ?_
        refine r_iconst hC dX12_piece_204 ?_
        refine r_isub hC dX12_piece_205 ?_
        exact r_iret hC (Nat.zero_le _) (Nat.zero_le _) dX12_piece_206 ⟨_, rfl, h⟩
      · replace h := h.1 c
        refine r_aload_n hC 1 dX12_piece_93 rfl rfl ?_
        refine r_iconst hC dX12_piece_94 ?_
        refine r_callV (As := [vI 4]) (st := []) hC cw_X12_83 rfl qa0.1 qa0.2 rfl rfl (Nat.le_of_ble_eq_true rfl) ⟨Nat.le_of_ble_eq_true rfl, Nat.le_of_ble_eq_true rfl⟩ ⟨Nat.le_of_ble_eq_true rfl, Nat.le_of_ble_eq_true rfl⟩ dX12_piece_95 (fun hk => mX12_error Y hF _ _ _ _ _ (kqO hk qa0) h) (fun v M_29 h => ?_)
        obtain ⟨r_30, rfl, h⟩ := h
        exact r_iret hC (Nat.zero_le _) (Nat.zero_le _) dX12_piece_98 ⟨_, rfl, h⟩
    · replace h := h.1 c
      refine r_sub [1] rfl ?_
      exact tX12_piece_J76 hC hF hL Q   _ qa0  _ h
set_option maxHeartbeats 4000000 in
set_option maxRecDepth 100000 in
theorem tX12_piece_J64 {X : Cx} {Y : Yx} {M0 : Mem} (hC : OKX X Y RX12 cX12_piece 7 (some .int) rmX12_piece) (hF : Y.2.2.2.2 = true) (hL : Lay M0) (Q : Int → Mem → Prop)   (a0 : Nat) (x1 : Int) (x2 : Int) (x3 : Int) (x4 : Int) (qa0 : 0 < a0 ∧ M0 0 a0 = kO 12)  (M : Mem) (h : wX12_piece_J64 Q  a0 x1 x2 x3 x4 M) : WW X Y 7 rmX12_piece (QI Q) M0 0 0 64 [(0, vR Y.1 a0), (1, vI x1), (2, vI x2), (3, vI x3), (4, vI x4)] [] M := by
  unfold wX12_piece_J64 at h
  refine r_iconst hC dX12_piece_64 ?_
  refine r_sub [0, 1, 2, 3, 4] rfl ?_
  exact tX12_piece_J65 hC hF hL Q   _ _ _ _ _ _ qa0  _ h
set_option maxHeartbeats 4000000 in
set_option maxRecDepth 100000 in
theorem mX12_piece (Y : Yx) (hF : Y.2.2.2.2 = true) (l : Launch) (a0 : Nat) (x1 : Int) (x2 : Int) (x3 : Int) (x4 : Int) (M0 : Mem) (Q : Int → Mem → Prop) (qa0 : 0 < a0 ∧ M0 0 a0 = kO 12) (h : wX12_piece a0 x1 x2 x3 x4 M0 Q) : CT Y l yX12_piece cX12_piece 7 (some .int) rmX12_piece [vR Y.1 a0, vI x1, vI x2, vI x3, vI x4] M0 (QI Q) := by
  unfold wX12_piece at h
  refine ct_intro (by decide) (Nat.le_of_ble_eq_true rfl) ?_
  intro X hXl hC hL0
  have hL := hL0 hF
  change OKX X Y RX12 cX12_piece 7 (some .int) rmX12_piece at hC
  change WW X Y 7 rmX12_piece (QI Q) M0 0 0 0 [(0, vR Y.1 a0), (1, vI x1), (2, vI x2), (3, vI x3), (4, vI x4)] [] M0
  refine r_iload_n hC 1 dX12_piece_0 rfl rfl ?_
  refine r_sipush hC (by decide +kernel) dX12_piece_1 ?_
  refine r_idiv hC (by decide +kernel) dX12_piece_4 ?_
  refine r_iconst hC dX12_piece_5 ?_
  refine r_bipush hC (by decide +kernel) dX12_piece_6 ?_
  refine r_callS (As := [vI (iDiv x1 1000), vI 1, vI 60]) (st := []) hC cw_X12_79 rfl rfl (Nat.le_of_ble_eq_true rfl) ⟨Nat.le_of_ble_eq_true rfl, Nat.le_of_ble_eq_true rfl⟩ ⟨Nat.le_of_ble_eq_true rfl, Nat.le_of_ble_eq_true rfl⟩ dX12_piece_8 (fun hk => mX12_in Y hF _ _ _ _ _ _  h) (fun v M_1 h => ?_)
  obtain ⟨r_2, rfl, h⟩ := h
  refine r_if_eq hC 64 rfl dX12_piece_11 (by decide) (fun c => ?_) (fun c => ?_)
  · replace h := h.1 c
    refine r_sub [0, 1, 2, 3, 4] rfl ?_
    exact tX12_piece_J64 hC hF hL Q   _ _ _ _ _ qa0  _ h
  · replace h := h.2 c
    refine r_iload_n hC 1 dX12_piece_14 rfl rfl ?_
    refine r_sipush hC (by decide +kernel) dX12_piece_15 ?_
    refine r_irem hC (by decide +kernel) dX12_piece_18 ?_
    refine r_bipush hC (by decide +kernel) dX12_piece_19 ?_
    refine r_idiv hC (by decide +kernel) dX12_piece_21 ?_
    refine r_bipush hC (by decide +kernel) dX12_piece_22 ?_
    refine r_icmp_gt hC 64 rfl bmL_11 dX12_piece_24 (by decide) (fun c => ?_) (fun c => ?_)
    · replace h := h.1 c
      refine r_sub [0, 1, 2, 3, 4] rfl ?_
      exact tX12_piece_J64 hC hF hL Q   _ _ _ _ _ qa0  _ h
    · replace h := h.2 c
      refine r_iload_n hC 2 dX12_piece_27 rfl rfl ?_
      refine r_iconst hC dX12_piece_28 ?_
      refine r_sipush hC (by decide +kernel) dX12_piece_29 ?_
      refine r_callS (As := [vI x2, vI 0, vI 255]) (st := []) hC cw_X12_79 rfl rfl (Nat.le_of_ble_eq_true rfl) ⟨Nat.le_of_ble_eq_true rfl, Nat.le_of_ble_eq_true rfl⟩ ⟨Nat.le_of_ble_eq_true rfl, Nat.le_of_ble_eq_true rfl⟩ dX12_piece_32 (fun hk => mX12_in Y hF _ _ _ _ _ _  h) (fun v M_31 h => ?_)
      obtain ⟨r_32, rfl, h⟩ := h
      refine r_if_eq hC 64 rfl dX12_piece_35 (by decide) (fun c => ?_) (fun c => ?_)
      · replace h := h.1 c
        refine r_sub [0, 1, 2, 3, 4] rfl ?_
        exact tX12_piece_J64 hC hF hL Q   _ _ _ _ _ qa0  _ h
      · replace h := h.2 c
        refine r_iload_n hC 3 dX12_piece_38 rfl rfl ?_
        refine r_iconst hC dX12_piece_39 ?_
        refine r_sipush hC (by decide +kernel) dX12_piece_40 ?_
        refine r_callS (As := [vI x3, vI 0, vI 255]) (st := []) hC cw_X12_79 rfl rfl (Nat.le_of_ble_eq_true rfl) ⟨Nat.le_of_ble_eq_true rfl, Nat.le_of_ble_eq_true rfl⟩ ⟨Nat.le_of_ble_eq_true rfl, Nat.le_of_ble_eq_true rfl⟩ dX12_piece_43 (fun hk => mX12_in Y hF _ _ _ _ _ _  h) (fun v M_33 h => ?_)
        obtain ⟨r_34, rfl, h⟩ := h
        refine r_if_eq hC 64 rfl dX12_piece_46 (by decide) (fun c => ?_) (fun c => ?_)
        · replace h := h.1 c
          refine r_sub [0, 1, 2, 3, 4] rfl ?_
          exact tX12_piece_J64 hC hF hL Q   _ _ _ _ _ qa0  _ h
        · replace h := h.2 c
          refine r_iload hC 4 dX12_piece_49 rfl ?_
          refine r_iconst hC dX12_piece_51 ?_
          refine r_bipush hC (by decide +kernel) dX12_piece_52 ?_
          refine r_callS (As := [vI x4, vI 0, vI 99]) (st := []) hC cw_X12_79 rfl rfl (Nat.le_of_ble_eq_true rfl) ⟨Nat.le_of_ble_eq_true rfl, Nat.le_of_ble_eq_true rfl⟩ ⟨Nat.le_of_ble_eq_true rfl, Nat.le_of_ble_eq_true rfl⟩ dX12_piece_54 (fun hk => mX12_in Y hF _ _ _ _ _ _  h) (fun v M_35 h => ?_)
          obtain ⟨r_36, rfl, h⟩ := h
          refine r_if_eq hC 64 rfl dX12_piece_57 (by decide) (fun c => ?_) (fun c => ?_)
          · replace h := h.1 c
            refine r_sub [0, 1, 2, 3, 4] rfl ?_
            exact tX12_piece_J64 hC hF hL Q   _ _ _ _ _ qa0  _ h
          · replace h := h.2 c
            refine r_iconst hC dX12_piece_60 ?_
            refine r_goto hC 65 dX12_piece_61 (by decide) ?_
            refine r_sub [0, 1, 2, 3, 4] rfl ?_
            exact tX12_piece_J65 hC hF hL Q   _ _ _ _ _ _ qa0  _ h
theorem dX12_pieceIs_0 : dec cX12_pieceIs 0 1 1 (.aload_n 0) := ⟨by decide +kernel, rfl⟩
theorem dX12_pieceIs_1 : dec cX12_pieceIs 1 1 2 (.iload_n 1) := ⟨by decide +kernel, rfl⟩
theorem dX12_pieceIs_2 : dec cX12_pieceIs 2 3 5 (.invokevirtual 87) := ⟨by decide +kernel, rfl⟩
theorem dX12_pieceIs_5 : dec cX12_pieceIs 5 3 8 (.ifCond .eq 21) := ⟨by decide +kernel, rfl⟩
theorem dX12_pieceIs_8 : dec cX12_pieceIs 8 1 9 (.iload_n 2) := ⟨by decide +kernel, rfl⟩
theorem dX12_pieceIs_9 : dec cX12_pieceIs 9 1 10 (.iconst 0) := ⟨by decide +kernel, rfl⟩
theorem dX12_pieceIs_10 : dec cX12_pieceIs 10 1 11 (.iconst 5) := ⟨by decide +kernel, rfl⟩
theorem dX12_pieceIs_11 : dec cX12_pieceIs 11 3 14 (.invokestatic 79) := ⟨by decide +kernel, rfl⟩
theorem dX12_pieceIs_14 : dec cX12_pieceIs 14 3 17 (.ifCond .eq 12) := ⟨by decide +kernel, rfl⟩
theorem dX12_pieceIs_17 : dec cX12_pieceIs 17 1 18 (.aload_n 0) := ⟨by decide +kernel, rfl⟩
theorem dX12_pieceIs_18 : dec cX12_pieceIs 18 1 19 (.iload_n 1) := ⟨by decide +kernel, rfl⟩
theorem dX12_pieceIs_19 : dec cX12_pieceIs 19 1 20 (.iload_n 2) := ⟨by decide +kernel, rfl⟩
theorem dX12_pieceIs_20 : dec cX12_pieceIs 20 3 23 (.invokevirtual 91) := ⟨by decide +kernel, rfl⟩
theorem dX12_pieceIs_23 : dec cX12_pieceIs 23 3 26 (.goto 8) := ⟨by decide +kernel, rfl⟩
theorem dX12_pieceIs_26 : dec cX12_pieceIs 26 1 27 (.aload_n 0) := ⟨by decide +kernel, rfl⟩
theorem dX12_pieceIs_27 : dec cX12_pieceIs 27 1 28 (.iconst 1) := ⟨by decide +kernel, rfl⟩
theorem dX12_pieceIs_28 : dec cX12_pieceIs 28 3 31 (.invokevirtual 83) := ⟨by decide +kernel, rfl⟩
theorem dX12_pieceIs_31 : dec cX12_pieceIs 31 1 32 (.ireturn) := ⟨by decide +kernel, rfl⟩
set_option maxHeartbeats 4000000 in
set_option maxRecDepth 100000 in
theorem tX12_pieceIs_J26 {X : Cx} {Y : Yx} {M0 : Mem} (hC : OKX X Y RX12 cX12_pieceIs 3 (some .int) rmX12_pieceIs) (hF : Y.2.2.2.2 = true) (hL : Lay M0) (Q : Int → Mem → Prop)   (a0 : Nat) (qa0 : 0 < a0 ∧ M0 0 a0 = kO 12)  (M : Mem) (h : wX12_pieceIs_J26 Q  a0 M) : WW X Y 3 rmX12_pieceIs (QI Q) M0 0 0 26 [(0, vR Y.1 a0)] [] M := by
  unfold wX12_pieceIs_J26 at h
  refine r_aload_n hC 0 dX12_pieceIs_26 rfl rfl ?_
  refine r_iconst hC dX12_pieceIs_27 ?_
  refine r_callV (As := [vI 1]) (st := []) hC cw_X12_83 rfl qa0.1 qa0.2 rfl rfl (Nat.le_of_ble_eq_true rfl) ⟨Nat.le_of_ble_eq_true rfl, Nat.le_of_ble_eq_true rfl⟩ ⟨Nat.le_of_ble_eq_true rfl, Nat.le_of_ble_eq_true rfl⟩ dX12_pieceIs_28 (fun hk => mX12_error Y hF _ _ _ _ _ (kqO hk qa0) h) (fun v M_3 h => ?_)
  obtain ⟨r_4, rfl, h⟩ := h
  exact r_iret hC (Nat.zero_le _) (Nat.zero_le _) dX12_pieceIs_31 ⟨_, rfl, h⟩
set_option maxHeartbeats 4000000 in
set_option maxRecDepth 100000 in
theorem mX12_pieceIs (Y : Yx) (hF : Y.2.2.2.2 = true) (l : Launch) (a0 : Nat) (x1 : Int) (x2 : Int) (M0 : Mem) (Q : Int → Mem → Prop) (qa0 : 0 < a0 ∧ M0 0 a0 = kO 12) (h : wX12_pieceIs a0 x1 x2 M0 Q) : CT Y l yX12_pieceIs cX12_pieceIs 3 (some .int) rmX12_pieceIs [vR Y.1 a0, vI x1, vI x2] M0 (QI Q) := by
  unfold wX12_pieceIs at h
  refine ct_intro (by decide) (Nat.le_of_ble_eq_true rfl) ?_
  intro X hXl hC hL0
  have hL := hL0 hF
  change OKX X Y RX12 cX12_pieceIs 3 (some .int) rmX12_pieceIs at hC
  change WW X Y 3 rmX12_pieceIs (QI Q) M0 0 0 0 [(0, vR Y.1 a0), (1, vI x1), (2, vI x2)] [] M0
  refine r_aload_n hC 0 dX12_pieceIs_0 rfl rfl ?_
  refine r_iload_n hC 1 dX12_pieceIs_1 rfl rfl ?_
  refine r_callV (As := [vI x1]) (st := []) hC cw_X12_87 rfl qa0.1 qa0.2 rfl rfl (Nat.le_of_ble_eq_true rfl) ⟨Nat.le_of_ble_eq_true rfl, Nat.le_of_ble_eq_true rfl⟩ ⟨Nat.le_of_ble_eq_true rfl, Nat.le_of_ble_eq_true rfl⟩ dX12_pieceIs_2 (fun hk => mX12_isPiece Y hF _ _ _ _ _ (kqO hk qa0) h) (fun v M_1 h => ?_)
  obtain ⟨r_2, rfl, h⟩ := h
  refine r_if_eq hC 26 rfl dX12_pieceIs_5 (by decide) (fun c => ?_) (fun c => ?_)
  · replace h := h.1 c
    refine r_sub [0] rfl ?_
    exact tX12_pieceIs_J26 hC hF hL Q   _ qa0  _ h
  · replace h := h.2 c
    refine r_iload_n hC 2 dX12_pieceIs_8 rfl rfl ?_
    refine r_iconst hC dX12_pieceIs_9 ?_
    refine r_iconst hC dX12_pieceIs_10 ?_
    refine r_callS (As := [vI x2, vI 0, vI 5]) (st := []) hC cw_X12_79 rfl rfl (Nat.le_of_ble_eq_true rfl) ⟨Nat.le_of_ble_eq_true rfl, Nat.le_of_ble_eq_true rfl⟩ ⟨Nat.le_of_ble_eq_true rfl, Nat.le_of_ble_eq_true rfl⟩ dX12_pieceIs_11 (fun hk => mX12_in Y hF _ _ _ _ _ _  h) (fun v M_5 h => ?_)
    obtain ⟨r_6, rfl, h⟩ := h
    refine r_if_eq hC 26 rfl dX12_pieceIs_14 (by decide) (fun c => ?_) (fun c => ?_)
    · replace h := h.1 c
      refine r_sub [0] rfl ?_
      exact tX12_pieceIs_J26 hC hF hL Q   _ qa0  _ h
    · replace h := h.2 c
      refine r_aload_n hC 0 dX12_pieceIs_17 rfl rfl ?_
      refine r_iload_n hC 1 dX12_pieceIs_18 rfl rfl ?_
      refine r_iload_n hC 2 dX12_pieceIs_19 rfl rfl ?_
      refine r_callV (As := [vI x1, vI x2]) (st := []) hC cw_X12_91 rfl qa0.1 qa0.2 rfl rfl (Nat.le_of_ble_eq_true rfl) ⟨Nat.le_of_ble_eq_true rfl, Nat.le_of_ble_eq_true rfl⟩ ⟨Nat.le_of_ble_eq_true rfl, Nat.le_of_ble_eq_true rfl⟩ dX12_pieceIs_20 (fun hk => mX12_of Y hF _ _ _ _ _ _ (kqO hk qa0) h) (fun v M_7 h => ?_)
      obtain ⟨r_8, rfl, h⟩ := h
      refine r_goto hC 31 dX12_pieceIs_23 (by decide) ?_
      exact r_iret hC (Nat.zero_le _) (Nat.zero_le _) dX12_pieceIs_31 ⟨_, rfl, h⟩
theorem dX12_rule_0 : dec cX12_rule 0 1 1 (.iload_n 1) := ⟨by decide +kernel, rfl⟩
theorem dX12_rule_1 : dec cX12_rule 1 1 2 (.iconst 2) := ⟨by decide +kernel, rfl⟩
theorem dX12_rule_2 : dec cX12_rule 2 3 5 (.if_icmp .ne 8) := ⟨by decide +kernel, rfl⟩
theorem dX12_rule_5 : dec cX12_rule 5 2 7 (.bipush 60) := ⟨by decide +kernel, rfl⟩
theorem dX12_rule_7 : dec cX12_rule 7 3 10 (.goto 16) := ⟨by decide +kernel, rfl⟩
theorem dX12_rule_10 : dec cX12_rule 10 1 11 (.iload_n 1) := ⟨by decide +kernel, rfl⟩
theorem dX12_rule_11 : dec cX12_rule 11 1 12 (.iconst 3) := ⟨by decide +kernel, rfl⟩
theorem dX12_rule_12 : dec cX12_rule 12 3 15 (.if_icmp .ne 9) := ⟨by decide +kernel, rfl⟩
theorem dX12_rule_15 : dec cX12_rule 15 3 18 (.sipush 999) := ⟨by decide +kernel, rfl⟩
theorem dX12_rule_18 : dec cX12_rule 18 3 21 (.goto 5) := ⟨by decide +kernel, rfl⟩
theorem dX12_rule_21 : dec cX12_rule 21 2 23 (.bipush 9) := ⟨by decide +kernel, rfl⟩
theorem dX12_rule_23 : dec cX12_rule 23 1 24 (.istore_n 3) := ⟨by decide +kernel, rfl⟩
theorem dX12_rule_24 : dec cX12_rule 24 1 25 (.iload_n 1) := ⟨by decide +kernel, rfl⟩
theorem dX12_rule_25 : dec cX12_rule 25 1 26 (.iconst 0) := ⟨by decide +kernel, rfl⟩
theorem dX12_rule_26 : dec cX12_rule 26 1 27 (.iconst 3) := ⟨by decide +kernel, rfl⟩
theorem dX12_rule_27 : dec cX12_rule 27 3 30 (.invokestatic 79) := ⟨by decide +kernel, rfl⟩
theorem dX12_rule_30 : dec cX12_rule 30 3 33 (.ifCond .eq 24) := ⟨by decide +kernel, rfl⟩
theorem dX12_rule_33 : dec cX12_rule 33 1 34 (.iload_n 2) := ⟨by decide +kernel, rfl⟩
theorem dX12_rule_34 : dec cX12_rule 34 1 35 (.iconst 0) := ⟨by decide +kernel, rfl⟩
theorem dX12_rule_35 : dec cX12_rule 35 1 36 (.iload_n 3) := ⟨by decide +kernel, rfl⟩
theorem dX12_rule_36 : dec cX12_rule 36 3 39 (.invokestatic 79) := ⟨by decide +kernel, rfl⟩
theorem dX12_rule_39 : dec cX12_rule 39 3 42 (.ifCond .eq 15) := ⟨by decide +kernel, rfl⟩
theorem dX12_rule_42 : dec cX12_rule 42 1 43 (.aload_n 0) := ⟨by decide +kernel, rfl⟩
theorem dX12_rule_43 : dec cX12_rule 43 2 45 (.bipush 6) := ⟨by decide +kernel, rfl⟩
theorem dX12_rule_45 : dec cX12_rule 45 1 46 (.iload_n 1) := ⟨by decide +kernel, rfl⟩
theorem dX12_rule_46 : dec cX12_rule 46 1 47 (.iadd) := ⟨by decide +kernel, rfl⟩
theorem dX12_rule_47 : dec cX12_rule 47 1 48 (.iload_n 2) := ⟨by decide +kernel, rfl⟩
theorem dX12_rule_48 : dec cX12_rule 48 3 51 (.invokevirtual 95) := ⟨by decide +kernel, rfl⟩
theorem dX12_rule_51 : dec cX12_rule 51 3 54 (.goto 8) := ⟨by decide +kernel, rfl⟩
theorem dX12_rule_54 : dec cX12_rule 54 1 55 (.aload_n 0) := ⟨by decide +kernel, rfl⟩
theorem dX12_rule_55 : dec cX12_rule 55 1 56 (.iconst 1) := ⟨by decide +kernel, rfl⟩
theorem dX12_rule_56 : dec cX12_rule 56 3 59 (.invokevirtual 83) := ⟨by decide +kernel, rfl⟩
theorem dX12_rule_59 : dec cX12_rule 59 1 60 (.ireturn) := ⟨by decide +kernel, rfl⟩
set_option maxHeartbeats 4000000 in
set_option maxRecDepth 100000 in
theorem tX12_rule_J54 {X : Cx} {Y : Yx} {M0 : Mem} (hC : OKX X Y RX12 cX12_rule 4 (some .int) rmX12_rule) (hF : Y.2.2.2.2 = true) (hL : Lay M0) (Q : Int → Mem → Prop)   (a0 : Nat) (qa0 : 0 < a0 ∧ M0 0 a0 = kO 12)  (M : Mem) (h : wX12_rule_J54 Q  a0 M) : WW X Y 4 rmX12_rule (QI Q) M0 0 0 54 [(0, vR Y.1 a0)] [] M := by
  unfold wX12_rule_J54 at h
  refine r_aload_n hC 0 dX12_rule_54 rfl rfl ?_
  refine r_iconst hC dX12_rule_55 ?_
  refine r_callV (As := [vI 1]) (st := []) hC cw_X12_83 rfl qa0.1 qa0.2 rfl rfl (Nat.le_of_ble_eq_true rfl) ⟨Nat.le_of_ble_eq_true rfl, Nat.le_of_ble_eq_true rfl⟩ ⟨Nat.le_of_ble_eq_true rfl, Nat.le_of_ble_eq_true rfl⟩ dX12_rule_56 (fun hk => mX12_error Y hF _ _ _ _ _ (kqO hk qa0) h) (fun v M_3 h => ?_)
  obtain ⟨r_4, rfl, h⟩ := h
  exact r_iret hC (Nat.zero_le _) (Nat.zero_le _) dX12_rule_59 ⟨_, rfl, h⟩
set_option maxHeartbeats 4000000 in
set_option maxRecDepth 100000 in
theorem tX12_rule_J23 {X : Cx} {Y : Yx} {M0 : Mem} (hC : OKX X Y RX12 cX12_rule 4 (some .int) rmX12_rule) (hF : Y.2.2.2.2 = true) (hL : Lay M0) (Q : Int → Mem → Prop)   (a0 : Nat) (x1 : Int) (x2 : Int) (xs0 : Int) (qa0 : 0 < a0 ∧ M0 0 a0 = kO 12)  (M : Mem) (h : wX12_rule_J23 Q  a0 x1 x2 xs0 M) : WW X Y 4 rmX12_rule (QI Q) M0 0 0 23 [(0, vR Y.1 a0), (1, vI x1), (2, vI x2)] [vI xs0] M := by
  unfold wX12_rule_J23 at h
  refine r_istore_n (lv' := [(3, vI xs0), (0, vR Y.1 a0), (1, vI x1), (2, vI x2)]) hC dX12_rule_23 rfl (by decide) rfl ?_
  refine r_iload_n hC 2 dX12_rule_24 rfl rfl ?_
  refine r_iconst hC dX12_rule_25 ?_
  refine r_iconst hC dX12_rule_26 ?_
  refine r_callS (As := [vI x1, vI 0, vI 3]) (st := []) hC cw_X12_79 rfl rfl (Nat.le_of_ble_eq_true rfl) ⟨Nat.le_of_ble_eq_true rfl, Nat.le_of_ble_eq_true rfl⟩ ⟨Nat.le_of_ble_eq_true rfl, Nat.le_of_ble_eq_true rfl⟩ dX12_rule_27 (fun hk => mX12_in Y hF _ _ _ _ _ _  h) (fun v M_1 h => ?_)
  obtain ⟨r_2, rfl, h⟩ := h
  refine r_if_eq hC 54 rfl dX12_rule_30 (by decide) (fun c => ?_) (fun c => ?_)
  · replace h := h.1 c
    refine r_sub [1] rfl ?_
    exact tX12_rule_J54 hC hF hL Q   _ qa0  _ h
  · replace h := h.2 c
    refine r_iload_n hC 3 dX12_rule_33 rfl rfl ?_
    refine r_iconst hC dX12_rule_34 ?_
    refine r_iload_n hC 0 dX12_rule_35 rfl rfl ?_
    refine r_callS (As := [vI x2, vI 0, vI xs0]) (st := []) hC cw_X12_79 rfl rfl (Nat.le_of_ble_eq_true rfl) ⟨Nat.le_of_ble_eq_true rfl, Nat.le_of_ble_eq_true rfl⟩ ⟨Nat.le_of_ble_eq_true rfl, Nat.le_of_ble_eq_true rfl⟩ dX12_rule_36 (fun hk => mX12_in Y hF _ _ _ _ _ _  h) (fun v M_5 h => ?_)
    obtain ⟨r_6, rfl, h⟩ := h
    refine r_if_eq hC 54 rfl dX12_rule_39 (by decide) (fun c => ?_) (fun c => ?_)
    · replace h := h.1 c
      refine r_sub [1] rfl ?_
      exact tX12_rule_J54 hC hF hL Q   _ qa0  _ h
    · replace h := h.2 c
      refine r_aload_n hC 1 dX12_rule_42 rfl rfl ?_
      refine r_bipush hC (by decide +kernel) dX12_rule_43 ?_
      refine r_iload_n hC 2 dX12_rule_45 rfl rfl ?_
      refine r_iadd hC dX12_rule_46 ?_
      refine r_iload_n hC 3 dX12_rule_47 rfl rfl ?_
      refine r_callV (As := [vI (6 + x1), vI x2]) (st := []) hC cw_X12_95 rfl qa0.1 qa0.2 rfl rfl (Nat.le_of_ble_eq_true rfl) ⟨Nat.le_of_ble_eq_true rfl, Nat.le_of_ble_eq_true rfl⟩ ⟨Nat.le_of_ble_eq_true rfl, Nat.le_of_ble_eq_true rfl⟩ dX12_rule_48 (fun hk => mX12_become Y hF _ _ _ _ _ _ (kqO hk qa0) h) (fun v M_7 h => ?_)
      obtain ⟨r_8, rfl, h⟩ := h
      refine r_goto hC 59 dX12_rule_51 (by decide) ?_
      exact r_iret hC (Nat.zero_le _) (Nat.zero_le _) dX12_rule_59 ⟨_, rfl, h⟩
set_option maxHeartbeats 4000000 in
set_option maxRecDepth 100000 in
theorem mX12_rule (Y : Yx) (hF : Y.2.2.2.2 = true) (l : Launch) (a0 : Nat) (x1 : Int) (x2 : Int) (M0 : Mem) (Q : Int → Mem → Prop) (qa0 : 0 < a0 ∧ M0 0 a0 = kO 12) (h : wX12_rule a0 x1 x2 M0 Q) : CT Y l yX12_rule cX12_rule 4 (some .int) rmX12_rule [vR Y.1 a0, vI x1, vI x2] M0 (QI Q) := by
  unfold wX12_rule at h
  refine ct_intro (by decide) (Nat.le_of_ble_eq_true rfl) ?_
  intro X hXl hC hL0
  have hL := hL0 hF
  change OKX X Y RX12 cX12_rule 4 (some .int) rmX12_rule at hC
  change WW X Y 4 rmX12_rule (QI Q) M0 0 0 0 [(0, vR Y.1 a0), (1, vI x1), (2, vI x2)] [] M0
  refine r_iload_n hC 1 dX12_rule_0 rfl rfl ?_
  refine r_iconst hC dX12_rule_1 ?_
  refine r_icmp_ne hC 10 rfl bmL_2 dX12_rule_2 (by decide) (fun c => ?_) (fun c => ?_)
  · replace h := h.2 c
    refine r_iload_n hC 1 dX12_rule_10 rfl rfl ?_
    refine r_iconst hC dX12_rule_11 ?_
    refine r_icmp_ne hC 21 rfl bmL_3 dX12_rule_12 (by decide) (fun c => ?_) (fun c => ?_)
    · replace h := h.2 c
      refine r_bipush hC (by decide +kernel) dX12_rule_21 ?_
      refine r_sub [0, 1, 2] rfl ?_
      exact tX12_rule_J23 hC hF hL Q   _ _ _ _ qa0  _ h
    · replace h := h.1 c
      refine r_sipush hC (by decide +kernel) dX12_rule_15 ?_
      refine r_goto hC 23 dX12_rule_18 (by decide) ?_
      refine r_sub [0, 1, 2] rfl ?_
      exact tX12_rule_J23 hC hF hL Q   _ _ _ _ qa0  _ h
  · replace h := h.1 c
    refine r_bipush hC (by decide +kernel) dX12_rule_5 ?_
    refine r_goto hC 23 dX12_rule_7 (by decide) ?_
    refine r_sub [0, 1, 2] rfl ?_
    exact tX12_rule_J23 hC hF hL Q   _ _ _ _ qa0  _ h
theorem dX12_liking_0 : dec cX12_liking 0 1 1 (.iload_n 1) := ⟨by decide +kernel, rfl⟩
theorem dX12_liking_1 : dec cX12_liking 1 1 2 (.iconst 0) := ⟨by decide +kernel, rfl⟩
theorem dX12_liking_2 : dec cX12_liking 2 2 4 (.bipush 6) := ⟨by decide +kernel, rfl⟩
theorem dX12_liking_4 : dec cX12_liking 4 3 7 (.invokestatic 79) := ⟨by decide +kernel, rfl⟩
theorem dX12_liking_7 : dec cX12_liking 7 3 10 (.ifCond .eq 24) := ⟨by decide +kernel, rfl⟩
theorem dX12_liking_10 : dec cX12_liking 10 1 11 (.iload_n 2) := ⟨by decide +kernel, rfl⟩
theorem dX12_liking_11 : dec cX12_liking 11 2 13 (.bipush (-9)) := ⟨by decide +kernel, rfl⟩
theorem dX12_liking_13 : dec cX12_liking 13 2 15 (.bipush 9) := ⟨by decide +kernel, rfl⟩
theorem dX12_liking_15 : dec cX12_liking 15 3 18 (.invokestatic 79) := ⟨by decide +kernel, rfl⟩
theorem dX12_liking_18 : dec cX12_liking 18 3 21 (.ifCond .eq 13) := ⟨by decide +kernel, rfl⟩
theorem dX12_liking_21 : dec cX12_liking 21 1 22 (.iload_n 3) := ⟨by decide +kernel, rfl⟩
theorem dX12_liking_22 : dec cX12_liking 22 1 23 (.iconst 1) := ⟨by decide +kernel, rfl⟩
theorem dX12_liking_23 : dec cX12_liking 23 2 25 (.bipush 9) := ⟨by decide +kernel, rfl⟩
theorem dX12_liking_25 : dec cX12_liking 25 3 28 (.invokestatic 79) := ⟨by decide +kernel, rfl⟩
theorem dX12_liking_28 : dec cX12_liking 28 3 31 (.ifCond .ne 9) := ⟨by decide +kernel, rfl⟩
theorem dX12_liking_31 : dec cX12_liking 31 1 32 (.aload_n 0) := ⟨by decide +kernel, rfl⟩
theorem dX12_liking_32 : dec cX12_liking 32 1 33 (.iconst 1) := ⟨by decide +kernel, rfl⟩
theorem dX12_liking_33 : dec cX12_liking 33 3 36 (.invokevirtual 83) := ⟨by decide +kernel, rfl⟩
theorem dX12_liking_36 : dec cX12_liking 36 1 37 (.ireturn) := ⟨by decide +kernel, rfl⟩
theorem dX12_liking_37 : dec cX12_liking 37 1 38 (.aload_n 0) := ⟨by decide +kernel, rfl⟩
theorem dX12_liking_38 : dec cX12_liking 38 3 41 (.getfield 7) := ⟨by decide +kernel, rfl⟩
theorem dX12_liking_41 : dec cX12_liking 41 1 42 (.iconst 1) := ⟨by decide +kernel, rfl⟩
theorem dX12_liking_42 : dec cX12_liking 42 1 43 (.iaload) := ⟨by decide +kernel, rfl⟩
theorem dX12_liking_43 : dec cX12_liking 43 2 45 (.bipush 10) := ⟨by decide +kernel, rfl⟩
theorem dX12_liking_45 : dec cX12_liking 45 3 48 (.if_icmp .ne 9) := ⟨by decide +kernel, rfl⟩
theorem dX12_liking_48 : dec cX12_liking 48 1 49 (.aload_n 0) := ⟨by decide +kernel, rfl⟩
theorem dX12_liking_49 : dec cX12_liking 49 1 50 (.iconst 4) := ⟨by decide +kernel, rfl⟩
theorem dX12_liking_50 : dec cX12_liking 50 3 53 (.invokevirtual 83) := ⟨by decide +kernel, rfl⟩
theorem dX12_liking_53 : dec cX12_liking 53 1 54 (.ireturn) := ⟨by decide +kernel, rfl⟩
theorem dX12_liking_54 : dec cX12_liking 54 2 56 (.bipush 100) := ⟨by decide +kernel, rfl⟩
theorem dX12_liking_56 : dec cX12_liking 56 1 57 (.iconst 4) := ⟨by decide +kernel, rfl⟩
theorem dX12_liking_57 : dec cX12_liking 57 1 58 (.aload_n 0) := ⟨by decide +kernel, rfl⟩
theorem dX12_liking_58 : dec cX12_liking 58 3 61 (.getfield 7) := ⟨by decide +kernel, rfl⟩
theorem dX12_liking_61 : dec cX12_liking 61 1 62 (.iconst 1) := ⟨by decide +kernel, rfl⟩
theorem dX12_liking_62 : dec cX12_liking 62 1 63 (.iaload) := ⟨by decide +kernel, rfl⟩
theorem dX12_liking_63 : dec cX12_liking 63 1 64 (.imul) := ⟨by decide +kernel, rfl⟩
theorem dX12_liking_64 : dec cX12_liking 64 1 65 (.iadd) := ⟨by decide +kernel, rfl⟩
theorem dX12_liking_65 : dec cX12_liking 65 2 67 (.istore 4) := ⟨by decide +kernel, rfl⟩
theorem dX12_liking_67 : dec cX12_liking 67 1 68 (.aload_n 0) := ⟨by decide +kernel, rfl⟩
theorem dX12_liking_68 : dec cX12_liking 68 3 71 (.getfield 7) := ⟨by decide +kernel, rfl⟩
theorem dX12_liking_71 : dec cX12_liking 71 2 73 (.iload 4) := ⟨by decide +kernel, rfl⟩
theorem dX12_liking_73 : dec cX12_liking 73 1 74 (.iconst 0) := ⟨by decide +kernel, rfl⟩
theorem dX12_liking_74 : dec cX12_liking 74 1 75 (.iadd) := ⟨by decide +kernel, rfl⟩
theorem dX12_liking_75 : dec cX12_liking 75 1 76 (.iload_n 1) := ⟨by decide +kernel, rfl⟩
theorem dX12_liking_76 : dec cX12_liking 76 1 77 (.iastore) := ⟨by decide +kernel, rfl⟩
theorem dX12_liking_77 : dec cX12_liking 77 1 78 (.aload_n 0) := ⟨by decide +kernel, rfl⟩
theorem dX12_liking_78 : dec cX12_liking 78 3 81 (.getfield 7) := ⟨by decide +kernel, rfl⟩
theorem dX12_liking_81 : dec cX12_liking 81 2 83 (.iload 4) := ⟨by decide +kernel, rfl⟩
theorem dX12_liking_83 : dec cX12_liking 83 1 84 (.iconst 1) := ⟨by decide +kernel, rfl⟩
theorem dX12_liking_84 : dec cX12_liking 84 1 85 (.iadd) := ⟨by decide +kernel, rfl⟩
theorem dX12_liking_85 : dec cX12_liking 85 1 86 (.iload_n 2) := ⟨by decide +kernel, rfl⟩
theorem dX12_liking_86 : dec cX12_liking 86 1 87 (.iastore) := ⟨by decide +kernel, rfl⟩
theorem dX12_liking_87 : dec cX12_liking 87 1 88 (.aload_n 0) := ⟨by decide +kernel, rfl⟩
theorem dX12_liking_88 : dec cX12_liking 88 3 91 (.getfield 7) := ⟨by decide +kernel, rfl⟩
theorem dX12_liking_91 : dec cX12_liking 91 2 93 (.iload 4) := ⟨by decide +kernel, rfl⟩
theorem dX12_liking_93 : dec cX12_liking 93 1 94 (.iconst 2) := ⟨by decide +kernel, rfl⟩
theorem dX12_liking_94 : dec cX12_liking 94 1 95 (.iadd) := ⟨by decide +kernel, rfl⟩
theorem dX12_liking_95 : dec cX12_liking 95 1 96 (.iload_n 3) := ⟨by decide +kernel, rfl⟩
theorem dX12_liking_96 : dec cX12_liking 96 1 97 (.iastore) := ⟨by decide +kernel, rfl⟩
theorem dX12_liking_97 : dec cX12_liking 97 1 98 (.aload_n 0) := ⟨by decide +kernel, rfl⟩
theorem dX12_liking_98 : dec cX12_liking 98 3 101 (.getfield 7) := ⟨by decide +kernel, rfl⟩
theorem dX12_liking_101 : dec cX12_liking 101 2 103 (.iload 4) := ⟨by decide +kernel, rfl⟩
theorem dX12_liking_103 : dec cX12_liking 103 1 104 (.iconst 3) := ⟨by decide +kernel, rfl⟩
theorem dX12_liking_104 : dec cX12_liking 104 1 105 (.iadd) := ⟨by decide +kernel, rfl⟩
theorem dX12_liking_105 : dec cX12_liking 105 1 106 (.iconst 1) := ⟨by decide +kernel, rfl⟩
theorem dX12_liking_106 : dec cX12_liking 106 1 107 (.iastore) := ⟨by decide +kernel, rfl⟩
theorem dX12_liking_107 : dec cX12_liking 107 1 108 (.aload_n 0) := ⟨by decide +kernel, rfl⟩
theorem dX12_liking_108 : dec cX12_liking 108 3 111 (.getfield 7) := ⟨by decide +kernel, rfl⟩
theorem dX12_liking_111 : dec cX12_liking 111 3 114 (.sipush 150) := ⟨by decide +kernel, rfl⟩
theorem dX12_liking_114 : dec cX12_liking 114 2 116 (.bipush 105) := ⟨by decide +kernel, rfl⟩
theorem dX12_liking_116 : dec cX12_liking 116 1 117 (.aload_n 0) := ⟨by decide +kernel, rfl⟩
theorem dX12_liking_117 : dec cX12_liking 117 3 120 (.getfield 7) := ⟨by decide +kernel, rfl⟩
theorem dX12_liking_120 : dec cX12_liking 120 1 121 (.iconst 1) := ⟨by decide +kernel, rfl⟩
theorem dX12_liking_121 : dec cX12_liking 121 1 122 (.iaload) := ⟨by decide +kernel, rfl⟩
theorem dX12_liking_122 : dec cX12_liking 122 1 123 (.imul) := ⟨by decide +kernel, rfl⟩
theorem dX12_liking_123 : dec cX12_liking 123 1 124 (.iadd) := ⟨by decide +kernel, rfl⟩
theorem dX12_liking_124 : dec cX12_liking 124 1 125 (.iconst 0) := ⟨by decide +kernel, rfl⟩
theorem dX12_liking_125 : dec cX12_liking 125 1 126 (.iastore) := ⟨by decide +kernel, rfl⟩
theorem dX12_liking_126 : dec cX12_liking 126 1 127 (.aload_n 0) := ⟨by decide +kernel, rfl⟩
theorem dX12_liking_127 : dec cX12_liking 127 3 130 (.getfield 7) := ⟨by decide +kernel, rfl⟩
theorem dX12_liking_130 : dec cX12_liking 130 1 131 (.iconst 1) := ⟨by decide +kernel, rfl⟩
theorem dX12_liking_131 : dec cX12_liking 131 1 132 (.dup2) := ⟨by decide +kernel, rfl⟩
theorem dX12_liking_132 : dec cX12_liking 132 1 133 (.iaload) := ⟨by decide +kernel, rfl⟩
theorem dX12_liking_133 : dec cX12_liking 133 1 134 (.iconst 1) := ⟨by decide +kernel, rfl⟩
theorem dX12_liking_134 : dec cX12_liking 134 1 135 (.iadd) := ⟨by decide +kernel, rfl⟩
theorem dX12_liking_135 : dec cX12_liking 135 1 136 (.iastore) := ⟨by decide +kernel, rfl⟩
theorem dX12_liking_136 : dec cX12_liking 136 1 137 (.aload_n 0) := ⟨by decide +kernel, rfl⟩
theorem dX12_liking_137 : dec cX12_liking 137 3 140 (.getfield 7) := ⟨by decide +kernel, rfl⟩
theorem dX12_liking_140 : dec cX12_liking 140 1 141 (.iconst 1) := ⟨by decide +kernel, rfl⟩
theorem dX12_liking_141 : dec cX12_liking 141 1 142 (.iaload) := ⟨by decide +kernel, rfl⟩
theorem dX12_liking_142 : dec cX12_liking 142 1 143 (.iconst 1) := ⟨by decide +kernel, rfl⟩
theorem dX12_liking_143 : dec cX12_liking 143 1 144 (.isub) := ⟨by decide +kernel, rfl⟩
theorem dX12_liking_144 : dec cX12_liking 144 1 145 (.ireturn) := ⟨by decide +kernel, rfl⟩
set_option maxHeartbeats 4000000 in
set_option maxRecDepth 100000 in
theorem tX12_liking_J31 {X : Cx} {Y : Yx} {M0 : Mem} (hC : OKX X Y RX12 cX12_liking 5 (some .int) rmX12_liking) (hF : Y.2.2.2.2 = true) (hL : Lay M0) (Q : Int → Mem → Prop)   (a0 : Nat) (qa0 : 0 < a0 ∧ M0 0 a0 = kO 12)  (M : Mem) (h : wX12_liking_J31 Q  a0 M) : WW X Y 5 rmX12_liking (QI Q) M0 0 0 31 [(0, vR Y.1 a0)] [] M := by
  unfold wX12_liking_J31 at h
  refine r_aload_n hC 0 dX12_liking_31 rfl rfl ?_
  refine r_iconst hC dX12_liking_32 ?_
  refine r_callV (As := [vI 1]) (st := []) hC cw_X12_83 rfl qa0.1 qa0.2 rfl rfl (Nat.le_of_ble_eq_true rfl) ⟨Nat.le_of_ble_eq_true rfl, Nat.le_of_ble_eq_true rfl⟩ ⟨Nat.le_of_ble_eq_true rfl, Nat.le_of_ble_eq_true rfl⟩ dX12_liking_33 (fun hk => mX12_error Y hF _ _ _ _ _ (kqO hk qa0) h) (fun v M_3 h => ?_)
  obtain ⟨r_4, rfl, h⟩ := h
  exact r_iret hC (Nat.zero_le _) (Nat.zero_le _) dX12_liking_36 ⟨_, rfl, h⟩
set_option maxHeartbeats 4000000 in
set_option maxRecDepth 100000 in
theorem mX12_liking (Y : Yx) (hF : Y.2.2.2.2 = true) (l : Launch) (a0 : Nat) (x1 : Int) (x2 : Int) (x3 : Int) (M0 : Mem) (Q : Int → Mem → Prop) (qa0 : 0 < a0 ∧ M0 0 a0 = kO 12) (h : wX12_liking a0 x1 x2 x3 M0 Q) : CT Y l yX12_liking cX12_liking 5 (some .int) rmX12_liking [vR Y.1 a0, vI x1, vI x2, vI x3] M0 (QI Q) := by
  unfold wX12_liking at h
  refine ct_intro (by decide) (Nat.le_of_ble_eq_true rfl) ?_
  intro X hXl hC hL0
  have hL := hL0 hF
  change OKX X Y RX12 cX12_liking 5 (some .int) rmX12_liking at hC
  change WW X Y 5 rmX12_liking (QI Q) M0 0 0 0 [(0, vR Y.1 a0), (1, vI x1), (2, vI x2), (3, vI x3)] [] M0
  refine r_iload_n hC 1 dX12_liking_0 rfl rfl ?_
  refine r_iconst hC dX12_liking_1 ?_
  refine r_bipush hC (by decide +kernel) dX12_liking_2 ?_
  refine r_callS (As := [vI x1, vI 0, vI 6]) (st := []) hC cw_X12_79 rfl rfl (Nat.le_of_ble_eq_true rfl) ⟨Nat.le_of_ble_eq_true rfl, Nat.le_of_ble_eq_true rfl⟩ ⟨Nat.le_of_ble_eq_true rfl, Nat.le_of_ble_eq_true rfl⟩ dX12_liking_4 (fun hk => mX12_in Y hF _ _ _ _ _ _  h) (fun v M_1 h => ?_)
  obtain ⟨r_2, rfl, h⟩ := h
  refine r_if_eq hC 31 rfl dX12_liking_7 (by decide) (fun c => ?_) (fun c => ?_)
  · replace h := h.1 c
    refine r_sub [0] rfl ?_
    exact tX12_liking_J31 hC hF hL Q   _ qa0  _ h
  · replace h := h.2 c
    refine r_iload_n hC 2 dX12_liking_10 rfl rfl ?_
    refine r_bipush hC (by decide +kernel) dX12_liking_11 ?_
    refine r_bipush hC (by decide +kernel) dX12_liking_13 ?_
    refine r_callS (As := [vI x2, vI ((-9)), vI 9]) (st := []) hC cw_X12_79 rfl rfl (Nat.le_of_ble_eq_true rfl) ⟨Nat.le_of_ble_eq_true rfl, Nat.le_of_ble_eq_true rfl⟩ ⟨Nat.le_of_ble_eq_true rfl, Nat.le_of_ble_eq_true rfl⟩ dX12_liking_15 (fun hk => mX12_in Y hF _ _ _ _ _ _  h) (fun v M_5 h => ?_)
    obtain ⟨r_6, rfl, h⟩ := h
    refine r_if_eq hC 31 rfl dX12_liking_18 (by decide) (fun c => ?_) (fun c => ?_)
    · replace h := h.1 c
      refine r_sub [0] rfl ?_
      exact tX12_liking_J31 hC hF hL Q   _ qa0  _ h
    · replace h := h.2 c
      refine r_iload_n hC 3 dX12_liking_21 rfl rfl ?_
      refine r_iconst hC dX12_liking_22 ?_
      refine r_bipush hC (by decide +kernel) dX12_liking_23 ?_
      refine r_callS (As := [vI x3, vI 1, vI 9]) (st := []) hC cw_X12_79 rfl rfl (Nat.le_of_ble_eq_true rfl) ⟨Nat.le_of_ble_eq_true rfl, Nat.le_of_ble_eq_true rfl⟩ ⟨Nat.le_of_ble_eq_true rfl, Nat.le_of_ble_eq_true rfl⟩ dX12_liking_25 (fun hk => mX12_in Y hF _ _ _ _ _ _  h) (fun v M_7 h => ?_)
      obtain ⟨r_8, rfl, h⟩ := h
      refine r_if_ne hC 37 rfl dX12_liking_28 (by decide) (fun c => ?_) (fun c => ?_)
      · replace h := h.2 c
        refine r_aload_n hC 0 dX12_liking_37 rfl rfl ?_
        have q_9 : 0 < a0 + 1 ∧ M0 0 (a0 + 1) = kA 0 1522 := lay_f0 hL qa0 fm_12_0
        refine r_getR0 (a' := a0 + 1) hC fg_X12_7 rfl hF fm_12_0 qa0.1 qa0.2 rfl dX12_liking_38 ?_
        refine r_iconst hC dX12_liking_41 ?_
        refine r_iald hC ⟨by decide +kernel, by decide +kernel⟩ q_9.1 q_9.2 (by decide) dX12_liking_42 ?_
        refine r_bipush hC (by decide +kernel) dX12_liking_43 ?_
        refine r_icmp_ne hC 54 rfl bmL_10 dX12_liking_45 (by decide) (fun c => ?_) (fun c => ?_)
        · replace h := h.2 c
          refine r_bipush hC (by decide +kernel) dX12_liking_54 ?_
          refine r_iconst hC dX12_liking_56 ?_
          refine r_aload_n hC 0 dX12_liking_57 rfl rfl ?_
          have q_10 : 0 < a0 + 1 ∧ M0 0 (a0 + 1) = kA 0 1522 := lay_f0 hL qa0 fm_12_0
          refine r_getR0 (a' := a0 + 1) hC fg_X12_7 rfl hF fm_12_0 qa0.1 qa0.2 rfl dX12_liking_58 ?_
          refine r_iconst hC dX12_liking_61 ?_
          refine r_iald hC ⟨by decide +kernel, by decide +kernel⟩ q_10.1 q_10.2 (by decide) dX12_liking_62 ?_
          refine r_imul hC dX12_liking_63 ?_
          refine r_iadd hC dX12_liking_64 ?_
          refine r_nameI h (fun x4_11 h => ?_)
          refine r_istore (lv' := [(4, vI x4_11), (0, vR Y.1 a0), (1, vI x1), (2, vI x2), (3, vI x3)]) hC dX12_liking_65 (by decide) rfl ?_
          refine r_aload_n hC 1 dX12_liking_67 rfl rfl ?_
          have q_12 : 0 < a0 + 1 ∧ M0 0 (a0 + 1) = kA 0 1522 := lay_f0 hL qa0 fm_12_0
          refine r_getR0 (a' := a0 + 1) hC fg_X12_7 rfl hF fm_12_0 qa0.1 qa0.2 rfl dX12_liking_68 ?_
          refine r_iload hC 0 dX12_liking_71 rfl ?_
          refine r_iconst hC dX12_liking_73 ?_
          refine r_iadd hC dX12_liking_74 ?_
          refine r_iload_n hC 2 dX12_liking_75 rfl rfl ?_
          obtain ⟨i_13, h⟩ := h
          refine r_iast hC i_13 q_12.1 q_12.2 (by decide) dX12_liking_76 ?_
          refine r_nameM h (fun M_14 h => ?_)
          refine r_aload_n hC 1 dX12_liking_77 rfl rfl ?_
          have q_15 : 0 < a0 + 1 ∧ M0 0 (a0 + 1) = kA 0 1522 := lay_f0 hL qa0 fm_12_0
          refine r_getR0 (a' := a0 + 1) hC fg_X12_7 rfl hF fm_12_0 qa0.1 qa0.2 rfl dX12_liking_78 ?_
          refine r_iload hC 0 dX12_liking_81 rfl ?_
          refine r_iconst hC dX12_liking_83 ?_
          refine r_iadd hC dX12_liking_84 ?_
          refine r_iload_n hC 3 dX12_liking_85 rfl rfl ?_
          obtain ⟨i_16, h⟩ := h
          refine r_iast hC i_16 q_15.1 q_15.2 (by decide) dX12_liking_86 ?_
          refine r_nameM h (fun M_17 h => ?_)
          refine r_aload_n hC 1 dX12_liking_87 rfl rfl ?_
          have q_18 : 0 < a0 + 1 ∧ M0 0 (a0 + 1) = kA 0 1522 := lay_f0 hL qa0 fm_12_0
          refine r_getR0 (a' := a0 + 1) hC fg_X12_7 rfl hF fm_12_0 qa0.1 qa0.2 rfl dX12_liking_88 ?_
          refine r_iload hC 0 dX12_liking_91 rfl ?_
          refine r_iconst hC dX12_liking_93 ?_
          refine r_iadd hC dX12_liking_94 ?_
          refine r_iload_n hC 4 dX12_liking_95 rfl rfl ?_
          obtain ⟨i_19, h⟩ := h
          refine r_iast hC i_19 q_18.1 q_18.2 (by decide) dX12_liking_96 ?_
          refine r_nameM h (fun M_20 h => ?_)
          refine r_aload_n hC 1 dX12_liking_97 rfl rfl ?_
          have q_21 : 0 < a0 + 1 ∧ M0 0 (a0 + 1) = kA 0 1522 := lay_f0 hL qa0 fm_12_0
          refine r_getR0 (a' := a0 + 1) hC fg_X12_7 rfl hF fm_12_0 qa0.1 qa0.2 rfl dX12_liking_98 ?_
          refine r_iload hC 0 dX12_liking_101 rfl ?_
          refine r_iconst hC dX12_liking_103 ?_
          refine r_iadd hC dX12_liking_104 ?_
          refine r_iconst hC dX12_liking_105 ?_
          obtain ⟨i_22, h⟩ := h
          refine r_iast hC i_22 q_21.1 q_21.2 (by decide) dX12_liking_106 ?_
          refine r_nameM h (fun M_23 h => ?_)
          refine r_aload_n hC 1 dX12_liking_107 rfl rfl ?_
          have q_24 : 0 < a0 + 1 ∧ M0 0 (a0 + 1) = kA 0 1522 := lay_f0 hL qa0 fm_12_0
          refine r_getR0 (a' := a0 + 1) hC fg_X12_7 rfl hF fm_12_0 qa0.1 qa0.2 rfl dX12_liking_108 ?_
          refine r_sipush hC (by decide +kernel) dX12_liking_111 ?_
          refine r_bipush hC (by decide +kernel) dX12_liking_114 ?_
          refine r_aload_n hC 1 dX12_liking_116 rfl rfl ?_
          have q_25 : 0 < a0 + 1 ∧ M0 0 (a0 + 1) = kA 0 1522 := lay_f0 hL qa0 fm_12_0
          refine r_getR0 (a' := a0 + 1) hC fg_X12_7 rfl hF fm_12_0 qa0.1 qa0.2 rfl dX12_liking_117 ?_
          refine r_iconst hC dX12_liking_120 ?_
          refine r_iald hC ⟨by decide +kernel, by decide +kernel⟩ q_25.1 q_25.2 (by decide) dX12_liking_121 ?_
          refine r_imul hC dX12_liking_122 ?_
          refine r_iadd hC dX12_liking_123 ?_
          refine r_iconst hC dX12_liking_124 ?_
          obtain ⟨i_26, h⟩ := h
          refine r_iast hC i_26 q_24.1 q_24.2 (by decide) dX12_liking_125 ?_
          refine r_nameM h (fun M_27 h => ?_)
          refine r_aload_n hC 1 dX12_liking_126 rfl rfl ?_
          have q_28 : 0 < a0 + 1 ∧ M0 0 (a0 + 1) = kA 0 1522 := lay_f0 hL qa0 fm_12_0
          refine r_getR0 (a' := a0 + 1) hC fg_X12_7 rfl hF fm_12_0 qa0.1 qa0.2 rfl dX12_liking_127 ?_
          refine r_iconst hC dX12_liking_130 ?_
          refine r_dup2 hC rfl rfl dX12_liking_131 ?_
          refine r_iald hC ⟨by decide +kernel, by decide +kernel⟩ q_28.1 q_28.2 (by decide) dX12_liking_132 ?_
          refine r_iconst hC dX12_liking_133 ?_
          refine r_iadd hC dX12_liking_134 ?_
          refine r_iast hC ⟨by decide +kernel, by decide +kernel⟩ q_28.1 q_28.2 (by decide) dX12_liking_135 ?_
          refine r_nameM h (fun M_29 h => ?_)
          refine r_aload_n hC 1 dX12_liking_136 rfl rfl ?_
          have q_30 : 0 < a0 + 1 ∧ M0 0 (a0 + 1) = kA 0 1522 := lay_f0 hL qa0 fm_12_0
          refine r_getR0 (a' := a0 + 1) hC fg_X12_7 rfl hF fm_12_0 qa0.1 qa0.2 rfl dX12_liking_137 ?_
          refine r_iconst hC dX12_liking_140 ?_
          refine r_iald hC ⟨by decide +kernel, by decide +kernel⟩ q_30.1 q_30.2 (by decide) dX12_liking_141 ?_
          refine r_iconst hC dX12_liking_142 ?_
          refine r_isub hC dX12_liking_143 ?_
          exact r_iret hC (Nat.zero_le _) (Nat.zero_le _) dX12_liking_144 ⟨_, rfl, h⟩
        · replace h := h.1 c
          refine r_aload_n hC 0 dX12_liking_48 rfl rfl ?_
          refine r_iconst hC dX12_liking_49 ?_
          refine r_callV (As := [vI 4]) (st := []) hC cw_X12_83 rfl qa0.1 qa0.2 rfl rfl (Nat.le_of_ble_eq_true rfl) ⟨Nat.le_of_ble_eq_true rfl, Nat.le_of_ble_eq_true rfl⟩ ⟨Nat.le_of_ble_eq_true rfl, Nat.le_of_ble_eq_true rfl⟩ dX12_liking_50 (fun hk => mX12_error Y hF _ _ _ _ _ (kqO hk qa0) h) (fun v M_31 h => ?_)
          obtain ⟨r_32, rfl, h⟩ := h
          exact r_iret hC (Nat.zero_le _) (Nat.zero_le _) dX12_liking_53 ⟨_, rfl, h⟩
      · replace h := h.1 c
        refine r_sub [0] rfl ?_
        exact tX12_liking_J31 hC hF hL Q   _ qa0  _ h
theorem dX12_turn_0 : dec cX12_turn 0 1 1 (.aload_n 0) := ⟨by decide +kernel, rfl⟩
theorem dX12_turn_1 : dec cX12_turn 1 1 2 (.iload_n 1) := ⟨by decide +kernel, rfl⟩
theorem dX12_turn_2 : dec cX12_turn 2 3 5 (.invokevirtual 98) := ⟨by decide +kernel, rfl⟩
theorem dX12_turn_5 : dec cX12_turn 5 3 8 (.ifCond .ne 9) := ⟨by decide +kernel, rfl⟩
theorem dX12_turn_8 : dec cX12_turn 8 1 9 (.aload_n 0) := ⟨by decide +kernel, rfl⟩
theorem dX12_turn_9 : dec cX12_turn 9 1 10 (.iconst 1) := ⟨by decide +kernel, rfl⟩
theorem dX12_turn_10 : dec cX12_turn 10 3 13 (.invokevirtual 83) := ⟨by decide +kernel, rfl⟩
theorem dX12_turn_13 : dec cX12_turn 13 1 14 (.ireturn) := ⟨by decide +kernel, rfl⟩
theorem dX12_turn_14 : dec cX12_turn 14 1 15 (.iload_n 2) := ⟨by decide +kernel, rfl⟩
theorem dX12_turn_15 : dec cX12_turn 15 3 18 (.ifCond .eq 7) := ⟨by decide +kernel, rfl⟩
theorem dX12_turn_18 : dec cX12_turn 18 1 19 (.iconst 1) := ⟨by decide +kernel, rfl⟩
theorem dX12_turn_19 : dec cX12_turn 19 3 22 (.goto 4) := ⟨by decide +kernel, rfl⟩
theorem dX12_turn_22 : dec cX12_turn 22 1 23 (.iconst 0) := ⟨by decide +kernel, rfl⟩
theorem dX12_turn_23 : dec cX12_turn 23 1 24 (.istore_n 3) := ⟨by decide +kernel, rfl⟩
theorem dX12_turn_24 : dec cX12_turn 24 1 25 (.aload_n 0) := ⟨by decide +kernel, rfl⟩
theorem dX12_turn_25 : dec cX12_turn 25 2 27 (.bipush 100) := ⟨by decide +kernel, rfl⟩
theorem dX12_turn_27 : dec cX12_turn 27 1 28 (.iconst 4) := ⟨by decide +kernel, rfl⟩
theorem dX12_turn_28 : dec cX12_turn 28 1 29 (.iload_n 1) := ⟨by decide +kernel, rfl⟩
theorem dX12_turn_29 : dec cX12_turn 29 1 30 (.imul) := ⟨by decide +kernel, rfl⟩
theorem dX12_turn_30 : dec cX12_turn 30 1 31 (.iadd) := ⟨by decide +kernel, rfl⟩
theorem dX12_turn_31 : dec cX12_turn 31 1 32 (.iconst 3) := ⟨by decide +kernel, rfl⟩
theorem dX12_turn_32 : dec cX12_turn 32 1 33 (.iadd) := ⟨by decide +kernel, rfl⟩
theorem dX12_turn_33 : dec cX12_turn 33 1 34 (.iload_n 3) := ⟨by decide +kernel, rfl⟩
theorem dX12_turn_34 : dec cX12_turn 34 3 37 (.invokevirtual 95) := ⟨by decide +kernel, rfl⟩
theorem dX12_turn_37 : dec cX12_turn 37 1 38 (.iload_n 3) := ⟨by decide +kernel, rfl⟩
theorem dX12_turn_38 : dec cX12_turn 38 3 41 (.if_icmp .ne 7) := ⟨by decide +kernel, rfl⟩
theorem dX12_turn_41 : dec cX12_turn 41 1 42 (.iconst 0) := ⟨by decide +kernel, rfl⟩
theorem dX12_turn_42 : dec cX12_turn 42 3 45 (.goto 4) := ⟨by decide +kernel, rfl⟩
theorem dX12_turn_45 : dec cX12_turn 45 1 46 (.iconst 1) := ⟨by decide +kernel, rfl⟩
theorem dX12_turn_46 : dec cX12_turn 46 1 47 (.ireturn) := ⟨by decide +kernel, rfl⟩
set_option maxHeartbeats 4000000 in
set_option maxRecDepth 100000 in
theorem tX12_turn_J23 {X : Cx} {Y : Yx} {M0 : Mem} (hC : OKX X Y RX12 cX12_turn 4 (some .int) rmX12_turn) (hF : Y.2.2.2.2 = true) (hL : Lay M0) (Q : Int → Mem → Prop)   (a0 : Nat) (x1 : Int) (xs0 : Int) (qa0 : 0 < a0 ∧ M0 0 a0 = kO 12)  (M : Mem) (h : wX12_turn_J23 Q  a0 x1 xs0 M) : WW X Y 4 rmX12_turn (QI Q) M0 0 0 23 [(0, vR Y.1 a0), (1, vI x1)] [vI xs0] M := by
  unfold wX12_turn_J23 at h
  refine r_istore_n (lv' := [(3, vI xs0), (0, vR Y.1 a0), (1, vI x1)]) hC dX12_turn_23 rfl (by decide) rfl ?_
  refine r_aload_n hC 1 dX12_turn_24 rfl rfl ?_
  refine r_bipush hC (by decide +kernel) dX12_turn_25 ?_
  refine r_iconst hC dX12_turn_27 ?_
  refine r_iload_n hC 2 dX12_turn_28 rfl rfl ?_
  refine r_imul hC dX12_turn_29 ?_
  refine r_iadd hC dX12_turn_30 ?_
  refine r_iconst hC dX12_turn_31 ?_
  refine r_iadd hC dX12_turn_32 ?_
  refine r_iload_n hC 0 dX12_turn_33 rfl rfl ?_
  refine r_callV (As := [vI ((100 + (4 * x1)) + 3), vI xs0]) (st := []) hC cw_X12_95 rfl qa0.1 qa0.2 rfl rfl (Nat.le_of_ble_eq_true rfl) ⟨Nat.le_of_ble_eq_true rfl, Nat.le_of_ble_eq_true rfl⟩ ⟨Nat.le_of_ble_eq_true rfl, Nat.le_of_ble_eq_true rfl⟩ dX12_turn_34 (fun hk => mX12_become Y hF _ _ _ _ _ _ (kqO hk qa0) h) (fun v M_3 h => ?_)
  obtain ⟨r_4, rfl, h⟩ := h
  refine r_iload_n hC 0 dX12_turn_37 rfl rfl ?_
  refine r_icmp_ne hC 45 rfl rfl dX12_turn_38 (by decide) (fun c => ?_) (fun c => ?_)
  · replace h := h.2 c
    refine r_iconst hC dX12_turn_45 ?_
    exact r_iret hC (Nat.zero_le _) (Nat.zero_le _) dX12_turn_46 ⟨_, rfl, h⟩
  · replace h := h.1 c
    refine r_iconst hC dX12_turn_41 ?_
    refine r_goto hC 46 dX12_turn_42 (by decide) ?_
    exact r_iret hC (Nat.zero_le _) (Nat.zero_le _) dX12_turn_46 ⟨_, rfl, h⟩
set_option maxHeartbeats 4000000 in
set_option maxRecDepth 100000 in
theorem mX12_turn (Y : Yx) (hF : Y.2.2.2.2 = true) (l : Launch) (a0 : Nat) (x1 : Int) (x2 : Int) (M0 : Mem) (Q : Int → Mem → Prop) (qa0 : 0 < a0 ∧ M0 0 a0 = kO 12) (h : wX12_turn a0 x1 x2 M0 Q) : CT Y l yX12_turn cX12_turn 4 (some .int) rmX12_turn [vR Y.1 a0, vI x1, vI x2] M0 (QI Q) := by
  unfold wX12_turn at h
  refine ct_intro (by decide) (Nat.le_of_ble_eq_true rfl) ?_
  intro X hXl hC hL0
  have hL := hL0 hF
  change OKX X Y RX12 cX12_turn 4 (some .int) rmX12_turn at hC
  change WW X Y 4 rmX12_turn (QI Q) M0 0 0 0 [(0, vR Y.1 a0), (1, vI x1), (2, vI x2)] [] M0
  refine r_aload_n hC 0 dX12_turn_0 rfl rfl ?_
  refine r_iload_n hC 1 dX12_turn_1 rfl rfl ?_
  refine r_callV (As := [vI x1]) (st := []) hC cw_X12_98 rfl qa0.1 qa0.2 rfl rfl (Nat.le_of_ble_eq_true rfl) ⟨Nat.le_of_ble_eq_true rfl, Nat.le_of_ble_eq_true rfl⟩ ⟨Nat.le_of_ble_eq_true rfl, Nat.le_of_ble_eq_true rfl⟩ dX12_turn_2 (fun hk => mX12_isLiking Y hF _ _ _ _ _ (kqO hk qa0) h) (fun v M_1 h => ?_)
  obtain ⟨r_2, rfl, h⟩ := h
  refine r_if_ne hC 14 rfl dX12_turn_5 (by decide) (fun c => ?_) (fun c => ?_)
  · replace h := h.2 c
    refine r_iload_n hC 2 dX12_turn_14 rfl rfl ?_
    refine r_if_eq hC 22 rfl dX12_turn_15 (by decide) (fun c => ?_) (fun c => ?_)
    · replace h := h.1 c
      refine r_iconst hC dX12_turn_22 ?_
      refine r_sub [0, 1] rfl ?_
      exact tX12_turn_J23 hC hF hL Q   _ _ _ qa0  _ h
    · replace h := h.2 c
      refine r_iconst hC dX12_turn_18 ?_
      refine r_goto hC 23 dX12_turn_19 (by decide) ?_
      refine r_sub [0, 1] rfl ?_
      exact tX12_turn_J23 hC hF hL Q   _ _ _ qa0  _ h
  · replace h := h.1 c
    refine r_aload_n hC 0 dX12_turn_8 rfl rfl ?_
    refine r_iconst hC dX12_turn_9 ?_
    refine r_callV (As := [vI 1]) (st := []) hC cw_X12_83 rfl qa0.1 qa0.2 rfl rfl (Nat.le_of_ble_eq_true rfl) ⟨Nat.le_of_ble_eq_true rfl, Nat.le_of_ble_eq_true rfl⟩ ⟨Nat.le_of_ble_eq_true rfl, Nat.le_of_ble_eq_true rfl⟩ dX12_turn_10 (fun hk => mX12_error Y hF _ _ _ _ _ (kqO hk qa0) h) (fun v M_5 h => ?_)
    obtain ⟨r_6, rfl, h⟩ := h
    exact r_iret hC (Nat.zero_le _) (Nat.zero_le _) dX12_turn_13 ⟨_, rfl, h⟩
