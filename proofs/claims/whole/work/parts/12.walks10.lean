theorem dX10_init_0 : dec cX10_init 0 1 1 (.aload_n 0) := ⟨by decide +kernel, rfl⟩
theorem dX10_init_1 : dec cX10_init 1 3 4 (.invokespecial 3) := ⟨by decide +kernel, rfl⟩
theorem dX10_init_4 : dec cX10_init 4 1 5 (.aload_n 0) := ⟨by decide +kernel, rfl⟩
theorem dX10_init_5 : dec cX10_init 5 2 7 (.bipush 12) := ⟨by decide +kernel, rfl⟩
theorem dX10_init_7 : dec cX10_init 7 2 9 (.newarray .int) := ⟨by decide +kernel, rfl⟩
theorem dX10_init_9 : dec cX10_init 9 3 12 (.putfield 9) := ⟨by decide +kernel, rfl⟩
theorem dX10_init_12 : dec cX10_init 12 1 13 (.aload_n 0) := ⟨by decide +kernel, rfl⟩
theorem dX10_init_13 : dec cX10_init 13 2 15 (.bipush 12) := ⟨by decide +kernel, rfl⟩
theorem dX10_init_15 : dec cX10_init 15 2 17 (.newarray .int) := ⟨by decide +kernel, rfl⟩
theorem dX10_init_17 : dec cX10_init 17 3 20 (.putfield 15) := ⟨by decide +kernel, rfl⟩
theorem dX10_init_20 : dec cX10_init 20 1 21 (.aload_n 0) := ⟨by decide +kernel, rfl⟩
theorem dX10_init_21 : dec cX10_init 21 2 23 (.bipush 13) := ⟨by decide +kernel, rfl⟩
theorem dX10_init_23 : dec cX10_init 23 2 25 (.newarray .int) := ⟨by decide +kernel, rfl⟩
theorem dX10_init_25 : dec cX10_init 25 3 28 (.putfield 18) := ⟨by decide +kernel, rfl⟩
theorem dX10_init_28 : dec cX10_init 28 1 29 (.aload_n 0) := ⟨by decide +kernel, rfl⟩
theorem dX10_init_29 : dec cX10_init 29 2 31 (.bipush 13) := ⟨by decide +kernel, rfl⟩
theorem dX10_init_31 : dec cX10_init 31 2 33 (.newarray .int) := ⟨by decide +kernel, rfl⟩
theorem dX10_init_33 : dec cX10_init 33 3 36 (.putfield 21) := ⟨by decide +kernel, rfl⟩
theorem dX10_init_36 : dec cX10_init 36 1 37 (.aload_n 0) := ⟨by decide +kernel, rfl⟩
theorem dX10_init_37 : dec cX10_init 37 2 39 (.bipush 13) := ⟨by decide +kernel, rfl⟩
theorem dX10_init_39 : dec cX10_init 39 2 41 (.newarray .int) := ⟨by decide +kernel, rfl⟩
theorem dX10_init_41 : dec cX10_init 41 3 44 (.putfield 24) := ⟨by decide +kernel, rfl⟩
theorem dX10_init_44 : dec cX10_init 44 1 45 (.aload_n 0) := ⟨by decide +kernel, rfl⟩
theorem dX10_init_45 : dec cX10_init 45 2 47 (.bipush 13) := ⟨by decide +kernel, rfl⟩
theorem dX10_init_47 : dec cX10_init 47 2 49 (.newarray .int) := ⟨by decide +kernel, rfl⟩
theorem dX10_init_49 : dec cX10_init 49 3 52 (.putfield 27) := ⟨by decide +kernel, rfl⟩
theorem dX10_init_52 : dec cX10_init 52 1 53 (.aload_n 0) := ⟨by decide +kernel, rfl⟩
theorem dX10_init_53 : dec cX10_init 53 2 55 (.bipush 13) := ⟨by decide +kernel, rfl⟩
theorem dX10_init_55 : dec cX10_init 55 2 57 (.newarray .int) := ⟨by decide +kernel, rfl⟩
theorem dX10_init_57 : dec cX10_init 57 3 60 (.putfield 30) := ⟨by decide +kernel, rfl⟩
theorem dX10_init_60 : dec cX10_init 60 1 61 (.aload_n 0) := ⟨by decide +kernel, rfl⟩
theorem dX10_init_61 : dec cX10_init 61 2 63 (.bipush 104) := ⟨by decide +kernel, rfl⟩
theorem dX10_init_63 : dec cX10_init 63 2 65 (.newarray .int) := ⟨by decide +kernel, rfl⟩
theorem dX10_init_65 : dec cX10_init 65 3 68 (.putfield 33) := ⟨by decide +kernel, rfl⟩
theorem dX10_init_68 : dec cX10_init 68 1 69 (.aload_n 0) := ⟨by decide +kernel, rfl⟩
theorem dX10_init_69 : dec cX10_init 69 3 72 (.sipush 130) := ⟨by decide +kernel, rfl⟩
theorem dX10_init_72 : dec cX10_init 72 2 74 (.newarray .int) := ⟨by decide +kernel, rfl⟩
theorem dX10_init_74 : dec cX10_init 74 3 77 (.putfield 36) := ⟨by decide +kernel, rfl⟩
theorem dX10_init_77 : dec cX10_init 77 1 78 (.aload_n 0) := ⟨by decide +kernel, rfl⟩
theorem dX10_init_78 : dec cX10_init 78 1 79 (.iconst 5) := ⟨by decide +kernel, rfl⟩
theorem dX10_init_79 : dec cX10_init 79 2 81 (.newarray .int) := ⟨by decide +kernel, rfl⟩
theorem dX10_init_81 : dec cX10_init 81 3 84 (.putfield 39) := ⟨by decide +kernel, rfl⟩
theorem dX10_init_84 : dec cX10_init 84 1 85 (.aload_n 0) := ⟨by decide +kernel, rfl⟩
theorem dX10_init_85 : dec cX10_init 85 2 87 (.bipush 50) := ⟨by decide +kernel, rfl⟩
theorem dX10_init_87 : dec cX10_init 87 2 89 (.newarray .int) := ⟨by decide +kernel, rfl⟩
theorem dX10_init_89 : dec cX10_init 89 3 92 (.putfield 42) := ⟨by decide +kernel, rfl⟩
theorem dX10_init_92 : dec cX10_init 92 1 93 (.aload_n 0) := ⟨by decide +kernel, rfl⟩
theorem dX10_init_93 : dec cX10_init 93 1 94 (.aload_n 1) := ⟨by decide +kernel, rfl⟩
theorem dX10_init_94 : dec cX10_init 94 3 97 (.putfield 45) := ⟨by decide +kernel, rfl⟩
theorem dX10_init_97 : dec cX10_init 97 1 98 (.return_) := ⟨by decide +kernel, rfl⟩
set_option maxHeartbeats 4000000 in
set_option maxRecDepth 100000 in
theorem mX10_init (Y : Yx) (hF0 : Y.2.2.2.2 = false) (l : Launch) (a0 : Nat) (a1 : Nat) (M0 : Mem) (Q : Mem → Prop) (qa0 : 0 < a0 ∧ M0 0 a0 = kO 10) (qa1 : 0 < a1 ∧ M0 0 a1 = kO 0) (h : wX10_init a0 a1 M0 Q) : CT Y l yX10_init cX10_init 2 none rmX10_init [vR Y.1 a0, vR Y.1 a1] M0 (QV Q) := by
  unfold wX10_init at h
  refine ct_introI (by decide) (Nat.le_of_ble_eq_true rfl) ?_
  intro X hXl hC hN
  change OKX X Y RX10 cX10_init 2 none rmX10_init at hC
  change nameX X = "<init>" at hN
  change WW X Y 2 rmX10_init (QV Q) M0 0 0 0 [(0, vR Y.1 a0), (1, vR Y.1 a1)] [] M0
  refine r_aload_n hC 0 dX10_init_0 rfl rfl ?_
  refine r_objInit hC ob_X10_3 (Nat.le_of_ble_eq_true rfl) (Nat.le_of_ble_eq_true rfl) (Nat.le_of_ble_eq_true rfl) dX10_init_1 ?_
  refine r_aload_n hC 0 dX10_init_4 rfl rfl ?_
  refine r_bipush hC (by decide +kernel) dX10_init_5 ?_
  refine r_newarr (t := 0) (len := 12) hC (by decide) rfl ac_0 rfl (by decide) (by decide +kernel) ⟨Nat.le_of_ble_eq_true rfl, Nat.le_of_ble_eq_true rfl⟩ dX10_init_7 ?_
  refine r_widen (n' := 1) (k' := 130 * 1) (by omega) (by omega) ?_
  refine r_nameM h (fun M_2 h => ?_)
  obtain ⟨q_1, h⟩ := h
  refine r_base (fun hk hL0 => ?_)
  have qa0 := kqO hk qa0
  have qa1 := kqO hk qa1
  refine r_putF hC hN hF0 q_1.1 ff_X10_9 rfl (by first | exact Or.inl ⟨_, rfl⟩ | exact Or.inr ⟨_, rfl⟩) qa0.1 qa0.2 dX10_init_9 ?_
  refine r_nameM h (fun M_3 h => ?_)
  refine r_aload_n hC 0 dX10_init_12 rfl rfl ?_
  refine r_bipush hC (by decide +kernel) dX10_init_13 ?_
  refine r_newarr (t := 0) (len := 12) hC (by decide) rfl ac_0 rfl (by decide) (by decide +kernel) ⟨Nat.le_of_ble_eq_true rfl, Nat.le_of_ble_eq_true rfl⟩ dX10_init_15 ?_
  refine r_widen (n' := 2) (k' := 130 * 2) (by omega) (by omega) ?_
  refine r_nameM h (fun M_5 h => ?_)
  obtain ⟨q_4, h⟩ := h
  refine r_base (fun hk hL0 => ?_)
  have qa0 := kqO hk qa0
  have qa1 := kqO hk qa1
  refine r_putF hC hN hF0 q_4.1 ff_X10_15 rfl (by first | exact Or.inl ⟨_, rfl⟩ | exact Or.inr ⟨_, rfl⟩) qa0.1 qa0.2 dX10_init_17 ?_
  refine r_nameM h (fun M_6 h => ?_)
  refine r_aload_n hC 0 dX10_init_20 rfl rfl ?_
  refine r_bipush hC (by decide +kernel) dX10_init_21 ?_
  refine r_newarr (t := 0) (len := 13) hC (by decide) rfl ac_0 rfl (by decide) (by decide +kernel) ⟨Nat.le_of_ble_eq_true rfl, Nat.le_of_ble_eq_true rfl⟩ dX10_init_23 ?_
  refine r_widen (n' := 3) (k' := 130 * 3) (by omega) (by omega) ?_
  refine r_nameM h (fun M_8 h => ?_)
  obtain ⟨q_7, h⟩ := h
  refine r_base (fun hk hL0 => ?_)
  have qa0 := kqO hk qa0
  have qa1 := kqO hk qa1
  refine r_putF hC hN hF0 q_7.1 ff_X10_18 rfl (by first | exact Or.inl ⟨_, rfl⟩ | exact Or.inr ⟨_, rfl⟩) qa0.1 qa0.2 dX10_init_25 ?_
  refine r_nameM h (fun M_9 h => ?_)
  refine r_aload_n hC 0 dX10_init_28 rfl rfl ?_
  refine r_bipush hC (by decide +kernel) dX10_init_29 ?_
  refine r_newarr (t := 0) (len := 13) hC (by decide) rfl ac_0 rfl (by decide) (by decide +kernel) ⟨Nat.le_of_ble_eq_true rfl, Nat.le_of_ble_eq_true rfl⟩ dX10_init_31 ?_
  refine r_widen (n' := 4) (k' := 130 * 4) (by omega) (by omega) ?_
  refine r_nameM h (fun M_11 h => ?_)
  obtain ⟨q_10, h⟩ := h
  refine r_base (fun hk hL0 => ?_)
  have qa0 := kqO hk qa0
  have qa1 := kqO hk qa1
  refine r_putF hC hN hF0 q_10.1 ff_X10_21 rfl (by first | exact Or.inl ⟨_, rfl⟩ | exact Or.inr ⟨_, rfl⟩) qa0.1 qa0.2 dX10_init_33 ?_
  refine r_nameM h (fun M_12 h => ?_)
  refine r_aload_n hC 0 dX10_init_36 rfl rfl ?_
  refine r_bipush hC (by decide +kernel) dX10_init_37 ?_
  refine r_newarr (t := 0) (len := 13) hC (by decide) rfl ac_0 rfl (by decide) (by decide +kernel) ⟨Nat.le_of_ble_eq_true rfl, Nat.le_of_ble_eq_true rfl⟩ dX10_init_39 ?_
  refine r_widen (n' := 5) (k' := 130 * 5) (by omega) (by omega) ?_
  refine r_nameM h (fun M_14 h => ?_)
  obtain ⟨q_13, h⟩ := h
  refine r_base (fun hk hL0 => ?_)
  have qa0 := kqO hk qa0
  have qa1 := kqO hk qa1
  refine r_putF hC hN hF0 q_13.1 ff_X10_24 rfl (by first | exact Or.inl ⟨_, rfl⟩ | exact Or.inr ⟨_, rfl⟩) qa0.1 qa0.2 dX10_init_41 ?_
  refine r_nameM h (fun M_15 h => ?_)
  refine r_aload_n hC 0 dX10_init_44 rfl rfl ?_
  refine r_bipush hC (by decide +kernel) dX10_init_45 ?_
  refine r_newarr (t := 0) (len := 13) hC (by decide) rfl ac_0 rfl (by decide) (by decide +kernel) ⟨Nat.le_of_ble_eq_true rfl, Nat.le_of_ble_eq_true rfl⟩ dX10_init_47 ?_
  refine r_widen (n' := 6) (k' := 130 * 6) (by omega) (by omega) ?_
  refine r_nameM h (fun M_17 h => ?_)
  obtain ⟨q_16, h⟩ := h
  refine r_base (fun hk hL0 => ?_)
  have qa0 := kqO hk qa0
  have qa1 := kqO hk qa1
  refine r_putF hC hN hF0 q_16.1 ff_X10_27 rfl (by first | exact Or.inl ⟨_, rfl⟩ | exact Or.inr ⟨_, rfl⟩) qa0.1 qa0.2 dX10_init_49 ?_
  refine r_nameM h (fun M_18 h => ?_)
  refine r_aload_n hC 0 dX10_init_52 rfl rfl ?_
  refine r_bipush hC (by decide +kernel) dX10_init_53 ?_
  refine r_newarr (t := 0) (len := 13) hC (by decide) rfl ac_0 rfl (by decide) (by decide +kernel) ⟨Nat.le_of_ble_eq_true rfl, Nat.le_of_ble_eq_true rfl⟩ dX10_init_55 ?_
  refine r_widen (n' := 7) (k' := 130 * 7) (by omega) (by omega) ?_
  refine r_nameM h (fun M_20 h => ?_)
  obtain ⟨q_19, h⟩ := h
  refine r_base (fun hk hL0 => ?_)
  have qa0 := kqO hk qa0
  have qa1 := kqO hk qa1
  refine r_putF hC hN hF0 q_19.1 ff_X10_30 rfl (by first | exact Or.inl ⟨_, rfl⟩ | exact Or.inr ⟨_, rfl⟩) qa0.1 qa0.2 dX10_init_57 ?_
  refine r_nameM h (fun M_21 h => ?_)
  refine r_aload_n hC 0 dX10_init_60 rfl rfl ?_
  refine r_bipush hC (by decide +kernel) dX10_init_61 ?_
  refine r_newarr (t := 0) (len := 104) hC (by decide) rfl ac_0 rfl (by decide) (by decide +kernel) ⟨Nat.le_of_ble_eq_true rfl, Nat.le_of_ble_eq_true rfl⟩ dX10_init_63 ?_
  refine r_widen (n' := 8) (k' := 130 * 8) (by omega) (by omega) ?_
  refine r_nameM h (fun M_23 h => ?_)
  obtain ⟨q_22, h⟩ := h
  refine r_base (fun hk hL0 => ?_)
  have qa0 := kqO hk qa0
  have qa1 := kqO hk qa1
  refine r_putF hC hN hF0 q_22.1 ff_X10_33 rfl (by first | exact Or.inl ⟨_, rfl⟩ | exact Or.inr ⟨_, rfl⟩) qa0.1 qa0.2 dX10_init_65 ?_
  refine r_nameM h (fun M_24 h => ?_)
  refine r_aload_n hC 0 dX10_init_68 rfl rfl ?_
  refine r_sipush hC (by decide +kernel) dX10_init_69 ?_
  refine r_newarr (t := 0) (len := 130) hC (by decide) rfl ac_0 rfl (by decide) (by decide +kernel) ⟨Nat.le_of_ble_eq_true rfl, Nat.le_of_ble_eq_true rfl⟩ dX10_init_72 ?_
  refine r_widen (n' := 9) (k' := 130 * 9) (by omega) (by omega) ?_
  refine r_nameM h (fun M_26 h => ?_)
  obtain ⟨q_25, h⟩ := h
  refine r_base (fun hk hL0 => ?_)
  have qa0 := kqO hk qa0
  have qa1 := kqO hk qa1
  refine r_putF hC hN hF0 q_25.1 ff_X10_36 rfl (by first | exact Or.inl ⟨_, rfl⟩ | exact Or.inr ⟨_, rfl⟩) qa0.1 qa0.2 dX10_init_74 ?_
  refine r_nameM h (fun M_27 h => ?_)
  refine r_aload_n hC 0 dX10_init_77 rfl rfl ?_
  refine r_iconst hC dX10_init_78 ?_
  refine r_newarr (t := 0) (len := 5) hC (by decide) rfl ac_0 rfl (by decide) (by decide +kernel) ⟨Nat.le_of_ble_eq_true rfl, Nat.le_of_ble_eq_true rfl⟩ dX10_init_79 ?_
  refine r_widen (n' := 10) (k' := 130 * 10) (by omega) (by omega) ?_
  refine r_nameM h (fun M_29 h => ?_)
  obtain ⟨q_28, h⟩ := h
  refine r_base (fun hk hL0 => ?_)
  have qa0 := kqO hk qa0
  have qa1 := kqO hk qa1
  refine r_putF hC hN hF0 q_28.1 ff_X10_39 rfl (by first | exact Or.inl ⟨_, rfl⟩ | exact Or.inr ⟨_, rfl⟩) qa0.1 qa0.2 dX10_init_81 ?_
  refine r_nameM h (fun M_30 h => ?_)
  refine r_aload_n hC 0 dX10_init_84 rfl rfl ?_
  refine r_bipush hC (by decide +kernel) dX10_init_85 ?_
  refine r_newarr (t := 0) (len := 50) hC (by decide) rfl ac_0 rfl (by decide) (by decide +kernel) ⟨Nat.le_of_ble_eq_true rfl, Nat.le_of_ble_eq_true rfl⟩ dX10_init_87 ?_
  refine r_widen (n' := 11) (k' := 130 * 11) (by omega) (by omega) ?_
  refine r_nameM h (fun M_32 h => ?_)
  obtain ⟨q_31, h⟩ := h
  refine r_base (fun hk hL0 => ?_)
  have qa0 := kqO hk qa0
  have qa1 := kqO hk qa1
  refine r_putF hC hN hF0 q_31.1 ff_X10_42 rfl (by first | exact Or.inl ⟨_, rfl⟩ | exact Or.inr ⟨_, rfl⟩) qa0.1 qa0.2 dX10_init_89 ?_
  refine r_nameM h (fun M_33 h => ?_)
  refine r_aload_n hC 0 dX10_init_92 rfl rfl ?_
  refine r_aload_n hC 1 dX10_init_93 rfl rfl ?_
  refine r_putF hC hN hF0 qa1.1 ff_X10_45 rfl (by first | exact Or.inl ⟨_, rfl⟩ | exact Or.inr ⟨_, rfl⟩) qa0.1 qa0.2 dX10_init_94 ?_
  refine r_nameM h (fun M_34 h => ?_)
  exact r_vret hC (by first | exact Nat.le_of_ble_eq_true rfl | (simp only [rmX10_init]; omega)) (by first | exact Nat.le_of_ble_eq_true rfl | (simp only [rmX10_init]; omega)) dX10_init_97 ⟨rfl, h⟩
theorem dX11_init_0 : dec cX11_init 0 1 1 (.aload_n 0) := ⟨by decide +kernel, rfl⟩
theorem dX11_init_1 : dec cX11_init 1 3 4 (.invokespecial 1) := ⟨by decide +kernel, rfl⟩
theorem dX11_init_4 : dec cX11_init 4 1 5 (.aload_n 0) := ⟨by decide +kernel, rfl⟩
theorem dX11_init_5 : dec cX11_init 5 3 8 (.new 7) := ⟨by decide +kernel, rfl⟩
theorem dX11_init_8 : dec cX11_init 8 1 9 (.dup) := ⟨by decide +kernel, rfl⟩
theorem dX11_init_9 : dec cX11_init 9 3 12 (.invokespecial 9) := ⟨by decide +kernel, rfl⟩
theorem dX11_init_12 : dec cX11_init 12 3 15 (.putfield 10) := ⟨by decide +kernel, rfl⟩
theorem dX11_init_15 : dec cX11_init 15 1 16 (.aload_n 0) := ⟨by decide +kernel, rfl⟩
theorem dX11_init_16 : dec cX11_init 16 1 17 (.aconst_null) := ⟨by decide +kernel, rfl⟩
theorem dX11_init_17 : dec cX11_init 17 3 20 (.putfield 16) := ⟨by decide +kernel, rfl⟩
theorem dX11_init_20 : dec cX11_init 20 1 21 (.aload_n 0) := ⟨by decide +kernel, rfl⟩
theorem dX11_init_21 : dec cX11_init 21 1 22 (.iconst 0) := ⟨by decide +kernel, rfl⟩
theorem dX11_init_22 : dec cX11_init 22 3 25 (.putfield 19) := ⟨by decide +kernel, rfl⟩
theorem dX11_init_25 : dec cX11_init 25 1 26 (.aload_n 0) := ⟨by decide +kernel, rfl⟩
theorem dX11_init_26 : dec cX11_init 26 1 27 (.iconst 4) := ⟨by decide +kernel, rfl⟩
theorem dX11_init_27 : dec cX11_init 27 3 30 (.anewarray 23) := ⟨by decide +kernel, rfl⟩
theorem dX11_init_30 : dec cX11_init 30 3 33 (.putfield 25) := ⟨by decide +kernel, rfl⟩
theorem dX11_init_33 : dec cX11_init 33 1 34 (.aload_n 0) := ⟨by decide +kernel, rfl⟩
theorem dX11_init_34 : dec cX11_init 34 2 36 (.bipush 7) := ⟨by decide +kernel, rfl⟩
theorem dX11_init_36 : dec cX11_init 36 2 38 (.newarray .int) := ⟨by decide +kernel, rfl⟩
theorem dX11_init_38 : dec cX11_init 38 3 41 (.putfield 29) := ⟨by decide +kernel, rfl⟩
theorem dX11_init_41 : dec cX11_init 41 1 42 (.aload_n 0) := ⟨by decide +kernel, rfl⟩
theorem dX11_init_42 : dec cX11_init 42 3 45 (.new 33) := ⟨by decide +kernel, rfl⟩
theorem dX11_init_45 : dec cX11_init 45 1 46 (.dup) := ⟨by decide +kernel, rfl⟩
theorem dX11_init_46 : dec cX11_init 46 3 49 (.invokespecial 35) := ⟨by decide +kernel, rfl⟩
theorem dX11_init_49 : dec cX11_init 49 3 52 (.putfield 36) := ⟨by decide +kernel, rfl⟩
theorem dX11_init_52 : dec cX11_init 52 1 53 (.aload_n 0) := ⟨by decide +kernel, rfl⟩
theorem dX11_init_53 : dec cX11_init 53 3 56 (.new 33) := ⟨by decide +kernel, rfl⟩
theorem dX11_init_56 : dec cX11_init 56 1 57 (.dup) := ⟨by decide +kernel, rfl⟩
theorem dX11_init_57 : dec cX11_init 57 3 60 (.invokespecial 35) := ⟨by decide +kernel, rfl⟩
theorem dX11_init_60 : dec cX11_init 60 3 63 (.putfield 40) := ⟨by decide +kernel, rfl⟩
theorem dX11_init_63 : dec cX11_init 63 1 64 (.aload_n 0) := ⟨by decide +kernel, rfl⟩
theorem dX11_init_64 : dec cX11_init 64 3 67 (.new 43) := ⟨by decide +kernel, rfl⟩
theorem dX11_init_67 : dec cX11_init 67 1 68 (.dup) := ⟨by decide +kernel, rfl⟩
theorem dX11_init_68 : dec cX11_init 68 1 69 (.aload_n 0) := ⟨by decide +kernel, rfl⟩
theorem dX11_init_69 : dec cX11_init 69 3 72 (.getfield 10) := ⟨by decide +kernel, rfl⟩
theorem dX11_init_72 : dec cX11_init 72 3 75 (.invokespecial 45) := ⟨by decide +kernel, rfl⟩
theorem dX11_init_75 : dec cX11_init 75 3 78 (.putfield 48) := ⟨by decide +kernel, rfl⟩
theorem dX11_init_78 : dec cX11_init 78 1 79 (.aload_n 0) := ⟨by decide +kernel, rfl⟩
theorem dX11_init_79 : dec cX11_init 79 3 82 (.new 52) := ⟨by decide +kernel, rfl⟩
theorem dX11_init_82 : dec cX11_init 82 1 83 (.dup) := ⟨by decide +kernel, rfl⟩
theorem dX11_init_83 : dec cX11_init 83 1 84 (.aload_n 0) := ⟨by decide +kernel, rfl⟩
theorem dX11_init_84 : dec cX11_init 84 3 87 (.getfield 10) := ⟨by decide +kernel, rfl⟩
theorem dX11_init_87 : dec cX11_init 87 1 88 (.aload_n 0) := ⟨by decide +kernel, rfl⟩
theorem dX11_init_88 : dec cX11_init 88 3 91 (.getfield 48) := ⟨by decide +kernel, rfl⟩
theorem dX11_init_91 : dec cX11_init 91 3 94 (.invokespecial 54) := ⟨by decide +kernel, rfl⟩
theorem dX11_init_94 : dec cX11_init 94 3 97 (.putfield 57) := ⟨by decide +kernel, rfl⟩
theorem dX11_init_97 : dec cX11_init 97 1 98 (.aload_n 0) := ⟨by decide +kernel, rfl⟩
theorem dX11_init_98 : dec cX11_init 98 3 101 (.new 61) := ⟨by decide +kernel, rfl⟩
theorem dX11_init_101 : dec cX11_init 101 1 102 (.dup) := ⟨by decide +kernel, rfl⟩
theorem dX11_init_102 : dec cX11_init 102 1 103 (.aload_n 0) := ⟨by decide +kernel, rfl⟩
theorem dX11_init_103 : dec cX11_init 103 3 106 (.getfield 10) := ⟨by decide +kernel, rfl⟩
theorem dX11_init_106 : dec cX11_init 106 3 109 (.invokespecial 63) := ⟨by decide +kernel, rfl⟩
theorem dX11_init_109 : dec cX11_init 109 3 112 (.putfield 64) := ⟨by decide +kernel, rfl⟩
theorem dX11_init_112 : dec cX11_init 112 1 113 (.aload_n 0) := ⟨by decide +kernel, rfl⟩
theorem dX11_init_113 : dec cX11_init 113 3 116 (.new 68) := ⟨by decide +kernel, rfl⟩
theorem dX11_init_116 : dec cX11_init 116 1 117 (.dup) := ⟨by decide +kernel, rfl⟩
theorem dX11_init_117 : dec cX11_init 117 3 120 (.invokespecial 70) := ⟨by decide +kernel, rfl⟩
theorem dX11_init_120 : dec cX11_init 120 3 123 (.putfield 71) := ⟨by decide +kernel, rfl⟩
theorem dX11_init_123 : dec cX11_init 123 1 124 (.aload_n 0) := ⟨by decide +kernel, rfl⟩
theorem dX11_init_124 : dec cX11_init 124 3 127 (.new 75) := ⟨by decide +kernel, rfl⟩
theorem dX11_init_127 : dec cX11_init 127 1 128 (.dup) := ⟨by decide +kernel, rfl⟩
theorem dX11_init_128 : dec cX11_init 128 3 131 (.invokespecial 77) := ⟨by decide +kernel, rfl⟩
theorem dX11_init_131 : dec cX11_init 131 3 134 (.putfield 78) := ⟨by decide +kernel, rfl⟩
theorem dX11_init_134 : dec cX11_init 134 1 135 (.aload_n 0) := ⟨by decide +kernel, rfl⟩
theorem dX11_init_135 : dec cX11_init 135 2 137 (.bipush 80) := ⟨by decide +kernel, rfl⟩
theorem dX11_init_137 : dec cX11_init 137 2 139 (.newarray .long) := ⟨by decide +kernel, rfl⟩
theorem dX11_init_139 : dec cX11_init 139 3 142 (.putfield 82) := ⟨by decide +kernel, rfl⟩
theorem dX11_init_142 : dec cX11_init 142 1 143 (.iconst 0) := ⟨by decide +kernel, rfl⟩
theorem dX11_init_143 : dec cX11_init 143 1 144 (.istore_n 1) := ⟨by decide +kernel, rfl⟩
theorem dX11_init_144 : dec cX11_init 144 1 145 (.iload_n 1) := ⟨by decide +kernel, rfl⟩
theorem dX11_init_145 : dec cX11_init 145 1 146 (.iconst 4) := ⟨by decide +kernel, rfl⟩
theorem dX11_init_146 : dec cX11_init 146 3 149 (.if_icmp .ge 22) := ⟨by decide +kernel, rfl⟩
theorem dX11_init_149 : dec cX11_init 149 1 150 (.aload_n 0) := ⟨by decide +kernel, rfl⟩
theorem dX11_init_150 : dec cX11_init 150 3 153 (.getfield 25) := ⟨by decide +kernel, rfl⟩
theorem dX11_init_153 : dec cX11_init 153 1 154 (.iload_n 1) := ⟨by decide +kernel, rfl⟩
theorem dX11_init_154 : dec cX11_init 154 3 157 (.new 23) := ⟨by decide +kernel, rfl⟩
theorem dX11_init_157 : dec cX11_init 157 1 158 (.dup) := ⟨by decide +kernel, rfl⟩
theorem dX11_init_158 : dec cX11_init 158 3 161 (.invokespecial 86) := ⟨by decide +kernel, rfl⟩
theorem dX11_init_161 : dec cX11_init 161 1 162 (.aastore) := ⟨by decide +kernel, rfl⟩
theorem dX11_init_162 : dec cX11_init 162 3 165 (.iinc 1 1) := ⟨by decide +kernel, rfl⟩
theorem dX11_init_165 : dec cX11_init 165 3 168 (.goto (-21)) := ⟨by decide +kernel, rfl⟩
theorem dX11_init_168 : dec cX11_init 168 1 169 (.return_) := ⟨by decide +kernel, rfl⟩
set_option maxHeartbeats 4000000 in
set_option maxRecDepth 100000 in
theorem tX11_init_L144 {X : Cx} {Y : Yx} {M0 : Mem} (hC : OKX X Y RX11 cX11_init 2 none rmX11_init) (hN : nameX X = "<init>") (hF0 : Y.2.2.2.2 = false) (Q : Mem → Prop)  (a0 : Nat) (qa0 : 0 < a0 ∧ M0 0 a0 = kO 11)  : ∀ (N : Nat) (Mb : Mem) (_ : KP M0 Mb) (c : Nat) (x1 : Int) (M : Mem) (_ : wX11_init_L144 Q  a0 N c x1 M), WW X Y 2 rmX11_init (QV Q) Mb c (130 * c) 144 [(0, vR Y.1 a0), (1, vI x1)] [] M := by
  intro N
  induction N with
  | zero =>
    intro Mb kp c x1 M h
    exact h.elim
  | succ N ih =>
    intro Mb kp c x1 M h
    unfold wX11_init_L144 at h
    have qa0 := kqO kp qa0
    refine r_iload_n hC 1 dX11_init_144 rfl rfl ?_
    refine r_iconst hC dX11_init_145 ?_
    refine r_icmp_ge hC 168 rfl bmL_4 dX11_init_146 (by decide) (fun cq => ?_) (fun cq => ?_)
    · replace h := h.1 cq
      obtain ⟨c_48, h⟩ := h
      exact r_vret hC (by simp only [rmX11_init]; omega) (by simp only [rmX11_init]; omega) dX11_init_168 ⟨rfl, h⟩
    · replace h := h.2 cq
      refine r_aload_n hC 0 dX11_init_149 rfl rfl ?_
      refine r_getN hC fg_X11_25 rfl qa0.1 qa0.2 dX11_init_150 ?_
      obtain ⟨q_49, h⟩ := h
      refine r_base (fun hk hL0 => ?_)
      have kp := kp_tr kp hk
      have qa0 := kqO hk qa0
      rw [vN_R (q := (M a0 3).toNat) q_49.1 (by have := q_49.1; omega)]
      refine r_iload_n hC 1 dX11_init_153 rfl rfl ?_
      obtain ⟨c_52, h⟩ := h
      refine r_newobj hC hF0 rfl nw_X11_23 (by constructor <;> simp only [rmX11_init] <;> omega) dX11_init_154 ?_
      refine r_widen (n' := (c + 1)) (k' := 130 * (c + 1)) (by omega) (by omega) ?_
      refine r_nameM h (fun M_51 h => ?_)
      obtain ⟨q_50, h⟩ := h
      refine r_base (fun hk hL0 => ?_)
      have kp := kp_tr kp hk
      have qa0 := kqO hk qa0
      have q_49 := kqA hk q_49
      refine r_dup hC rfl dX11_init_157 ?_
      obtain ⟨c_53, h⟩ := h
      refine r_callI (As := []) (st := [vR Y.1 ((nx M)), vI x1, vR Y.1 ((M a0 3).toNat)]) hC ci_X11_86 rfl rfl (Nat.le_of_ble_eq_true rfl) ⟨Nat.le_of_ble_eq_true rfl, Nat.le_of_ble_eq_true rfl⟩ (by constructor <;> simp only [rmX11_init, rmX8_init] <;> omega) dX11_init_158 (fun hk => mX8_init Y hF0 _ _ _ _ (kqO hk q_50) h) (fun v M_54 h => ?_)
      obtain ⟨rfl, h⟩ := h
      refine r_widen (n' := (c + 2)) (k' := 130 * (c + 2)) (by simp only [rmX8_init]; omega) (by simp only [rmX8_init]; omega) ?_
      obtain ⟨i_55, h⟩ := h
      refine r_aast (t := 9) hC hF0 (by decide) (by decide) rfl rfl i_55 q_49.1 q_49.2 (by decide) q_50.1 q_50.2 dX11_init_161 ?_
      refine r_nameM h (fun M_56 h => ?_)
      refine let_elim h (fun x1_57 e_58 h => ?_)
      refine r_iinc (lv' := [(1, vI x1_57), (0, vR Y.1 a0)]) hC 1 dX11_init_162 rfl (by decide) e_58 rfl ?_
      refine r_goto hC 144 dX11_init_165 (by decide) ?_
      refine r_sub [1, 0] rfl ?_
      exact ih _ kp _ _ _ h
set_option maxHeartbeats 4000000 in
set_option maxRecDepth 100000 in
theorem mX11_init (Y : Yx) (hF0 : Y.2.2.2.2 = false) (l : Launch) (a0 : Nat) (M0 : Mem) (Q : Mem → Prop) (qa0 : 0 < a0 ∧ M0 0 a0 = kO 11) (h : wX11_init a0 M0 Q) : CT Y l yX11_init cX11_init 2 none rmX11_init [vR Y.1 a0] M0 (QV Q) := by
  unfold wX11_init at h
  refine ct_introI (by decide) (Nat.le_of_ble_eq_true rfl) ?_
  intro X hXl hC hN
  change OKX X Y RX11 cX11_init 2 none rmX11_init at hC
  change nameX X = "<init>" at hN
  change WW X Y 2 rmX11_init (QV Q) M0 0 0 0 [(0, vR Y.1 a0)] [] M0
  refine r_aload_n hC 0 dX11_init_0 rfl rfl ?_
  refine r_objInit hC ob_X11_1 (Nat.le_of_ble_eq_true rfl) (Nat.le_of_ble_eq_true rfl) (Nat.le_of_ble_eq_true rfl) dX11_init_1 ?_
  refine r_aload_n hC 0 dX11_init_4 rfl rfl ?_
  refine r_newobj hC hF0 rfl nw_X11_7 ⟨Nat.le_of_ble_eq_true rfl, Nat.le_of_ble_eq_true rfl⟩ dX11_init_5 ?_
  refine r_widen (n' := 1) (k' := 130 * 1) (by omega) (by omega) ?_
  refine r_nameM h (fun M_2 h => ?_)
  obtain ⟨q_1, h⟩ := h
  refine r_base (fun hk hL0 => ?_)
  have qa0 := kqO hk qa0
  refine r_dup hC rfl dX11_init_8 ?_
  refine r_callI (As := []) (st := [vR Y.1 ((nx M0)), vR Y.1 a0]) hC ci_X11_9 rfl rfl (Nat.le_of_ble_eq_true rfl) ⟨Nat.le_of_ble_eq_true rfl, Nat.le_of_ble_eq_true rfl⟩ ⟨Nat.le_of_ble_eq_true rfl, Nat.le_of_ble_eq_true rfl⟩ dX11_init_9 (fun hk => mX0_init Y hF0 _ _ _ _ (kqO hk q_1) h) (fun v M_3 h => ?_)
  obtain ⟨rfl, h⟩ := h
  refine r_widen (n' := 83) (k' := 130 * 83) (by simp only [rmX0_init]; omega) (by simp only [rmX0_init]; omega) ?_
  refine r_putF hC hN hF0 q_1.1 ff_X11_10 rfl (by first | exact Or.inl ⟨_, rfl⟩ | exact Or.inr ⟨_, rfl⟩) qa0.1 qa0.2 dX11_init_12 ?_
  refine r_nameM h (fun M_4 h => ?_)
  refine r_aload_n hC 0 dX11_init_15 rfl rfl ?_
  refine r_null hC dX11_init_16 ?_
  refine r_put0 hC fp_X11_16 rfl (by first | exact Or.inl ⟨_, rfl⟩ | exact Or.inr ⟨_, rfl⟩) qa0.1 qa0.2 dX11_init_17 ?_
  refine r_nameM h (fun M_5 h => ?_)
  refine r_aload_n hC 0 dX11_init_20 rfl rfl ?_
  refine r_iconst hC dX11_init_21 ?_
  refine r_putI hC fp_X11_19 rfl qa0.1 qa0.2 dX11_init_22 ?_
  refine r_nameM h (fun M_6 h => ?_)
  refine r_aload_n hC 0 dX11_init_25 rfl rfl ?_
  refine r_iconst hC dX11_init_26 ?_
  refine r_newref (t := 9) (len := 4) hC hF0 (by decide) (by decide) nq_X11_23_9 rfl (by decide) ⟨Nat.le_of_ble_eq_true rfl, Nat.le_of_ble_eq_true rfl⟩ dX11_init_27 ?_
  refine r_widen (n' := 84) (k' := 130 * 84) (by omega) (by omega) ?_
  refine r_nameM h (fun M_8 h => ?_)
  obtain ⟨q_7, h⟩ := h
  refine r_base (fun hk hL0 => ?_)
  have qa0 := kqO hk qa0
  refine r_putF hC hN hF0 q_7.1 ff_X11_25 rfl (by first | exact Or.inl ⟨_, rfl⟩ | exact Or.inr ⟨_, rfl⟩) qa0.1 qa0.2 dX11_init_30 ?_
  refine r_nameM h (fun M_9 h => ?_)
  refine r_aload_n hC 0 dX11_init_33 rfl rfl ?_
  refine r_bipush hC (by decide +kernel) dX11_init_34 ?_
  refine r_newarr (t := 0) (len := 7) hC (by decide) rfl ac_0 rfl (by decide) (by decide +kernel) ⟨Nat.le_of_ble_eq_true rfl, Nat.le_of_ble_eq_true rfl⟩ dX11_init_36 ?_
  refine r_widen (n' := 85) (k' := 130 * 85) (by omega) (by omega) ?_
  refine r_nameM h (fun M_11 h => ?_)
  obtain ⟨q_10, h⟩ := h
  refine r_base (fun hk hL0 => ?_)
  have qa0 := kqO hk qa0
  refine r_putF hC hN hF0 q_10.1 ff_X11_29 rfl (by first | exact Or.inl ⟨_, rfl⟩ | exact Or.inr ⟨_, rfl⟩) qa0.1 qa0.2 dX11_init_38 ?_
  refine r_nameM h (fun M_12 h => ?_)
  refine r_aload_n hC 0 dX11_init_41 rfl rfl ?_
  refine r_newobj hC hF0 rfl nw_X11_33 ⟨Nat.le_of_ble_eq_true rfl, Nat.le_of_ble_eq_true rfl⟩ dX11_init_42 ?_
  refine r_widen (n' := 86) (k' := 130 * 86) (by omega) (by omega) ?_
  refine r_nameM h (fun M_14 h => ?_)
  obtain ⟨q_13, h⟩ := h
  refine r_base (fun hk hL0 => ?_)
  have qa0 := kqO hk qa0
  refine r_dup hC rfl dX11_init_45 ?_
  refine r_callI (As := []) (st := [vR Y.1 ((nx M_12)), vR Y.1 a0]) hC ci_X11_35 rfl rfl (Nat.le_of_ble_eq_true rfl) ⟨Nat.le_of_ble_eq_true rfl, Nat.le_of_ble_eq_true rfl⟩ ⟨Nat.le_of_ble_eq_true rfl, Nat.le_of_ble_eq_true rfl⟩ dX11_init_46 (fun hk => mX5_init Y hF0 _ _ _ _ (kqO hk q_13) h) (fun v M_15 h => ?_)
  obtain ⟨rfl, h⟩ := h
  refine r_widen (n' := 87) (k' := 130 * 87) (by simp only [rmX5_init]; omega) (by simp only [rmX5_init]; omega) ?_
  refine r_putF hC hN hF0 q_13.1 ff_X11_36 rfl (by first | exact Or.inl ⟨_, rfl⟩ | exact Or.inr ⟨_, rfl⟩) qa0.1 qa0.2 dX11_init_49 ?_
  refine r_nameM h (fun M_16 h => ?_)
  refine r_aload_n hC 0 dX11_init_52 rfl rfl ?_
  refine r_newobj hC hF0 rfl nw_X11_33 ⟨Nat.le_of_ble_eq_true rfl, Nat.le_of_ble_eq_true rfl⟩ dX11_init_53 ?_
  refine r_widen (n' := 88) (k' := 130 * 88) (by omega) (by omega) ?_
  refine r_nameM h (fun M_18 h => ?_)
  obtain ⟨q_17, h⟩ := h
  refine r_base (fun hk hL0 => ?_)
  have qa0 := kqO hk qa0
  refine r_dup hC rfl dX11_init_56 ?_
  refine r_callI (As := []) (st := [vR Y.1 ((nx M_16)), vR Y.1 a0]) hC ci_X11_35 rfl rfl (Nat.le_of_ble_eq_true rfl) ⟨Nat.le_of_ble_eq_true rfl, Nat.le_of_ble_eq_true rfl⟩ ⟨Nat.le_of_ble_eq_true rfl, Nat.le_of_ble_eq_true rfl⟩ dX11_init_57 (fun hk => mX5_init Y hF0 _ _ _ _ (kqO hk q_17) h) (fun v M_19 h => ?_)
  obtain ⟨rfl, h⟩ := h
  refine r_widen (n' := 89) (k' := 130 * 89) (by simp only [rmX5_init]; omega) (by simp only [rmX5_init]; omega) ?_
  refine r_putF hC hN hF0 q_17.1 ff_X11_40 rfl (by first | exact Or.inl ⟨_, rfl⟩ | exact Or.inr ⟨_, rfl⟩) qa0.1 qa0.2 dX11_init_60 ?_
  refine r_nameM h (fun M_20 h => ?_)
  refine r_aload_n hC 0 dX11_init_63 rfl rfl ?_
  refine r_newobj hC hF0 rfl nw_X11_43 ⟨Nat.le_of_ble_eq_true rfl, Nat.le_of_ble_eq_true rfl⟩ dX11_init_64 ?_
  refine r_widen (n' := 90) (k' := 130 * 90) (by omega) (by omega) ?_
  refine r_nameM h (fun M_22 h => ?_)
  obtain ⟨q_21, h⟩ := h
  refine r_base (fun hk hL0 => ?_)
  have qa0 := kqO hk qa0
  refine r_dup hC rfl dX11_init_67 ?_
  refine r_aload_n hC 0 dX11_init_68 rfl rfl ?_
  refine r_getN hC fg_X11_10 rfl qa0.1 qa0.2 dX11_init_69 ?_
  obtain ⟨q_23, h⟩ := h
  refine r_base (fun hk hL0 => ?_)
  have qa0 := kqO hk qa0
  have q_21 := kqO hk q_21
  rw [vN_R (q := (M_22 a0 0).toNat) q_23.1 (by have := q_23.1; omega)]
  refine r_callI (As := [vR Y.1 ((M_22 a0 0).toNat)]) (st := [vR Y.1 ((nx M_20)), vR Y.1 a0]) hC ci_X11_45 rfl rfl (Nat.le_of_ble_eq_true rfl) ⟨Nat.le_of_ble_eq_true rfl, Nat.le_of_ble_eq_true rfl⟩ ⟨Nat.le_of_ble_eq_true rfl, Nat.le_of_ble_eq_true rfl⟩ dX11_init_72 (fun hk => mX10_init Y hF0 _ _ _ _ _ (kqO hk q_21) (kqO hk q_23) h) (fun v M_24 h => ?_)
  obtain ⟨rfl, h⟩ := h
  refine r_widen (n' := 101) (k' := 130 * 101) (by simp only [rmX10_init]; omega) (by simp only [rmX10_init]; omega) ?_
  refine r_putF hC hN hF0 q_21.1 ff_X11_48 rfl (by first | exact Or.inl ⟨_, rfl⟩ | exact Or.inr ⟨_, rfl⟩) qa0.1 qa0.2 dX11_init_75 ?_
  refine r_nameM h (fun M_25 h => ?_)
  refine r_aload_n hC 0 dX11_init_78 rfl rfl ?_
  refine r_newobj hC hF0 rfl nw_X11_52 ⟨Nat.le_of_ble_eq_true rfl, Nat.le_of_ble_eq_true rfl⟩ dX11_init_79 ?_
  refine r_widen (n' := 102) (k' := 130 * 102) (by omega) (by omega) ?_
  refine r_nameM h (fun M_27 h => ?_)
  obtain ⟨q_26, h⟩ := h
  refine r_base (fun hk hL0 => ?_)
  have qa0 := kqO hk qa0
  refine r_dup hC rfl dX11_init_82 ?_
  refine r_aload_n hC 0 dX11_init_83 rfl rfl ?_
  refine r_getN hC fg_X11_10 rfl qa0.1 qa0.2 dX11_init_84 ?_
  obtain ⟨q_28, h⟩ := h
  refine r_base (fun hk hL0 => ?_)
  have qa0 := kqO hk qa0
  have q_26 := kqO hk q_26
  rw [vN_R (q := (M_27 a0 0).toNat) q_28.1 (by have := q_28.1; omega)]
  refine r_aload_n hC 0 dX11_init_87 rfl rfl ?_
  refine r_getN hC fg_X11_48 rfl qa0.1 qa0.2 dX11_init_88 ?_
  obtain ⟨q_29, h⟩ := h
  refine r_base (fun hk hL0 => ?_)
  have qa0 := kqO hk qa0
  have q_28 := kqO hk q_28
  have q_26 := kqO hk q_26
  rw [vN_R (q := (M_27 a0 7).toNat) q_29.1 (by have := q_29.1; omega)]
  refine r_callI (As := [vR Y.1 ((M_27 a0 0).toNat), vR Y.1 ((M_27 a0 7).toNat)]) (st := [vR Y.1 ((nx M_25)), vR Y.1 a0]) hC ci_X11_54 rfl rfl (Nat.le_of_ble_eq_true rfl) ⟨Nat.le_of_ble_eq_true rfl, Nat.le_of_ble_eq_true rfl⟩ ⟨Nat.le_of_ble_eq_true rfl, Nat.le_of_ble_eq_true rfl⟩ dX11_init_91 (fun hk => mX6_init Y hF0 _ _ _ _ _ _ (kqO hk q_26) (kqO hk q_28) (kqO hk q_29) h) (fun v M_30 h => ?_)
  obtain ⟨rfl, h⟩ := h
  refine r_widen (n' := 106) (k' := 130 * 106) (by simp only [rmX6_init]; omega) (by simp only [rmX6_init]; omega) ?_
  refine r_putF hC hN hF0 q_26.1 ff_X11_57 rfl (by first | exact Or.inl ⟨_, rfl⟩ | exact Or.inr ⟨_, rfl⟩) qa0.1 qa0.2 dX11_init_94 ?_
  refine r_nameM h (fun M_31 h => ?_)
  refine r_aload_n hC 0 dX11_init_97 rfl rfl ?_
  refine r_newobj hC hF0 rfl nw_X11_61 ⟨Nat.le_of_ble_eq_true rfl, Nat.le_of_ble_eq_true rfl⟩ dX11_init_98 ?_
  refine r_widen (n' := 107) (k' := 130 * 107) (by omega) (by omega) ?_
  refine r_nameM h (fun M_33 h => ?_)
  obtain ⟨q_32, h⟩ := h
  refine r_base (fun hk hL0 => ?_)
  have qa0 := kqO hk qa0
  refine r_dup hC rfl dX11_init_101 ?_
  refine r_aload_n hC 0 dX11_init_102 rfl rfl ?_
  refine r_getN hC fg_X11_10 rfl qa0.1 qa0.2 dX11_init_103 ?_
  obtain ⟨q_34, h⟩ := h
  refine r_base (fun hk hL0 => ?_)
  have qa0 := kqO hk qa0
  have q_32 := kqO hk q_32
  rw [vN_R (q := (M_33 a0 0).toNat) q_34.1 (by have := q_34.1; omega)]
  refine r_callI (As := [vR Y.1 ((M_33 a0 0).toNat)]) (st := [vR Y.1 ((nx M_31)), vR Y.1 a0]) hC ci_X11_63 rfl rfl (Nat.le_of_ble_eq_true rfl) ⟨Nat.le_of_ble_eq_true rfl, Nat.le_of_ble_eq_true rfl⟩ ⟨Nat.le_of_ble_eq_true rfl, Nat.le_of_ble_eq_true rfl⟩ dX11_init_106 (fun hk => mX7_init Y hF0 _ _ _ _ _ (kqO hk q_32) (kqO hk q_34) h) (fun v M_35 h => ?_)
  obtain ⟨rfl, h⟩ := h
  refine r_widen (n' := 109) (k' := 130 * 109) (by simp only [rmX7_init]; omega) (by simp only [rmX7_init]; omega) ?_
  refine r_putF hC hN hF0 q_32.1 ff_X11_64 rfl (by first | exact Or.inl ⟨_, rfl⟩ | exact Or.inr ⟨_, rfl⟩) qa0.1 qa0.2 dX11_init_109 ?_
  refine r_nameM h (fun M_36 h => ?_)
  refine r_aload_n hC 0 dX11_init_112 rfl rfl ?_
  refine r_newobj hC hF0 rfl nw_X11_68 ⟨Nat.le_of_ble_eq_true rfl, Nat.le_of_ble_eq_true rfl⟩ dX11_init_113 ?_
  refine r_widen (n' := 110) (k' := 130 * 110) (by omega) (by omega) ?_
  refine r_nameM h (fun M_38 h => ?_)
  obtain ⟨q_37, h⟩ := h
  refine r_base (fun hk hL0 => ?_)
  have qa0 := kqO hk qa0
  refine r_dup hC rfl dX11_init_116 ?_
  refine r_callI (As := []) (st := [vR Y.1 ((nx M_36)), vR Y.1 a0]) hC ci_X11_70 rfl rfl (Nat.le_of_ble_eq_true rfl) ⟨Nat.le_of_ble_eq_true rfl, Nat.le_of_ble_eq_true rfl⟩ ⟨Nat.le_of_ble_eq_true rfl, Nat.le_of_ble_eq_true rfl⟩ dX11_init_117 (fun hk => mX4_init Y hF0 _ _ _ _ (kqO hk q_37) h) (fun v M_39 h => ?_)
  obtain ⟨rfl, h⟩ := h
  refine r_widen (n' := 112) (k' := 130 * 112) (by simp only [rmX4_init]; omega) (by simp only [rmX4_init]; omega) ?_
  refine r_putF hC hN hF0 q_37.1 ff_X11_71 rfl (by first | exact Or.inl ⟨_, rfl⟩ | exact Or.inr ⟨_, rfl⟩) qa0.1 qa0.2 dX11_init_120 ?_
  refine r_nameM h (fun M_40 h => ?_)
  refine r_aload_n hC 0 dX11_init_123 rfl rfl ?_
  refine r_newobj hC hF0 rfl nw_X11_75 ⟨Nat.le_of_ble_eq_true rfl, Nat.le_of_ble_eq_true rfl⟩ dX11_init_124 ?_
  refine r_widen (n' := 113) (k' := 130 * 113) (by omega) (by omega) ?_
  refine r_nameM h (fun M_42 h => ?_)
  obtain ⟨q_41, h⟩ := h
  refine r_base (fun hk hL0 => ?_)
  have qa0 := kqO hk qa0
  refine r_dup hC rfl dX11_init_127 ?_
  refine r_callI (As := []) (st := [vR Y.1 ((nx M_40)), vR Y.1 a0]) hC ci_X11_77 rfl rfl (Nat.le_of_ble_eq_true rfl) ⟨Nat.le_of_ble_eq_true rfl, Nat.le_of_ble_eq_true rfl⟩ ⟨Nat.le_of_ble_eq_true rfl, Nat.le_of_ble_eq_true rfl⟩ dX11_init_128 (fun hk => mX9_init Y hF0 _ _ _ _ (kqO hk q_41) h) (fun v M_43 h => ?_)
  obtain ⟨rfl, h⟩ := h
  refine r_widen (n' := 114) (k' := 130 * 114) (by simp only [rmX9_init]; omega) (by simp only [rmX9_init]; omega) ?_
  refine r_putF hC hN hF0 q_41.1 ff_X11_78 rfl (by first | exact Or.inl ⟨_, rfl⟩ | exact Or.inr ⟨_, rfl⟩) qa0.1 qa0.2 dX11_init_131 ?_
  refine r_nameM h (fun M_44 h => ?_)
  refine r_aload_n hC 0 dX11_init_134 rfl rfl ?_
  refine r_bipush hC (by decide +kernel) dX11_init_135 ?_
  refine r_newarr (t := 3) (len := 80) hC (by decide) rfl ac_3 rfl (by decide) (by decide +kernel) ⟨Nat.le_of_ble_eq_true rfl, Nat.le_of_ble_eq_true rfl⟩ dX11_init_137 ?_
  refine r_widen (n' := 115) (k' := 130 * 115) (by omega) (by omega) ?_
  refine r_nameM h (fun M_46 h => ?_)
  obtain ⟨q_45, h⟩ := h
  refine r_base (fun hk hL0 => ?_)
  have qa0 := kqO hk qa0
  refine r_putF hC hN hF0 q_45.1 ff_X11_82 rfl (by first | exact Or.inl ⟨_, rfl⟩ | exact Or.inr ⟨_, rfl⟩) qa0.1 qa0.2 dX11_init_139 ?_
  refine r_nameM h (fun M_47 h => ?_)
  refine r_iconst hC dX11_init_142 ?_
  refine r_istore_n (lv' := [(1, vI 0), (0, vR Y.1 a0)]) hC dX11_init_143 rfl (by decide) rfl ?_
  refine r_sub [1, 0] rfl ?_
  obtain ⟨N_59, h⟩ := h
  refine tX11_init_L144 hC hN hF0 Q  _ qa0  N_59 _ (fun _ _ _ => rfl) _ _ _ h
theorem dX11_error_0 : dec cX11_error 0 1 1 (.iload_n 1) := ⟨by decide +kernel, rfl⟩
theorem dX11_error_1 : dec cX11_error 1 1 2 (.iconst 1) := ⟨by decide +kernel, rfl⟩
theorem dX11_error_2 : dec cX11_error 2 2 4 (.bipush 6) := ⟨by decide +kernel, rfl⟩
theorem dX11_error_4 : dec cX11_error 4 3 7 (.invokestatic 87) := ⟨by decide +kernel, rfl⟩
theorem dX11_error_7 : dec cX11_error 7 3 10 (.ifCond .eq 13) := ⟨by decide +kernel, rfl⟩
theorem dX11_error_10 : dec cX11_error 10 1 11 (.aload_n 0) := ⟨by decide +kernel, rfl⟩
theorem dX11_error_11 : dec cX11_error 11 3 14 (.getfield 29) := ⟨by decide +kernel, rfl⟩
theorem dX11_error_14 : dec cX11_error 14 1 15 (.iload_n 1) := ⟨by decide +kernel, rfl⟩
theorem dX11_error_15 : dec cX11_error 15 1 16 (.dup2) := ⟨by decide +kernel, rfl⟩
theorem dX11_error_16 : dec cX11_error 16 1 17 (.iaload) := ⟨by decide +kernel, rfl⟩
theorem dX11_error_17 : dec cX11_error 17 1 18 (.iconst 1) := ⟨by decide +kernel, rfl⟩
theorem dX11_error_18 : dec cX11_error 18 1 19 (.iadd) := ⟨by decide +kernel, rfl⟩
theorem dX11_error_19 : dec cX11_error 19 1 20 (.iastore) := ⟨by decide +kernel, rfl⟩
theorem dX11_error_20 : dec cX11_error 20 3 23 (.ldc_w 405) := ⟨by decide +kernel, rfl⟩
theorem dX11_error_23 : dec cX11_error 23 1 24 (.iload_n 1) := ⟨by decide +kernel, rfl⟩
theorem dX11_error_24 : dec cX11_error 24 1 25 (.isub) := ⟨by decide +kernel, rfl⟩
theorem dX11_error_25 : dec cX11_error 25 1 26 (.ireturn) := ⟨by decide +kernel, rfl⟩
set_option maxHeartbeats 4000000 in
set_option maxRecDepth 100000 in
theorem mX11_error (Y : Yx) (hF : Y.2.2.2.2 = true) (l : Launch) (a0 : Nat) (x1 : Int) (M0 : Mem) (Q : Int → Mem → Prop) (qa0 : 0 < a0 ∧ M0 0 a0 = kO 11) (h : wX11_error a0 x1 M0 Q) : CT Y l yX11_error cX11_error 2 (some .int) rmX11_error [vR Y.1 a0, vI x1] M0 (QI Q) := by
  unfold wX11_error at h
  refine ct_intro (by decide) (Nat.le_of_ble_eq_true rfl) ?_
  intro X hXl hC hL0
  have hL := hL0 hF
  change OKX X Y RX11 cX11_error 2 (some .int) rmX11_error at hC
  change WW X Y 2 rmX11_error (QI Q) M0 0 0 0 [(0, vR Y.1 a0), (1, vI x1)] [] M0
  refine r_iload_n hC 1 dX11_error_0 rfl rfl ?_
  refine r_iconst hC dX11_error_1 ?_
  refine r_bipush hC (by decide +kernel) dX11_error_2 ?_
  refine r_callS (As := [vI x1, vI 1, vI 6]) (st := []) hC cw_X11_87 rfl rfl (Nat.le_of_ble_eq_true rfl) ⟨Nat.le_of_ble_eq_true rfl, Nat.le_of_ble_eq_true rfl⟩ ⟨Nat.le_of_ble_eq_true rfl, Nat.le_of_ble_eq_true rfl⟩ dX11_error_4 (fun hk => mX11_within Y hF _ _ _ _ _ _  h) (fun v M_1 h => ?_)
  obtain ⟨r_2, rfl, h⟩ := h
  refine r_if_eq hC 20 rfl dX11_error_7 (by decide) (fun cq => ?_) (fun cq => ?_)
  · replace h := h.1 cq
    refine r_ldcw hC kc_X11_405 dX11_error_20 ?_
    refine r_iload_n hC 1 dX11_error_23 rfl rfl ?_
    refine r_isub hC dX11_error_24 ?_
    exact r_iret hC (Nat.zero_le _) (Nat.zero_le _) dX11_error_25 ⟨_, rfl, h⟩
  · replace h := h.2 cq
    refine r_aload_n hC 0 dX11_error_10 rfl rfl ?_
    have q_3 : 0 < a0 + 85 ∧ M0 0 (a0 + 85) = kA 0 7 := lay_f0 (a := a0) hL qa0 fm_11_4
    refine r_getR0 (a' := a0 + 85) hC fg_X11_29 rfl hF fm_11_4 qa0.1 qa0.2 rfl dX11_error_11 ?_
    refine r_iload_n hC 1 dX11_error_14 rfl rfl ?_
    refine r_dup2 hC rfl rfl dX11_error_15 ?_
    obtain ⟨i_4, h⟩ := h
    refine r_iald hC i_4 q_3.1 q_3.2 (by decide) dX11_error_16 ?_
    refine r_iconst hC dX11_error_17 ?_
    refine r_iadd hC dX11_error_18 ?_
    obtain ⟨i_5, h⟩ := h
    refine r_iast hC i_5 q_3.1 q_3.2 (by decide) dX11_error_19 ?_
    refine r_nameM h (fun M_6 h => ?_)
    refine r_ldcw hC kc_X11_405 dX11_error_20 ?_
    refine r_iload_n hC 1 dX11_error_23 rfl rfl ?_
    refine r_isub hC dX11_error_24 ?_
    exact r_iret hC (Nat.zero_le _) (Nat.zero_le _) dX11_error_25 ⟨_, rfl, h⟩
theorem dX11_forget_0 : dec cX11_forget 0 1 1 (.aload_n 0) := ⟨by decide +kernel, rfl⟩
theorem dX11_forget_1 : dec cX11_forget 1 3 4 (.getfield 57) := ⟨by decide +kernel, rfl⟩
theorem dX11_forget_4 : dec cX11_forget 4 1 5 (.iconst 0) := ⟨by decide +kernel, rfl⟩
theorem dX11_forget_5 : dec cX11_forget 5 3 8 (.putfield 406) := ⟨by decide +kernel, rfl⟩
theorem dX11_forget_8 : dec cX11_forget 8 1 9 (.aload_n 0) := ⟨by decide +kernel, rfl⟩
theorem dX11_forget_9 : dec cX11_forget 9 3 12 (.getfield 64) := ⟨by decide +kernel, rfl⟩
theorem dX11_forget_12 : dec cX11_forget 12 1 13 (.iconst 0) := ⟨by decide +kernel, rfl⟩
theorem dX11_forget_13 : dec cX11_forget 13 3 16 (.putfield 409) := ⟨by decide +kernel, rfl⟩
theorem dX11_forget_16 : dec cX11_forget 16 1 17 (.return_) := ⟨by decide +kernel, rfl⟩
set_option maxHeartbeats 4000000 in
set_option maxRecDepth 100000 in
theorem mX11_forget (Y : Yx) (hF : Y.2.2.2.2 = true) (l : Launch) (a0 : Nat) (M0 : Mem) (Q : Mem → Prop) (qa0 : 0 < a0 ∧ M0 0 a0 = kO 11) (h : wX11_forget a0 M0 Q) : CT Y l yX11_forget cX11_forget 1 none rmX11_forget [vR Y.1 a0] M0 (QV Q) := by
  unfold wX11_forget at h
  refine ct_intro (by decide) (Nat.le_of_ble_eq_true rfl) ?_
  intro X hXl hC hL0
  have hL := hL0 hF
  change OKX X Y RX11 cX11_forget 1 none rmX11_forget at hC
  change WW X Y 1 rmX11_forget (QV Q) M0 0 0 0 [(0, vR Y.1 a0)] [] M0
  refine r_aload_n hC 0 dX11_forget_0 rfl rfl ?_
  have q_1 : 0 < a0 + 102 ∧ M0 0 (a0 + 102) = kO 6 := lay_f0 (a := a0) hL qa0 fm_11_8
  refine r_getR0 (a' := a0 + 102) hC fg_X11_57 rfl hF fm_11_8 qa0.1 qa0.2 rfl dX11_forget_1 ?_
  refine r_iconst hC dX11_forget_4 ?_
  refine r_putZ hC (Or.inl rfl) fp_X11_406 rfl q_1.1 q_1.2 dX11_forget_5 ?_
  refine r_nameM h (fun M_2 h => ?_)
  refine r_aload_n hC 0 dX11_forget_8 rfl rfl ?_
  have q_3 : 0 < a0 + 107 ∧ M0 0 (a0 + 107) = kO 7 := lay_f0 (a := a0) hL qa0 fm_11_9
  refine r_getR0 (a' := a0 + 107) hC fg_X11_64 rfl hF fm_11_9 qa0.1 qa0.2 rfl dX11_forget_9 ?_
  refine r_iconst hC dX11_forget_12 ?_
  refine r_putZ hC (Or.inl rfl) fp_X11_409 rfl q_3.1 q_3.2 dX11_forget_13 ?_
  refine r_nameM h (fun M_4 h => ?_)
  exact r_vret hC (Nat.zero_le _) (Nat.zero_le _) dX11_forget_16 ⟨rfl, h⟩
theorem dX11_piece_0 : dec cX11_piece 0 1 1 (.iload_n 1) := ⟨by decide +kernel, rfl⟩
theorem dX11_piece_1 : dec cX11_piece 1 3 4 (.sipush 1000) := ⟨by decide +kernel, rfl⟩
theorem dX11_piece_4 : dec cX11_piece 4 1 5 (.idiv) := ⟨by decide +kernel, rfl⟩
theorem dX11_piece_5 : dec cX11_piece 5 2 7 (.istore 5) := ⟨by decide +kernel, rfl⟩
theorem dX11_piece_7 : dec cX11_piece 7 1 8 (.iload_n 1) := ⟨by decide +kernel, rfl⟩
theorem dX11_piece_8 : dec cX11_piece 8 3 11 (.sipush 1000) := ⟨by decide +kernel, rfl⟩
theorem dX11_piece_11 : dec cX11_piece 11 1 12 (.irem) := ⟨by decide +kernel, rfl⟩
theorem dX11_piece_12 : dec cX11_piece 12 2 14 (.bipush 10) := ⟨by decide +kernel, rfl⟩
theorem dX11_piece_14 : dec cX11_piece 14 1 15 (.idiv) := ⟨by decide +kernel, rfl⟩
theorem dX11_piece_15 : dec cX11_piece 15 2 17 (.istore 6) := ⟨by decide +kernel, rfl⟩
theorem dX11_piece_17 : dec cX11_piece 17 1 18 (.iload_n 1) := ⟨by decide +kernel, rfl⟩
theorem dX11_piece_18 : dec cX11_piece 18 3 21 (.ifCond .lt 25) := ⟨by decide +kernel, rfl⟩
theorem dX11_piece_21 : dec cX11_piece 21 2 23 (.iload 5) := ⟨by decide +kernel, rfl⟩
theorem dX11_piece_23 : dec cX11_piece 23 1 24 (.iconst 1) := ⟨by decide +kernel, rfl⟩
theorem dX11_piece_24 : dec cX11_piece 24 2 26 (.bipush 60) := ⟨by decide +kernel, rfl⟩
theorem dX11_piece_26 : dec cX11_piece 26 3 29 (.invokestatic 87) := ⟨by decide +kernel, rfl⟩
theorem dX11_piece_29 : dec cX11_piece 29 3 32 (.ifCond .eq 14) := ⟨by decide +kernel, rfl⟩
theorem dX11_piece_32 : dec cX11_piece 32 2 34 (.iload 6) := ⟨by decide +kernel, rfl⟩
theorem dX11_piece_34 : dec cX11_piece 34 2 36 (.bipush 11) := ⟨by decide +kernel, rfl⟩
theorem dX11_piece_36 : dec cX11_piece 36 3 39 (.if_icmp .gt 7) := ⟨by decide +kernel, rfl⟩
theorem dX11_piece_39 : dec cX11_piece 39 1 40 (.iconst 1) := ⟨by decide +kernel, rfl⟩
theorem dX11_piece_40 : dec cX11_piece 40 3 43 (.goto 4) := ⟨by decide +kernel, rfl⟩
theorem dX11_piece_43 : dec cX11_piece 43 1 44 (.iconst 0) := ⟨by decide +kernel, rfl⟩
theorem dX11_piece_44 : dec cX11_piece 44 2 46 (.istore 7) := ⟨by decide +kernel, rfl⟩
theorem dX11_piece_46 : dec cX11_piece 46 2 48 (.iload 7) := ⟨by decide +kernel, rfl⟩
theorem dX11_piece_48 : dec cX11_piece 48 3 51 (.ifCond .eq 36) := ⟨by decide +kernel, rfl⟩
theorem dX11_piece_51 : dec cX11_piece 51 1 52 (.iload_n 2) := ⟨by decide +kernel, rfl⟩
theorem dX11_piece_52 : dec cX11_piece 52 1 53 (.iconst 0) := ⟨by decide +kernel, rfl⟩
theorem dX11_piece_53 : dec cX11_piece 53 3 56 (.sipush 255) := ⟨by decide +kernel, rfl⟩
theorem dX11_piece_56 : dec cX11_piece 56 3 59 (.invokestatic 87) := ⟨by decide +kernel, rfl⟩
theorem dX11_piece_59 : dec cX11_piece 59 3 62 (.ifCond .eq 25) := ⟨by decide +kernel, rfl⟩
theorem dX11_piece_62 : dec cX11_piece 62 1 63 (.iload_n 3) := ⟨by decide +kernel, rfl⟩
theorem dX11_piece_63 : dec cX11_piece 63 1 64 (.iconst 0) := ⟨by decide +kernel, rfl⟩
theorem dX11_piece_64 : dec cX11_piece 64 3 67 (.sipush 255) := ⟨by decide +kernel, rfl⟩
theorem dX11_piece_67 : dec cX11_piece 67 3 70 (.invokestatic 87) := ⟨by decide +kernel, rfl⟩
theorem dX11_piece_70 : dec cX11_piece 70 3 73 (.ifCond .eq 14) := ⟨by decide +kernel, rfl⟩
theorem dX11_piece_73 : dec cX11_piece 73 2 75 (.iload 4) := ⟨by decide +kernel, rfl⟩
theorem dX11_piece_75 : dec cX11_piece 75 1 76 (.iconst 0) := ⟨by decide +kernel, rfl⟩
theorem dX11_piece_76 : dec cX11_piece 76 2 78 (.bipush 99) := ⟨by decide +kernel, rfl⟩
theorem dX11_piece_78 : dec cX11_piece 78 3 81 (.invokestatic 87) := ⟨by decide +kernel, rfl⟩
theorem dX11_piece_81 : dec cX11_piece 81 3 84 (.ifCond .ne 9) := ⟨by decide +kernel, rfl⟩
theorem dX11_piece_84 : dec cX11_piece 84 1 85 (.aload_n 0) := ⟨by decide +kernel, rfl⟩
theorem dX11_piece_85 : dec cX11_piece 85 1 86 (.iconst 1) := ⟨by decide +kernel, rfl⟩
theorem dX11_piece_86 : dec cX11_piece 86 3 89 (.invokevirtual 91) := ⟨by decide +kernel, rfl⟩
theorem dX11_piece_89 : dec cX11_piece 89 1 90 (.ireturn) := ⟨by decide +kernel, rfl⟩
theorem dX11_piece_90 : dec cX11_piece 90 1 91 (.aload_n 0) := ⟨by decide +kernel, rfl⟩
theorem dX11_piece_91 : dec cX11_piece 91 3 94 (.getfield 10) := ⟨by decide +kernel, rfl⟩
theorem dX11_piece_94 : dec cX11_piece 94 3 97 (.getfield 95) := ⟨by decide +kernel, rfl⟩
theorem dX11_piece_97 : dec cX11_piece 97 2 99 (.bipush 12) := ⟨by decide +kernel, rfl⟩
theorem dX11_piece_99 : dec cX11_piece 99 3 102 (.if_icmp .lt 9) := ⟨by decide +kernel, rfl⟩
theorem dX11_piece_102 : dec cX11_piece 102 1 103 (.aload_n 0) := ⟨by decide +kernel, rfl⟩
theorem dX11_piece_103 : dec cX11_piece 103 1 104 (.iconst 4) := ⟨by decide +kernel, rfl⟩
theorem dX11_piece_104 : dec cX11_piece 104 3 107 (.invokevirtual 91) := ⟨by decide +kernel, rfl⟩
theorem dX11_piece_107 : dec cX11_piece 107 1 108 (.ireturn) := ⟨by decide +kernel, rfl⟩
theorem dX11_piece_108 : dec cX11_piece 108 1 109 (.aload_n 0) := ⟨by decide +kernel, rfl⟩
theorem dX11_piece_109 : dec cX11_piece 109 3 112 (.getfield 10) := ⟨by decide +kernel, rfl⟩
theorem dX11_piece_112 : dec cX11_piece 112 3 115 (.getfield 98) := ⟨by decide +kernel, rfl⟩
theorem dX11_piece_115 : dec cX11_piece 115 1 116 (.aload_n 0) := ⟨by decide +kernel, rfl⟩
theorem dX11_piece_116 : dec cX11_piece 116 3 119 (.getfield 10) := ⟨by decide +kernel, rfl⟩
theorem dX11_piece_119 : dec cX11_piece 119 3 122 (.getfield 95) := ⟨by decide +kernel, rfl⟩
theorem dX11_piece_122 : dec cX11_piece 122 1 123 (.aaload) := ⟨by decide +kernel, rfl⟩
theorem dX11_piece_123 : dec cX11_piece 123 2 125 (.astore 8) := ⟨by decide +kernel, rfl⟩
theorem dX11_piece_125 : dec cX11_piece 125 2 127 (.aload 8) := ⟨by decide +kernel, rfl⟩
theorem dX11_piece_127 : dec cX11_piece 127 2 129 (.iload 5) := ⟨by decide +kernel, rfl⟩
theorem dX11_piece_129 : dec cX11_piece 129 3 132 (.putfield 102) := ⟨by decide +kernel, rfl⟩
theorem dX11_piece_132 : dec cX11_piece 132 2 134 (.aload 8) := ⟨by decide +kernel, rfl⟩
theorem dX11_piece_134 : dec cX11_piece 134 2 136 (.iload 6) := ⟨by decide +kernel, rfl⟩
theorem dX11_piece_136 : dec cX11_piece 136 3 139 (.putfield 107) := ⟨by decide +kernel, rfl⟩
theorem dX11_piece_139 : dec cX11_piece 139 2 141 (.aload 8) := ⟨by decide +kernel, rfl⟩
theorem dX11_piece_141 : dec cX11_piece 141 1 142 (.iload_n 1) := ⟨by decide +kernel, rfl⟩
theorem dX11_piece_142 : dec cX11_piece 142 2 144 (.bipush 10) := ⟨by decide +kernel, rfl⟩
theorem dX11_piece_144 : dec cX11_piece 144 1 145 (.irem) := ⟨by decide +kernel, rfl⟩
theorem dX11_piece_145 : dec cX11_piece 145 3 148 (.putfield 110) := ⟨by decide +kernel, rfl⟩
theorem dX11_piece_148 : dec cX11_piece 148 2 150 (.aload 8) := ⟨by decide +kernel, rfl⟩
theorem dX11_piece_150 : dec cX11_piece 150 1 151 (.iload_n 2) := ⟨by decide +kernel, rfl⟩
theorem dX11_piece_151 : dec cX11_piece 151 3 154 (.putfield 113) := ⟨by decide +kernel, rfl⟩
theorem dX11_piece_154 : dec cX11_piece 154 2 156 (.aload 8) := ⟨by decide +kernel, rfl⟩
theorem dX11_piece_156 : dec cX11_piece 156 1 157 (.iload_n 3) := ⟨by decide +kernel, rfl⟩
theorem dX11_piece_157 : dec cX11_piece 157 3 160 (.putfield 116) := ⟨by decide +kernel, rfl⟩
theorem dX11_piece_160 : dec cX11_piece 160 2 162 (.aload 8) := ⟨by decide +kernel, rfl⟩
theorem dX11_piece_162 : dec cX11_piece 162 2 164 (.iload 4) := ⟨by decide +kernel, rfl⟩
theorem dX11_piece_164 : dec cX11_piece 164 3 167 (.putfield 119) := ⟨by decide +kernel, rfl⟩
theorem dX11_piece_167 : dec cX11_piece 167 1 168 (.aload_n 0) := ⟨by decide +kernel, rfl⟩
theorem dX11_piece_168 : dec cX11_piece 168 3 171 (.invokevirtual 122) := ⟨by decide +kernel, rfl⟩
theorem dX11_piece_171 : dec cX11_piece 171 1 172 (.aload_n 0) := ⟨by decide +kernel, rfl⟩
theorem dX11_piece_172 : dec cX11_piece 172 3 175 (.getfield 10) := ⟨by decide +kernel, rfl⟩
theorem dX11_piece_175 : dec cX11_piece 175 1 176 (.dup) := ⟨by decide +kernel, rfl⟩
theorem dX11_piece_176 : dec cX11_piece 176 3 179 (.getfield 95) := ⟨by decide +kernel, rfl⟩
theorem dX11_piece_179 : dec cX11_piece 179 1 180 (.dup_x1) := ⟨by decide +kernel, rfl⟩
theorem dX11_piece_180 : dec cX11_piece 180 1 181 (.iconst 1) := ⟨by decide +kernel, rfl⟩
theorem dX11_piece_181 : dec cX11_piece 181 1 182 (.iadd) := ⟨by decide +kernel, rfl⟩
theorem dX11_piece_182 : dec cX11_piece 182 3 185 (.putfield 95) := ⟨by decide +kernel, rfl⟩
theorem dX11_piece_185 : dec cX11_piece 185 1 186 (.ireturn) := ⟨by decide +kernel, rfl⟩
set_option maxHeartbeats 4000000 in
set_option maxRecDepth 100000 in
theorem tX11_piece_J84 {X : Cx} {Y : Yx} {M0 : Mem} (hC : OKX X Y RX11 cX11_piece 9 (some .int) rmX11_piece) (hF : Y.2.2.2.2 = true) (hL : Lay M0) (Q : Int → Mem → Prop)   (a0 : Nat) (qa0 : 0 < a0 ∧ M0 0 a0 = kO 11)  (M : Mem) (h : wX11_piece_J84 Q  a0 M) : WW X Y 9 rmX11_piece (QI Q) M0 0 0 84 [(0, vR Y.1 a0)] [] M := by
  unfold wX11_piece_J84 at h
  refine r_aload_n hC 0 dX11_piece_84 rfl rfl ?_
  refine r_iconst hC dX11_piece_85 ?_
  refine r_callV (As := [vI 1]) (st := []) hC cw_X11_91 rfl qa0.1 qa0.2 rfl rfl (Nat.le_of_ble_eq_true rfl) ⟨Nat.le_of_ble_eq_true rfl, Nat.le_of_ble_eq_true rfl⟩ ⟨Nat.le_of_ble_eq_true rfl, Nat.le_of_ble_eq_true rfl⟩ dX11_piece_86 (fun hk => mX11_error Y hF _ _ _ _ _ (kqO hk qa0) h) (fun v M_3 h => ?_)
  obtain ⟨r_4, rfl, h⟩ := h
  exact r_iret hC (Nat.zero_le _) (Nat.zero_le _) dX11_piece_89 ⟨_, rfl, h⟩
set_option maxHeartbeats 4000000 in
set_option maxRecDepth 100000 in
theorem tX11_piece_J44 {X : Cx} {Y : Yx} {M0 : Mem} (hC : OKX X Y RX11 cX11_piece 9 (some .int) rmX11_piece) (hF : Y.2.2.2.2 = true) (hL : Lay M0) (Q : Int → Mem → Prop)   (a0 : Nat) (x1 : Int) (x2 : Int) (x3 : Int) (x4 : Int) (x5 : Int) (x6 : Int) (xs0 : Int) (qa0 : 0 < a0 ∧ M0 0 a0 = kO 11)  (M : Mem) (h : wX11_piece_J44 Q  a0 x1 x2 x3 x4 x5 x6 xs0 M) : WW X Y 9 rmX11_piece (QI Q) M0 0 0 44 [(0, vR Y.1 a0), (1, vI x1), (2, vI x2), (3, vI x3), (4, vI x4), (5, vI x5), (6, vI x6)] [vI xs0] M := by
  unfold wX11_piece_J44 at h
  refine r_istore (lv' := [(7, vI xs0), (0, vR Y.1 a0), (1, vI x1), (2, vI x2), (3, vI x3), (4, vI x4), (5, vI x5), (6, vI x6)]) hC dX11_piece_44 (by decide) rfl ?_
  refine r_iload hC 0 dX11_piece_46 rfl ?_
  refine r_if_eq hC 84 rfl dX11_piece_48 (by decide) (fun cq => ?_) (fun cq => ?_)
  · replace h := h.1 cq
    refine r_sub [1] rfl ?_
    exact tX11_piece_J84 hC hF hL Q   _ qa0  _ h
  · replace h := h.2 cq
    refine r_iload_n hC 3 dX11_piece_51 rfl rfl ?_
    refine r_iconst hC dX11_piece_52 ?_
    refine r_sipush hC (by decide +kernel) dX11_piece_53 ?_
    refine r_callS (As := [vI x2, vI 0, vI 255]) (st := []) hC cw_X11_87 rfl rfl (Nat.le_of_ble_eq_true rfl) ⟨Nat.le_of_ble_eq_true rfl, Nat.le_of_ble_eq_true rfl⟩ ⟨Nat.le_of_ble_eq_true rfl, Nat.le_of_ble_eq_true rfl⟩ dX11_piece_56 (fun hk => mX11_within Y hF _ _ _ _ _ _  h) (fun v M_5 h => ?_)
    obtain ⟨r_6, rfl, h⟩ := h
    refine r_if_eq hC 84 rfl dX11_piece_59 (by decide) (fun cq => ?_) (fun cq => ?_)
    · replace h := h.1 cq
      refine r_sub [1] rfl ?_
      exact tX11_piece_J84 hC hF hL Q   _ qa0  _ h
    · replace h := h.2 cq
      refine r_iload_n hC 4 dX11_piece_62 rfl rfl ?_
      refine r_iconst hC dX11_piece_63 ?_
      refine r_sipush hC (by decide +kernel) dX11_piece_64 ?_
      refine r_callS (As := [vI x3, vI 0, vI 255]) (st := []) hC cw_X11_87 rfl rfl (Nat.le_of_ble_eq_true rfl) ⟨Nat.le_of_ble_eq_true rfl, Nat.le_of_ble_eq_true rfl⟩ ⟨Nat.le_of_ble_eq_true rfl, Nat.le_of_ble_eq_true rfl⟩ dX11_piece_67 (fun hk => mX11_within Y hF _ _ _ _ _ _  h) (fun v M_7 h => ?_)
      obtain ⟨r_8, rfl, h⟩ := h
      refine r_if_eq hC 84 rfl dX11_piece_70 (by decide) (fun cq => ?_) (fun cq => ?_)
      · replace h := h.1 cq
        refine r_sub [1] rfl ?_
        exact tX11_piece_J84 hC hF hL Q   _ qa0  _ h
      · replace h := h.2 cq
        refine r_iload hC 5 dX11_piece_73 rfl ?_
        refine r_iconst hC dX11_piece_75 ?_
        refine r_bipush hC (by decide +kernel) dX11_piece_76 ?_
        refine r_callS (As := [vI x4, vI 0, vI 99]) (st := []) hC cw_X11_87 rfl rfl (Nat.le_of_ble_eq_true rfl) ⟨Nat.le_of_ble_eq_true rfl, Nat.le_of_ble_eq_true rfl⟩ ⟨Nat.le_of_ble_eq_true rfl, Nat.le_of_ble_eq_true rfl⟩ dX11_piece_78 (fun hk => mX11_within Y hF _ _ _ _ _ _  h) (fun v M_9 h => ?_)
        obtain ⟨r_10, rfl, h⟩ := h
        refine r_if_ne hC 90 rfl dX11_piece_81 (by decide) (fun cq => ?_) (fun cq => ?_)
        · replace h := h.2 cq
          refine r_aload_n hC 1 dX11_piece_90 rfl rfl ?_
          have q_11 : 0 < a0 + 1 ∧ M0 0 (a0 + 1) = kO 0 := lay_f0 (a := a0) hL qa0 fm_11_0
          refine r_getR0 (a' := a0 + 1) hC fg_X11_10 rfl hF fm_11_0 qa0.1 qa0.2 rfl dX11_piece_91 ?_
          refine r_getI hC fg_X11_95 rfl q_11.1 q_11.2 dX11_piece_94 ?_
          refine r_bipush hC (by decide +kernel) dX11_piece_97 ?_
          refine r_icmp_lt hC 108 rfl bmL_12 dX11_piece_99 (by decide) (fun cq => ?_) (fun cq => ?_)
          · replace h := h.1 cq
            refine r_aload_n hC 1 dX11_piece_108 rfl rfl ?_
            have q_12 : 0 < a0 + 1 ∧ M0 0 (a0 + 1) = kO 0 := lay_f0 (a := a0) hL qa0 fm_11_0
            refine r_getR0 (a' := a0 + 1) hC fg_X11_10 rfl hF fm_11_0 qa0.1 qa0.2 rfl dX11_piece_109 ?_
            have q_13 : 0 < a0 + 2 ∧ M0 0 (a0 + 2) = kA 4 12 := lay_f0 (a := a0 + 1) hL q_12 fm_0_0
            refine r_getR0 (a' := a0 + 2) hC fg_X11_98 rfl hF fm_0_0 q_12.1 q_12.2 rfl dX11_piece_112 ?_
            refine r_aload_n hC 1 dX11_piece_115 rfl rfl ?_
            have q_14 : 0 < a0 + 1 ∧ M0 0 (a0 + 1) = kO 0 := lay_f0 (a := a0) hL qa0 fm_11_0
            refine r_getR0 (a' := a0 + 1) hC fg_X11_10 rfl hF fm_11_0 qa0.1 qa0.2 rfl dX11_piece_116 ?_
            refine r_getI hC fg_X11_95 rfl q_14.1 q_14.2 dX11_piece_119 ?_
            obtain ⟨i_15, h⟩ := h
            have q_16 : 0 < a0 + 10 + (bm (M_9 (a0 + 1) 1)).toNat ∧ M0 0 (a0 + 10 + (bm (M_9 (a0 + 1) 1)).toNat) = kO 3 := lay_a4 (a := a0 + 2) hL q_13 (inb_nat i_15)
            refine r_aald4 hC hF i_15 q_13.1 q_13.2 dX11_piece_122 ?_
            refine r_astore (lv' := [(8, vR Y.1 (a0 + 10 + (bm (M_9 (a0 + 1) 1)).toNat)), (7, vI xs0), (0, vR Y.1 a0), (1, vI x1), (2, vI x2), (3, vI x3), (4, vI x4), (5, vI x5), (6, vI x6)]) hC dX11_piece_123 (by decide) rfl ?_
            refine r_aload hC 0 dX11_piece_125 rfl ?_
            refine r_iload hC 7 dX11_piece_127 rfl ?_
            refine r_putI hC fp_X11_102 rfl q_16.1 q_16.2 dX11_piece_129 ?_
            refine r_nameM h (fun M_17 h => ?_)
            refine r_aload hC 0 dX11_piece_132 rfl ?_
            refine r_iload hC 8 dX11_piece_134 rfl ?_
            refine r_putI hC fp_X11_107 rfl q_16.1 q_16.2 dX11_piece_136 ?_
            refine r_nameM h (fun M_18 h => ?_)
            refine r_aload hC 0 dX11_piece_139 rfl ?_
            refine r_iload_n hC 3 dX11_piece_141 rfl rfl ?_
            refine r_bipush hC (by decide +kernel) dX11_piece_142 ?_
            refine r_irem hC (by decide +kernel) dX11_piece_144 ?_
            refine r_putI hC fp_X11_110 rfl q_16.1 q_16.2 dX11_piece_145 ?_
            refine r_nameM h (fun M_19 h => ?_)
            refine r_aload hC 0 dX11_piece_148 rfl ?_
            refine r_iload_n hC 4 dX11_piece_150 rfl rfl ?_
            refine r_putI hC fp_X11_113 rfl q_16.1 q_16.2 dX11_piece_151 ?_
            refine r_nameM h (fun M_20 h => ?_)
            refine r_aload hC 0 dX11_piece_154 rfl ?_
            refine r_iload_n hC 5 dX11_piece_156 rfl rfl ?_
            refine r_putI hC fp_X11_116 rfl q_16.1 q_16.2 dX11_piece_157 ?_
            refine r_nameM h (fun M_21 h => ?_)
            refine r_aload hC 0 dX11_piece_160 rfl ?_
            refine r_iload hC 6 dX11_piece_162 rfl ?_
            refine r_putI hC fp_X11_119 rfl q_16.1 q_16.2 dX11_piece_164 ?_
            refine r_nameM h (fun M_22 h => ?_)
            refine r_aload_n hC 2 dX11_piece_167 rfl rfl ?_
            refine r_callV (As := []) (st := []) hC cw_X11_122 rfl qa0.1 qa0.2 rfl rfl (Nat.le_of_ble_eq_true rfl) ⟨Nat.le_of_ble_eq_true rfl, Nat.le_of_ble_eq_true rfl⟩ ⟨Nat.le_of_ble_eq_true rfl, Nat.le_of_ble_eq_true rfl⟩ dX11_piece_168 (fun hk => mX11_forget Y hF _ _ _ _ (kqO hk qa0) h) (fun v M_23 h => ?_)
            obtain ⟨rfl, h⟩ := h
            refine r_aload_n hC 2 dX11_piece_171 rfl rfl ?_
            have q_24 : 0 < a0 + 1 ∧ M0 0 (a0 + 1) = kO 0 := lay_f0 (a := a0) hL qa0 fm_11_0
            refine r_getR0 (a' := a0 + 1) hC fg_X11_10 rfl hF fm_11_0 qa0.1 qa0.2 rfl dX11_piece_172 ?_
            refine r_dup hC rfl dX11_piece_175 ?_
            refine r_getI hC fg_X11_95 rfl q_24.1 q_24.2 dX11_piece_176 ?_
            refine r_dup_x1 hC rfl rfl dX11_piece_179 ?_
            refine r_iconst hC dX11_piece_180 ?_
            refine r_iadd hC dX11_piece_181 ?_
            refine r_putI hC fp_X11_95 rfl q_24.1 q_24.2 dX11_piece_182 ?_
            refine r_nameM h (fun M_25 h => ?_)
            exact r_iret hC (Nat.zero_le _) (Nat.zero_le _) dX11_piece_185 ⟨_, rfl, h⟩
          · replace h := h.2 cq
            refine r_aload_n hC 1 dX11_piece_102 rfl rfl ?_
            refine r_iconst hC dX11_piece_103 ?_
            refine r_callV (As := [vI 4]) (st := []) hC cw_X11_91 rfl qa0.1 qa0.2 rfl rfl (Nat.le_of_ble_eq_true rfl) ⟨Nat.le_of_ble_eq_true rfl, Nat.le_of_ble_eq_true rfl⟩ ⟨Nat.le_of_ble_eq_true rfl, Nat.le_of_ble_eq_true rfl⟩ dX11_piece_104 (fun hk => mX11_error Y hF _ _ _ _ _ (kqO hk qa0) h) (fun v M_26 h => ?_)
            obtain ⟨r_27, rfl, h⟩ := h
            exact r_iret hC (Nat.zero_le _) (Nat.zero_le _) dX11_piece_107 ⟨_, rfl, h⟩
        · replace h := h.1 cq
          refine r_sub [1] rfl ?_
          exact tX11_piece_J84 hC hF hL Q   _ qa0  _ h
set_option maxHeartbeats 4000000 in
set_option maxRecDepth 100000 in
theorem tX11_piece_J43 {X : Cx} {Y : Yx} {M0 : Mem} (hC : OKX X Y RX11 cX11_piece 9 (some .int) rmX11_piece) (hF : Y.2.2.2.2 = true) (hL : Lay M0) (Q : Int → Mem → Prop)   (a0 : Nat) (x1 : Int) (x2 : Int) (x3 : Int) (x4 : Int) (x5 : Int) (x6 : Int) (qa0 : 0 < a0 ∧ M0 0 a0 = kO 11)  (M : Mem) (h : wX11_piece_J43 Q  a0 x1 x2 x3 x4 x5 x6 M) : WW X Y 9 rmX11_piece (QI Q) M0 0 0 43 [(0, vR Y.1 a0), (1, vI x1), (2, vI x2), (3, vI x3), (4, vI x4), (5, vI x5), (6, vI x6)] [] M := by
  unfold wX11_piece_J43 at h
  refine r_iconst hC dX11_piece_43 ?_
  refine r_sub [0, 1, 2, 3, 4, 5, 6] rfl ?_
  exact tX11_piece_J44 hC hF hL Q   _ _ _ _ _ _ _ _ qa0  _ h
set_option maxHeartbeats 4000000 in
set_option maxRecDepth 100000 in
theorem mX11_piece (Y : Yx) (hF : Y.2.2.2.2 = true) (l : Launch) (a0 : Nat) (x1 : Int) (x2 : Int) (x3 : Int) (x4 : Int) (M0 : Mem) (Q : Int → Mem → Prop) (qa0 : 0 < a0 ∧ M0 0 a0 = kO 11) (h : wX11_piece a0 x1 x2 x3 x4 M0 Q) : CT Y l yX11_piece cX11_piece 9 (some .int) rmX11_piece [vR Y.1 a0, vI x1, vI x2, vI x3, vI x4] M0 (QI Q) := by
  unfold wX11_piece at h
  refine ct_intro (by decide) (Nat.le_of_ble_eq_true rfl) ?_
  intro X hXl hC hL0
  have hL := hL0 hF
  change OKX X Y RX11 cX11_piece 9 (some .int) rmX11_piece at hC
  change WW X Y 9 rmX11_piece (QI Q) M0 0 0 0 [(0, vR Y.1 a0), (1, vI x1), (2, vI x2), (3, vI x3), (4, vI x4)] [] M0
  refine r_iload_n hC 1 dX11_piece_0 rfl rfl ?_
  refine r_sipush hC (by decide +kernel) dX11_piece_1 ?_
  refine r_idiv hC (by decide +kernel) dX11_piece_4 ?_
  refine r_nameI h (fun x5_1 h => ?_)
  refine r_istore (lv' := [(5, vI x5_1), (0, vR Y.1 a0), (1, vI x1), (2, vI x2), (3, vI x3), (4, vI x4)]) hC dX11_piece_5 (by decide) rfl ?_
  refine r_iload_n hC 2 dX11_piece_7 rfl rfl ?_
  refine r_sipush hC (by decide +kernel) dX11_piece_8 ?_
  refine r_irem hC (by decide +kernel) dX11_piece_11 ?_
  refine r_bipush hC (by decide +kernel) dX11_piece_12 ?_
  refine r_idiv hC (by decide +kernel) dX11_piece_14 ?_
  refine r_nameI h (fun x6_2 h => ?_)
  refine r_istore (lv' := [(6, vI x6_2), (5, vI x5_1), (0, vR Y.1 a0), (1, vI x1), (2, vI x2), (3, vI x3), (4, vI x4)]) hC dX11_piece_15 (by decide) rfl ?_
  refine r_iload_n hC 3 dX11_piece_17 rfl rfl ?_
  refine r_if_lt hC 43 rfl dX11_piece_18 (by decide) (fun cq => ?_) (fun cq => ?_)
  · replace h := h.1 cq
    refine r_sub [2, 3, 4, 5, 6, 1, 0] rfl ?_
    exact tX11_piece_J43 hC hF hL Q   _ _ _ _ _ _ _ qa0  _ h
  · replace h := h.2 cq
    refine r_iload hC 1 dX11_piece_21 rfl ?_
    refine r_iconst hC dX11_piece_23 ?_
    refine r_bipush hC (by decide +kernel) dX11_piece_24 ?_
    refine r_callS (As := [vI x5_1, vI 1, vI 60]) (st := []) hC cw_X11_87 rfl rfl (Nat.le_of_ble_eq_true rfl) ⟨Nat.le_of_ble_eq_true rfl, Nat.le_of_ble_eq_true rfl⟩ ⟨Nat.le_of_ble_eq_true rfl, Nat.le_of_ble_eq_true rfl⟩ dX11_piece_26 (fun hk => mX11_within Y hF _ _ _ _ _ _  h) (fun v M_28 h => ?_)
    obtain ⟨r_29, rfl, h⟩ := h
    refine r_if_eq hC 43 rfl dX11_piece_29 (by decide) (fun cq => ?_) (fun cq => ?_)
    · replace h := h.1 cq
      refine r_sub [2, 3, 4, 5, 6, 1, 0] rfl ?_
      exact tX11_piece_J43 hC hF hL Q   _ _ _ _ _ _ _ qa0  _ h
    · replace h := h.2 cq
      refine r_iload hC 0 dX11_piece_32 rfl ?_
      refine r_bipush hC (by decide +kernel) dX11_piece_34 ?_
      refine r_icmp_gt hC 43 rfl bmL_11 dX11_piece_36 (by decide) (fun cq => ?_) (fun cq => ?_)
      · replace h := h.1 cq
        refine r_sub [2, 3, 4, 5, 6, 1, 0] rfl ?_
        exact tX11_piece_J43 hC hF hL Q   _ _ _ _ _ _ _ qa0  _ h
      · replace h := h.2 cq
        refine r_iconst hC dX11_piece_39 ?_
        refine r_goto hC 44 dX11_piece_40 (by decide) ?_
        refine r_sub [2, 3, 4, 5, 6, 1, 0] rfl ?_
        exact tX11_piece_J44 hC hF hL Q   _ _ _ _ _ _ _ _ qa0  _ h
theorem dX11_pieceIs_0 : dec cX11_pieceIs 0 1 1 (.iload_n 1) := ⟨by decide +kernel, rfl⟩
theorem dX11_pieceIs_1 : dec cX11_pieceIs 1 1 2 (.iconst 0) := ⟨by decide +kernel, rfl⟩
theorem dX11_pieceIs_2 : dec cX11_pieceIs 2 1 3 (.aload_n 0) := ⟨by decide +kernel, rfl⟩
theorem dX11_pieceIs_3 : dec cX11_pieceIs 3 3 6 (.getfield 10) := ⟨by decide +kernel, rfl⟩
theorem dX11_pieceIs_6 : dec cX11_pieceIs 6 3 9 (.getfield 95) := ⟨by decide +kernel, rfl⟩
theorem dX11_pieceIs_9 : dec cX11_pieceIs 9 1 10 (.iconst 1) := ⟨by decide +kernel, rfl⟩
theorem dX11_pieceIs_10 : dec cX11_pieceIs 10 1 11 (.isub) := ⟨by decide +kernel, rfl⟩
theorem dX11_pieceIs_11 : dec cX11_pieceIs 11 3 14 (.invokestatic 87) := ⟨by decide +kernel, rfl⟩
theorem dX11_pieceIs_14 : dec cX11_pieceIs 14 3 17 (.ifCond .eq 12) := ⟨by decide +kernel, rfl⟩
theorem dX11_pieceIs_17 : dec cX11_pieceIs 17 1 18 (.iload_n 2) := ⟨by decide +kernel, rfl⟩
theorem dX11_pieceIs_18 : dec cX11_pieceIs 18 1 19 (.iconst 0) := ⟨by decide +kernel, rfl⟩
theorem dX11_pieceIs_19 : dec cX11_pieceIs 19 1 20 (.iconst 5) := ⟨by decide +kernel, rfl⟩
theorem dX11_pieceIs_20 : dec cX11_pieceIs 20 3 23 (.invokestatic 87) := ⟨by decide +kernel, rfl⟩
theorem dX11_pieceIs_23 : dec cX11_pieceIs 23 3 26 (.ifCond .ne 9) := ⟨by decide +kernel, rfl⟩
theorem dX11_pieceIs_26 : dec cX11_pieceIs 26 1 27 (.aload_n 0) := ⟨by decide +kernel, rfl⟩
theorem dX11_pieceIs_27 : dec cX11_pieceIs 27 1 28 (.iconst 1) := ⟨by decide +kernel, rfl⟩
theorem dX11_pieceIs_28 : dec cX11_pieceIs 28 3 31 (.invokevirtual 91) := ⟨by decide +kernel, rfl⟩
theorem dX11_pieceIs_31 : dec cX11_pieceIs 31 1 32 (.ireturn) := ⟨by decide +kernel, rfl⟩
theorem dX11_pieceIs_32 : dec cX11_pieceIs 32 1 33 (.aload_n 0) := ⟨by decide +kernel, rfl⟩
theorem dX11_pieceIs_33 : dec cX11_pieceIs 33 3 36 (.getfield 10) := ⟨by decide +kernel, rfl⟩
theorem dX11_pieceIs_36 : dec cX11_pieceIs 36 3 39 (.getfield 98) := ⟨by decide +kernel, rfl⟩
theorem dX11_pieceIs_39 : dec cX11_pieceIs 39 1 40 (.iload_n 1) := ⟨by decide +kernel, rfl⟩
theorem dX11_pieceIs_40 : dec cX11_pieceIs 40 1 41 (.aaload) := ⟨by decide +kernel, rfl⟩
theorem dX11_pieceIs_41 : dec cX11_pieceIs 41 1 42 (.astore_n 3) := ⟨by decide +kernel, rfl⟩
theorem dX11_pieceIs_42 : dec cX11_pieceIs 42 1 43 (.iload_n 2) := ⟨by decide +kernel, rfl⟩
theorem dX11_pieceIs_43 : dec cX11_pieceIs 43 33 76 (.tableswitch 58 0 4 #[33, 38, 43, 48, 53]) := ⟨by decide +kernel, rfl⟩
theorem dX11_pieceIs_76 : dec cX11_pieceIs 76 1 77 (.aload_n 3) := ⟨by decide +kernel, rfl⟩
theorem dX11_pieceIs_77 : dec cX11_pieceIs 77 3 80 (.getfield 102) := ⟨by decide +kernel, rfl⟩
theorem dX11_pieceIs_80 : dec cX11_pieceIs 80 1 81 (.ireturn) := ⟨by decide +kernel, rfl⟩
theorem dX11_pieceIs_81 : dec cX11_pieceIs 81 1 82 (.aload_n 3) := ⟨by decide +kernel, rfl⟩
theorem dX11_pieceIs_82 : dec cX11_pieceIs 82 3 85 (.getfield 107) := ⟨by decide +kernel, rfl⟩
theorem dX11_pieceIs_85 : dec cX11_pieceIs 85 1 86 (.ireturn) := ⟨by decide +kernel, rfl⟩
theorem dX11_pieceIs_86 : dec cX11_pieceIs 86 1 87 (.aload_n 3) := ⟨by decide +kernel, rfl⟩
theorem dX11_pieceIs_87 : dec cX11_pieceIs 87 3 90 (.getfield 110) := ⟨by decide +kernel, rfl⟩
theorem dX11_pieceIs_90 : dec cX11_pieceIs 90 1 91 (.ireturn) := ⟨by decide +kernel, rfl⟩
theorem dX11_pieceIs_91 : dec cX11_pieceIs 91 1 92 (.aload_n 3) := ⟨by decide +kernel, rfl⟩
theorem dX11_pieceIs_92 : dec cX11_pieceIs 92 3 95 (.getfield 113) := ⟨by decide +kernel, rfl⟩
theorem dX11_pieceIs_95 : dec cX11_pieceIs 95 1 96 (.ireturn) := ⟨by decide +kernel, rfl⟩
theorem dX11_pieceIs_96 : dec cX11_pieceIs 96 1 97 (.aload_n 3) := ⟨by decide +kernel, rfl⟩
theorem dX11_pieceIs_97 : dec cX11_pieceIs 97 3 100 (.getfield 116) := ⟨by decide +kernel, rfl⟩
theorem dX11_pieceIs_100 : dec cX11_pieceIs 100 1 101 (.ireturn) := ⟨by decide +kernel, rfl⟩
theorem dX11_pieceIs_101 : dec cX11_pieceIs 101 1 102 (.aload_n 3) := ⟨by decide +kernel, rfl⟩
theorem dX11_pieceIs_102 : dec cX11_pieceIs 102 3 105 (.getfield 119) := ⟨by decide +kernel, rfl⟩
theorem dX11_pieceIs_105 : dec cX11_pieceIs 105 1 106 (.ireturn) := ⟨by decide +kernel, rfl⟩
set_option maxHeartbeats 4000000 in
set_option maxRecDepth 100000 in
theorem tX11_pieceIs_J26 {X : Cx} {Y : Yx} {M0 : Mem} (hC : OKX X Y RX11 cX11_pieceIs 4 (some .int) rmX11_pieceIs) (hF : Y.2.2.2.2 = true) (hL : Lay M0) (Q : Int → Mem → Prop)   (a0 : Nat) (qa0 : 0 < a0 ∧ M0 0 a0 = kO 11)  (M : Mem) (h : wX11_pieceIs_J26 Q  a0 M) : WW X Y 4 rmX11_pieceIs (QI Q) M0 0 0 26 [(0, vR Y.1 a0)] [] M := by
  unfold wX11_pieceIs_J26 at h
  refine r_aload_n hC 0 dX11_pieceIs_26 rfl rfl ?_
  refine r_iconst hC dX11_pieceIs_27 ?_
  refine r_callV (As := [vI 1]) (st := []) hC cw_X11_91 rfl qa0.1 qa0.2 rfl rfl (Nat.le_of_ble_eq_true rfl) ⟨Nat.le_of_ble_eq_true rfl, Nat.le_of_ble_eq_true rfl⟩ ⟨Nat.le_of_ble_eq_true rfl, Nat.le_of_ble_eq_true rfl⟩ dX11_pieceIs_28 (fun hk => mX11_error Y hF _ _ _ _ _ (kqO hk qa0) h) (fun v M_4 h => ?_)
  obtain ⟨r_5, rfl, h⟩ := h
  exact r_iret hC (Nat.zero_le _) (Nat.zero_le _) dX11_pieceIs_31 ⟨_, rfl, h⟩
set_option maxHeartbeats 4000000 in
set_option maxRecDepth 100000 in
theorem mX11_pieceIs (Y : Yx) (hF : Y.2.2.2.2 = true) (l : Launch) (a0 : Nat) (x1 : Int) (x2 : Int) (M0 : Mem) (Q : Int → Mem → Prop) (qa0 : 0 < a0 ∧ M0 0 a0 = kO 11) (h : wX11_pieceIs a0 x1 x2 M0 Q) : CT Y l yX11_pieceIs cX11_pieceIs 4 (some .int) rmX11_pieceIs [vR Y.1 a0, vI x1, vI x2] M0 (QI Q) := by
  unfold wX11_pieceIs at h
  refine ct_intro (by decide) (Nat.le_of_ble_eq_true rfl) ?_
  intro X hXl hC hL0
  have hL := hL0 hF
  change OKX X Y RX11 cX11_pieceIs 4 (some .int) rmX11_pieceIs at hC
  change WW X Y 4 rmX11_pieceIs (QI Q) M0 0 0 0 [(0, vR Y.1 a0), (1, vI x1), (2, vI x2)] [] M0
  refine r_iload_n hC 1 dX11_pieceIs_0 rfl rfl ?_
  refine r_iconst hC dX11_pieceIs_1 ?_
  refine r_aload_n hC 0 dX11_pieceIs_2 rfl rfl ?_
  have q_1 : 0 < a0 + 1 ∧ M0 0 (a0 + 1) = kO 0 := lay_f0 (a := a0) hL qa0 fm_11_0
  refine r_getR0 (a' := a0 + 1) hC fg_X11_10 rfl hF fm_11_0 qa0.1 qa0.2 rfl dX11_pieceIs_3 ?_
  refine r_getI hC fg_X11_95 rfl q_1.1 q_1.2 dX11_pieceIs_6 ?_
  refine r_iconst hC dX11_pieceIs_9 ?_
  refine r_isub hC dX11_pieceIs_10 ?_
  refine r_callS (As := [vI x1, vI 0, vI ((M0 (a0 + 1) 1) - 1)]) (st := []) hC cw_X11_87 rfl rfl (Nat.le_of_ble_eq_true rfl) ⟨Nat.le_of_ble_eq_true rfl, Nat.le_of_ble_eq_true rfl⟩ ⟨Nat.le_of_ble_eq_true rfl, Nat.le_of_ble_eq_true rfl⟩ dX11_pieceIs_11 (fun hk => mX11_within Y hF _ _ _ _ _ _  h) (fun v M_2 h => ?_)
  obtain ⟨r_3, rfl, h⟩ := h
  refine r_if_eq hC 26 rfl dX11_pieceIs_14 (by decide) (fun cq => ?_) (fun cq => ?_)
  · replace h := h.1 cq
    refine r_sub [0] rfl ?_
    exact tX11_pieceIs_J26 hC hF hL Q   _ qa0  _ h
  · replace h := h.2 cq
    refine r_iload_n hC 2 dX11_pieceIs_17 rfl rfl ?_
    refine r_iconst hC dX11_pieceIs_18 ?_
    refine r_iconst hC dX11_pieceIs_19 ?_
    refine r_callS (As := [vI x2, vI 0, vI 5]) (st := []) hC cw_X11_87 rfl rfl (Nat.le_of_ble_eq_true rfl) ⟨Nat.le_of_ble_eq_true rfl, Nat.le_of_ble_eq_true rfl⟩ ⟨Nat.le_of_ble_eq_true rfl, Nat.le_of_ble_eq_true rfl⟩ dX11_pieceIs_20 (fun hk => mX11_within Y hF _ _ _ _ _ _  h) (fun v M_6 h => ?_)
    obtain ⟨r_7, rfl, h⟩ := h
    refine r_if_ne hC 32 rfl dX11_pieceIs_23 (by decide) (fun cq => ?_) (fun cq => ?_)
    · replace h := h.2 cq
      refine r_aload_n hC 0 dX11_pieceIs_32 rfl rfl ?_
      have q_8 : 0 < a0 + 1 ∧ M0 0 (a0 + 1) = kO 0 := lay_f0 (a := a0) hL qa0 fm_11_0
      refine r_getR0 (a' := a0 + 1) hC fg_X11_10 rfl hF fm_11_0 qa0.1 qa0.2 rfl dX11_pieceIs_33 ?_
      have q_9 : 0 < a0 + 2 ∧ M0 0 (a0 + 2) = kA 4 12 := lay_f0 (a := a0 + 1) hL q_8 fm_0_0
      refine r_getR0 (a' := a0 + 2) hC fg_X11_98 rfl hF fm_0_0 q_8.1 q_8.2 rfl dX11_pieceIs_36 ?_
      refine r_iload_n hC 1 dX11_pieceIs_39 rfl rfl ?_
      obtain ⟨i_10, h⟩ := h
      have q_11 : 0 < a0 + 10 + (bm x1).toNat ∧ M0 0 (a0 + 10 + (bm x1).toNat) = kO 3 := lay_a4 (a := a0 + 2) hL q_9 (inb_nat i_10)
      refine r_aald4 hC hF i_10 q_9.1 q_9.2 dX11_pieceIs_40 ?_
      refine r_astore_n (lv' := [(3, vR Y.1 (a0 + 10 + (bm x1).toNat)), (0, vR Y.1 a0), (1, vI x1), (2, vI x2)]) hC dX11_pieceIs_41 rfl (by decide) rfl ?_
      refine r_iload_n hC 3 dX11_pieceIs_42 rfl rfl ?_
      by_cases c0 : bm x2 = 0
      · replace h := h.1 c0
        refine r_tabIn hC 76 0 dX11_pieceIs_43 c0 (by decide) (by decide) rfl (by decide) ?_
        refine r_aload_n hC 0 dX11_pieceIs_76 rfl rfl ?_
        refine r_getI hC fg_X11_102 rfl q_11.1 q_11.2 dX11_pieceIs_77 ?_
        exact r_iret hC (Nat.zero_le _) (Nat.zero_le _) dX11_pieceIs_80 ⟨_, rfl, h⟩
      · replace h := h.2 c0
        by_cases c1 : bm x2 = 1
        · replace h := h.1 c1
          refine r_tabIn hC 81 1 dX11_pieceIs_43 c1 (by decide) (by decide) rfl (by decide) ?_
          refine r_aload_n hC 0 dX11_pieceIs_81 rfl rfl ?_
          refine r_getI hC fg_X11_107 rfl q_11.1 q_11.2 dX11_pieceIs_82 ?_
          exact r_iret hC (Nat.zero_le _) (Nat.zero_le _) dX11_pieceIs_85 ⟨_, rfl, h⟩
        · replace h := h.2 c1
          by_cases c2 : bm x2 = 2
          · replace h := h.1 c2
            refine r_tabIn hC 86 2 dX11_pieceIs_43 c2 (by decide) (by decide) rfl (by decide) ?_
            refine r_aload_n hC 0 dX11_pieceIs_86 rfl rfl ?_
            refine r_getI hC fg_X11_110 rfl q_11.1 q_11.2 dX11_pieceIs_87 ?_
            exact r_iret hC (Nat.zero_le _) (Nat.zero_le _) dX11_pieceIs_90 ⟨_, rfl, h⟩
          · replace h := h.2 c2
            by_cases c3 : bm x2 = 3
            · replace h := h.1 c3
              refine r_tabIn hC 91 3 dX11_pieceIs_43 c3 (by decide) (by decide) rfl (by decide) ?_
              refine r_aload_n hC 0 dX11_pieceIs_91 rfl rfl ?_
              refine r_getI hC fg_X11_113 rfl q_11.1 q_11.2 dX11_pieceIs_92 ?_
              exact r_iret hC (Nat.zero_le _) (Nat.zero_le _) dX11_pieceIs_95 ⟨_, rfl, h⟩
            · replace h := h.2 c3
              by_cases c4 : bm x2 = 4
              · replace h := h.1 c4
                refine r_tabIn hC 96 4 dX11_pieceIs_43 c4 (by decide) (by decide) rfl (by decide) ?_
                refine r_aload_n hC 0 dX11_pieceIs_96 rfl rfl ?_
                refine r_getI hC fg_X11_116 rfl q_11.1 q_11.2 dX11_pieceIs_97 ?_
                exact r_iret hC (Nat.zero_le _) (Nat.zero_le _) dX11_pieceIs_100 ⟨_, rfl, h⟩
              · replace h := h.2 c4
                refine r_tabOut hC 101 dX11_pieceIs_43 (by omega) (by decide) ?_
                refine r_aload_n hC 0 dX11_pieceIs_101 rfl rfl ?_
                refine r_getI hC fg_X11_119 rfl q_11.1 q_11.2 dX11_pieceIs_102 ?_
                exact r_iret hC (Nat.zero_le _) (Nat.zero_le _) dX11_pieceIs_105 ⟨_, rfl, h⟩
    · replace h := h.1 cq
      refine r_sub [0] rfl ?_
      exact tX11_pieceIs_J26 hC hF hL Q   _ qa0  _ h
theorem dX11_rule_0 : dec cX11_rule 0 1 1 (.iload_n 1) := ⟨by decide +kernel, rfl⟩
theorem dX11_rule_1 : dec cX11_rule 1 1 2 (.iconst 0) := ⟨by decide +kernel, rfl⟩
theorem dX11_rule_2 : dec cX11_rule 2 1 3 (.iconst 3) := ⟨by decide +kernel, rfl⟩
theorem dX11_rule_3 : dec cX11_rule 3 3 6 (.invokestatic 87) := ⟨by decide +kernel, rfl⟩
theorem dX11_rule_6 : dec cX11_rule 6 3 9 (.ifCond .eq 16) := ⟨by decide +kernel, rfl⟩
theorem dX11_rule_9 : dec cX11_rule 9 1 10 (.iload_n 2) := ⟨by decide +kernel, rfl⟩
theorem dX11_rule_10 : dec cX11_rule 10 1 11 (.iconst 0) := ⟨by decide +kernel, rfl⟩
theorem dX11_rule_11 : dec cX11_rule 11 3 14 (.getstatic 125) := ⟨by decide +kernel, rfl⟩
theorem dX11_rule_14 : dec cX11_rule 14 1 15 (.iload_n 1) := ⟨by decide +kernel, rfl⟩
theorem dX11_rule_15 : dec cX11_rule 15 1 16 (.iaload) := ⟨by decide +kernel, rfl⟩
theorem dX11_rule_16 : dec cX11_rule 16 3 19 (.invokestatic 87) := ⟨by decide +kernel, rfl⟩
theorem dX11_rule_19 : dec cX11_rule 19 3 22 (.ifCond .ne 9) := ⟨by decide +kernel, rfl⟩
theorem dX11_rule_22 : dec cX11_rule 22 1 23 (.aload_n 0) := ⟨by decide +kernel, rfl⟩
theorem dX11_rule_23 : dec cX11_rule 23 1 24 (.iconst 1) := ⟨by decide +kernel, rfl⟩
theorem dX11_rule_24 : dec cX11_rule 24 3 27 (.invokevirtual 91) := ⟨by decide +kernel, rfl⟩
theorem dX11_rule_27 : dec cX11_rule 27 1 28 (.ireturn) := ⟨by decide +kernel, rfl⟩
theorem dX11_rule_28 : dec cX11_rule 28 1 29 (.aload_n 0) := ⟨by decide +kernel, rfl⟩
theorem dX11_rule_29 : dec cX11_rule 29 3 32 (.getfield 10) := ⟨by decide +kernel, rfl⟩
theorem dX11_rule_32 : dec cX11_rule 32 3 35 (.getfield 128) := ⟨by decide +kernel, rfl⟩
theorem dX11_rule_35 : dec cX11_rule 35 1 36 (.iload_n 1) := ⟨by decide +kernel, rfl⟩
theorem dX11_rule_36 : dec cX11_rule 36 1 37 (.iaload) := ⟨by decide +kernel, rfl⟩
theorem dX11_rule_37 : dec cX11_rule 37 1 38 (.istore_n 3) := ⟨by decide +kernel, rfl⟩
theorem dX11_rule_38 : dec cX11_rule 38 1 39 (.aload_n 0) := ⟨by decide +kernel, rfl⟩
theorem dX11_rule_39 : dec cX11_rule 39 3 42 (.getfield 10) := ⟨by decide +kernel, rfl⟩
theorem dX11_rule_42 : dec cX11_rule 42 3 45 (.getfield 128) := ⟨by decide +kernel, rfl⟩
theorem dX11_rule_45 : dec cX11_rule 45 1 46 (.iload_n 1) := ⟨by decide +kernel, rfl⟩
theorem dX11_rule_46 : dec cX11_rule 46 1 47 (.iload_n 2) := ⟨by decide +kernel, rfl⟩
theorem dX11_rule_47 : dec cX11_rule 47 1 48 (.iastore) := ⟨by decide +kernel, rfl⟩
theorem dX11_rule_48 : dec cX11_rule 48 1 49 (.aload_n 0) := ⟨by decide +kernel, rfl⟩
theorem dX11_rule_49 : dec cX11_rule 49 3 52 (.invokevirtual 122) := ⟨by decide +kernel, rfl⟩
theorem dX11_rule_52 : dec cX11_rule 52 1 53 (.iload_n 3) := ⟨by decide +kernel, rfl⟩
theorem dX11_rule_53 : dec cX11_rule 53 1 54 (.ireturn) := ⟨by decide +kernel, rfl⟩
set_option maxHeartbeats 4000000 in
set_option maxRecDepth 100000 in
theorem tX11_rule_J22 {X : Cx} {Y : Yx} {M0 : Mem} (hC : OKX X Y RX11 cX11_rule 4 (some .int) rmX11_rule) (hF : Y.2.2.2.2 = true) (hL : Lay M0) (Q : Int → Mem → Prop)   (a0 : Nat) (qa0 : 0 < a0 ∧ M0 0 a0 = kO 11)  (M : Mem) (h : wX11_rule_J22 Q  a0 M) : WW X Y 4 rmX11_rule (QI Q) M0 0 0 22 [(0, vR Y.1 a0)] [] M := by
  unfold wX11_rule_J22 at h
  refine r_aload_n hC 0 dX11_rule_22 rfl rfl ?_
  refine r_iconst hC dX11_rule_23 ?_
  refine r_callV (As := [vI 1]) (st := []) hC cw_X11_91 rfl qa0.1 qa0.2 rfl rfl (Nat.le_of_ble_eq_true rfl) ⟨Nat.le_of_ble_eq_true rfl, Nat.le_of_ble_eq_true rfl⟩ ⟨Nat.le_of_ble_eq_true rfl, Nat.le_of_ble_eq_true rfl⟩ dX11_rule_24 (fun hk => mX11_error Y hF _ _ _ _ _ (kqO hk qa0) h) (fun v M_3 h => ?_)
  obtain ⟨r_4, rfl, h⟩ := h
  exact r_iret hC (Nat.zero_le _) (Nat.zero_le _) dX11_rule_27 ⟨_, rfl, h⟩
set_option maxHeartbeats 4000000 in
set_option maxRecDepth 100000 in
theorem mX11_rule (Y : Yx) (hF : Y.2.2.2.2 = true) (l : Launch) (a0 : Nat) (x1 : Int) (x2 : Int) (M0 : Mem) (Q : Int → Mem → Prop) (qa0 : 0 < a0 ∧ M0 0 a0 = kO 11) (h : wX11_rule a0 x1 x2 M0 Q) : CT Y l yX11_rule cX11_rule 4 (some .int) rmX11_rule [vR Y.1 a0, vI x1, vI x2] M0 (QI Q) := by
  unfold wX11_rule at h
  refine ct_intro (by decide) (Nat.le_of_ble_eq_true rfl) ?_
  intro X hXl hC hL0
  have hL := hL0 hF
  change OKX X Y RX11 cX11_rule 4 (some .int) rmX11_rule at hC
  change WW X Y 4 rmX11_rule (QI Q) M0 0 0 0 [(0, vR Y.1 a0), (1, vI x1), (2, vI x2)] [] M0
  refine r_iload_n hC 1 dX11_rule_0 rfl rfl ?_
  refine r_iconst hC dX11_rule_1 ?_
  refine r_iconst hC dX11_rule_2 ?_
  refine r_callS (As := [vI x1, vI 0, vI 3]) (st := []) hC cw_X11_87 rfl rfl (Nat.le_of_ble_eq_true rfl) ⟨Nat.le_of_ble_eq_true rfl, Nat.le_of_ble_eq_true rfl⟩ ⟨Nat.le_of_ble_eq_true rfl, Nat.le_of_ble_eq_true rfl⟩ dX11_rule_3 (fun hk => mX11_within Y hF _ _ _ _ _ _  h) (fun v M_1 h => ?_)
  obtain ⟨r_2, rfl, h⟩ := h
  refine r_if_eq hC 22 rfl dX11_rule_6 (by decide) (fun cq => ?_) (fun cq => ?_)
  · replace h := h.1 cq
    refine r_sub [0] rfl ?_
    exact tX11_rule_J22 hC hF hL Q   _ qa0  _ h
  · replace h := h.2 cq
    refine r_iload_n hC 2 dX11_rule_9 rfl rfl ?_
    refine r_iconst hC dX11_rule_10 ?_
    refine r_tab (i := 0) hC (by decide) tw_X11_125 dX11_rule_11 ?_
    refine r_iload_n hC 1 dX11_rule_14 rfl rfl ?_
    obtain ⟨i_5, h⟩ := h
    refine r_tabld hC (by decide) i_5 dX11_rule_15 ?_
    refine r_callS (As := [vI x2, vI 0, vI (tabV 0 x1)]) (st := []) hC cw_X11_87 rfl rfl (Nat.le_of_ble_eq_true rfl) ⟨Nat.le_of_ble_eq_true rfl, Nat.le_of_ble_eq_true rfl⟩ ⟨Nat.le_of_ble_eq_true rfl, Nat.le_of_ble_eq_true rfl⟩ dX11_rule_16 (fun hk => mX11_within Y hF _ _ _ _ _ _  h) (fun v M_6 h => ?_)
    obtain ⟨r_7, rfl, h⟩ := h
    refine r_if_ne hC 28 rfl dX11_rule_19 (by decide) (fun cq => ?_) (fun cq => ?_)
    · replace h := h.2 cq
      refine r_aload_n hC 0 dX11_rule_28 rfl rfl ?_
      have q_8 : 0 < a0 + 1 ∧ M0 0 (a0 + 1) = kO 0 := lay_f0 (a := a0) hL qa0 fm_11_0
      refine r_getR0 (a' := a0 + 1) hC fg_X11_10 rfl hF fm_11_0 qa0.1 qa0.2 rfl dX11_rule_29 ?_
      have q_9 : 0 < a0 + 3 ∧ M0 0 (a0 + 3) = kA 0 4 := lay_f0 (a := a0 + 1) hL q_8 fm_0_2
      refine r_getR0 (a' := a0 + 3) hC fg_X11_128 rfl hF fm_0_2 q_8.1 q_8.2 rfl dX11_rule_32 ?_
      refine r_iload_n hC 1 dX11_rule_35 rfl rfl ?_
      obtain ⟨i_10, h⟩ := h
      refine r_iald hC i_10 q_9.1 q_9.2 (by decide) dX11_rule_36 ?_
      refine r_nameI h (fun x3_11 h => ?_)
      refine r_istore_n (lv' := [(3, vI x3_11), (0, vR Y.1 a0), (1, vI x1), (2, vI x2)]) hC dX11_rule_37 rfl (by decide) rfl ?_
      refine r_aload_n hC 1 dX11_rule_38 rfl rfl ?_
      have q_12 : 0 < a0 + 1 ∧ M0 0 (a0 + 1) = kO 0 := lay_f0 (a := a0) hL qa0 fm_11_0
      refine r_getR0 (a' := a0 + 1) hC fg_X11_10 rfl hF fm_11_0 qa0.1 qa0.2 rfl dX11_rule_39 ?_
      have q_13 : 0 < a0 + 3 ∧ M0 0 (a0 + 3) = kA 0 4 := lay_f0 (a := a0 + 1) hL q_12 fm_0_2
      refine r_getR0 (a' := a0 + 3) hC fg_X11_128 rfl hF fm_0_2 q_12.1 q_12.2 rfl dX11_rule_42 ?_
      refine r_iload_n hC 2 dX11_rule_45 rfl rfl ?_
      refine r_iload_n hC 3 dX11_rule_46 rfl rfl ?_
      obtain ⟨i_14, h⟩ := h
      refine r_iast hC i_14 q_13.1 q_13.2 (by decide) dX11_rule_47 ?_
      refine r_nameM h (fun M_15 h => ?_)
      refine r_aload_n hC 1 dX11_rule_48 rfl rfl ?_
      refine r_callV (As := []) (st := []) hC cw_X11_122 rfl qa0.1 qa0.2 rfl rfl (Nat.le_of_ble_eq_true rfl) ⟨Nat.le_of_ble_eq_true rfl, Nat.le_of_ble_eq_true rfl⟩ ⟨Nat.le_of_ble_eq_true rfl, Nat.le_of_ble_eq_true rfl⟩ dX11_rule_49 (fun hk => mX11_forget Y hF _ _ _ _ (kqO hk qa0) h) (fun v M_16 h => ?_)
      obtain ⟨rfl, h⟩ := h
      refine r_iload_n hC 0 dX11_rule_52 rfl rfl ?_
      exact r_iret hC (Nat.zero_le _) (Nat.zero_le _) dX11_rule_53 ⟨_, rfl, h⟩
    · replace h := h.1 cq
      refine r_sub [0] rfl ?_
      exact tX11_rule_J22 hC hF hL Q   _ qa0  _ h
theorem dX11_liking_0 : dec cX11_liking 0 1 1 (.iload_n 1) := ⟨by decide +kernel, rfl⟩
theorem dX11_liking_1 : dec cX11_liking 1 1 2 (.iconst 0) := ⟨by decide +kernel, rfl⟩
theorem dX11_liking_2 : dec cX11_liking 2 2 4 (.bipush 6) := ⟨by decide +kernel, rfl⟩
theorem dX11_liking_4 : dec cX11_liking 4 3 7 (.invokestatic 87) := ⟨by decide +kernel, rfl⟩
theorem dX11_liking_7 : dec cX11_liking 7 3 10 (.ifCond .eq 24) := ⟨by decide +kernel, rfl⟩
theorem dX11_liking_10 : dec cX11_liking 10 1 11 (.iload_n 2) := ⟨by decide +kernel, rfl⟩
theorem dX11_liking_11 : dec cX11_liking 11 2 13 (.bipush (-9)) := ⟨by decide +kernel, rfl⟩
theorem dX11_liking_13 : dec cX11_liking 13 2 15 (.bipush 9) := ⟨by decide +kernel, rfl⟩
theorem dX11_liking_15 : dec cX11_liking 15 3 18 (.invokestatic 87) := ⟨by decide +kernel, rfl⟩
theorem dX11_liking_18 : dec cX11_liking 18 3 21 (.ifCond .eq 13) := ⟨by decide +kernel, rfl⟩
theorem dX11_liking_21 : dec cX11_liking 21 1 22 (.iload_n 3) := ⟨by decide +kernel, rfl⟩
theorem dX11_liking_22 : dec cX11_liking 22 1 23 (.iconst 1) := ⟨by decide +kernel, rfl⟩
theorem dX11_liking_23 : dec cX11_liking 23 2 25 (.bipush 9) := ⟨by decide +kernel, rfl⟩
theorem dX11_liking_25 : dec cX11_liking 25 3 28 (.invokestatic 87) := ⟨by decide +kernel, rfl⟩
theorem dX11_liking_28 : dec cX11_liking 28 3 31 (.ifCond .ne 9) := ⟨by decide +kernel, rfl⟩
theorem dX11_liking_31 : dec cX11_liking 31 1 32 (.aload_n 0) := ⟨by decide +kernel, rfl⟩
theorem dX11_liking_32 : dec cX11_liking 32 1 33 (.iconst 1) := ⟨by decide +kernel, rfl⟩
theorem dX11_liking_33 : dec cX11_liking 33 3 36 (.invokevirtual 91) := ⟨by decide +kernel, rfl⟩
theorem dX11_liking_36 : dec cX11_liking 36 1 37 (.ireturn) := ⟨by decide +kernel, rfl⟩
theorem dX11_liking_37 : dec cX11_liking 37 1 38 (.aload_n 0) := ⟨by decide +kernel, rfl⟩
theorem dX11_liking_38 : dec cX11_liking 38 3 41 (.getfield 10) := ⟨by decide +kernel, rfl⟩
theorem dX11_liking_41 : dec cX11_liking 41 3 44 (.getfield 131) := ⟨by decide +kernel, rfl⟩
theorem dX11_liking_44 : dec cX11_liking 44 2 46 (.bipush 10) := ⟨by decide +kernel, rfl⟩
theorem dX11_liking_46 : dec cX11_liking 46 3 49 (.if_icmp .lt 9) := ⟨by decide +kernel, rfl⟩
theorem dX11_liking_49 : dec cX11_liking 49 1 50 (.aload_n 0) := ⟨by decide +kernel, rfl⟩
theorem dX11_liking_50 : dec cX11_liking 50 1 51 (.iconst 4) := ⟨by decide +kernel, rfl⟩
theorem dX11_liking_51 : dec cX11_liking 51 3 54 (.invokevirtual 91) := ⟨by decide +kernel, rfl⟩
theorem dX11_liking_54 : dec cX11_liking 54 1 55 (.ireturn) := ⟨by decide +kernel, rfl⟩
theorem dX11_liking_55 : dec cX11_liking 55 1 56 (.aload_n 0) := ⟨by decide +kernel, rfl⟩
theorem dX11_liking_56 : dec cX11_liking 56 3 59 (.getfield 10) := ⟨by decide +kernel, rfl⟩
theorem dX11_liking_59 : dec cX11_liking 59 3 62 (.getfield 134) := ⟨by decide +kernel, rfl⟩
theorem dX11_liking_62 : dec cX11_liking 62 1 63 (.aload_n 0) := ⟨by decide +kernel, rfl⟩
theorem dX11_liking_63 : dec cX11_liking 63 3 66 (.getfield 10) := ⟨by decide +kernel, rfl⟩
theorem dX11_liking_66 : dec cX11_liking 66 3 69 (.getfield 131) := ⟨by decide +kernel, rfl⟩
theorem dX11_liking_69 : dec cX11_liking 69 1 70 (.aaload) := ⟨by decide +kernel, rfl⟩
theorem dX11_liking_70 : dec cX11_liking 70 1 71 (.iload_n 1) := ⟨by decide +kernel, rfl⟩
theorem dX11_liking_71 : dec cX11_liking 71 1 72 (.iload_n 2) := ⟨by decide +kernel, rfl⟩
theorem dX11_liking_72 : dec cX11_liking 72 1 73 (.iload_n 3) := ⟨by decide +kernel, rfl⟩
theorem dX11_liking_73 : dec cX11_liking 73 3 76 (.invokevirtual 138) := ⟨by decide +kernel, rfl⟩
theorem dX11_liking_76 : dec cX11_liking 76 1 77 (.aload_n 0) := ⟨by decide +kernel, rfl⟩
theorem dX11_liking_77 : dec cX11_liking 77 3 80 (.invokevirtual 122) := ⟨by decide +kernel, rfl⟩
theorem dX11_liking_80 : dec cX11_liking 80 1 81 (.aload_n 0) := ⟨by decide +kernel, rfl⟩
theorem dX11_liking_81 : dec cX11_liking 81 3 84 (.getfield 10) := ⟨by decide +kernel, rfl⟩
theorem dX11_liking_84 : dec cX11_liking 84 1 85 (.dup) := ⟨by decide +kernel, rfl⟩
theorem dX11_liking_85 : dec cX11_liking 85 3 88 (.getfield 131) := ⟨by decide +kernel, rfl⟩
theorem dX11_liking_88 : dec cX11_liking 88 1 89 (.dup_x1) := ⟨by decide +kernel, rfl⟩
theorem dX11_liking_89 : dec cX11_liking 89 1 90 (.iconst 1) := ⟨by decide +kernel, rfl⟩
theorem dX11_liking_90 : dec cX11_liking 90 1 91 (.iadd) := ⟨by decide +kernel, rfl⟩
theorem dX11_liking_91 : dec cX11_liking 91 3 94 (.putfield 131) := ⟨by decide +kernel, rfl⟩
theorem dX11_liking_94 : dec cX11_liking 94 1 95 (.ireturn) := ⟨by decide +kernel, rfl⟩
set_option maxHeartbeats 4000000 in
set_option maxRecDepth 100000 in
theorem tX11_liking_J31 {X : Cx} {Y : Yx} {M0 : Mem} (hC : OKX X Y RX11 cX11_liking 4 (some .int) rmX11_liking) (hF : Y.2.2.2.2 = true) (hL : Lay M0) (Q : Int → Mem → Prop)   (a0 : Nat) (qa0 : 0 < a0 ∧ M0 0 a0 = kO 11)  (M : Mem) (h : wX11_liking_J31 Q  a0 M) : WW X Y 4 rmX11_liking (QI Q) M0 0 0 31 [(0, vR Y.1 a0)] [] M := by
  unfold wX11_liking_J31 at h
  refine r_aload_n hC 0 dX11_liking_31 rfl rfl ?_
  refine r_iconst hC dX11_liking_32 ?_
  refine r_callV (As := [vI 1]) (st := []) hC cw_X11_91 rfl qa0.1 qa0.2 rfl rfl (Nat.le_of_ble_eq_true rfl) ⟨Nat.le_of_ble_eq_true rfl, Nat.le_of_ble_eq_true rfl⟩ ⟨Nat.le_of_ble_eq_true rfl, Nat.le_of_ble_eq_true rfl⟩ dX11_liking_33 (fun hk => mX11_error Y hF _ _ _ _ _ (kqO hk qa0) h) (fun v M_3 h => ?_)
  obtain ⟨r_4, rfl, h⟩ := h
  exact r_iret hC (Nat.zero_le _) (Nat.zero_le _) dX11_liking_36 ⟨_, rfl, h⟩
set_option maxHeartbeats 4000000 in
set_option maxRecDepth 100000 in
theorem mX11_liking (Y : Yx) (hF : Y.2.2.2.2 = true) (l : Launch) (a0 : Nat) (x1 : Int) (x2 : Int) (x3 : Int) (M0 : Mem) (Q : Int → Mem → Prop) (qa0 : 0 < a0 ∧ M0 0 a0 = kO 11) (h : wX11_liking a0 x1 x2 x3 M0 Q) : CT Y l yX11_liking cX11_liking 4 (some .int) rmX11_liking [vR Y.1 a0, vI x1, vI x2, vI x3] M0 (QI Q) := by
  unfold wX11_liking at h
  refine ct_intro (by decide) (Nat.le_of_ble_eq_true rfl) ?_
  intro X hXl hC hL0
  have hL := hL0 hF
  change OKX X Y RX11 cX11_liking 4 (some .int) rmX11_liking at hC
  change WW X Y 4 rmX11_liking (QI Q) M0 0 0 0 [(0, vR Y.1 a0), (1, vI x1), (2, vI x2), (3, vI x3)] [] M0
  refine r_iload_n hC 1 dX11_liking_0 rfl rfl ?_
  refine r_iconst hC dX11_liking_1 ?_
  refine r_bipush hC (by decide +kernel) dX11_liking_2 ?_
  refine r_callS (As := [vI x1, vI 0, vI 6]) (st := []) hC cw_X11_87 rfl rfl (Nat.le_of_ble_eq_true rfl) ⟨Nat.le_of_ble_eq_true rfl, Nat.le_of_ble_eq_true rfl⟩ ⟨Nat.le_of_ble_eq_true rfl, Nat.le_of_ble_eq_true rfl⟩ dX11_liking_4 (fun hk => mX11_within Y hF _ _ _ _ _ _  h) (fun v M_1 h => ?_)
  obtain ⟨r_2, rfl, h⟩ := h
  refine r_if_eq hC 31 rfl dX11_liking_7 (by decide) (fun cq => ?_) (fun cq => ?_)
  · replace h := h.1 cq
    refine r_sub [0] rfl ?_
    exact tX11_liking_J31 hC hF hL Q   _ qa0  _ h
  · replace h := h.2 cq
    refine r_iload_n hC 2 dX11_liking_10 rfl rfl ?_
    refine r_bipush hC (by decide +kernel) dX11_liking_11 ?_
    refine r_bipush hC (by decide +kernel) dX11_liking_13 ?_
    refine r_callS (As := [vI x2, vI ((-9)), vI 9]) (st := []) hC cw_X11_87 rfl rfl (Nat.le_of_ble_eq_true rfl) ⟨Nat.le_of_ble_eq_true rfl, Nat.le_of_ble_eq_true rfl⟩ ⟨Nat.le_of_ble_eq_true rfl, Nat.le_of_ble_eq_true rfl⟩ dX11_liking_15 (fun hk => mX11_within Y hF _ _ _ _ _ _  h) (fun v M_5 h => ?_)
    obtain ⟨r_6, rfl, h⟩ := h
    refine r_if_eq hC 31 rfl dX11_liking_18 (by decide) (fun cq => ?_) (fun cq => ?_)
    · replace h := h.1 cq
      refine r_sub [0] rfl ?_
      exact tX11_liking_J31 hC hF hL Q   _ qa0  _ h
    · replace h := h.2 cq
      refine r_iload_n hC 3 dX11_liking_21 rfl rfl ?_
      refine r_iconst hC dX11_liking_22 ?_
      refine r_bipush hC (by decide +kernel) dX11_liking_23 ?_
      refine r_callS (As := [vI x3, vI 1, vI 9]) (st := []) hC cw_X11_87 rfl rfl (Nat.le_of_ble_eq_true rfl) ⟨Nat.le_of_ble_eq_true rfl, Nat.le_of_ble_eq_true rfl⟩ ⟨Nat.le_of_ble_eq_true rfl, Nat.le_of_ble_eq_true rfl⟩ dX11_liking_25 (fun hk => mX11_within Y hF _ _ _ _ _ _  h) (fun v M_7 h => ?_)
      obtain ⟨r_8, rfl, h⟩ := h
      refine r_if_ne hC 37 rfl dX11_liking_28 (by decide) (fun cq => ?_) (fun cq => ?_)
      · replace h := h.2 cq
        refine r_aload_n hC 0 dX11_liking_37 rfl rfl ?_
        have q_9 : 0 < a0 + 1 ∧ M0 0 (a0 + 1) = kO 0 := lay_f0 (a := a0) hL qa0 fm_11_0
        refine r_getR0 (a' := a0 + 1) hC fg_X11_10 rfl hF fm_11_0 qa0.1 qa0.2 rfl dX11_liking_38 ?_
        refine r_getI hC fg_X11_131 rfl q_9.1 q_9.2 dX11_liking_41 ?_
        refine r_bipush hC (by decide +kernel) dX11_liking_44 ?_
        refine r_icmp_lt hC 55 rfl bmL_10 dX11_liking_46 (by decide) (fun cq => ?_) (fun cq => ?_)
        · replace h := h.1 cq
          refine r_aload_n hC 0 dX11_liking_55 rfl rfl ?_
          have q_10 : 0 < a0 + 1 ∧ M0 0 (a0 + 1) = kO 0 := lay_f0 (a := a0) hL qa0 fm_11_0
          refine r_getR0 (a' := a0 + 1) hC fg_X11_10 rfl hF fm_11_0 qa0.1 qa0.2 rfl dX11_liking_56 ?_
          have q_11 : 0 < a0 + 4 ∧ M0 0 (a0 + 4) = kA 5 10 := lay_f0 (a := a0 + 1) hL q_10 fm_0_3
          refine r_getR0 (a' := a0 + 4) hC fg_X11_134 rfl hF fm_0_3 q_10.1 q_10.2 rfl dX11_liking_59 ?_
          refine r_aload_n hC 0 dX11_liking_62 rfl rfl ?_
          have q_12 : 0 < a0 + 1 ∧ M0 0 (a0 + 1) = kO 0 := lay_f0 (a := a0) hL qa0 fm_11_0
          refine r_getR0 (a' := a0 + 1) hC fg_X11_10 rfl hF fm_11_0 qa0.1 qa0.2 rfl dX11_liking_63 ?_
          refine r_getI hC fg_X11_131 rfl q_12.1 q_12.2 dX11_liking_66 ?_
          obtain ⟨i_13, h⟩ := h
          have q_14 : 0 < a0 + 22 + 2 * (bm (M_7 (a0 + 1) 4)).toNat ∧ M0 0 (a0 + 22 + 2 * (bm (M_7 (a0 + 1) 4)).toNat) = kO 1 := lay_a5 (a := a0 + 4) hL q_11 (inb_nat i_13)
          refine r_aald5 hC hF i_13 q_11.1 q_11.2 dX11_liking_69 ?_
          refine r_iload_n hC 1 dX11_liking_70 rfl rfl ?_
          refine r_iload_n hC 2 dX11_liking_71 rfl rfl ?_
          refine r_iload_n hC 3 dX11_liking_72 rfl rfl ?_
          refine r_callV (As := [vI x1, vI x2, vI x3]) (st := []) hC cw_X11_138 rfl q_14.1 q_14.2 rfl rfl (Nat.le_of_ble_eq_true rfl) ⟨Nat.le_of_ble_eq_true rfl, Nat.le_of_ble_eq_true rfl⟩ ⟨Nat.le_of_ble_eq_true rfl, Nat.le_of_ble_eq_true rfl⟩ dX11_liking_73 (fun hk => mX1_become Y hF _ _ _ _ _ _ _ (kqO hk q_14) h) (fun v M_15 h => ?_)
          obtain ⟨rfl, h⟩ := h
          refine r_aload_n hC 0 dX11_liking_76 rfl rfl ?_
          refine r_callV (As := []) (st := []) hC cw_X11_122 rfl qa0.1 qa0.2 rfl rfl (Nat.le_of_ble_eq_true rfl) ⟨Nat.le_of_ble_eq_true rfl, Nat.le_of_ble_eq_true rfl⟩ ⟨Nat.le_of_ble_eq_true rfl, Nat.le_of_ble_eq_true rfl⟩ dX11_liking_77 (fun hk => mX11_forget Y hF _ _ _ _ (kqO hk qa0) h) (fun v M_16 h => ?_)
          obtain ⟨rfl, h⟩ := h
          refine r_aload_n hC 0 dX11_liking_80 rfl rfl ?_
          have q_17 : 0 < a0 + 1 ∧ M0 0 (a0 + 1) = kO 0 := lay_f0 (a := a0) hL qa0 fm_11_0
          refine r_getR0 (a' := a0 + 1) hC fg_X11_10 rfl hF fm_11_0 qa0.1 qa0.2 rfl dX11_liking_81 ?_
          refine r_dup hC rfl dX11_liking_84 ?_
          refine r_getI hC fg_X11_131 rfl q_17.1 q_17.2 dX11_liking_85 ?_
          refine r_dup_x1 hC rfl rfl dX11_liking_88 ?_
          refine r_iconst hC dX11_liking_89 ?_
          refine r_iadd hC dX11_liking_90 ?_
          refine r_putI hC fp_X11_131 rfl q_17.1 q_17.2 dX11_liking_91 ?_
          refine r_nameM h (fun M_18 h => ?_)
          exact r_iret hC (Nat.zero_le _) (Nat.zero_le _) dX11_liking_94 ⟨_, rfl, h⟩
        · replace h := h.2 cq
          refine r_aload_n hC 0 dX11_liking_49 rfl rfl ?_
          refine r_iconst hC dX11_liking_50 ?_
          refine r_callV (As := [vI 4]) (st := []) hC cw_X11_91 rfl qa0.1 qa0.2 rfl rfl (Nat.le_of_ble_eq_true rfl) ⟨Nat.le_of_ble_eq_true rfl, Nat.le_of_ble_eq_true rfl⟩ ⟨Nat.le_of_ble_eq_true rfl, Nat.le_of_ble_eq_true rfl⟩ dX11_liking_51 (fun hk => mX11_error Y hF _ _ _ _ _ (kqO hk qa0) h) (fun v M_19 h => ?_)
          obtain ⟨r_20, rfl, h⟩ := h
          exact r_iret hC (Nat.zero_le _) (Nat.zero_le _) dX11_liking_54 ⟨_, rfl, h⟩
      · replace h := h.1 cq
        refine r_sub [0] rfl ?_
        exact tX11_liking_J31 hC hF hL Q   _ qa0  _ h
theorem dX11_isNoLiking_0 : dec cX11_isNoLiking 0 1 1 (.iload_n 1) := ⟨by decide +kernel, rfl⟩
theorem dX11_isNoLiking_1 : dec cX11_isNoLiking 1 1 2 (.iconst 0) := ⟨by decide +kernel, rfl⟩
theorem dX11_isNoLiking_2 : dec cX11_isNoLiking 2 1 3 (.aload_n 0) := ⟨by decide +kernel, rfl⟩
theorem dX11_isNoLiking_3 : dec cX11_isNoLiking 3 3 6 (.getfield 10) := ⟨by decide +kernel, rfl⟩
theorem dX11_isNoLiking_6 : dec cX11_isNoLiking 6 3 9 (.getfield 131) := ⟨by decide +kernel, rfl⟩
theorem dX11_isNoLiking_9 : dec cX11_isNoLiking 9 1 10 (.iconst 1) := ⟨by decide +kernel, rfl⟩
theorem dX11_isNoLiking_10 : dec cX11_isNoLiking 10 1 11 (.isub) := ⟨by decide +kernel, rfl⟩
theorem dX11_isNoLiking_11 : dec cX11_isNoLiking 11 3 14 (.invokestatic 87) := ⟨by decide +kernel, rfl⟩
theorem dX11_isNoLiking_14 : dec cX11_isNoLiking 14 3 17 (.ifCond .ne 7) := ⟨by decide +kernel, rfl⟩
theorem dX11_isNoLiking_17 : dec cX11_isNoLiking 17 1 18 (.iconst 1) := ⟨by decide +kernel, rfl⟩
theorem dX11_isNoLiking_18 : dec cX11_isNoLiking 18 3 21 (.goto 4) := ⟨by decide +kernel, rfl⟩
theorem dX11_isNoLiking_21 : dec cX11_isNoLiking 21 1 22 (.iconst 0) := ⟨by decide +kernel, rfl⟩
theorem dX11_isNoLiking_22 : dec cX11_isNoLiking 22 1 23 (.ireturn) := ⟨by decide +kernel, rfl⟩
set_option maxHeartbeats 4000000 in
set_option maxRecDepth 100000 in
theorem mX11_isNoLiking (Y : Yx) (hF : Y.2.2.2.2 = true) (l : Launch) (a0 : Nat) (x1 : Int) (M0 : Mem) (Q : Int → Mem → Prop) (qa0 : 0 < a0 ∧ M0 0 a0 = kO 11) (h : wX11_isNoLiking a0 x1 M0 Q) : CT Y l yX11_isNoLiking cX11_isNoLiking 2 (some .boolean) rmX11_isNoLiking [vR Y.1 a0, vI x1] M0 (QI Q) := by
  unfold wX11_isNoLiking at h
  refine ct_intro (by decide) (Nat.le_of_ble_eq_true rfl) ?_
  intro X hXl hC hL0
  have hL := hL0 hF
  change OKX X Y RX11 cX11_isNoLiking 2 (some .boolean) rmX11_isNoLiking at hC
  change WW X Y 2 rmX11_isNoLiking (QI Q) M0 0 0 0 [(0, vR Y.1 a0), (1, vI x1)] [] M0
  refine r_iload_n hC 1 dX11_isNoLiking_0 rfl rfl ?_
  refine r_iconst hC dX11_isNoLiking_1 ?_
  refine r_aload_n hC 0 dX11_isNoLiking_2 rfl rfl ?_
  have q_1 : 0 < a0 + 1 ∧ M0 0 (a0 + 1) = kO 0 := lay_f0 (a := a0) hL qa0 fm_11_0
  refine r_getR0 (a' := a0 + 1) hC fg_X11_10 rfl hF fm_11_0 qa0.1 qa0.2 rfl dX11_isNoLiking_3 ?_
  refine r_getI hC fg_X11_131 rfl q_1.1 q_1.2 dX11_isNoLiking_6 ?_
  refine r_iconst hC dX11_isNoLiking_9 ?_
  refine r_isub hC dX11_isNoLiking_10 ?_
  refine r_callS (As := [vI x1, vI 0, vI ((M0 (a0 + 1) 4) - 1)]) (st := []) hC cw_X11_87 rfl rfl (Nat.le_of_ble_eq_true rfl) ⟨Nat.le_of_ble_eq_true rfl, Nat.le_of_ble_eq_true rfl⟩ ⟨Nat.le_of_ble_eq_true rfl, Nat.le_of_ble_eq_true rfl⟩ dX11_isNoLiking_11 (fun hk => mX11_within Y hF _ _ _ _ _ _  h) (fun v M_2 h => ?_)
  obtain ⟨r_3, rfl, h⟩ := h
  refine r_if_ne hC 21 rfl dX11_isNoLiking_14 (by decide) (fun cq => ?_) (fun cq => ?_)
  · replace h := h.2 cq
    refine r_iconst hC dX11_isNoLiking_21 ?_
    exact r_zret hC (Or.inl rfl) (Nat.zero_le _) (Nat.zero_le _) dX11_isNoLiking_22 ⟨_, rfl, h⟩
  · replace h := h.1 cq
    refine r_iconst hC dX11_isNoLiking_17 ?_
    refine r_goto hC 22 dX11_isNoLiking_18 (by decide) ?_
    exact r_zret hC (Or.inr rfl) (Nat.zero_le _) (Nat.zero_le _) dX11_isNoLiking_22 ⟨_, rfl, h⟩
theorem dX11_turn_0 : dec cX11_turn 0 1 1 (.aload_n 0) := ⟨by decide +kernel, rfl⟩
theorem dX11_turn_1 : dec cX11_turn 1 1 2 (.iload_n 1) := ⟨by decide +kernel, rfl⟩
theorem dX11_turn_2 : dec cX11_turn 2 3 5 (.invokevirtual 144) := ⟨by decide +kernel, rfl⟩
theorem dX11_turn_5 : dec cX11_turn 5 3 8 (.ifCond .eq 9) := ⟨by decide +kernel, rfl⟩
theorem dX11_turn_8 : dec cX11_turn 8 1 9 (.aload_n 0) := ⟨by decide +kernel, rfl⟩
theorem dX11_turn_9 : dec cX11_turn 9 1 10 (.iconst 1) := ⟨by decide +kernel, rfl⟩
theorem dX11_turn_10 : dec cX11_turn 10 3 13 (.invokevirtual 91) := ⟨by decide +kernel, rfl⟩
theorem dX11_turn_13 : dec cX11_turn 13 1 14 (.ireturn) := ⟨by decide +kernel, rfl⟩
theorem dX11_turn_14 : dec cX11_turn 14 1 15 (.aload_n 0) := ⟨by decide +kernel, rfl⟩
theorem dX11_turn_15 : dec cX11_turn 15 3 18 (.getfield 10) := ⟨by decide +kernel, rfl⟩
theorem dX11_turn_18 : dec cX11_turn 18 3 21 (.getfield 134) := ⟨by decide +kernel, rfl⟩
theorem dX11_turn_21 : dec cX11_turn 21 1 22 (.iload_n 1) := ⟨by decide +kernel, rfl⟩
theorem dX11_turn_22 : dec cX11_turn 22 1 23 (.aaload) := ⟨by decide +kernel, rfl⟩
theorem dX11_turn_23 : dec cX11_turn 23 1 24 (.astore_n 3) := ⟨by decide +kernel, rfl⟩
theorem dX11_turn_24 : dec cX11_turn 24 1 25 (.aload_n 3) := ⟨by decide +kernel, rfl⟩
theorem dX11_turn_25 : dec cX11_turn 25 3 28 (.getfield 148) := ⟨by decide +kernel, rfl⟩
theorem dX11_turn_28 : dec cX11_turn 28 1 29 (.iload_n 2) := ⟨by decide +kernel, rfl⟩
theorem dX11_turn_29 : dec cX11_turn 29 3 32 (.if_icmp .eq 7) := ⟨by decide +kernel, rfl⟩
theorem dX11_turn_32 : dec cX11_turn 32 1 33 (.iconst 1) := ⟨by decide +kernel, rfl⟩
theorem dX11_turn_33 : dec cX11_turn 33 3 36 (.goto 4) := ⟨by decide +kernel, rfl⟩
theorem dX11_turn_36 : dec cX11_turn 36 1 37 (.iconst 0) := ⟨by decide +kernel, rfl⟩
theorem dX11_turn_37 : dec cX11_turn 37 2 39 (.istore 4) := ⟨by decide +kernel, rfl⟩
theorem dX11_turn_39 : dec cX11_turn 39 1 40 (.aload_n 3) := ⟨by decide +kernel, rfl⟩
theorem dX11_turn_40 : dec cX11_turn 40 1 41 (.iload_n 2) := ⟨by decide +kernel, rfl⟩
theorem dX11_turn_41 : dec cX11_turn 41 3 44 (.putfield 148) := ⟨by decide +kernel, rfl⟩
theorem dX11_turn_44 : dec cX11_turn 44 1 45 (.aload_n 0) := ⟨by decide +kernel, rfl⟩
theorem dX11_turn_45 : dec cX11_turn 45 3 48 (.invokevirtual 122) := ⟨by decide +kernel, rfl⟩
theorem dX11_turn_48 : dec cX11_turn 48 2 50 (.iload 4) := ⟨by decide +kernel, rfl⟩
theorem dX11_turn_50 : dec cX11_turn 50 3 53 (.ifCond .eq 7) := ⟨by decide +kernel, rfl⟩
theorem dX11_turn_53 : dec cX11_turn 53 1 54 (.iconst 1) := ⟨by decide +kernel, rfl⟩
theorem dX11_turn_54 : dec cX11_turn 54 3 57 (.goto 4) := ⟨by decide +kernel, rfl⟩
theorem dX11_turn_57 : dec cX11_turn 57 1 58 (.iconst 0) := ⟨by decide +kernel, rfl⟩
theorem dX11_turn_58 : dec cX11_turn 58 1 59 (.ireturn) := ⟨by decide +kernel, rfl⟩
set_option maxHeartbeats 4000000 in
set_option maxRecDepth 100000 in
theorem tX11_turn_J37 {X : Cx} {Y : Yx} {M0 : Mem} (hC : OKX X Y RX11 cX11_turn 5 (some .int) rmX11_turn) (hF : Y.2.2.2.2 = true) (hL : Lay M0) (Q : Int → Mem → Prop)   (a0 : Nat) (x2 : Int) (a3 : Nat) (xs0 : Int) (qa0 : 0 < a0 ∧ M0 0 a0 = kO 11) (qa3 : 0 < a3 ∧ M0 0 a3 = kO 1)  (M : Mem) (h : wX11_turn_J37 Q  a0 x2 a3 xs0 M) : WW X Y 5 rmX11_turn (QI Q) M0 0 0 37 [(0, vR Y.1 a0), (2, vI x2), (3, vR Y.1 a3)] [vI xs0] M := by
  unfold wX11_turn_J37 at h
  refine r_istore (lv' := [(4, vI xs0), (0, vR Y.1 a0), (2, vI x2), (3, vR Y.1 a3)]) hC dX11_turn_37 (by decide) rfl ?_
  refine r_aload_n hC 3 dX11_turn_39 rfl rfl ?_
  refine r_iload_n hC 2 dX11_turn_40 rfl rfl ?_
  obtain ⟨z_8, h⟩ := h
  refine r_putZ hC z_8 fp_X11_148 rfl qa3.1 qa3.2 dX11_turn_41 ?_
  refine r_nameM h (fun M_7 h => ?_)
  refine r_aload_n hC 1 dX11_turn_44 rfl rfl ?_
  refine r_callV (As := []) (st := []) hC cw_X11_122 rfl qa0.1 qa0.2 rfl rfl (Nat.le_of_ble_eq_true rfl) ⟨Nat.le_of_ble_eq_true rfl, Nat.le_of_ble_eq_true rfl⟩ ⟨Nat.le_of_ble_eq_true rfl, Nat.le_of_ble_eq_true rfl⟩ dX11_turn_45 (fun hk => mX11_forget Y hF _ _ _ _ (kqO hk qa0) h) (fun v M_9 h => ?_)
  obtain ⟨rfl, h⟩ := h
  refine r_iload hC 0 dX11_turn_48 rfl ?_
  refine r_if_eq hC 57 rfl dX11_turn_50 (by decide) (fun cq => ?_) (fun cq => ?_)
  · replace h := h.1 cq
    refine r_iconst hC dX11_turn_57 ?_
    exact r_iret hC (Nat.zero_le _) (Nat.zero_le _) dX11_turn_58 ⟨_, rfl, h⟩
  · replace h := h.2 cq
    refine r_iconst hC dX11_turn_53 ?_
    refine r_goto hC 58 dX11_turn_54 (by decide) ?_
    exact r_iret hC (Nat.zero_le _) (Nat.zero_le _) dX11_turn_58 ⟨_, rfl, h⟩
set_option maxHeartbeats 4000000 in
set_option maxRecDepth 100000 in
theorem mX11_turn (Y : Yx) (hF : Y.2.2.2.2 = true) (l : Launch) (a0 : Nat) (x1 : Int) (x2 : Int) (M0 : Mem) (Q : Int → Mem → Prop) (qa0 : 0 < a0 ∧ M0 0 a0 = kO 11) (h : wX11_turn a0 x1 x2 M0 Q) : CT Y l yX11_turn cX11_turn 5 (some .int) rmX11_turn [vR Y.1 a0, vI x1, vI x2] M0 (QI Q) := by
  unfold wX11_turn at h
  refine ct_intro (by decide) (Nat.le_of_ble_eq_true rfl) ?_
  intro X hXl hC hL0
  have hL := hL0 hF
  change OKX X Y RX11 cX11_turn 5 (some .int) rmX11_turn at hC
  change WW X Y 5 rmX11_turn (QI Q) M0 0 0 0 [(0, vR Y.1 a0), (1, vI x1), (2, vI x2)] [] M0
  refine r_aload_n hC 0 dX11_turn_0 rfl rfl ?_
  refine r_iload_n hC 1 dX11_turn_1 rfl rfl ?_
  refine r_callV (As := [vI x1]) (st := []) hC cw_X11_144 rfl qa0.1 qa0.2 rfl rfl (Nat.le_of_ble_eq_true rfl) ⟨Nat.le_of_ble_eq_true rfl, Nat.le_of_ble_eq_true rfl⟩ ⟨Nat.le_of_ble_eq_true rfl, Nat.le_of_ble_eq_true rfl⟩ dX11_turn_2 (fun hk => mX11_isNoLiking Y hF _ _ _ _ _ (kqO hk qa0) h) (fun v M_1 h => ?_)
  obtain ⟨r_2, rfl, h⟩ := h
  refine r_if_eq hC 14 rfl dX11_turn_5 (by decide) (fun cq => ?_) (fun cq => ?_)
  · replace h := h.1 cq
    refine r_aload_n hC 0 dX11_turn_14 rfl rfl ?_
    have q_3 : 0 < a0 + 1 ∧ M0 0 (a0 + 1) = kO 0 := lay_f0 (a := a0) hL qa0 fm_11_0
    refine r_getR0 (a' := a0 + 1) hC fg_X11_10 rfl hF fm_11_0 qa0.1 qa0.2 rfl dX11_turn_15 ?_
    have q_4 : 0 < a0 + 4 ∧ M0 0 (a0 + 4) = kA 5 10 := lay_f0 (a := a0 + 1) hL q_3 fm_0_3
    refine r_getR0 (a' := a0 + 4) hC fg_X11_134 rfl hF fm_0_3 q_3.1 q_3.2 rfl dX11_turn_18 ?_
    refine r_iload_n hC 1 dX11_turn_21 rfl rfl ?_
    obtain ⟨i_5, h⟩ := h
    have q_6 : 0 < a0 + 22 + 2 * (bm x1).toNat ∧ M0 0 (a0 + 22 + 2 * (bm x1).toNat) = kO 1 := lay_a5 (a := a0 + 4) hL q_4 (inb_nat i_5)
    refine r_aald5 hC hF i_5 q_4.1 q_4.2 dX11_turn_22 ?_
    refine r_astore_n (lv' := [(3, vR Y.1 (a0 + 22 + 2 * (bm x1).toNat)), (0, vR Y.1 a0), (1, vI x1), (2, vI x2)]) hC dX11_turn_23 rfl (by decide) rfl ?_
    refine r_aload_n hC 0 dX11_turn_24 rfl rfl ?_
    refine r_getI hC fg_X11_148 rfl q_6.1 q_6.2 dX11_turn_25 ?_
    refine r_iload_n hC 3 dX11_turn_28 rfl rfl ?_
    refine r_icmp_eq hC 36 rfl rfl dX11_turn_29 (by decide) (fun cq => ?_) (fun cq => ?_)
    · replace h := h.1 cq
      refine r_iconst hC dX11_turn_36 ?_
      refine r_sub [1, 3, 0] rfl ?_
      exact tX11_turn_J37 hC hF hL Q   _ _ _ _ qa0 q_6  _ h
    · replace h := h.2 cq
      refine r_iconst hC dX11_turn_32 ?_
      refine r_goto hC 37 dX11_turn_33 (by decide) ?_
      refine r_sub [1, 3, 0] rfl ?_
      exact tX11_turn_J37 hC hF hL Q   _ _ _ _ qa0 q_6  _ h
  · replace h := h.2 cq
    refine r_aload_n hC 0 dX11_turn_8 rfl rfl ?_
    refine r_iconst hC dX11_turn_9 ?_
    refine r_callV (As := [vI 1]) (st := []) hC cw_X11_91 rfl qa0.1 qa0.2 rfl rfl (Nat.le_of_ble_eq_true rfl) ⟨Nat.le_of_ble_eq_true rfl, Nat.le_of_ble_eq_true rfl⟩ ⟨Nat.le_of_ble_eq_true rfl, Nat.le_of_ble_eq_true rfl⟩ dX11_turn_10 (fun hk => mX11_error Y hF _ _ _ _ _ (kqO hk qa0) h) (fun v M_10 h => ?_)
    obtain ⟨r_11, rfl, h⟩ := h
    exact r_iret hC (Nat.zero_le _) (Nat.zero_le _) dX11_turn_13 ⟨_, rfl, h⟩
