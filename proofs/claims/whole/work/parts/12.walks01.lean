theorem dX3_init_0 : dec cX3_init 0 1 1 (.aload_n 0) := ⟨by decide +kernel, rfl⟩
theorem dX3_init_1 : dec cX3_init 1 3 4 (.invokespecial 1) := ⟨by decide +kernel, rfl⟩
theorem dX3_init_4 : dec cX3_init 4 1 5 (.return_) := ⟨by decide +kernel, rfl⟩
set_option maxHeartbeats 4000000 in
set_option maxRecDepth 100000 in
theorem mX3_init (Y : Yx) (hF0 : Y.2.2.2.2 = false) (l : Launch) (a0 : Nat) (M0 : Mem) (Q : Mem → Prop) (qa0 : 0 < a0 ∧ M0 0 a0 = kO 3) (h : wX3_init a0 M0 Q) : CT Y l yX3_init cX3_init 1 none rmX3_init [vR Y.1 a0] M0 (QV Q) := by
  unfold wX3_init at h
  refine ct_introI (by decide) (Nat.le_of_ble_eq_true rfl) ?_
  intro X hXl hC hN
  change OKX X Y RX3 cX3_init 1 none rmX3_init at hC
  change nameX X = "<init>" at hN
  change WW X Y 1 rmX3_init (QV Q) M0 0 0 0 [(0, vR Y.1 a0)] [] M0
  refine r_aload_n hC 0 dX3_init_0 rfl rfl ?_
  refine r_objInit hC ob_X3_1 (Nat.le_of_ble_eq_true rfl) (Nat.le_of_ble_eq_true rfl) (Nat.le_of_ble_eq_true rfl) dX3_init_1 ?_
  exact r_vret hC (by first | exact Nat.le_of_ble_eq_true rfl | (simp only [rmX3_init]; omega)) (by first | exact Nat.le_of_ble_eq_true rfl | (simp only [rmX3_init]; omega)) dX3_init_4 ⟨rfl, h⟩
theorem dX1_init_0 : dec cX1_init 0 1 1 (.aload_n 0) := ⟨by decide +kernel, rfl⟩
theorem dX1_init_1 : dec cX1_init 1 3 4 (.invokespecial 5) := ⟨by decide +kernel, rfl⟩
theorem dX1_init_4 : dec cX1_init 4 1 5 (.aload_n 0) := ⟨by decide +kernel, rfl⟩
theorem dX1_init_5 : dec cX1_init 5 1 6 (.iconst 1) := ⟨by decide +kernel, rfl⟩
theorem dX1_init_6 : dec cX1_init 6 3 9 (.putfield 11) := ⟨by decide +kernel, rfl⟩
theorem dX1_init_9 : dec cX1_init 9 1 10 (.aload_n 0) := ⟨by decide +kernel, rfl⟩
theorem dX1_init_10 : dec cX1_init 10 2 12 (.bipush 50) := ⟨by decide +kernel, rfl⟩
theorem dX1_init_12 : dec cX1_init 12 2 14 (.newarray .int) := ⟨by decide +kernel, rfl⟩
theorem dX1_init_14 : dec cX1_init 14 3 17 (.putfield 15) := ⟨by decide +kernel, rfl⟩
theorem dX1_init_17 : dec cX1_init 17 1 18 (.return_) := ⟨by decide +kernel, rfl⟩
set_option maxHeartbeats 4000000 in
set_option maxRecDepth 100000 in
theorem mX1_init (Y : Yx) (hF0 : Y.2.2.2.2 = false) (l : Launch) (a0 : Nat) (M0 : Mem) (Q : Mem → Prop) (qa0 : 0 < a0 ∧ M0 0 a0 = kO 1) (h : wX1_init a0 M0 Q) : CT Y l yX1_init cX1_init 1 none rmX1_init [vR Y.1 a0] M0 (QV Q) := by
  unfold wX1_init at h
  refine ct_introI (by decide) (Nat.le_of_ble_eq_true rfl) ?_
  intro X hXl hC hN
  change OKX X Y RX1 cX1_init 1 none rmX1_init at hC
  change nameX X = "<init>" at hN
  change WW X Y 1 rmX1_init (QV Q) M0 0 0 0 [(0, vR Y.1 a0)] [] M0
  refine r_aload_n hC 0 dX1_init_0 rfl rfl ?_
  refine r_objInit hC ob_X1_5 (Nat.le_of_ble_eq_true rfl) (Nat.le_of_ble_eq_true rfl) (Nat.le_of_ble_eq_true rfl) dX1_init_1 ?_
  refine r_aload_n hC 0 dX1_init_4 rfl rfl ?_
  refine r_iconst hC dX1_init_5 ?_
  refine r_putI hC fp_X1_11 rfl qa0.1 qa0.2 dX1_init_6 ?_
  refine r_nameM h (fun M_1 h => ?_)
  refine r_aload_n hC 0 dX1_init_9 rfl rfl ?_
  refine r_bipush hC (by decide +kernel) dX1_init_10 ?_
  refine r_newarr (t := 0) (len := 50) hC (by decide) rfl ac_0 rfl (by decide) (by decide +kernel) ⟨Nat.le_of_ble_eq_true rfl, Nat.le_of_ble_eq_true rfl⟩ dX1_init_12 ?_
  refine r_widen (n' := 1) (k' := 50 * 1) (by omega) (by omega) ?_
  refine r_nameM h (fun M_3 h => ?_)
  obtain ⟨q_2, h⟩ := h
  refine r_base (fun hk hL0 => ?_)
  have qa0 := kqO hk qa0
  refine r_putF hC hN hF0 q_2.1 ff_X1_15 rfl (by first | exact Or.inl ⟨_, rfl⟩ | exact Or.inr ⟨_, rfl⟩) qa0.1 qa0.2 dX1_init_14 ?_
  refine r_nameM h (fun M_4 h => ?_)
  exact r_vret hC (by first | exact Nat.le_of_ble_eq_true rfl | (simp only [rmX1_init]; omega)) (by first | exact Nat.le_of_ble_eq_true rfl | (simp only [rmX1_init]; omega)) dX1_init_17 ⟨rfl, h⟩
theorem dX2_init_0 : dec cX2_init 0 1 1 (.aload_n 0) := ⟨by decide +kernel, rfl⟩
theorem dX2_init_1 : dec cX2_init 1 3 4 (.invokespecial 1) := ⟨by decide +kernel, rfl⟩
theorem dX2_init_4 : dec cX2_init 4 1 5 (.return_) := ⟨by decide +kernel, rfl⟩
set_option maxHeartbeats 4000000 in
set_option maxRecDepth 100000 in
theorem mX2_init (Y : Yx) (hF0 : Y.2.2.2.2 = false) (l : Launch) (a0 : Nat) (M0 : Mem) (Q : Mem → Prop) (qa0 : 0 < a0 ∧ M0 0 a0 = kO 2) (h : wX2_init a0 M0 Q) : CT Y l yX2_init cX2_init 1 none rmX2_init [vR Y.1 a0] M0 (QV Q) := by
  unfold wX2_init at h
  refine ct_introI (by decide) (Nat.le_of_ble_eq_true rfl) ?_
  intro X hXl hC hN
  change OKX X Y RX2 cX2_init 1 none rmX2_init at hC
  change nameX X = "<init>" at hN
  change WW X Y 1 rmX2_init (QV Q) M0 0 0 0 [(0, vR Y.1 a0)] [] M0
  refine r_aload_n hC 0 dX2_init_0 rfl rfl ?_
  refine r_objInit hC ob_X2_1 (Nat.le_of_ble_eq_true rfl) (Nat.le_of_ble_eq_true rfl) (Nat.le_of_ble_eq_true rfl) dX2_init_1 ?_
  exact r_vret hC (by first | exact Nat.le_of_ble_eq_true rfl | (simp only [rmX2_init]; omega)) (by first | exact Nat.le_of_ble_eq_true rfl | (simp only [rmX2_init]; omega)) dX2_init_4 ⟨rfl, h⟩
theorem dX5_init_0 : dec cX5_init 0 1 1 (.aload_n 0) := ⟨by decide +kernel, rfl⟩
theorem dX5_init_1 : dec cX5_init 1 3 4 (.invokespecial 3) := ⟨by decide +kernel, rfl⟩
theorem dX5_init_4 : dec cX5_init 4 1 5 (.aload_n 0) := ⟨by decide +kernel, rfl⟩
theorem dX5_init_5 : dec cX5_init 5 2 7 (.bipush 12) := ⟨by decide +kernel, rfl⟩
theorem dX5_init_7 : dec cX5_init 7 2 9 (.newarray .int) := ⟨by decide +kernel, rfl⟩
theorem dX5_init_9 : dec cX5_init 9 3 12 (.putfield 9) := ⟨by decide +kernel, rfl⟩
theorem dX5_init_12 : dec cX5_init 12 1 13 (.return_) := ⟨by decide +kernel, rfl⟩
set_option maxHeartbeats 4000000 in
set_option maxRecDepth 100000 in
theorem mX5_init (Y : Yx) (hF0 : Y.2.2.2.2 = false) (l : Launch) (a0 : Nat) (M0 : Mem) (Q : Mem → Prop) (qa0 : 0 < a0 ∧ M0 0 a0 = kO 5) (h : wX5_init a0 M0 Q) : CT Y l yX5_init cX5_init 1 none rmX5_init [vR Y.1 a0] M0 (QV Q) := by
  unfold wX5_init at h
  refine ct_introI (by decide) (Nat.le_of_ble_eq_true rfl) ?_
  intro X hXl hC hN
  change OKX X Y RX5 cX5_init 1 none rmX5_init at hC
  change nameX X = "<init>" at hN
  change WW X Y 1 rmX5_init (QV Q) M0 0 0 0 [(0, vR Y.1 a0)] [] M0
  refine r_aload_n hC 0 dX5_init_0 rfl rfl ?_
  refine r_objInit hC ob_X5_3 (Nat.le_of_ble_eq_true rfl) (Nat.le_of_ble_eq_true rfl) (Nat.le_of_ble_eq_true rfl) dX5_init_1 ?_
  refine r_aload_n hC 0 dX5_init_4 rfl rfl ?_
  refine r_bipush hC (by decide +kernel) dX5_init_5 ?_
  refine r_newarr (t := 0) (len := 12) hC (by decide) rfl ac_0 rfl (by decide) (by decide +kernel) ⟨Nat.le_of_ble_eq_true rfl, Nat.le_of_ble_eq_true rfl⟩ dX5_init_7 ?_
  refine r_widen (n' := 1) (k' := 12 * 1) (by omega) (by omega) ?_
  refine r_nameM h (fun M_2 h => ?_)
  obtain ⟨q_1, h⟩ := h
  refine r_base (fun hk hL0 => ?_)
  have qa0 := kqO hk qa0
  refine r_putF hC hN hF0 q_1.1 ff_X5_9 rfl (by first | exact Or.inl ⟨_, rfl⟩ | exact Or.inr ⟨_, rfl⟩) qa0.1 qa0.2 dX5_init_9 ?_
  refine r_nameM h (fun M_3 h => ?_)
  exact r_vret hC (by first | exact Nat.le_of_ble_eq_true rfl | (simp only [rmX5_init]; omega)) (by first | exact Nat.le_of_ble_eq_true rfl | (simp only [rmX5_init]; omega)) dX5_init_12 ⟨rfl, h⟩
theorem dX0_init_0 : dec cX0_init 0 1 1 (.aload_n 0) := ⟨by decide +kernel, rfl⟩
theorem dX0_init_1 : dec cX0_init 1 3 4 (.invokespecial 3) := ⟨by decide +kernel, rfl⟩
theorem dX0_init_4 : dec cX0_init 4 1 5 (.aload_n 0) := ⟨by decide +kernel, rfl⟩
theorem dX0_init_5 : dec cX0_init 5 2 7 (.bipush 12) := ⟨by decide +kernel, rfl⟩
theorem dX0_init_7 : dec cX0_init 7 3 10 (.anewarray 9) := ⟨by decide +kernel, rfl⟩
theorem dX0_init_10 : dec cX0_init 10 3 13 (.putfield 11) := ⟨by decide +kernel, rfl⟩
theorem dX0_init_13 : dec cX0_init 13 1 14 (.aload_n 0) := ⟨by decide +kernel, rfl⟩
theorem dX0_init_14 : dec cX0_init 14 1 15 (.iconst 4) := ⟨by decide +kernel, rfl⟩
theorem dX0_init_15 : dec cX0_init 15 2 17 (.newarray .int) := ⟨by decide +kernel, rfl⟩
theorem dX0_init_17 : dec cX0_init 17 1 18 (.dup) := ⟨by decide +kernel, rfl⟩
theorem dX0_init_18 : dec cX0_init 18 1 19 (.iconst 0) := ⟨by decide +kernel, rfl⟩
theorem dX0_init_19 : dec cX0_init 19 1 20 (.iconst 1) := ⟨by decide +kernel, rfl⟩
theorem dX0_init_20 : dec cX0_init 20 1 21 (.iastore) := ⟨by decide +kernel, rfl⟩
theorem dX0_init_21 : dec cX0_init 21 1 22 (.dup) := ⟨by decide +kernel, rfl⟩
theorem dX0_init_22 : dec cX0_init 22 1 23 (.iconst 1) := ⟨by decide +kernel, rfl⟩
theorem dX0_init_23 : dec cX0_init 23 1 24 (.iconst 1) := ⟨by decide +kernel, rfl⟩
theorem dX0_init_24 : dec cX0_init 24 1 25 (.iastore) := ⟨by decide +kernel, rfl⟩
theorem dX0_init_25 : dec cX0_init 25 1 26 (.dup) := ⟨by decide +kernel, rfl⟩
theorem dX0_init_26 : dec cX0_init 26 1 27 (.iconst 2) := ⟨by decide +kernel, rfl⟩
theorem dX0_init_27 : dec cX0_init 27 2 29 (.bipush 20) := ⟨by decide +kernel, rfl⟩
theorem dX0_init_29 : dec cX0_init 29 1 30 (.iastore) := ⟨by decide +kernel, rfl⟩
theorem dX0_init_30 : dec cX0_init 30 1 31 (.dup) := ⟨by decide +kernel, rfl⟩
theorem dX0_init_31 : dec cX0_init 31 1 32 (.iconst 3) := ⟨by decide +kernel, rfl⟩
theorem dX0_init_32 : dec cX0_init 32 3 35 (.sipush 999) := ⟨by decide +kernel, rfl⟩
theorem dX0_init_35 : dec cX0_init 35 1 36 (.iastore) := ⟨by decide +kernel, rfl⟩
theorem dX0_init_36 : dec cX0_init 36 3 39 (.putfield 17) := ⟨by decide +kernel, rfl⟩
theorem dX0_init_39 : dec cX0_init 39 1 40 (.aload_n 0) := ⟨by decide +kernel, rfl⟩
theorem dX0_init_40 : dec cX0_init 40 2 42 (.bipush 10) := ⟨by decide +kernel, rfl⟩
theorem dX0_init_42 : dec cX0_init 42 3 45 (.anewarray 21) := ⟨by decide +kernel, rfl⟩
theorem dX0_init_45 : dec cX0_init 45 3 48 (.putfield 23) := ⟨by decide +kernel, rfl⟩
theorem dX0_init_48 : dec cX0_init 48 1 49 (.aload_n 0) := ⟨by decide +kernel, rfl⟩
theorem dX0_init_49 : dec cX0_init 49 2 51 (.bipush 10) := ⟨by decide +kernel, rfl⟩
theorem dX0_init_51 : dec cX0_init 51 3 54 (.anewarray 27) := ⟨by decide +kernel, rfl⟩
theorem dX0_init_54 : dec cX0_init 54 3 57 (.putfield 29) := ⟨by decide +kernel, rfl⟩
theorem dX0_init_57 : dec cX0_init 57 1 58 (.aload_n 0) := ⟨by decide +kernel, rfl⟩
theorem dX0_init_58 : dec cX0_init 58 2 60 (.bipush 50) := ⟨by decide +kernel, rfl⟩
theorem dX0_init_60 : dec cX0_init 60 2 62 (.newarray .byte) := ⟨by decide +kernel, rfl⟩
theorem dX0_init_62 : dec cX0_init 62 3 65 (.putfield 33) := ⟨by decide +kernel, rfl⟩
theorem dX0_init_65 : dec cX0_init 65 1 66 (.aload_n 0) := ⟨by decide +kernel, rfl⟩
theorem dX0_init_66 : dec cX0_init 66 2 68 (.bipush 8) := ⟨by decide +kernel, rfl⟩
theorem dX0_init_68 : dec cX0_init 68 3 71 (.anewarray 37) := ⟨by decide +kernel, rfl⟩
theorem dX0_init_71 : dec cX0_init 71 3 74 (.putfield 39) := ⟨by decide +kernel, rfl⟩
theorem dX0_init_74 : dec cX0_init 74 1 75 (.aload_n 0) := ⟨by decide +kernel, rfl⟩
theorem dX0_init_75 : dec cX0_init 75 2 77 (.bipush 8) := ⟨by decide +kernel, rfl⟩
theorem dX0_init_77 : dec cX0_init 77 3 80 (.anewarray 37) := ⟨by decide +kernel, rfl⟩
theorem dX0_init_80 : dec cX0_init 80 3 83 (.putfield 43) := ⟨by decide +kernel, rfl⟩
theorem dX0_init_83 : dec cX0_init 83 1 84 (.aload_n 0) := ⟨by decide +kernel, rfl⟩
theorem dX0_init_84 : dec cX0_init 84 2 86 (.bipush 12) := ⟨by decide +kernel, rfl⟩
theorem dX0_init_86 : dec cX0_init 86 2 88 (.newarray .int) := ⟨by decide +kernel, rfl⟩
theorem dX0_init_88 : dec cX0_init 88 3 91 (.putfield 46) := ⟨by decide +kernel, rfl⟩
theorem dX0_init_91 : dec cX0_init 91 1 92 (.iconst 0) := ⟨by decide +kernel, rfl⟩
theorem dX0_init_92 : dec cX0_init 92 1 93 (.istore_n 1) := ⟨by decide +kernel, rfl⟩
theorem dX0_init_93 : dec cX0_init 93 1 94 (.iload_n 1) := ⟨by decide +kernel, rfl⟩
theorem dX0_init_94 : dec cX0_init 94 2 96 (.bipush 12) := ⟨by decide +kernel, rfl⟩
theorem dX0_init_96 : dec cX0_init 96 3 99 (.if_icmp .ge 22) := ⟨by decide +kernel, rfl⟩
theorem dX0_init_99 : dec cX0_init 99 1 100 (.aload_n 0) := ⟨by decide +kernel, rfl⟩
theorem dX0_init_100 : dec cX0_init 100 3 103 (.getfield 11) := ⟨by decide +kernel, rfl⟩
theorem dX0_init_103 : dec cX0_init 103 1 104 (.iload_n 1) := ⟨by decide +kernel, rfl⟩
theorem dX0_init_104 : dec cX0_init 104 3 107 (.new 9) := ⟨by decide +kernel, rfl⟩
theorem dX0_init_107 : dec cX0_init 107 1 108 (.dup) := ⟨by decide +kernel, rfl⟩
theorem dX0_init_108 : dec cX0_init 108 3 111 (.invokespecial 49) := ⟨by decide +kernel, rfl⟩
theorem dX0_init_111 : dec cX0_init 111 1 112 (.aastore) := ⟨by decide +kernel, rfl⟩
theorem dX0_init_112 : dec cX0_init 112 3 115 (.iinc 1 1) := ⟨by decide +kernel, rfl⟩
theorem dX0_init_115 : dec cX0_init 115 3 118 (.goto (-22)) := ⟨by decide +kernel, rfl⟩
theorem dX0_init_118 : dec cX0_init 118 1 119 (.iconst 0) := ⟨by decide +kernel, rfl⟩
theorem dX0_init_119 : dec cX0_init 119 1 120 (.istore_n 1) := ⟨by decide +kernel, rfl⟩
theorem dX0_init_120 : dec cX0_init 120 1 121 (.iload_n 1) := ⟨by decide +kernel, rfl⟩
theorem dX0_init_121 : dec cX0_init 121 2 123 (.bipush 10) := ⟨by decide +kernel, rfl⟩
theorem dX0_init_123 : dec cX0_init 123 3 126 (.if_icmp .ge 22) := ⟨by decide +kernel, rfl⟩
theorem dX0_init_126 : dec cX0_init 126 1 127 (.aload_n 0) := ⟨by decide +kernel, rfl⟩
theorem dX0_init_127 : dec cX0_init 127 3 130 (.getfield 23) := ⟨by decide +kernel, rfl⟩
theorem dX0_init_130 : dec cX0_init 130 1 131 (.iload_n 1) := ⟨by decide +kernel, rfl⟩
theorem dX0_init_131 : dec cX0_init 131 3 134 (.new 21) := ⟨by decide +kernel, rfl⟩
theorem dX0_init_134 : dec cX0_init 134 1 135 (.dup) := ⟨by decide +kernel, rfl⟩
theorem dX0_init_135 : dec cX0_init 135 3 138 (.invokespecial 50) := ⟨by decide +kernel, rfl⟩
theorem dX0_init_138 : dec cX0_init 138 1 139 (.aastore) := ⟨by decide +kernel, rfl⟩
theorem dX0_init_139 : dec cX0_init 139 3 142 (.iinc 1 1) := ⟨by decide +kernel, rfl⟩
theorem dX0_init_142 : dec cX0_init 142 3 145 (.goto (-22)) := ⟨by decide +kernel, rfl⟩
theorem dX0_init_145 : dec cX0_init 145 1 146 (.iconst 0) := ⟨by decide +kernel, rfl⟩
theorem dX0_init_146 : dec cX0_init 146 1 147 (.istore_n 1) := ⟨by decide +kernel, rfl⟩
theorem dX0_init_147 : dec cX0_init 147 1 148 (.iload_n 1) := ⟨by decide +kernel, rfl⟩
theorem dX0_init_148 : dec cX0_init 148 2 150 (.bipush 10) := ⟨by decide +kernel, rfl⟩
theorem dX0_init_150 : dec cX0_init 150 3 153 (.if_icmp .ge 22) := ⟨by decide +kernel, rfl⟩
theorem dX0_init_153 : dec cX0_init 153 1 154 (.aload_n 0) := ⟨by decide +kernel, rfl⟩
theorem dX0_init_154 : dec cX0_init 154 3 157 (.getfield 29) := ⟨by decide +kernel, rfl⟩
theorem dX0_init_157 : dec cX0_init 157 1 158 (.iload_n 1) := ⟨by decide +kernel, rfl⟩
theorem dX0_init_158 : dec cX0_init 158 3 161 (.new 27) := ⟨by decide +kernel, rfl⟩
theorem dX0_init_161 : dec cX0_init 161 1 162 (.dup) := ⟨by decide +kernel, rfl⟩
theorem dX0_init_162 : dec cX0_init 162 3 165 (.invokespecial 51) := ⟨by decide +kernel, rfl⟩
theorem dX0_init_165 : dec cX0_init 165 1 166 (.aastore) := ⟨by decide +kernel, rfl⟩
theorem dX0_init_166 : dec cX0_init 166 3 169 (.iinc 1 1) := ⟨by decide +kernel, rfl⟩
theorem dX0_init_169 : dec cX0_init 169 3 172 (.goto (-22)) := ⟨by decide +kernel, rfl⟩
theorem dX0_init_172 : dec cX0_init 172 1 173 (.iconst 0) := ⟨by decide +kernel, rfl⟩
theorem dX0_init_173 : dec cX0_init 173 1 174 (.istore_n 1) := ⟨by decide +kernel, rfl⟩
theorem dX0_init_174 : dec cX0_init 174 1 175 (.iload_n 1) := ⟨by decide +kernel, rfl⟩
theorem dX0_init_175 : dec cX0_init 175 2 177 (.bipush 8) := ⟨by decide +kernel, rfl⟩
theorem dX0_init_177 : dec cX0_init 177 3 180 (.if_icmp .ge 35) := ⟨by decide +kernel, rfl⟩
theorem dX0_init_180 : dec cX0_init 180 1 181 (.aload_n 0) := ⟨by decide +kernel, rfl⟩
theorem dX0_init_181 : dec cX0_init 181 3 184 (.getfield 39) := ⟨by decide +kernel, rfl⟩
theorem dX0_init_184 : dec cX0_init 184 1 185 (.iload_n 1) := ⟨by decide +kernel, rfl⟩
theorem dX0_init_185 : dec cX0_init 185 3 188 (.new 37) := ⟨by decide +kernel, rfl⟩
theorem dX0_init_188 : dec cX0_init 188 1 189 (.dup) := ⟨by decide +kernel, rfl⟩
theorem dX0_init_189 : dec cX0_init 189 3 192 (.invokespecial 52) := ⟨by decide +kernel, rfl⟩
theorem dX0_init_192 : dec cX0_init 192 1 193 (.aastore) := ⟨by decide +kernel, rfl⟩
theorem dX0_init_193 : dec cX0_init 193 1 194 (.aload_n 0) := ⟨by decide +kernel, rfl⟩
theorem dX0_init_194 : dec cX0_init 194 3 197 (.getfield 43) := ⟨by decide +kernel, rfl⟩
theorem dX0_init_197 : dec cX0_init 197 1 198 (.iload_n 1) := ⟨by decide +kernel, rfl⟩
theorem dX0_init_198 : dec cX0_init 198 3 201 (.new 37) := ⟨by decide +kernel, rfl⟩
theorem dX0_init_201 : dec cX0_init 201 1 202 (.dup) := ⟨by decide +kernel, rfl⟩
theorem dX0_init_202 : dec cX0_init 202 3 205 (.invokespecial 52) := ⟨by decide +kernel, rfl⟩
theorem dX0_init_205 : dec cX0_init 205 1 206 (.aastore) := ⟨by decide +kernel, rfl⟩
theorem dX0_init_206 : dec cX0_init 206 3 209 (.iinc 1 1) := ⟨by decide +kernel, rfl⟩
theorem dX0_init_209 : dec cX0_init 209 3 212 (.goto (-35)) := ⟨by decide +kernel, rfl⟩
theorem dX0_init_212 : dec cX0_init 212 1 213 (.return_) := ⟨by decide +kernel, rfl⟩
set_option maxHeartbeats 4000000 in
set_option maxRecDepth 100000 in
theorem tX0_init_L93 {X : Cx} {Y : Yx} {M0 : Mem} (hC : OKX X Y RX0 cX0_init 2 none rmX0_init) (hN : nameX X = "<init>") (hF0 : Y.2.2.2.2 = false) (Q : Mem → Prop) (E118 : Nat → Mem → Prop) (a0 : Nat) (qa0 : 0 < a0 ∧ M0 0 a0 = kO 0) (hE118 : ∀ (Mb : Mem) (_ : KP M0 Mb) (c : Nat)  (M : Mem), E118 c  M → WW X Y 2 rmX0_init (QV Q) Mb c (50 * c) 118 [(0, vR Y.1 a0)] [] M) : ∀ (N : Nat) (Mb : Mem) (_ : KP M0 Mb) (c : Nat) (x1 : Int) (M : Mem) (_ : wX0_init_L93 Q E118 a0 N c x1 M), WW X Y 2 rmX0_init (QV Q) Mb c (50 * c) 93 [(0, vR Y.1 a0), (1, vI x1)] [] M := by
  intro N
  induction N with
  | zero =>
    intro Mb kp c x1 M h
    exact h.elim
  | succ N ih =>
    intro Mb kp c x1 M h
    unfold wX0_init_L93 at h
    have qa0 := kqO kp qa0
    refine r_iload_n hC 1 dX0_init_93 rfl rfl ?_
    refine r_bipush hC (by decide +kernel) dX0_init_94 ?_
    refine r_icmp_ge hC 118 rfl bmL_12 dX0_init_96 (by decide) (fun cq => ?_) (fun cq => ?_)
    · replace h := h.1 cq
      refine r_sub [0] rfl ?_
      exact hE118 _ kp _  _ h
    · replace h := h.2 cq
      refine r_aload_n hC 0 dX0_init_99 rfl rfl ?_
      refine r_getN hC fg_X0_11 rfl qa0.1 qa0.2 dX0_init_100 ?_
      obtain ⟨q_29, h⟩ := h
      refine r_base (fun hk hL0 => ?_)
      have kp := kp_tr kp hk
      have qa0 := kqO hk qa0
      rw [vN_R (q := (M a0 0).toNat) q_29.1 (by have := q_29.1; omega)]
      refine r_iload_n hC 1 dX0_init_103 rfl rfl ?_
      obtain ⟨c_32, h⟩ := h
      refine r_newobj hC hF0 rfl nw_X0_9 (by constructor <;> simp only [rmX0_init] <;> omega) dX0_init_104 ?_
      refine r_widen (n' := (c + 1)) (k' := 50 * (c + 1)) (by omega) (by omega) ?_
      refine r_nameM h (fun M_31 h => ?_)
      obtain ⟨q_30, h⟩ := h
      refine r_base (fun hk hL0 => ?_)
      have kp := kp_tr kp hk
      have qa0 := kqO hk qa0
      have q_29 := kqA hk q_29
      refine r_dup hC rfl dX0_init_107 ?_
      obtain ⟨c_33, h⟩ := h
      refine r_callI (As := []) (st := [vR Y.1 ((nx M)), vI x1, vR Y.1 ((M a0 0).toNat)]) hC ci_X0_49 rfl rfl (Nat.le_of_ble_eq_true rfl) ⟨Nat.le_of_ble_eq_true rfl, Nat.le_of_ble_eq_true rfl⟩ (by constructor <;> simp only [rmX0_init, rmX3_init] <;> omega) dX0_init_108 (fun hk => mX3_init Y hF0 _ _ _ _ (kqO hk q_30) h) (fun v M_34 h => ?_)
      obtain ⟨rfl, h⟩ := h
      refine r_widen (n' := (c + 1)) (k' := 50 * (c + 1)) (by simp only [rmX3_init]; omega) (by simp only [rmX3_init]; omega) ?_
      obtain ⟨i_35, h⟩ := h
      refine r_aast (t := 4) hC hF0 (by decide) (by decide) rfl rfl i_35 q_29.1 q_29.2 (by decide) q_30.1 q_30.2 dX0_init_111 ?_
      refine r_nameM h (fun M_36 h => ?_)
      refine let_elim h (fun x1_37 e_38 h => ?_)
      refine r_iinc (lv' := [(1, vI x1_37), (0, vR Y.1 a0)]) hC 1 dX0_init_112 rfl (by decide) e_38 rfl ?_
      refine r_goto hC 93 dX0_init_115 (by decide) ?_
      refine r_sub [1, 0] rfl ?_
      exact ih _ kp _ _ _ h
set_option maxHeartbeats 4000000 in
set_option maxRecDepth 100000 in
theorem tX0_init_L120 {X : Cx} {Y : Yx} {M0 : Mem} (hC : OKX X Y RX0 cX0_init 2 none rmX0_init) (hN : nameX X = "<init>") (hF0 : Y.2.2.2.2 = false) (Q : Mem → Prop) (E145 : Nat → Mem → Prop) (a0 : Nat) (qa0 : 0 < a0 ∧ M0 0 a0 = kO 0) (hE145 : ∀ (Mb : Mem) (_ : KP M0 Mb) (c : Nat)  (M : Mem), E145 c  M → WW X Y 2 rmX0_init (QV Q) Mb c (50 * c) 145 [(0, vR Y.1 a0)] [] M) : ∀ (N : Nat) (Mb : Mem) (_ : KP M0 Mb) (c : Nat) (x1 : Int) (M : Mem) (_ : wX0_init_L120 Q E145 a0 N c x1 M), WW X Y 2 rmX0_init (QV Q) Mb c (50 * c) 120 [(0, vR Y.1 a0), (1, vI x1)] [] M := by
  intro N
  induction N with
  | zero =>
    intro Mb kp c x1 M h
    exact h.elim
  | succ N ih =>
    intro Mb kp c x1 M h
    unfold wX0_init_L120 at h
    have qa0 := kqO kp qa0
    refine r_iload_n hC 1 dX0_init_120 rfl rfl ?_
    refine r_bipush hC (by decide +kernel) dX0_init_121 ?_
    refine r_icmp_ge hC 145 rfl bmL_10 dX0_init_123 (by decide) (fun cq => ?_) (fun cq => ?_)
    · replace h := h.1 cq
      refine r_sub [0] rfl ?_
      exact hE145 _ kp _  _ h
    · replace h := h.2 cq
      refine r_aload_n hC 0 dX0_init_126 rfl rfl ?_
      refine r_getN hC fg_X0_23 rfl qa0.1 qa0.2 dX0_init_127 ?_
      obtain ⟨q_42, h⟩ := h
      refine r_base (fun hk hL0 => ?_)
      have kp := kp_tr kp hk
      have qa0 := kqO hk qa0
      rw [vN_R (q := (M a0 3).toNat) q_42.1 (by have := q_42.1; omega)]
      refine r_iload_n hC 1 dX0_init_130 rfl rfl ?_
      obtain ⟨c_45, h⟩ := h
      refine r_newobj hC hF0 rfl nw_X0_21 (by constructor <;> simp only [rmX0_init] <;> omega) dX0_init_131 ?_
      refine r_widen (n' := (c + 1)) (k' := 50 * (c + 1)) (by omega) (by omega) ?_
      refine r_nameM h (fun M_44 h => ?_)
      obtain ⟨q_43, h⟩ := h
      refine r_base (fun hk hL0 => ?_)
      have kp := kp_tr kp hk
      have qa0 := kqO hk qa0
      have q_42 := kqA hk q_42
      refine r_dup hC rfl dX0_init_134 ?_
      obtain ⟨c_46, h⟩ := h
      refine r_callI (As := []) (st := [vR Y.1 ((nx M)), vI x1, vR Y.1 ((M a0 3).toNat)]) hC ci_X0_50 rfl rfl (Nat.le_of_ble_eq_true rfl) ⟨Nat.le_of_ble_eq_true rfl, Nat.le_of_ble_eq_true rfl⟩ (by constructor <;> simp only [rmX0_init, rmX1_init] <;> omega) dX0_init_135 (fun hk => mX1_init Y hF0 _ _ _ _ (kqO hk q_43) h) (fun v M_47 h => ?_)
      obtain ⟨rfl, h⟩ := h
      refine r_widen (n' := (c + 2)) (k' := 50 * (c + 2)) (by simp only [rmX1_init]; omega) (by simp only [rmX1_init]; omega) ?_
      obtain ⟨i_48, h⟩ := h
      refine r_aast (t := 5) hC hF0 (by decide) (by decide) rfl rfl i_48 q_42.1 q_42.2 (by decide) q_43.1 q_43.2 dX0_init_138 ?_
      refine r_nameM h (fun M_49 h => ?_)
      refine let_elim h (fun x1_50 e_51 h => ?_)
      refine r_iinc (lv' := [(1, vI x1_50), (0, vR Y.1 a0)]) hC 1 dX0_init_139 rfl (by decide) e_51 rfl ?_
      refine r_goto hC 120 dX0_init_142 (by decide) ?_
      refine r_sub [1, 0] rfl ?_
      exact ih _ kp _ _ _ h
set_option maxHeartbeats 4000000 in
set_option maxRecDepth 100000 in
theorem tX0_init_L147 {X : Cx} {Y : Yx} {M0 : Mem} (hC : OKX X Y RX0 cX0_init 2 none rmX0_init) (hN : nameX X = "<init>") (hF0 : Y.2.2.2.2 = false) (Q : Mem → Prop) (E172 : Nat → Mem → Prop) (a0 : Nat) (qa0 : 0 < a0 ∧ M0 0 a0 = kO 0) (hE172 : ∀ (Mb : Mem) (_ : KP M0 Mb) (c : Nat)  (M : Mem), E172 c  M → WW X Y 2 rmX0_init (QV Q) Mb c (50 * c) 172 [(0, vR Y.1 a0)] [] M) : ∀ (N : Nat) (Mb : Mem) (_ : KP M0 Mb) (c : Nat) (x1 : Int) (M : Mem) (_ : wX0_init_L147 Q E172 a0 N c x1 M), WW X Y 2 rmX0_init (QV Q) Mb c (50 * c) 147 [(0, vR Y.1 a0), (1, vI x1)] [] M := by
  intro N
  induction N with
  | zero =>
    intro Mb kp c x1 M h
    exact h.elim
  | succ N ih =>
    intro Mb kp c x1 M h
    unfold wX0_init_L147 at h
    have qa0 := kqO kp qa0
    refine r_iload_n hC 1 dX0_init_147 rfl rfl ?_
    refine r_bipush hC (by decide +kernel) dX0_init_148 ?_
    refine r_icmp_ge hC 172 rfl bmL_10 dX0_init_150 (by decide) (fun cq => ?_) (fun cq => ?_)
    · replace h := h.1 cq
      refine r_sub [0] rfl ?_
      exact hE172 _ kp _  _ h
    · replace h := h.2 cq
      refine r_aload_n hC 0 dX0_init_153 rfl rfl ?_
      refine r_getN hC fg_X0_29 rfl qa0.1 qa0.2 dX0_init_154 ?_
      obtain ⟨q_55, h⟩ := h
      refine r_base (fun hk hL0 => ?_)
      have kp := kp_tr kp hk
      have qa0 := kqO hk qa0
      rw [vN_R (q := (M a0 5).toNat) q_55.1 (by have := q_55.1; omega)]
      refine r_iload_n hC 1 dX0_init_157 rfl rfl ?_
      obtain ⟨c_58, h⟩ := h
      refine r_newobj hC hF0 rfl nw_X0_27 (by constructor <;> simp only [rmX0_init] <;> omega) dX0_init_158 ?_
      refine r_widen (n' := (c + 1)) (k' := 50 * (c + 1)) (by omega) (by omega) ?_
      refine r_nameM h (fun M_57 h => ?_)
      obtain ⟨q_56, h⟩ := h
      refine r_base (fun hk hL0 => ?_)
      have kp := kp_tr kp hk
      have qa0 := kqO hk qa0
      have q_55 := kqA hk q_55
      refine r_dup hC rfl dX0_init_161 ?_
      obtain ⟨c_59, h⟩ := h
      refine r_callI (As := []) (st := [vR Y.1 ((nx M)), vI x1, vR Y.1 ((M a0 5).toNat)]) hC ci_X0_51 rfl rfl (Nat.le_of_ble_eq_true rfl) ⟨Nat.le_of_ble_eq_true rfl, Nat.le_of_ble_eq_true rfl⟩ (by constructor <;> simp only [rmX0_init, rmX2_init] <;> omega) dX0_init_162 (fun hk => mX2_init Y hF0 _ _ _ _ (kqO hk q_56) h) (fun v M_60 h => ?_)
      obtain ⟨rfl, h⟩ := h
      refine r_widen (n' := (c + 1)) (k' := 50 * (c + 1)) (by simp only [rmX2_init]; omega) (by simp only [rmX2_init]; omega) ?_
      obtain ⟨i_61, h⟩ := h
      refine r_aast (t := 6) hC hF0 (by decide) (by decide) rfl rfl i_61 q_55.1 q_55.2 (by decide) q_56.1 q_56.2 dX0_init_165 ?_
      refine r_nameM h (fun M_62 h => ?_)
      refine let_elim h (fun x1_63 e_64 h => ?_)
      refine r_iinc (lv' := [(1, vI x1_63), (0, vR Y.1 a0)]) hC 1 dX0_init_166 rfl (by decide) e_64 rfl ?_
      refine r_goto hC 147 dX0_init_169 (by decide) ?_
      refine r_sub [1, 0] rfl ?_
      exact ih _ kp _ _ _ h
set_option maxHeartbeats 4000000 in
set_option maxRecDepth 100000 in
theorem tX0_init_L174 {X : Cx} {Y : Yx} {M0 : Mem} (hC : OKX X Y RX0 cX0_init 2 none rmX0_init) (hN : nameX X = "<init>") (hF0 : Y.2.2.2.2 = false) (Q : Mem → Prop)  (a0 : Nat) (qa0 : 0 < a0 ∧ M0 0 a0 = kO 0)  : ∀ (N : Nat) (Mb : Mem) (_ : KP M0 Mb) (c : Nat) (x1 : Int) (M : Mem) (_ : wX0_init_L174 Q  a0 N c x1 M), WW X Y 2 rmX0_init (QV Q) Mb c (50 * c) 174 [(0, vR Y.1 a0), (1, vI x1)] [] M := by
  intro N
  induction N with
  | zero =>
    intro Mb kp c x1 M h
    exact h.elim
  | succ N ih =>
    intro Mb kp c x1 M h
    unfold wX0_init_L174 at h
    have qa0 := kqO kp qa0
    refine r_iload_n hC 1 dX0_init_174 rfl rfl ?_
    refine r_bipush hC (by decide +kernel) dX0_init_175 ?_
    refine r_icmp_ge hC 212 rfl bmL_8 dX0_init_177 (by decide) (fun cq => ?_) (fun cq => ?_)
    · replace h := h.1 cq
      obtain ⟨c_68, h⟩ := h
      exact r_vret hC (by simp only [rmX0_init]; omega) (by simp only [rmX0_init]; omega) dX0_init_212 ⟨rfl, h⟩
    · replace h := h.2 cq
      refine r_aload_n hC 0 dX0_init_180 rfl rfl ?_
      refine r_getN hC fg_X0_39 rfl qa0.1 qa0.2 dX0_init_181 ?_
      obtain ⟨q_69, h⟩ := h
      refine r_base (fun hk hL0 => ?_)
      have kp := kp_tr kp hk
      have qa0 := kqO hk qa0
      rw [vN_R (q := (M a0 9).toNat) q_69.1 (by have := q_69.1; omega)]
      refine r_iload_n hC 1 dX0_init_184 rfl rfl ?_
      obtain ⟨c_72, h⟩ := h
      refine r_newobj hC hF0 rfl nw_X0_37 (by constructor <;> simp only [rmX0_init] <;> omega) dX0_init_185 ?_
      refine r_widen (n' := (c + 1)) (k' := 50 * (c + 1)) (by omega) (by omega) ?_
      refine r_nameM h (fun M_71 h => ?_)
      obtain ⟨q_70, h⟩ := h
      refine r_base (fun hk hL0 => ?_)
      have kp := kp_tr kp hk
      have qa0 := kqO hk qa0
      have q_69 := kqA hk q_69
      refine r_dup hC rfl dX0_init_188 ?_
      obtain ⟨c_73, h⟩ := h
      refine r_callI (As := []) (st := [vR Y.1 ((nx M)), vI x1, vR Y.1 ((M a0 9).toNat)]) hC ci_X0_52 rfl rfl (Nat.le_of_ble_eq_true rfl) ⟨Nat.le_of_ble_eq_true rfl, Nat.le_of_ble_eq_true rfl⟩ (by constructor <;> simp only [rmX0_init, rmX5_init] <;> omega) dX0_init_189 (fun hk => mX5_init Y hF0 _ _ _ _ (kqO hk q_70) h) (fun v M_74 h => ?_)
      obtain ⟨rfl, h⟩ := h
      refine r_widen (n' := (c + 2)) (k' := 50 * (c + 2)) (by simp only [rmX5_init]; omega) (by simp only [rmX5_init]; omega) ?_
      obtain ⟨i_75, h⟩ := h
      refine r_aast (t := 7) hC hF0 (by decide) (by decide) rfl rfl i_75 q_69.1 q_69.2 (by decide) q_70.1 q_70.2 dX0_init_192 ?_
      refine r_nameM h (fun M_76 h => ?_)
      refine r_aload_n hC 0 dX0_init_193 rfl rfl ?_
      refine r_getN hC fg_X0_43 rfl qa0.1 qa0.2 dX0_init_194 ?_
      obtain ⟨q_77, h⟩ := h
      refine r_base (fun hk hL0 => ?_)
      have kp := kp_tr kp hk
      have qa0 := kqO hk qa0
      rw [vN_R (q := (M_76 a0 10).toNat) q_77.1 (by have := q_77.1; omega)]
      refine r_iload_n hC 1 dX0_init_197 rfl rfl ?_
      obtain ⟨c_80, h⟩ := h
      refine r_newobj hC hF0 rfl nw_X0_37 (by constructor <;> simp only [rmX0_init] <;> omega) dX0_init_198 ?_
      refine r_widen (n' := (c + 3)) (k' := 50 * (c + 3)) (by omega) (by omega) ?_
      refine r_nameM h (fun M_79 h => ?_)
      obtain ⟨q_78, h⟩ := h
      refine r_base (fun hk hL0 => ?_)
      have kp := kp_tr kp hk
      have qa0 := kqO hk qa0
      have q_77 := kqA hk q_77
      refine r_dup hC rfl dX0_init_201 ?_
      obtain ⟨c_81, h⟩ := h
      refine r_callI (As := []) (st := [vR Y.1 ((nx M_76)), vI x1, vR Y.1 ((M_76 a0 10).toNat)]) hC ci_X0_52 rfl rfl (Nat.le_of_ble_eq_true rfl) ⟨Nat.le_of_ble_eq_true rfl, Nat.le_of_ble_eq_true rfl⟩ (by constructor <;> simp only [rmX0_init, rmX5_init] <;> omega) dX0_init_202 (fun hk => mX5_init Y hF0 _ _ _ _ (kqO hk q_78) h) (fun v M_82 h => ?_)
      obtain ⟨rfl, h⟩ := h
      refine r_widen (n' := (c + 4)) (k' := 50 * (c + 4)) (by simp only [rmX5_init]; omega) (by simp only [rmX5_init]; omega) ?_
      obtain ⟨i_83, h⟩ := h
      refine r_aast (t := 8) hC hF0 (by decide) (by decide) rfl rfl i_83 q_77.1 q_77.2 (by decide) q_78.1 q_78.2 dX0_init_205 ?_
      refine r_nameM h (fun M_84 h => ?_)
      refine let_elim h (fun x1_85 e_86 h => ?_)
      refine r_iinc (lv' := [(1, vI x1_85), (0, vR Y.1 a0)]) hC 1 dX0_init_206 rfl (by decide) e_86 rfl ?_
      refine r_goto hC 174 dX0_init_209 (by decide) ?_
      refine r_sub [1, 0] rfl ?_
      exact ih _ kp _ _ _ h
set_option maxHeartbeats 4000000 in
set_option maxRecDepth 100000 in
theorem mX0_init (Y : Yx) (hF0 : Y.2.2.2.2 = false) (l : Launch) (a0 : Nat) (M0 : Mem) (Q : Mem → Prop) (qa0 : 0 < a0 ∧ M0 0 a0 = kO 0) (h : wX0_init a0 M0 Q) : CT Y l yX0_init cX0_init 2 none rmX0_init [vR Y.1 a0] M0 (QV Q) := by
  unfold wX0_init at h
  refine ct_introI (by decide) (Nat.le_of_ble_eq_true rfl) ?_
  intro X hXl hC hN
  change OKX X Y RX0 cX0_init 2 none rmX0_init at hC
  change nameX X = "<init>" at hN
  change WW X Y 2 rmX0_init (QV Q) M0 0 0 0 [(0, vR Y.1 a0)] [] M0
  refine r_aload_n hC 0 dX0_init_0 rfl rfl ?_
  refine r_objInit hC ob_X0_3 (Nat.le_of_ble_eq_true rfl) (Nat.le_of_ble_eq_true rfl) (Nat.le_of_ble_eq_true rfl) dX0_init_1 ?_
  refine r_aload_n hC 0 dX0_init_4 rfl rfl ?_
  refine r_bipush hC (by decide +kernel) dX0_init_5 ?_
  refine r_newref (t := 4) (len := 12) hC hF0 (by decide) (by decide) nq_X0_9_4 rfl (by decide) ⟨Nat.le_of_ble_eq_true rfl, Nat.le_of_ble_eq_true rfl⟩ dX0_init_7 ?_
  refine r_widen (n' := 1) (k' := 50 * 1) (by omega) (by omega) ?_
  refine r_nameM h (fun M_2 h => ?_)
  obtain ⟨q_1, h⟩ := h
  refine r_base (fun hk hL0 => ?_)
  have qa0 := kqO hk qa0
  refine r_putF hC hN hF0 q_1.1 ff_X0_11 rfl (by first | exact Or.inl ⟨_, rfl⟩ | exact Or.inr ⟨_, rfl⟩) qa0.1 qa0.2 dX0_init_10 ?_
  refine r_nameM h (fun M_3 h => ?_)
  refine r_aload_n hC 0 dX0_init_13 rfl rfl ?_
  refine r_iconst hC dX0_init_14 ?_
  refine r_newarr (t := 0) (len := 4) hC (by decide) rfl ac_0 rfl (by decide) (by decide +kernel) ⟨Nat.le_of_ble_eq_true rfl, Nat.le_of_ble_eq_true rfl⟩ dX0_init_15 ?_
  refine r_widen (n' := 2) (k' := 50 * 2) (by omega) (by omega) ?_
  refine r_nameM h (fun M_5 h => ?_)
  obtain ⟨q_4, h⟩ := h
  refine r_base (fun hk hL0 => ?_)
  have qa0 := kqO hk qa0
  refine r_dup hC rfl dX0_init_17 ?_
  refine r_iconst hC dX0_init_18 ?_
  refine r_iconst hC dX0_init_19 ?_
  refine r_iast hC ⟨by decide +kernel, by decide +kernel⟩ q_4.1 q_4.2 (by decide) dX0_init_20 ?_
  refine r_nameM h (fun M_6 h => ?_)
  refine r_dup hC rfl dX0_init_21 ?_
  refine r_iconst hC dX0_init_22 ?_
  refine r_iconst hC dX0_init_23 ?_
  refine r_iast hC ⟨by decide +kernel, by decide +kernel⟩ q_4.1 q_4.2 (by decide) dX0_init_24 ?_
  refine r_nameM h (fun M_7 h => ?_)
  refine r_dup hC rfl dX0_init_25 ?_
  refine r_iconst hC dX0_init_26 ?_
  refine r_bipush hC (by decide +kernel) dX0_init_27 ?_
  refine r_iast hC ⟨by decide +kernel, by decide +kernel⟩ q_4.1 q_4.2 (by decide) dX0_init_29 ?_
  refine r_nameM h (fun M_8 h => ?_)
  refine r_dup hC rfl dX0_init_30 ?_
  refine r_iconst hC dX0_init_31 ?_
  refine r_sipush hC (by decide +kernel) dX0_init_32 ?_
  refine r_iast hC ⟨by decide +kernel, by decide +kernel⟩ q_4.1 q_4.2 (by decide) dX0_init_35 ?_
  refine r_nameM h (fun M_9 h => ?_)
  refine r_putF hC hN hF0 q_4.1 ff_X0_17 rfl (by first | exact Or.inl ⟨_, rfl⟩ | exact Or.inr ⟨_, rfl⟩) qa0.1 qa0.2 dX0_init_36 ?_
  refine r_nameM h (fun M_10 h => ?_)
  refine r_aload_n hC 0 dX0_init_39 rfl rfl ?_
  refine r_bipush hC (by decide +kernel) dX0_init_40 ?_
  refine r_newref (t := 5) (len := 10) hC hF0 (by decide) (by decide) nq_X0_21_5 rfl (by decide) ⟨Nat.le_of_ble_eq_true rfl, Nat.le_of_ble_eq_true rfl⟩ dX0_init_42 ?_
  refine r_widen (n' := 3) (k' := 50 * 3) (by omega) (by omega) ?_
  refine r_nameM h (fun M_12 h => ?_)
  obtain ⟨q_11, h⟩ := h
  refine r_base (fun hk hL0 => ?_)
  have qa0 := kqO hk qa0
  refine r_putF hC hN hF0 q_11.1 ff_X0_23 rfl (by first | exact Or.inl ⟨_, rfl⟩ | exact Or.inr ⟨_, rfl⟩) qa0.1 qa0.2 dX0_init_45 ?_
  refine r_nameM h (fun M_13 h => ?_)
  refine r_aload_n hC 0 dX0_init_48 rfl rfl ?_
  refine r_bipush hC (by decide +kernel) dX0_init_49 ?_
  refine r_newref (t := 6) (len := 10) hC hF0 (by decide) (by decide) nq_X0_27_6 rfl (by decide) ⟨Nat.le_of_ble_eq_true rfl, Nat.le_of_ble_eq_true rfl⟩ dX0_init_51 ?_
  refine r_widen (n' := 4) (k' := 50 * 4) (by omega) (by omega) ?_
  refine r_nameM h (fun M_15 h => ?_)
  obtain ⟨q_14, h⟩ := h
  refine r_base (fun hk hL0 => ?_)
  have qa0 := kqO hk qa0
  refine r_putF hC hN hF0 q_14.1 ff_X0_29 rfl (by first | exact Or.inl ⟨_, rfl⟩ | exact Or.inr ⟨_, rfl⟩) qa0.1 qa0.2 dX0_init_54 ?_
  refine r_nameM h (fun M_16 h => ?_)
  refine r_aload_n hC 0 dX0_init_57 rfl rfl ?_
  refine r_bipush hC (by decide +kernel) dX0_init_58 ?_
  refine r_newarr (t := 1) (len := 50) hC (by decide) rfl ac_1 rfl (by decide) (by decide +kernel) ⟨Nat.le_of_ble_eq_true rfl, Nat.le_of_ble_eq_true rfl⟩ dX0_init_60 ?_
  refine r_widen (n' := 5) (k' := 50 * 5) (by omega) (by omega) ?_
  refine r_nameM h (fun M_18 h => ?_)
  obtain ⟨q_17, h⟩ := h
  refine r_base (fun hk hL0 => ?_)
  have qa0 := kqO hk qa0
  refine r_putF hC hN hF0 q_17.1 ff_X0_33 rfl (by first | exact Or.inl ⟨_, rfl⟩ | exact Or.inr ⟨_, rfl⟩) qa0.1 qa0.2 dX0_init_62 ?_
  refine r_nameM h (fun M_19 h => ?_)
  refine r_aload_n hC 0 dX0_init_65 rfl rfl ?_
  refine r_bipush hC (by decide +kernel) dX0_init_66 ?_
  refine r_newref (t := 7) (len := 8) hC hF0 (by decide) (by decide) nq_X0_37_7 rfl (by decide) ⟨Nat.le_of_ble_eq_true rfl, Nat.le_of_ble_eq_true rfl⟩ dX0_init_68 ?_
  refine r_widen (n' := 6) (k' := 50 * 6) (by omega) (by omega) ?_
  refine r_nameM h (fun M_21 h => ?_)
  obtain ⟨q_20, h⟩ := h
  refine r_base (fun hk hL0 => ?_)
  have qa0 := kqO hk qa0
  refine r_putF hC hN hF0 q_20.1 ff_X0_39 rfl (by first | exact Or.inl ⟨_, rfl⟩ | exact Or.inr ⟨_, rfl⟩) qa0.1 qa0.2 dX0_init_71 ?_
  refine r_nameM h (fun M_22 h => ?_)
  refine r_aload_n hC 0 dX0_init_74 rfl rfl ?_
  refine r_bipush hC (by decide +kernel) dX0_init_75 ?_
  refine r_newref (t := 8) (len := 8) hC hF0 (by decide) (by decide) nq_X0_37_8 rfl (by decide) ⟨Nat.le_of_ble_eq_true rfl, Nat.le_of_ble_eq_true rfl⟩ dX0_init_77 ?_
  refine r_widen (n' := 7) (k' := 50 * 7) (by omega) (by omega) ?_
  refine r_nameM h (fun M_24 h => ?_)
  obtain ⟨q_23, h⟩ := h
  refine r_base (fun hk hL0 => ?_)
  have qa0 := kqO hk qa0
  refine r_putF hC hN hF0 q_23.1 ff_X0_43 rfl (by first | exact Or.inl ⟨_, rfl⟩ | exact Or.inr ⟨_, rfl⟩) qa0.1 qa0.2 dX0_init_80 ?_
  refine r_nameM h (fun M_25 h => ?_)
  refine r_aload_n hC 0 dX0_init_83 rfl rfl ?_
  refine r_bipush hC (by decide +kernel) dX0_init_84 ?_
  refine r_newarr (t := 0) (len := 12) hC (by decide) rfl ac_0 rfl (by decide) (by decide +kernel) ⟨Nat.le_of_ble_eq_true rfl, Nat.le_of_ble_eq_true rfl⟩ dX0_init_86 ?_
  refine r_widen (n' := 8) (k' := 50 * 8) (by omega) (by omega) ?_
  refine r_nameM h (fun M_27 h => ?_)
  obtain ⟨q_26, h⟩ := h
  refine r_base (fun hk hL0 => ?_)
  have qa0 := kqO hk qa0
  refine r_putF hC hN hF0 q_26.1 ff_X0_46 rfl (by first | exact Or.inl ⟨_, rfl⟩ | exact Or.inr ⟨_, rfl⟩) qa0.1 qa0.2 dX0_init_88 ?_
  refine r_nameM h (fun M_28 h => ?_)
  refine r_iconst hC dX0_init_91 ?_
  refine r_istore_n (lv' := [(1, vI 0), (0, vR Y.1 a0)]) hC dX0_init_92 rfl (by decide) rfl ?_
  refine r_sub [1, 0] rfl ?_
  obtain ⟨N_90, h⟩ := h
  refine tX0_init_L93 hC hN hF0 Q _ _ qa0 ?_ N_90 _ (fun _ _ _ => rfl) _ _ _ h
  · intro Mb_41 hb c_40 M_39 h
    have qa0 := kqO hb qa0
    refine r_iconst hC dX0_init_118 ?_
    refine r_istore_n (lv' := [(1, vI 0), (0, vR Y.1 a0)]) hC dX0_init_119 rfl (by decide) rfl ?_
    refine r_sub [1, 0] rfl ?_
    obtain ⟨N_89, h⟩ := h
    refine tX0_init_L120 hC hN hF0 Q _ _ qa0 ?_ N_89 _ (fun _ _ _ => rfl) _ _ _ h
    · intro Mb_54 hb c_53 M_52 h
      have qa0 := kqO hb qa0
      refine r_iconst hC dX0_init_145 ?_
      refine r_istore_n (lv' := [(1, vI 0), (0, vR Y.1 a0)]) hC dX0_init_146 rfl (by decide) rfl ?_
      refine r_sub [1, 0] rfl ?_
      obtain ⟨N_88, h⟩ := h
      refine tX0_init_L147 hC hN hF0 Q _ _ qa0 ?_ N_88 _ (fun _ _ _ => rfl) _ _ _ h
      · intro Mb_67 hb c_66 M_65 h
        have qa0 := kqO hb qa0
        refine r_iconst hC dX0_init_172 ?_
        refine r_istore_n (lv' := [(1, vI 0), (0, vR Y.1 a0)]) hC dX0_init_173 rfl (by decide) rfl ?_
        refine r_sub [1, 0] rfl ?_
        obtain ⟨N_87, h⟩ := h
        refine tX0_init_L174 hC hN hF0 Q  _ qa0  N_87 _ (fun _ _ _ => rfl) _ _ _ h
theorem dX3_copyFrom_0 : dec cX3_copyFrom 0 1 1 (.aload_n 0) := ⟨by decide +kernel, rfl⟩
theorem dX3_copyFrom_1 : dec cX3_copyFrom 1 1 2 (.aload_n 1) := ⟨by decide +kernel, rfl⟩
theorem dX3_copyFrom_2 : dec cX3_copyFrom 2 3 5 (.getfield 7) := ⟨by decide +kernel, rfl⟩
theorem dX3_copyFrom_5 : dec cX3_copyFrom 5 3 8 (.putfield 7) := ⟨by decide +kernel, rfl⟩
theorem dX3_copyFrom_8 : dec cX3_copyFrom 8 1 9 (.aload_n 0) := ⟨by decide +kernel, rfl⟩
theorem dX3_copyFrom_9 : dec cX3_copyFrom 9 1 10 (.aload_n 1) := ⟨by decide +kernel, rfl⟩
theorem dX3_copyFrom_10 : dec cX3_copyFrom 10 3 13 (.getfield 13) := ⟨by decide +kernel, rfl⟩
theorem dX3_copyFrom_13 : dec cX3_copyFrom 13 3 16 (.putfield 13) := ⟨by decide +kernel, rfl⟩
theorem dX3_copyFrom_16 : dec cX3_copyFrom 16 1 17 (.aload_n 0) := ⟨by decide +kernel, rfl⟩
theorem dX3_copyFrom_17 : dec cX3_copyFrom 17 1 18 (.aload_n 1) := ⟨by decide +kernel, rfl⟩
theorem dX3_copyFrom_18 : dec cX3_copyFrom 18 3 21 (.getfield 16) := ⟨by decide +kernel, rfl⟩
theorem dX3_copyFrom_21 : dec cX3_copyFrom 21 3 24 (.putfield 16) := ⟨by decide +kernel, rfl⟩
theorem dX3_copyFrom_24 : dec cX3_copyFrom 24 1 25 (.aload_n 0) := ⟨by decide +kernel, rfl⟩
theorem dX3_copyFrom_25 : dec cX3_copyFrom 25 1 26 (.aload_n 1) := ⟨by decide +kernel, rfl⟩
theorem dX3_copyFrom_26 : dec cX3_copyFrom 26 3 29 (.getfield 19) := ⟨by decide +kernel, rfl⟩
theorem dX3_copyFrom_29 : dec cX3_copyFrom 29 3 32 (.putfield 19) := ⟨by decide +kernel, rfl⟩
theorem dX3_copyFrom_32 : dec cX3_copyFrom 32 1 33 (.aload_n 0) := ⟨by decide +kernel, rfl⟩
theorem dX3_copyFrom_33 : dec cX3_copyFrom 33 1 34 (.aload_n 1) := ⟨by decide +kernel, rfl⟩
theorem dX3_copyFrom_34 : dec cX3_copyFrom 34 3 37 (.getfield 22) := ⟨by decide +kernel, rfl⟩
theorem dX3_copyFrom_37 : dec cX3_copyFrom 37 3 40 (.putfield 22) := ⟨by decide +kernel, rfl⟩
theorem dX3_copyFrom_40 : dec cX3_copyFrom 40 1 41 (.aload_n 0) := ⟨by decide +kernel, rfl⟩
theorem dX3_copyFrom_41 : dec cX3_copyFrom 41 1 42 (.aload_n 1) := ⟨by decide +kernel, rfl⟩
theorem dX3_copyFrom_42 : dec cX3_copyFrom 42 3 45 (.getfield 25) := ⟨by decide +kernel, rfl⟩
theorem dX3_copyFrom_45 : dec cX3_copyFrom 45 3 48 (.putfield 25) := ⟨by decide +kernel, rfl⟩
theorem dX3_copyFrom_48 : dec cX3_copyFrom 48 1 49 (.return_) := ⟨by decide +kernel, rfl⟩
set_option maxHeartbeats 4000000 in
set_option maxRecDepth 100000 in
theorem mX3_copyFrom (Y : Yx) (hF : Y.2.2.2.2 = true) (l : Launch) (a0 : Nat) (a1 : Nat) (M0 : Mem) (Q : Mem → Prop) (qa0 : 0 < a0 ∧ M0 0 a0 = kO 3) (qa1 : 0 < a1 ∧ M0 0 a1 = kO 3) (h : wX3_copyFrom a0 a1 M0 Q) : CT Y l yX3_copyFrom cX3_copyFrom 2 none rmX3_copyFrom [vR Y.1 a0, vR Y.1 a1] M0 (QV Q) := by
  unfold wX3_copyFrom at h
  refine ct_intro (by decide) (Nat.le_of_ble_eq_true rfl) ?_
  intro X hXl hC hL0
  have hL := hL0 hF
  change OKX X Y RX3 cX3_copyFrom 2 none rmX3_copyFrom at hC
  change WW X Y 2 rmX3_copyFrom (QV Q) M0 0 0 0 [(0, vR Y.1 a0), (1, vR Y.1 a1)] [] M0
  refine r_aload_n hC 0 dX3_copyFrom_0 rfl rfl ?_
  refine r_aload_n hC 1 dX3_copyFrom_1 rfl rfl ?_
  refine r_getI hC fg_X3_7 rfl qa1.1 qa1.2 dX3_copyFrom_2 ?_
  refine r_putI hC fp_X3_7 rfl qa0.1 qa0.2 dX3_copyFrom_5 ?_
  refine r_nameM h (fun M_1 h => ?_)
  refine r_aload_n hC 0 dX3_copyFrom_8 rfl rfl ?_
  refine r_aload_n hC 1 dX3_copyFrom_9 rfl rfl ?_
  refine r_getI hC fg_X3_13 rfl qa1.1 qa1.2 dX3_copyFrom_10 ?_
  refine r_putI hC fp_X3_13 rfl qa0.1 qa0.2 dX3_copyFrom_13 ?_
  refine r_nameM h (fun M_2 h => ?_)
  refine r_aload_n hC 0 dX3_copyFrom_16 rfl rfl ?_
  refine r_aload_n hC 1 dX3_copyFrom_17 rfl rfl ?_
  refine r_getI hC fg_X3_16 rfl qa1.1 qa1.2 dX3_copyFrom_18 ?_
  refine r_putI hC fp_X3_16 rfl qa0.1 qa0.2 dX3_copyFrom_21 ?_
  refine r_nameM h (fun M_3 h => ?_)
  refine r_aload_n hC 0 dX3_copyFrom_24 rfl rfl ?_
  refine r_aload_n hC 1 dX3_copyFrom_25 rfl rfl ?_
  refine r_getI hC fg_X3_19 rfl qa1.1 qa1.2 dX3_copyFrom_26 ?_
  refine r_putI hC fp_X3_19 rfl qa0.1 qa0.2 dX3_copyFrom_29 ?_
  refine r_nameM h (fun M_4 h => ?_)
  refine r_aload_n hC 0 dX3_copyFrom_32 rfl rfl ?_
  refine r_aload_n hC 1 dX3_copyFrom_33 rfl rfl ?_
  refine r_getI hC fg_X3_22 rfl qa1.1 qa1.2 dX3_copyFrom_34 ?_
  refine r_putI hC fp_X3_22 rfl qa0.1 qa0.2 dX3_copyFrom_37 ?_
  refine r_nameM h (fun M_5 h => ?_)
  refine r_aload_n hC 0 dX3_copyFrom_40 rfl rfl ?_
  refine r_aload_n hC 1 dX3_copyFrom_41 rfl rfl ?_
  refine r_getI hC fg_X3_25 rfl qa1.1 qa1.2 dX3_copyFrom_42 ?_
  refine r_putI hC fp_X3_25 rfl qa0.1 qa0.2 dX3_copyFrom_45 ?_
  refine r_nameM h (fun M_6 h => ?_)
  exact r_vret hC (Nat.zero_le _) (Nat.zero_le _) dX3_copyFrom_48 ⟨rfl, h⟩
theorem dJ9_min_7cf53_0 : dec cJ9_min_7cf53 0 1 1 (.iload_n 0) := ⟨by decide +kernel, rfl⟩
theorem dJ9_min_7cf53_1 : dec cJ9_min_7cf53 1 1 2 (.iload_n 1) := ⟨by decide +kernel, rfl⟩
theorem dJ9_min_7cf53_2 : dec cJ9_min_7cf53 2 3 5 (.if_icmp .gt 7) := ⟨by decide +kernel, rfl⟩
theorem dJ9_min_7cf53_5 : dec cJ9_min_7cf53 5 1 6 (.iload_n 0) := ⟨by decide +kernel, rfl⟩
theorem dJ9_min_7cf53_6 : dec cJ9_min_7cf53 6 3 9 (.goto 4) := ⟨by decide +kernel, rfl⟩
theorem dJ9_min_7cf53_9 : dec cJ9_min_7cf53 9 1 10 (.iload_n 1) := ⟨by decide +kernel, rfl⟩
theorem dJ9_min_7cf53_10 : dec cJ9_min_7cf53 10 1 11 (.ireturn) := ⟨by decide +kernel, rfl⟩
set_option maxHeartbeats 4000000 in
set_option maxRecDepth 100000 in
theorem mJ9_min_7cf53 (Y : Yx) (hF : Y.2.2.2.2 = true) (l : Launch) (x0 : Int) (x1 : Int) (M0 : Mem) (Q : Int → Mem → Prop)  (h : wJ9_min_7cf53 x0 x1 M0 Q) : CT Y l yJ9_min_7cf53 cJ9_min_7cf53 2 (some .int) rmJ9_min_7cf53 [vI x0, vI x1] M0 (QI Q) := by
  unfold wJ9_min_7cf53 at h
  refine ct_intro (by decide +kernel) (Nat.le_of_ble_eq_true rfl) ?_
  intro X hXl hC hL0
  have hL := hL0 hF
  change OKX X Y RJ9 cJ9_min_7cf53 2 (some .int) rmJ9_min_7cf53 at hC
  change WW X Y 2 rmJ9_min_7cf53 (QI Q) M0 0 0 0 [(0, vI x0), (1, vI x1)] [] M0
  refine r_iload_n hC 0 dJ9_min_7cf53_0 rfl rfl ?_
  refine r_iload_n hC 1 dJ9_min_7cf53_1 rfl rfl ?_
  refine r_icmp_gt hC 9 rfl rfl dJ9_min_7cf53_2 (by decide) (fun cq => ?_) (fun cq => ?_)
  · replace h := h.1 cq
    refine r_iload_n hC 1 dJ9_min_7cf53_9 rfl rfl ?_
    exact r_iret hC (Nat.zero_le _) (Nat.zero_le _) dJ9_min_7cf53_10 ⟨_, rfl, h⟩
  · replace h := h.2 cq
    refine r_iload_n hC 0 dJ9_min_7cf53_5 rfl rfl ?_
    refine r_goto hC 10 dJ9_min_7cf53_6 (by decide) ?_
    exact r_iret hC (Nat.zero_le _) (Nat.zero_le _) dJ9_min_7cf53_10 ⟨_, rfl, h⟩
theorem dX1_takeText_0 : dec cX1_takeText 0 1 1 (.aload_n 0) := ⟨by decide +kernel, rfl⟩
theorem dX1_takeText_1 : dec cX1_takeText 1 1 2 (.iload_n 2) := ⟨by decide +kernel, rfl⟩
theorem dX1_takeText_2 : dec cX1_takeText 2 1 3 (.aload_n 0) := ⟨by decide +kernel, rfl⟩
theorem dX1_takeText_3 : dec cX1_takeText 3 3 6 (.getfield 15) := ⟨by decide +kernel, rfl⟩
theorem dX1_takeText_6 : dec cX1_takeText 6 1 7 (.arraylength) := ⟨by decide +kernel, rfl⟩
theorem dX1_takeText_7 : dec cX1_takeText 7 1 8 (.aload_n 1) := ⟨by decide +kernel, rfl⟩
theorem dX1_takeText_8 : dec cX1_takeText 8 1 9 (.arraylength) := ⟨by decide +kernel, rfl⟩
theorem dX1_takeText_9 : dec cX1_takeText 9 3 12 (.invokestatic 39) := ⟨by decide +kernel, rfl⟩
theorem dX1_takeText_12 : dec cX1_takeText 12 3 15 (.invokestatic 39) := ⟨by decide +kernel, rfl⟩
theorem dX1_takeText_15 : dec cX1_takeText 15 3 18 (.putfield 32) := ⟨by decide +kernel, rfl⟩
theorem dX1_takeText_18 : dec cX1_takeText 18 1 19 (.aload_n 1) := ⟨by decide +kernel, rfl⟩
theorem dX1_takeText_19 : dec cX1_takeText 19 1 20 (.iconst 0) := ⟨by decide +kernel, rfl⟩
theorem dX1_takeText_20 : dec cX1_takeText 20 1 21 (.aload_n 0) := ⟨by decide +kernel, rfl⟩
theorem dX1_takeText_21 : dec cX1_takeText 21 3 24 (.getfield 15) := ⟨by decide +kernel, rfl⟩
theorem dX1_takeText_24 : dec cX1_takeText 24 1 25 (.iconst 0) := ⟨by decide +kernel, rfl⟩
theorem dX1_takeText_25 : dec cX1_takeText 25 1 26 (.aload_n 0) := ⟨by decide +kernel, rfl⟩
theorem dX1_takeText_26 : dec cX1_takeText 26 3 29 (.getfield 32) := ⟨by decide +kernel, rfl⟩
theorem dX1_takeText_29 : dec cX1_takeText 29 3 32 (.invokestatic 45) := ⟨by decide +kernel, rfl⟩
theorem dX1_takeText_32 : dec cX1_takeText 32 1 33 (.return_) := ⟨by decide +kernel, rfl⟩
set_option maxHeartbeats 4000000 in
set_option maxRecDepth 100000 in
theorem mX1_takeText (Y : Yx) (hF : Y.2.2.2.2 = true) (l : Launch) (a0 : Nat) (a1 : Nat) (x2 : Int) (M0 : Mem) (Q : Mem → Prop) (qa0 : 0 < a0 ∧ M0 0 a0 = kO 1) (qa1 : 0 < a1 ∧ M0 0 a1 = kA 0 50) (h : wX1_takeText a0 a1 x2 M0 Q) : CT Y l yX1_takeText cX1_takeText 3 none rmX1_takeText [vR Y.1 a0, vR Y.1 a1, vI x2] M0 (QV Q) := by
  unfold wX1_takeText at h
  refine ct_intro (by decide) (Nat.le_of_ble_eq_true rfl) ?_
  intro X hXl hC hL0
  have hL := hL0 hF
  change OKX X Y RX1 cX1_takeText 3 none rmX1_takeText at hC
  change WW X Y 3 rmX1_takeText (QV Q) M0 0 0 0 [(0, vR Y.1 a0), (1, vR Y.1 a1), (2, vI x2)] [] M0
  refine r_aload_n hC 0 dX1_takeText_0 rfl rfl ?_
  refine r_iload_n hC 2 dX1_takeText_1 rfl rfl ?_
  refine r_aload_n hC 0 dX1_takeText_2 rfl rfl ?_
  have q_1 : 0 < a0 + 1 ∧ M0 0 (a0 + 1) = kA 0 50 := lay_f0 (a := a0) hL qa0 fm_1_6
  refine r_getR0 (a' := a0 + 1) hC fg_X1_15 rfl hF fm_1_6 qa0.1 qa0.2 rfl dX1_takeText_3 ?_
  refine r_alen hC (by decide) q_1.1 q_1.2 (by decide) dX1_takeText_6 ?_
  refine r_aload_n hC 1 dX1_takeText_7 rfl rfl ?_
  refine r_alen hC (by decide) qa1.1 qa1.2 (by decide) dX1_takeText_8 ?_
  refine r_callS (As := [vI 50, vI 50]) (st := [vI x2, vR Y.1 a0]) hC cw_X1_39 rfl rfl (Nat.le_of_ble_eq_true rfl) ⟨Nat.le_of_ble_eq_true rfl, Nat.le_of_ble_eq_true rfl⟩ ⟨Nat.le_of_ble_eq_true rfl, Nat.le_of_ble_eq_true rfl⟩ dX1_takeText_9 (fun hk => mJ9_min_7cf53 Y hF _ _ _ _ _  h) (fun v M_2 h => ?_)
  obtain ⟨r_3, rfl, h⟩ := h
  refine r_callS (As := [vI x2, vI r_3]) (st := [vR Y.1 a0]) hC cw_X1_39 rfl rfl (Nat.le_of_ble_eq_true rfl) ⟨Nat.le_of_ble_eq_true rfl, Nat.le_of_ble_eq_true rfl⟩ ⟨Nat.le_of_ble_eq_true rfl, Nat.le_of_ble_eq_true rfl⟩ dX1_takeText_12 (fun hk => mJ9_min_7cf53 Y hF _ _ _ _ _  h) (fun v M_4 h => ?_)
  obtain ⟨r_5, rfl, h⟩ := h
  refine r_putI hC fp_X1_32 rfl qa0.1 qa0.2 dX1_takeText_15 ?_
  refine r_nameM h (fun M_6 h => ?_)
  refine r_aload_n hC 1 dX1_takeText_18 rfl rfl ?_
  refine r_iconst hC dX1_takeText_19 ?_
  refine r_aload_n hC 0 dX1_takeText_20 rfl rfl ?_
  have q_7 : 0 < a0 + 1 ∧ M0 0 (a0 + 1) = kA 0 50 := lay_f0 (a := a0) hL qa0 fm_1_6
  refine r_getR0 (a' := a0 + 1) hC fg_X1_15 rfl hF fm_1_6 qa0.1 qa0.2 rfl dX1_takeText_21 ?_
  refine r_iconst hC dX1_takeText_24 ?_
  refine r_aload_n hC 0 dX1_takeText_25 rfl rfl ?_
  refine r_getI hC fg_X1_32 rfl qa0.1 qa0.2 dX1_takeText_26 ?_
  obtain ⟨i_8, h⟩ := h
  refine r_copy (t := 0) hC (by decide) cp_X1_45 (Nat.le_of_ble_eq_true rfl) (Nat.le_of_ble_eq_true rfl) (Nat.le_of_ble_eq_true rfl) i_8 (by intro q; cases q) qa1 q_7 (by decide) (by decide) dX1_takeText_29 ?_
  refine r_nameM h (fun M_10 h => ?_)
  exact r_vret hC (Nat.zero_le _) (Nat.zero_le _) dX1_takeText_32 ⟨rfl, h⟩
theorem dX1_copyFrom_0 : dec cX1_copyFrom 0 1 1 (.aload_n 0) := ⟨by decide +kernel, rfl⟩
theorem dX1_copyFrom_1 : dec cX1_copyFrom 1 1 2 (.aload_n 1) := ⟨by decide +kernel, rfl⟩
theorem dX1_copyFrom_2 : dec cX1_copyFrom 2 3 5 (.getfield 19) := ⟨by decide +kernel, rfl⟩
theorem dX1_copyFrom_5 : dec cX1_copyFrom 5 3 8 (.putfield 19) := ⟨by decide +kernel, rfl⟩
theorem dX1_copyFrom_8 : dec cX1_copyFrom 8 1 9 (.aload_n 0) := ⟨by decide +kernel, rfl⟩
theorem dX1_copyFrom_9 : dec cX1_copyFrom 9 1 10 (.aload_n 1) := ⟨by decide +kernel, rfl⟩
theorem dX1_copyFrom_10 : dec cX1_copyFrom 10 3 13 (.getfield 22) := ⟨by decide +kernel, rfl⟩
theorem dX1_copyFrom_13 : dec cX1_copyFrom 13 3 16 (.putfield 22) := ⟨by decide +kernel, rfl⟩
theorem dX1_copyFrom_16 : dec cX1_copyFrom 16 1 17 (.aload_n 0) := ⟨by decide +kernel, rfl⟩
theorem dX1_copyFrom_17 : dec cX1_copyFrom 17 1 18 (.aload_n 1) := ⟨by decide +kernel, rfl⟩
theorem dX1_copyFrom_18 : dec cX1_copyFrom 18 3 21 (.getfield 11) := ⟨by decide +kernel, rfl⟩
theorem dX1_copyFrom_21 : dec cX1_copyFrom 21 3 24 (.putfield 11) := ⟨by decide +kernel, rfl⟩
theorem dX1_copyFrom_24 : dec cX1_copyFrom 24 1 25 (.aload_n 0) := ⟨by decide +kernel, rfl⟩
theorem dX1_copyFrom_25 : dec cX1_copyFrom 25 1 26 (.aload_n 1) := ⟨by decide +kernel, rfl⟩
theorem dX1_copyFrom_26 : dec cX1_copyFrom 26 3 29 (.getfield 25) := ⟨by decide +kernel, rfl⟩
theorem dX1_copyFrom_29 : dec cX1_copyFrom 29 3 32 (.putfield 25) := ⟨by decide +kernel, rfl⟩
theorem dX1_copyFrom_32 : dec cX1_copyFrom 32 1 33 (.aload_n 0) := ⟨by decide +kernel, rfl⟩
theorem dX1_copyFrom_33 : dec cX1_copyFrom 33 1 34 (.aload_n 1) := ⟨by decide +kernel, rfl⟩
theorem dX1_copyFrom_34 : dec cX1_copyFrom 34 3 37 (.getfield 28) := ⟨by decide +kernel, rfl⟩
theorem dX1_copyFrom_37 : dec cX1_copyFrom 37 3 40 (.putfield 28) := ⟨by decide +kernel, rfl⟩
theorem dX1_copyFrom_40 : dec cX1_copyFrom 40 1 41 (.aload_n 0) := ⟨by decide +kernel, rfl⟩
theorem dX1_copyFrom_41 : dec cX1_copyFrom 41 1 42 (.aload_n 1) := ⟨by decide +kernel, rfl⟩
theorem dX1_copyFrom_42 : dec cX1_copyFrom 42 3 45 (.getfield 15) := ⟨by decide +kernel, rfl⟩
theorem dX1_copyFrom_45 : dec cX1_copyFrom 45 1 46 (.aload_n 1) := ⟨by decide +kernel, rfl⟩
theorem dX1_copyFrom_46 : dec cX1_copyFrom 46 3 49 (.getfield 32) := ⟨by decide +kernel, rfl⟩
theorem dX1_copyFrom_49 : dec cX1_copyFrom 49 3 52 (.invokevirtual 35) := ⟨by decide +kernel, rfl⟩
theorem dX1_copyFrom_52 : dec cX1_copyFrom 52 1 53 (.return_) := ⟨by decide +kernel, rfl⟩
set_option maxHeartbeats 4000000 in
set_option maxRecDepth 100000 in
theorem mX1_copyFrom (Y : Yx) (hF : Y.2.2.2.2 = true) (l : Launch) (a0 : Nat) (a1 : Nat) (M0 : Mem) (Q : Mem → Prop) (qa0 : 0 < a0 ∧ M0 0 a0 = kO 1) (qa1 : 0 < a1 ∧ M0 0 a1 = kO 1) (h : wX1_copyFrom a0 a1 M0 Q) : CT Y l yX1_copyFrom cX1_copyFrom 2 none rmX1_copyFrom [vR Y.1 a0, vR Y.1 a1] M0 (QV Q) := by
  unfold wX1_copyFrom at h
  refine ct_intro (by decide) (Nat.le_of_ble_eq_true rfl) ?_
  intro X hXl hC hL0
  have hL := hL0 hF
  change OKX X Y RX1 cX1_copyFrom 2 none rmX1_copyFrom at hC
  change WW X Y 2 rmX1_copyFrom (QV Q) M0 0 0 0 [(0, vR Y.1 a0), (1, vR Y.1 a1)] [] M0
  refine r_aload_n hC 0 dX1_copyFrom_0 rfl rfl ?_
  refine r_aload_n hC 1 dX1_copyFrom_1 rfl rfl ?_
  refine r_getI hC fg_X1_19 rfl qa1.1 qa1.2 dX1_copyFrom_2 ?_
  refine r_putI hC fp_X1_19 rfl qa0.1 qa0.2 dX1_copyFrom_5 ?_
  refine r_nameM h (fun M_1 h => ?_)
  refine r_aload_n hC 0 dX1_copyFrom_8 rfl rfl ?_
  refine r_aload_n hC 1 dX1_copyFrom_9 rfl rfl ?_
  refine r_getI hC fg_X1_22 rfl qa1.1 qa1.2 dX1_copyFrom_10 ?_
  refine r_putI hC fp_X1_22 rfl qa0.1 qa0.2 dX1_copyFrom_13 ?_
  refine r_nameM h (fun M_2 h => ?_)
  refine r_aload_n hC 0 dX1_copyFrom_16 rfl rfl ?_
  refine r_aload_n hC 1 dX1_copyFrom_17 rfl rfl ?_
  refine r_getI hC fg_X1_11 rfl qa1.1 qa1.2 dX1_copyFrom_18 ?_
  refine r_putI hC fp_X1_11 rfl qa0.1 qa0.2 dX1_copyFrom_21 ?_
  refine r_nameM h (fun M_3 h => ?_)
  refine r_aload_n hC 0 dX1_copyFrom_24 rfl rfl ?_
  refine r_aload_n hC 1 dX1_copyFrom_25 rfl rfl ?_
  refine r_getI hC fg_X1_25 rfl qa1.1 qa1.2 dX1_copyFrom_26 ?_
  refine r_putI hC fp_X1_25 rfl qa0.1 qa0.2 dX1_copyFrom_29 ?_
  refine r_nameM h (fun M_4 h => ?_)
  refine r_aload_n hC 0 dX1_copyFrom_32 rfl rfl ?_
  refine r_aload_n hC 1 dX1_copyFrom_33 rfl rfl ?_
  refine r_getI hC fg_X1_28 rfl qa1.1 qa1.2 dX1_copyFrom_34 ?_
  obtain ⟨z_6, h⟩ := h
  refine r_putZ hC z_6 fp_X1_28 rfl qa0.1 qa0.2 dX1_copyFrom_37 ?_
  refine r_nameM h (fun M_5 h => ?_)
  refine r_aload_n hC 0 dX1_copyFrom_40 rfl rfl ?_
  refine r_aload_n hC 1 dX1_copyFrom_41 rfl rfl ?_
  have q_7 : 0 < a1 + 1 ∧ M0 0 (a1 + 1) = kA 0 50 := lay_f0 (a := a1) hL qa1 fm_1_6
  refine r_getR0 (a' := a1 + 1) hC fg_X1_15 rfl hF fm_1_6 qa1.1 qa1.2 rfl dX1_copyFrom_42 ?_
  refine r_aload_n hC 1 dX1_copyFrom_45 rfl rfl ?_
  refine r_getI hC fg_X1_32 rfl qa1.1 qa1.2 dX1_copyFrom_46 ?_
  refine r_callV (As := [vR Y.1 (a1 + 1), vI (M_5 a1 5)]) (st := []) hC cw_X1_35 rfl qa0.1 qa0.2 rfl rfl (Nat.le_of_ble_eq_true rfl) ⟨Nat.le_of_ble_eq_true rfl, Nat.le_of_ble_eq_true rfl⟩ ⟨Nat.le_of_ble_eq_true rfl, Nat.le_of_ble_eq_true rfl⟩ dX1_copyFrom_49 (fun hk => mX1_takeText Y hF _ _ _ _ _ _ (kqO hk qa0) (kqA hk q_7) h) (fun v M_8 h => ?_)
  obtain ⟨rfl, h⟩ := h
  exact r_vret hC (Nat.zero_le _) (Nat.zero_le _) dX1_copyFrom_52 ⟨rfl, h⟩
theorem dX2_copyFrom_0 : dec cX2_copyFrom 0 1 1 (.aload_n 0) := ⟨by decide +kernel, rfl⟩
theorem dX2_copyFrom_1 : dec cX2_copyFrom 1 1 2 (.aload_n 1) := ⟨by decide +kernel, rfl⟩
theorem dX2_copyFrom_2 : dec cX2_copyFrom 2 3 5 (.getfield 7) := ⟨by decide +kernel, rfl⟩
theorem dX2_copyFrom_5 : dec cX2_copyFrom 5 3 8 (.putfield 7) := ⟨by decide +kernel, rfl⟩
theorem dX2_copyFrom_8 : dec cX2_copyFrom 8 1 9 (.aload_n 0) := ⟨by decide +kernel, rfl⟩
theorem dX2_copyFrom_9 : dec cX2_copyFrom 9 1 10 (.aload_n 1) := ⟨by decide +kernel, rfl⟩
theorem dX2_copyFrom_10 : dec cX2_copyFrom 10 3 13 (.getfield 13) := ⟨by decide +kernel, rfl⟩
theorem dX2_copyFrom_13 : dec cX2_copyFrom 13 3 16 (.putfield 13) := ⟨by decide +kernel, rfl⟩
theorem dX2_copyFrom_16 : dec cX2_copyFrom 16 1 17 (.aload_n 0) := ⟨by decide +kernel, rfl⟩
theorem dX2_copyFrom_17 : dec cX2_copyFrom 17 1 18 (.aload_n 1) := ⟨by decide +kernel, rfl⟩
theorem dX2_copyFrom_18 : dec cX2_copyFrom 18 3 21 (.getfield 16) := ⟨by decide +kernel, rfl⟩
theorem dX2_copyFrom_21 : dec cX2_copyFrom 21 3 24 (.putfield 16) := ⟨by decide +kernel, rfl⟩
theorem dX2_copyFrom_24 : dec cX2_copyFrom 24 1 25 (.aload_n 0) := ⟨by decide +kernel, rfl⟩
theorem dX2_copyFrom_25 : dec cX2_copyFrom 25 1 26 (.aload_n 1) := ⟨by decide +kernel, rfl⟩
theorem dX2_copyFrom_26 : dec cX2_copyFrom 26 3 29 (.getfield 19) := ⟨by decide +kernel, rfl⟩
theorem dX2_copyFrom_29 : dec cX2_copyFrom 29 3 32 (.putfield 19) := ⟨by decide +kernel, rfl⟩
theorem dX2_copyFrom_32 : dec cX2_copyFrom 32 1 33 (.return_) := ⟨by decide +kernel, rfl⟩
set_option maxHeartbeats 4000000 in
set_option maxRecDepth 100000 in
theorem mX2_copyFrom (Y : Yx) (hF : Y.2.2.2.2 = true) (l : Launch) (a0 : Nat) (a1 : Nat) (M0 : Mem) (Q : Mem → Prop) (qa0 : 0 < a0 ∧ M0 0 a0 = kO 2) (qa1 : 0 < a1 ∧ M0 0 a1 = kO 2) (h : wX2_copyFrom a0 a1 M0 Q) : CT Y l yX2_copyFrom cX2_copyFrom 2 none rmX2_copyFrom [vR Y.1 a0, vR Y.1 a1] M0 (QV Q) := by
  unfold wX2_copyFrom at h
  refine ct_intro (by decide) (Nat.le_of_ble_eq_true rfl) ?_
  intro X hXl hC hL0
  have hL := hL0 hF
  change OKX X Y RX2 cX2_copyFrom 2 none rmX2_copyFrom at hC
  change WW X Y 2 rmX2_copyFrom (QV Q) M0 0 0 0 [(0, vR Y.1 a0), (1, vR Y.1 a1)] [] M0
  refine r_aload_n hC 0 dX2_copyFrom_0 rfl rfl ?_
  refine r_aload_n hC 1 dX2_copyFrom_1 rfl rfl ?_
  refine r_getI hC fg_X2_7 rfl qa1.1 qa1.2 dX2_copyFrom_2 ?_
  refine r_putI hC fp_X2_7 rfl qa0.1 qa0.2 dX2_copyFrom_5 ?_
  refine r_nameM h (fun M_1 h => ?_)
  refine r_aload_n hC 0 dX2_copyFrom_8 rfl rfl ?_
  refine r_aload_n hC 1 dX2_copyFrom_9 rfl rfl ?_
  refine r_getI hC fg_X2_13 rfl qa1.1 qa1.2 dX2_copyFrom_10 ?_
  refine r_putI hC fp_X2_13 rfl qa0.1 qa0.2 dX2_copyFrom_13 ?_
  refine r_nameM h (fun M_2 h => ?_)
  refine r_aload_n hC 0 dX2_copyFrom_16 rfl rfl ?_
  refine r_aload_n hC 1 dX2_copyFrom_17 rfl rfl ?_
  refine r_getI hC fg_X2_16 rfl qa1.1 qa1.2 dX2_copyFrom_18 ?_
  refine r_putI hC fp_X2_16 rfl qa0.1 qa0.2 dX2_copyFrom_21 ?_
  refine r_nameM h (fun M_3 h => ?_)
  refine r_aload_n hC 0 dX2_copyFrom_24 rfl rfl ?_
  refine r_aload_n hC 1 dX2_copyFrom_25 rfl rfl ?_
  refine r_getI hC fg_X2_19 rfl qa1.1 qa1.2 dX2_copyFrom_26 ?_
  refine r_putI hC fp_X2_19 rfl qa0.1 qa0.2 dX2_copyFrom_29 ?_
  refine r_nameM h (fun M_4 h => ?_)
  exact r_vret hC (Nat.zero_le _) (Nat.zero_le _) dX2_copyFrom_32 ⟨rfl, h⟩
theorem dX5_copyFrom_0 : dec cX5_copyFrom 0 1 1 (.aload_n 0) := ⟨by decide +kernel, rfl⟩
theorem dX5_copyFrom_1 : dec cX5_copyFrom 1 1 2 (.aload_n 1) := ⟨by decide +kernel, rfl⟩
theorem dX5_copyFrom_2 : dec cX5_copyFrom 2 3 5 (.getfield 15) := ⟨by decide +kernel, rfl⟩
theorem dX5_copyFrom_5 : dec cX5_copyFrom 5 3 8 (.putfield 15) := ⟨by decide +kernel, rfl⟩
theorem dX5_copyFrom_8 : dec cX5_copyFrom 8 1 9 (.aload_n 0) := ⟨by decide +kernel, rfl⟩
theorem dX5_copyFrom_9 : dec cX5_copyFrom 9 1 10 (.aload_n 1) := ⟨by decide +kernel, rfl⟩
theorem dX5_copyFrom_10 : dec cX5_copyFrom 10 3 13 (.getfield 19) := ⟨by decide +kernel, rfl⟩
theorem dX5_copyFrom_13 : dec cX5_copyFrom 13 3 16 (.putfield 19) := ⟨by decide +kernel, rfl⟩
theorem dX5_copyFrom_16 : dec cX5_copyFrom 16 1 17 (.aload_n 1) := ⟨by decide +kernel, rfl⟩
theorem dX5_copyFrom_17 : dec cX5_copyFrom 17 3 20 (.getfield 9) := ⟨by decide +kernel, rfl⟩
theorem dX5_copyFrom_20 : dec cX5_copyFrom 20 1 21 (.iconst 0) := ⟨by decide +kernel, rfl⟩
theorem dX5_copyFrom_21 : dec cX5_copyFrom 21 1 22 (.aload_n 0) := ⟨by decide +kernel, rfl⟩
theorem dX5_copyFrom_22 : dec cX5_copyFrom 22 3 25 (.getfield 9) := ⟨by decide +kernel, rfl⟩
theorem dX5_copyFrom_25 : dec cX5_copyFrom 25 1 26 (.iconst 0) := ⟨by decide +kernel, rfl⟩
theorem dX5_copyFrom_26 : dec cX5_copyFrom 26 2 28 (.bipush 12) := ⟨by decide +kernel, rfl⟩
theorem dX5_copyFrom_28 : dec cX5_copyFrom 28 3 31 (.invokestatic 22) := ⟨by decide +kernel, rfl⟩
theorem dX5_copyFrom_31 : dec cX5_copyFrom 31 1 32 (.return_) := ⟨by decide +kernel, rfl⟩
set_option maxHeartbeats 4000000 in
set_option maxRecDepth 100000 in
theorem mX5_copyFrom (Y : Yx) (hF : Y.2.2.2.2 = true) (l : Launch) (a0 : Nat) (a1 : Nat) (M0 : Mem) (Q : Mem → Prop) (qa0 : 0 < a0 ∧ M0 0 a0 = kO 5) (qa1 : 0 < a1 ∧ M0 0 a1 = kO 5) (h : wX5_copyFrom a0 a1 M0 Q) : CT Y l yX5_copyFrom cX5_copyFrom 2 none rmX5_copyFrom [vR Y.1 a0, vR Y.1 a1] M0 (QV Q) := by
  unfold wX5_copyFrom at h
  refine ct_intro (by decide) (Nat.le_of_ble_eq_true rfl) ?_
  intro X hXl hC hL0
  have hL := hL0 hF
  change OKX X Y RX5 cX5_copyFrom 2 none rmX5_copyFrom at hC
  change WW X Y 2 rmX5_copyFrom (QV Q) M0 0 0 0 [(0, vR Y.1 a0), (1, vR Y.1 a1)] [] M0
  refine r_aload_n hC 0 dX5_copyFrom_0 rfl rfl ?_
  refine r_aload_n hC 1 dX5_copyFrom_1 rfl rfl ?_
  refine r_getI hC fg_X5_15 rfl qa1.1 qa1.2 dX5_copyFrom_2 ?_
  refine r_putI hC fp_X5_15 rfl qa0.1 qa0.2 dX5_copyFrom_5 ?_
  refine r_nameM h (fun M_1 h => ?_)
  refine r_aload_n hC 0 dX5_copyFrom_8 rfl rfl ?_
  refine r_aload_n hC 1 dX5_copyFrom_9 rfl rfl ?_
  refine r_getI hC fg_X5_19 rfl qa1.1 qa1.2 dX5_copyFrom_10 ?_
  refine r_putI hC fp_X5_19 rfl qa0.1 qa0.2 dX5_copyFrom_13 ?_
  refine r_nameM h (fun M_2 h => ?_)
  refine r_aload_n hC 1 dX5_copyFrom_16 rfl rfl ?_
  have q_3 : 0 < a1 + 1 ∧ M0 0 (a1 + 1) = kA 0 12 := lay_f0 (a := a1) hL qa1 fm_5_0
  refine r_getR0 (a' := a1 + 1) hC fg_X5_9 rfl hF fm_5_0 qa1.1 qa1.2 rfl dX5_copyFrom_17 ?_
  refine r_iconst hC dX5_copyFrom_20 ?_
  refine r_aload_n hC 0 dX5_copyFrom_21 rfl rfl ?_
  have q_4 : 0 < a0 + 1 ∧ M0 0 (a0 + 1) = kA 0 12 := lay_f0 (a := a0) hL qa0 fm_5_0
  refine r_getR0 (a' := a0 + 1) hC fg_X5_9 rfl hF fm_5_0 qa0.1 qa0.2 rfl dX5_copyFrom_22 ?_
  refine r_iconst hC dX5_copyFrom_25 ?_
  refine r_bipush hC (by decide +kernel) dX5_copyFrom_26 ?_
  obtain ⟨i_5, h⟩ := h
  refine r_copy (t := 0) hC (by decide) cp_X5_22 (Nat.le_of_ble_eq_true rfl) (Nat.le_of_ble_eq_true rfl) (Nat.le_of_ble_eq_true rfl) i_5 (by intro q; cases q) q_3 q_4 (by decide) (by decide) dX5_copyFrom_28 ?_
  refine r_nameM h (fun M_7 h => ?_)
  exact r_vret hC (Nat.zero_le _) (Nat.zero_le _) dX5_copyFrom_31 ⟨rfl, h⟩
theorem dX0_copyFrom_0 : dec cX0_copyFrom 0 1 1 (.aload_n 0) := ⟨by decide +kernel, rfl⟩
theorem dX0_copyFrom_1 : dec cX0_copyFrom 1 1 2 (.aload_n 1) := ⟨by decide +kernel, rfl⟩
theorem dX0_copyFrom_2 : dec cX0_copyFrom 2 3 5 (.getfield 53) := ⟨by decide +kernel, rfl⟩
theorem dX0_copyFrom_5 : dec cX0_copyFrom 5 3 8 (.putfield 53) := ⟨by decide +kernel, rfl⟩
theorem dX0_copyFrom_8 : dec cX0_copyFrom 8 1 9 (.iconst 0) := ⟨by decide +kernel, rfl⟩
theorem dX0_copyFrom_9 : dec cX0_copyFrom 9 1 10 (.istore_n 2) := ⟨by decide +kernel, rfl⟩
theorem dX0_copyFrom_10 : dec cX0_copyFrom 10 1 11 (.iload_n 2) := ⟨by decide +kernel, rfl⟩
theorem dX0_copyFrom_11 : dec cX0_copyFrom 11 1 12 (.aload_n 0) := ⟨by decide +kernel, rfl⟩
theorem dX0_copyFrom_12 : dec cX0_copyFrom 12 3 15 (.getfield 53) := ⟨by decide +kernel, rfl⟩
theorem dX0_copyFrom_15 : dec cX0_copyFrom 15 3 18 (.if_icmp .ge 24) := ⟨by decide +kernel, rfl⟩
theorem dX0_copyFrom_18 : dec cX0_copyFrom 18 1 19 (.aload_n 0) := ⟨by decide +kernel, rfl⟩
theorem dX0_copyFrom_19 : dec cX0_copyFrom 19 3 22 (.getfield 11) := ⟨by decide +kernel, rfl⟩
theorem dX0_copyFrom_22 : dec cX0_copyFrom 22 1 23 (.iload_n 2) := ⟨by decide +kernel, rfl⟩
theorem dX0_copyFrom_23 : dec cX0_copyFrom 23 1 24 (.aaload) := ⟨by decide +kernel, rfl⟩
theorem dX0_copyFrom_24 : dec cX0_copyFrom 24 1 25 (.aload_n 1) := ⟨by decide +kernel, rfl⟩
theorem dX0_copyFrom_25 : dec cX0_copyFrom 25 3 28 (.getfield 11) := ⟨by decide +kernel, rfl⟩
theorem dX0_copyFrom_28 : dec cX0_copyFrom 28 1 29 (.iload_n 2) := ⟨by decide +kernel, rfl⟩
theorem dX0_copyFrom_29 : dec cX0_copyFrom 29 1 30 (.aaload) := ⟨by decide +kernel, rfl⟩
theorem dX0_copyFrom_30 : dec cX0_copyFrom 30 3 33 (.invokevirtual 57) := ⟨by decide +kernel, rfl⟩
theorem dX0_copyFrom_33 : dec cX0_copyFrom 33 3 36 (.iinc 2 1) := ⟨by decide +kernel, rfl⟩
theorem dX0_copyFrom_36 : dec cX0_copyFrom 36 3 39 (.goto (-26)) := ⟨by decide +kernel, rfl⟩
theorem dX0_copyFrom_39 : dec cX0_copyFrom 39 1 40 (.aload_n 0) := ⟨by decide +kernel, rfl⟩
theorem dX0_copyFrom_40 : dec cX0_copyFrom 40 1 41 (.aload_n 1) := ⟨by decide +kernel, rfl⟩
theorem dX0_copyFrom_41 : dec cX0_copyFrom 41 3 44 (.getfield 61) := ⟨by decide +kernel, rfl⟩
theorem dX0_copyFrom_44 : dec cX0_copyFrom 44 3 47 (.putfield 61) := ⟨by decide +kernel, rfl⟩
theorem dX0_copyFrom_47 : dec cX0_copyFrom 47 1 48 (.iconst 0) := ⟨by decide +kernel, rfl⟩
theorem dX0_copyFrom_48 : dec cX0_copyFrom 48 1 49 (.istore_n 2) := ⟨by decide +kernel, rfl⟩
theorem dX0_copyFrom_49 : dec cX0_copyFrom 49 1 50 (.iload_n 2) := ⟨by decide +kernel, rfl⟩
theorem dX0_copyFrom_50 : dec cX0_copyFrom 50 1 51 (.aload_n 0) := ⟨by decide +kernel, rfl⟩
theorem dX0_copyFrom_51 : dec cX0_copyFrom 51 3 54 (.getfield 61) := ⟨by decide +kernel, rfl⟩
theorem dX0_copyFrom_54 : dec cX0_copyFrom 54 3 57 (.if_icmp .ge 24) := ⟨by decide +kernel, rfl⟩
theorem dX0_copyFrom_57 : dec cX0_copyFrom 57 1 58 (.aload_n 0) := ⟨by decide +kernel, rfl⟩
theorem dX0_copyFrom_58 : dec cX0_copyFrom 58 3 61 (.getfield 23) := ⟨by decide +kernel, rfl⟩
theorem dX0_copyFrom_61 : dec cX0_copyFrom 61 1 62 (.iload_n 2) := ⟨by decide +kernel, rfl⟩
theorem dX0_copyFrom_62 : dec cX0_copyFrom 62 1 63 (.aaload) := ⟨by decide +kernel, rfl⟩
theorem dX0_copyFrom_63 : dec cX0_copyFrom 63 1 64 (.aload_n 1) := ⟨by decide +kernel, rfl⟩
theorem dX0_copyFrom_64 : dec cX0_copyFrom 64 3 67 (.getfield 23) := ⟨by decide +kernel, rfl⟩
theorem dX0_copyFrom_67 : dec cX0_copyFrom 67 1 68 (.iload_n 2) := ⟨by decide +kernel, rfl⟩
theorem dX0_copyFrom_68 : dec cX0_copyFrom 68 1 69 (.aaload) := ⟨by decide +kernel, rfl⟩
theorem dX0_copyFrom_69 : dec cX0_copyFrom 69 3 72 (.invokevirtual 64) := ⟨by decide +kernel, rfl⟩
theorem dX0_copyFrom_72 : dec cX0_copyFrom 72 3 75 (.iinc 2 1) := ⟨by decide +kernel, rfl⟩
theorem dX0_copyFrom_75 : dec cX0_copyFrom 75 3 78 (.goto (-26)) := ⟨by decide +kernel, rfl⟩
theorem dX0_copyFrom_78 : dec cX0_copyFrom 78 1 79 (.aload_n 0) := ⟨by decide +kernel, rfl⟩
theorem dX0_copyFrom_79 : dec cX0_copyFrom 79 1 80 (.aload_n 1) := ⟨by decide +kernel, rfl⟩
theorem dX0_copyFrom_80 : dec cX0_copyFrom 80 3 83 (.getfield 67) := ⟨by decide +kernel, rfl⟩
theorem dX0_copyFrom_83 : dec cX0_copyFrom 83 3 86 (.putfield 67) := ⟨by decide +kernel, rfl⟩
theorem dX0_copyFrom_86 : dec cX0_copyFrom 86 1 87 (.iconst 0) := ⟨by decide +kernel, rfl⟩
theorem dX0_copyFrom_87 : dec cX0_copyFrom 87 1 88 (.istore_n 2) := ⟨by decide +kernel, rfl⟩
theorem dX0_copyFrom_88 : dec cX0_copyFrom 88 1 89 (.iload_n 2) := ⟨by decide +kernel, rfl⟩
theorem dX0_copyFrom_89 : dec cX0_copyFrom 89 1 90 (.aload_n 0) := ⟨by decide +kernel, rfl⟩
theorem dX0_copyFrom_90 : dec cX0_copyFrom 90 3 93 (.getfield 67) := ⟨by decide +kernel, rfl⟩
theorem dX0_copyFrom_93 : dec cX0_copyFrom 93 3 96 (.if_icmp .ge 24) := ⟨by decide +kernel, rfl⟩
theorem dX0_copyFrom_96 : dec cX0_copyFrom 96 1 97 (.aload_n 0) := ⟨by decide +kernel, rfl⟩
theorem dX0_copyFrom_97 : dec cX0_copyFrom 97 3 100 (.getfield 29) := ⟨by decide +kernel, rfl⟩
theorem dX0_copyFrom_100 : dec cX0_copyFrom 100 1 101 (.iload_n 2) := ⟨by decide +kernel, rfl⟩
theorem dX0_copyFrom_101 : dec cX0_copyFrom 101 1 102 (.aaload) := ⟨by decide +kernel, rfl⟩
theorem dX0_copyFrom_102 : dec cX0_copyFrom 102 1 103 (.aload_n 1) := ⟨by decide +kernel, rfl⟩
theorem dX0_copyFrom_103 : dec cX0_copyFrom 103 3 106 (.getfield 29) := ⟨by decide +kernel, rfl⟩
theorem dX0_copyFrom_106 : dec cX0_copyFrom 106 1 107 (.iload_n 2) := ⟨by decide +kernel, rfl⟩
theorem dX0_copyFrom_107 : dec cX0_copyFrom 107 1 108 (.aaload) := ⟨by decide +kernel, rfl⟩
theorem dX0_copyFrom_108 : dec cX0_copyFrom 108 3 111 (.invokevirtual 70) := ⟨by decide +kernel, rfl⟩
theorem dX0_copyFrom_111 : dec cX0_copyFrom 111 3 114 (.iinc 2 1) := ⟨by decide +kernel, rfl⟩
theorem dX0_copyFrom_114 : dec cX0_copyFrom 114 3 117 (.goto (-26)) := ⟨by decide +kernel, rfl⟩
theorem dX0_copyFrom_117 : dec cX0_copyFrom 117 1 118 (.aload_n 0) := ⟨by decide +kernel, rfl⟩
theorem dX0_copyFrom_118 : dec cX0_copyFrom 118 1 119 (.aload_n 1) := ⟨by decide +kernel, rfl⟩
theorem dX0_copyFrom_119 : dec cX0_copyFrom 119 3 122 (.getfield 73) := ⟨by decide +kernel, rfl⟩
theorem dX0_copyFrom_122 : dec cX0_copyFrom 122 3 125 (.putfield 73) := ⟨by decide +kernel, rfl⟩
theorem dX0_copyFrom_125 : dec cX0_copyFrom 125 1 126 (.iconst 0) := ⟨by decide +kernel, rfl⟩
theorem dX0_copyFrom_126 : dec cX0_copyFrom 126 1 127 (.istore_n 2) := ⟨by decide +kernel, rfl⟩
theorem dX0_copyFrom_127 : dec cX0_copyFrom 127 1 128 (.iload_n 2) := ⟨by decide +kernel, rfl⟩
theorem dX0_copyFrom_128 : dec cX0_copyFrom 128 1 129 (.aload_n 0) := ⟨by decide +kernel, rfl⟩
theorem dX0_copyFrom_129 : dec cX0_copyFrom 129 3 132 (.getfield 73) := ⟨by decide +kernel, rfl⟩
theorem dX0_copyFrom_132 : dec cX0_copyFrom 132 3 135 (.if_icmp .ge 39) := ⟨by decide +kernel, rfl⟩
theorem dX0_copyFrom_135 : dec cX0_copyFrom 135 1 136 (.aload_n 0) := ⟨by decide +kernel, rfl⟩
theorem dX0_copyFrom_136 : dec cX0_copyFrom 136 3 139 (.getfield 39) := ⟨by decide +kernel, rfl⟩
theorem dX0_copyFrom_139 : dec cX0_copyFrom 139 1 140 (.iload_n 2) := ⟨by decide +kernel, rfl⟩
theorem dX0_copyFrom_140 : dec cX0_copyFrom 140 1 141 (.aaload) := ⟨by decide +kernel, rfl⟩
theorem dX0_copyFrom_141 : dec cX0_copyFrom 141 1 142 (.aload_n 1) := ⟨by decide +kernel, rfl⟩
theorem dX0_copyFrom_142 : dec cX0_copyFrom 142 3 145 (.getfield 39) := ⟨by decide +kernel, rfl⟩
theorem dX0_copyFrom_145 : dec cX0_copyFrom 145 1 146 (.iload_n 2) := ⟨by decide +kernel, rfl⟩
theorem dX0_copyFrom_146 : dec cX0_copyFrom 146 1 147 (.aaload) := ⟨by decide +kernel, rfl⟩
theorem dX0_copyFrom_147 : dec cX0_copyFrom 147 3 150 (.invokevirtual 76) := ⟨by decide +kernel, rfl⟩
theorem dX0_copyFrom_150 : dec cX0_copyFrom 150 1 151 (.aload_n 0) := ⟨by decide +kernel, rfl⟩
theorem dX0_copyFrom_151 : dec cX0_copyFrom 151 3 154 (.getfield 43) := ⟨by decide +kernel, rfl⟩
theorem dX0_copyFrom_154 : dec cX0_copyFrom 154 1 155 (.iload_n 2) := ⟨by decide +kernel, rfl⟩
theorem dX0_copyFrom_155 : dec cX0_copyFrom 155 1 156 (.aaload) := ⟨by decide +kernel, rfl⟩
theorem dX0_copyFrom_156 : dec cX0_copyFrom 156 1 157 (.aload_n 1) := ⟨by decide +kernel, rfl⟩
theorem dX0_copyFrom_157 : dec cX0_copyFrom 157 3 160 (.getfield 43) := ⟨by decide +kernel, rfl⟩
theorem dX0_copyFrom_160 : dec cX0_copyFrom 160 1 161 (.iload_n 2) := ⟨by decide +kernel, rfl⟩
theorem dX0_copyFrom_161 : dec cX0_copyFrom 161 1 162 (.aaload) := ⟨by decide +kernel, rfl⟩
theorem dX0_copyFrom_162 : dec cX0_copyFrom 162 3 165 (.invokevirtual 76) := ⟨by decide +kernel, rfl⟩
theorem dX0_copyFrom_165 : dec cX0_copyFrom 165 3 168 (.iinc 2 1) := ⟨by decide +kernel, rfl⟩
theorem dX0_copyFrom_168 : dec cX0_copyFrom 168 3 171 (.goto (-41)) := ⟨by decide +kernel, rfl⟩
theorem dX0_copyFrom_171 : dec cX0_copyFrom 171 1 172 (.aload_n 0) := ⟨by decide +kernel, rfl⟩
theorem dX0_copyFrom_172 : dec cX0_copyFrom 172 1 173 (.aload_n 1) := ⟨by decide +kernel, rfl⟩
theorem dX0_copyFrom_173 : dec cX0_copyFrom 173 3 176 (.getfield 79) := ⟨by decide +kernel, rfl⟩
theorem dX0_copyFrom_176 : dec cX0_copyFrom 176 3 179 (.putfield 79) := ⟨by decide +kernel, rfl⟩
theorem dX0_copyFrom_179 : dec cX0_copyFrom 179 1 180 (.aload_n 1) := ⟨by decide +kernel, rfl⟩
theorem dX0_copyFrom_180 : dec cX0_copyFrom 180 3 183 (.getfield 33) := ⟨by decide +kernel, rfl⟩
theorem dX0_copyFrom_183 : dec cX0_copyFrom 183 1 184 (.iconst 0) := ⟨by decide +kernel, rfl⟩
theorem dX0_copyFrom_184 : dec cX0_copyFrom 184 1 185 (.aload_n 0) := ⟨by decide +kernel, rfl⟩
theorem dX0_copyFrom_185 : dec cX0_copyFrom 185 3 188 (.getfield 33) := ⟨by decide +kernel, rfl⟩
theorem dX0_copyFrom_188 : dec cX0_copyFrom 188 1 189 (.iconst 0) := ⟨by decide +kernel, rfl⟩
theorem dX0_copyFrom_189 : dec cX0_copyFrom 189 2 191 (.bipush 50) := ⟨by decide +kernel, rfl⟩
theorem dX0_copyFrom_191 : dec cX0_copyFrom 191 3 194 (.invokestatic 82) := ⟨by decide +kernel, rfl⟩
theorem dX0_copyFrom_194 : dec cX0_copyFrom 194 1 195 (.aload_n 0) := ⟨by decide +kernel, rfl⟩
theorem dX0_copyFrom_195 : dec cX0_copyFrom 195 1 196 (.aload_n 1) := ⟨by decide +kernel, rfl⟩
theorem dX0_copyFrom_196 : dec cX0_copyFrom 196 3 199 (.getfield 88) := ⟨by decide +kernel, rfl⟩
theorem dX0_copyFrom_199 : dec cX0_copyFrom 199 3 202 (.putfield 88) := ⟨by decide +kernel, rfl⟩
theorem dX0_copyFrom_202 : dec cX0_copyFrom 202 1 203 (.aload_n 1) := ⟨by decide +kernel, rfl⟩
theorem dX0_copyFrom_203 : dec cX0_copyFrom 203 3 206 (.getfield 46) := ⟨by decide +kernel, rfl⟩
theorem dX0_copyFrom_206 : dec cX0_copyFrom 206 1 207 (.iconst 0) := ⟨by decide +kernel, rfl⟩
theorem dX0_copyFrom_207 : dec cX0_copyFrom 207 1 208 (.aload_n 0) := ⟨by decide +kernel, rfl⟩
theorem dX0_copyFrom_208 : dec cX0_copyFrom 208 3 211 (.getfield 46) := ⟨by decide +kernel, rfl⟩
theorem dX0_copyFrom_211 : dec cX0_copyFrom 211 1 212 (.iconst 0) := ⟨by decide +kernel, rfl⟩
theorem dX0_copyFrom_212 : dec cX0_copyFrom 212 2 214 (.bipush 12) := ⟨by decide +kernel, rfl⟩
theorem dX0_copyFrom_214 : dec cX0_copyFrom 214 3 217 (.invokestatic 82) := ⟨by decide +kernel, rfl⟩
theorem dX0_copyFrom_217 : dec cX0_copyFrom 217 1 218 (.aload_n 1) := ⟨by decide +kernel, rfl⟩
theorem dX0_copyFrom_218 : dec cX0_copyFrom 218 3 221 (.getfield 17) := ⟨by decide +kernel, rfl⟩
theorem dX0_copyFrom_221 : dec cX0_copyFrom 221 1 222 (.iconst 0) := ⟨by decide +kernel, rfl⟩
theorem dX0_copyFrom_222 : dec cX0_copyFrom 222 1 223 (.aload_n 0) := ⟨by decide +kernel, rfl⟩
theorem dX0_copyFrom_223 : dec cX0_copyFrom 223 3 226 (.getfield 17) := ⟨by decide +kernel, rfl⟩
theorem dX0_copyFrom_226 : dec cX0_copyFrom 226 1 227 (.iconst 0) := ⟨by decide +kernel, rfl⟩
theorem dX0_copyFrom_227 : dec cX0_copyFrom 227 1 228 (.iconst 4) := ⟨by decide +kernel, rfl⟩
theorem dX0_copyFrom_228 : dec cX0_copyFrom 228 3 231 (.invokestatic 82) := ⟨by decide +kernel, rfl⟩
theorem dX0_copyFrom_231 : dec cX0_copyFrom 231 1 232 (.return_) := ⟨by decide +kernel, rfl⟩
set_option maxHeartbeats 4000000 in
set_option maxRecDepth 100000 in
theorem tX0_copyFrom_L10 {X : Cx} {Y : Yx} {M0 : Mem} (hC : OKX X Y RX0 cX0_copyFrom 3 none rmX0_copyFrom) (hF : Y.2.2.2.2 = true) (hL : Lay M0) (Q : Mem → Prop) (E39 : Mem → Prop) (a0 : Nat) (a1 : Nat) (qa0 : 0 < a0 ∧ M0 0 a0 = kO 0) (qa1 : 0 < a1 ∧ M0 0 a1 = kO 0) (hE39 : ∀  (M : Mem), E39  M → WW X Y 3 rmX0_copyFrom (QV Q) M0 0 0 39 [(0, vR Y.1 a0), (1, vR Y.1 a1)] [] M) : ∀ (N : Nat) (x2 : Int) (M : Mem) (_ : wX0_copyFrom_L10 Q E39 a0 a1 N x2 M), WW X Y 3 rmX0_copyFrom (QV Q) M0 0 0 10 [(0, vR Y.1 a0), (1, vR Y.1 a1), (2, vI x2)] [] M := by
  intro N
  induction N with
  | zero =>
    intro x2 M h
    exact h.elim
  | succ N ih =>
    intro x2 M h
    unfold wX0_copyFrom_L10 at h
    refine r_iload_n hC 2 dX0_copyFrom_10 rfl rfl ?_
    refine r_aload_n hC 0 dX0_copyFrom_11 rfl rfl ?_
    refine r_getI hC fg_X0_53 rfl qa0.1 qa0.2 dX0_copyFrom_12 ?_
    refine r_icmp_ge hC 39 rfl rfl dX0_copyFrom_15 (by decide) (fun cq => ?_) (fun cq => ?_)
    · replace h := h.1 cq
      refine r_sub [0, 1] rfl ?_
      exact hE39  _ h
    · replace h := h.2 cq
      refine r_aload_n hC 0 dX0_copyFrom_18 rfl rfl ?_
      have q_2 : 0 < a0 + 1 ∧ M0 0 (a0 + 1) = kA 4 12 := lay_f0 (a := a0) hL qa0 fm_0_0
      refine r_getR0 (a' := a0 + 1) hC fg_X0_11 rfl hF fm_0_0 qa0.1 qa0.2 rfl dX0_copyFrom_19 ?_
      refine r_iload_n hC 2 dX0_copyFrom_22 rfl rfl ?_
      obtain ⟨i_3, h⟩ := h
      have q_4 : 0 < a0 + 9 + (bm x2).toNat ∧ M0 0 (a0 + 9 + (bm x2).toNat) = kO 3 := lay_a4 (a := a0 + 1) hL q_2 (inb_nat i_3)
      refine r_aald4 hC hF i_3 q_2.1 q_2.2 dX0_copyFrom_23 ?_
      refine r_aload_n hC 1 dX0_copyFrom_24 rfl rfl ?_
      have q_5 : 0 < a1 + 1 ∧ M0 0 (a1 + 1) = kA 4 12 := lay_f0 (a := a1) hL qa1 fm_0_0
      refine r_getR0 (a' := a1 + 1) hC fg_X0_11 rfl hF fm_0_0 qa1.1 qa1.2 rfl dX0_copyFrom_25 ?_
      refine r_iload_n hC 2 dX0_copyFrom_28 rfl rfl ?_
      obtain ⟨i_6, h⟩ := h
      have q_7 : 0 < a1 + 9 + (bm x2).toNat ∧ M0 0 (a1 + 9 + (bm x2).toNat) = kO 3 := lay_a4 (a := a1 + 1) hL q_5 (inb_nat i_6)
      refine r_aald4 hC hF i_6 q_5.1 q_5.2 dX0_copyFrom_29 ?_
      refine r_callV (As := [vR Y.1 (a1 + 9 + (bm x2).toNat)]) (st := []) hC cw_X0_57 rfl q_4.1 q_4.2 rfl rfl (Nat.le_of_ble_eq_true rfl) ⟨Nat.le_of_ble_eq_true rfl, Nat.le_of_ble_eq_true rfl⟩ ⟨Nat.le_of_ble_eq_true rfl, Nat.le_of_ble_eq_true rfl⟩ dX0_copyFrom_30 (fun hk => mX3_copyFrom Y hF _ _ _ _ _ (kqO hk q_4) (kqO hk q_7) h) (fun v M_8 h => ?_)
      obtain ⟨rfl, h⟩ := h
      refine let_elim h (fun x2_9 e_10 h => ?_)
      refine r_iinc (lv' := [(2, vI x2_9), (0, vR Y.1 a0), (1, vR Y.1 a1)]) hC 2 dX0_copyFrom_33 rfl (by decide) e_10 rfl ?_
      refine r_goto hC 10 dX0_copyFrom_36 (by decide) ?_
      refine r_sub [1, 2, 0] rfl ?_
      exact ih _ _ h
set_option maxHeartbeats 4000000 in
set_option maxRecDepth 100000 in
theorem tX0_copyFrom_L49 {X : Cx} {Y : Yx} {M0 : Mem} (hC : OKX X Y RX0 cX0_copyFrom 3 none rmX0_copyFrom) (hF : Y.2.2.2.2 = true) (hL : Lay M0) (Q : Mem → Prop) (E78 : Mem → Prop) (a0 : Nat) (a1 : Nat) (qa0 : 0 < a0 ∧ M0 0 a0 = kO 0) (qa1 : 0 < a1 ∧ M0 0 a1 = kO 0) (hE78 : ∀  (M : Mem), E78  M → WW X Y 3 rmX0_copyFrom (QV Q) M0 0 0 78 [(0, vR Y.1 a0), (1, vR Y.1 a1)] [] M) : ∀ (N : Nat) (x2 : Int) (M : Mem) (_ : wX0_copyFrom_L49 Q E78 a0 a1 N x2 M), WW X Y 3 rmX0_copyFrom (QV Q) M0 0 0 49 [(0, vR Y.1 a0), (1, vR Y.1 a1), (2, vI x2)] [] M := by
  intro N
  induction N with
  | zero =>
    intro x2 M h
    exact h.elim
  | succ N ih =>
    intro x2 M h
    unfold wX0_copyFrom_L49 at h
    refine r_iload_n hC 2 dX0_copyFrom_49 rfl rfl ?_
    refine r_aload_n hC 0 dX0_copyFrom_50 rfl rfl ?_
    refine r_getI hC fg_X0_61 rfl qa0.1 qa0.2 dX0_copyFrom_51 ?_
    refine r_icmp_ge hC 78 rfl rfl dX0_copyFrom_54 (by decide) (fun cq => ?_) (fun cq => ?_)
    · replace h := h.1 cq
      refine r_sub [0, 1] rfl ?_
      exact hE78  _ h
    · replace h := h.2 cq
      refine r_aload_n hC 0 dX0_copyFrom_57 rfl rfl ?_
      have q_13 : 0 < a0 + 3 ∧ M0 0 (a0 + 3) = kA 5 10 := lay_f0 (a := a0) hL qa0 fm_0_3
      refine r_getR0 (a' := a0 + 3) hC fg_X0_23 rfl hF fm_0_3 qa0.1 qa0.2 rfl dX0_copyFrom_58 ?_
      refine r_iload_n hC 2 dX0_copyFrom_61 rfl rfl ?_
      obtain ⟨i_14, h⟩ := h
      have q_15 : 0 < a0 + 21 + 2 * (bm x2).toNat ∧ M0 0 (a0 + 21 + 2 * (bm x2).toNat) = kO 1 := lay_a5 (a := a0 + 3) hL q_13 (inb_nat i_14)
      refine r_aald5 hC hF i_14 q_13.1 q_13.2 dX0_copyFrom_62 ?_
      refine r_aload_n hC 1 dX0_copyFrom_63 rfl rfl ?_
      have q_16 : 0 < a1 + 3 ∧ M0 0 (a1 + 3) = kA 5 10 := lay_f0 (a := a1) hL qa1 fm_0_3
      refine r_getR0 (a' := a1 + 3) hC fg_X0_23 rfl hF fm_0_3 qa1.1 qa1.2 rfl dX0_copyFrom_64 ?_
      refine r_iload_n hC 2 dX0_copyFrom_67 rfl rfl ?_
      obtain ⟨i_17, h⟩ := h
      have q_18 : 0 < a1 + 21 + 2 * (bm x2).toNat ∧ M0 0 (a1 + 21 + 2 * (bm x2).toNat) = kO 1 := lay_a5 (a := a1 + 3) hL q_16 (inb_nat i_17)
      refine r_aald5 hC hF i_17 q_16.1 q_16.2 dX0_copyFrom_68 ?_
      refine r_callV (As := [vR Y.1 (a1 + 21 + 2 * (bm x2).toNat)]) (st := []) hC cw_X0_64 rfl q_15.1 q_15.2 rfl rfl (Nat.le_of_ble_eq_true rfl) ⟨Nat.le_of_ble_eq_true rfl, Nat.le_of_ble_eq_true rfl⟩ ⟨Nat.le_of_ble_eq_true rfl, Nat.le_of_ble_eq_true rfl⟩ dX0_copyFrom_69 (fun hk => mX1_copyFrom Y hF _ _ _ _ _ (kqO hk q_15) (kqO hk q_18) h) (fun v M_19 h => ?_)
      obtain ⟨rfl, h⟩ := h
      refine let_elim h (fun x2_20 e_21 h => ?_)
      refine r_iinc (lv' := [(2, vI x2_20), (0, vR Y.1 a0), (1, vR Y.1 a1)]) hC 2 dX0_copyFrom_72 rfl (by decide) e_21 rfl ?_
      refine r_goto hC 49 dX0_copyFrom_75 (by decide) ?_
      refine r_sub [1, 2, 0] rfl ?_
      exact ih _ _ h
set_option maxHeartbeats 4000000 in
set_option maxRecDepth 100000 in
theorem tX0_copyFrom_L88 {X : Cx} {Y : Yx} {M0 : Mem} (hC : OKX X Y RX0 cX0_copyFrom 3 none rmX0_copyFrom) (hF : Y.2.2.2.2 = true) (hL : Lay M0) (Q : Mem → Prop) (E117 : Mem → Prop) (a0 : Nat) (a1 : Nat) (qa0 : 0 < a0 ∧ M0 0 a0 = kO 0) (qa1 : 0 < a1 ∧ M0 0 a1 = kO 0) (hE117 : ∀  (M : Mem), E117  M → WW X Y 3 rmX0_copyFrom (QV Q) M0 0 0 117 [(0, vR Y.1 a0), (1, vR Y.1 a1)] [] M) : ∀ (N : Nat) (x2 : Int) (M : Mem) (_ : wX0_copyFrom_L88 Q E117 a0 a1 N x2 M), WW X Y 3 rmX0_copyFrom (QV Q) M0 0 0 88 [(0, vR Y.1 a0), (1, vR Y.1 a1), (2, vI x2)] [] M := by
  intro N
  induction N with
  | zero =>
    intro x2 M h
    exact h.elim
  | succ N ih =>
    intro x2 M h
    unfold wX0_copyFrom_L88 at h
    refine r_iload_n hC 2 dX0_copyFrom_88 rfl rfl ?_
    refine r_aload_n hC 0 dX0_copyFrom_89 rfl rfl ?_
    refine r_getI hC fg_X0_67 rfl qa0.1 qa0.2 dX0_copyFrom_90 ?_
    refine r_icmp_ge hC 117 rfl rfl dX0_copyFrom_93 (by decide) (fun cq => ?_) (fun cq => ?_)
    · replace h := h.1 cq
      refine r_sub [0, 1] rfl ?_
      exact hE117  _ h
    · replace h := h.2 cq
      refine r_aload_n hC 0 dX0_copyFrom_96 rfl rfl ?_
      have q_24 : 0 < a0 + 4 ∧ M0 0 (a0 + 4) = kA 6 10 := lay_f0 (a := a0) hL qa0 fm_0_5
      refine r_getR0 (a' := a0 + 4) hC fg_X0_29 rfl hF fm_0_5 qa0.1 qa0.2 rfl dX0_copyFrom_97 ?_
      refine r_iload_n hC 2 dX0_copyFrom_100 rfl rfl ?_
      obtain ⟨i_25, h⟩ := h
      have q_26 : 0 < a0 + 41 + (bm x2).toNat ∧ M0 0 (a0 + 41 + (bm x2).toNat) = kO 2 := lay_a6 (a := a0 + 4) hL q_24 (inb_nat i_25)
      refine r_aald6 hC hF i_25 q_24.1 q_24.2 dX0_copyFrom_101 ?_
      refine r_aload_n hC 1 dX0_copyFrom_102 rfl rfl ?_
      have q_27 : 0 < a1 + 4 ∧ M0 0 (a1 + 4) = kA 6 10 := lay_f0 (a := a1) hL qa1 fm_0_5
      refine r_getR0 (a' := a1 + 4) hC fg_X0_29 rfl hF fm_0_5 qa1.1 qa1.2 rfl dX0_copyFrom_103 ?_
      refine r_iload_n hC 2 dX0_copyFrom_106 rfl rfl ?_
      obtain ⟨i_28, h⟩ := h
      have q_29 : 0 < a1 + 41 + (bm x2).toNat ∧ M0 0 (a1 + 41 + (bm x2).toNat) = kO 2 := lay_a6 (a := a1 + 4) hL q_27 (inb_nat i_28)
      refine r_aald6 hC hF i_28 q_27.1 q_27.2 dX0_copyFrom_107 ?_
      refine r_callV (As := [vR Y.1 (a1 + 41 + (bm x2).toNat)]) (st := []) hC cw_X0_70 rfl q_26.1 q_26.2 rfl rfl (Nat.le_of_ble_eq_true rfl) ⟨Nat.le_of_ble_eq_true rfl, Nat.le_of_ble_eq_true rfl⟩ ⟨Nat.le_of_ble_eq_true rfl, Nat.le_of_ble_eq_true rfl⟩ dX0_copyFrom_108 (fun hk => mX2_copyFrom Y hF _ _ _ _ _ (kqO hk q_26) (kqO hk q_29) h) (fun v M_30 h => ?_)
      obtain ⟨rfl, h⟩ := h
      refine let_elim h (fun x2_31 e_32 h => ?_)
      refine r_iinc (lv' := [(2, vI x2_31), (0, vR Y.1 a0), (1, vR Y.1 a1)]) hC 2 dX0_copyFrom_111 rfl (by decide) e_32 rfl ?_
      refine r_goto hC 88 dX0_copyFrom_114 (by decide) ?_
      refine r_sub [1, 2, 0] rfl ?_
      exact ih _ _ h
set_option maxHeartbeats 4000000 in
set_option maxRecDepth 100000 in
theorem tX0_copyFrom_L127 {X : Cx} {Y : Yx} {M0 : Mem} (hC : OKX X Y RX0 cX0_copyFrom 3 none rmX0_copyFrom) (hF : Y.2.2.2.2 = true) (hL : Lay M0) (Q : Mem → Prop) (E171 : Mem → Prop) (a0 : Nat) (a1 : Nat) (qa0 : 0 < a0 ∧ M0 0 a0 = kO 0) (qa1 : 0 < a1 ∧ M0 0 a1 = kO 0) (hE171 : ∀  (M : Mem), E171  M → WW X Y 3 rmX0_copyFrom (QV Q) M0 0 0 171 [(0, vR Y.1 a0), (1, vR Y.1 a1)] [] M) : ∀ (N : Nat) (x2 : Int) (M : Mem) (_ : wX0_copyFrom_L127 Q E171 a0 a1 N x2 M), WW X Y 3 rmX0_copyFrom (QV Q) M0 0 0 127 [(0, vR Y.1 a0), (1, vR Y.1 a1), (2, vI x2)] [] M := by
  intro N
  induction N with
  | zero =>
    intro x2 M h
    exact h.elim
  | succ N ih =>
    intro x2 M h
    unfold wX0_copyFrom_L127 at h
    refine r_iload_n hC 2 dX0_copyFrom_127 rfl rfl ?_
    refine r_aload_n hC 0 dX0_copyFrom_128 rfl rfl ?_
    refine r_getI hC fg_X0_73 rfl qa0.1 qa0.2 dX0_copyFrom_129 ?_
    refine r_icmp_ge hC 171 rfl rfl dX0_copyFrom_132 (by decide) (fun cq => ?_) (fun cq => ?_)
    · replace h := h.1 cq
      refine r_sub [0, 1] rfl ?_
      exact hE171  _ h
    · replace h := h.2 cq
      refine r_aload_n hC 0 dX0_copyFrom_135 rfl rfl ?_
      have q_35 : 0 < a0 + 6 ∧ M0 0 (a0 + 6) = kA 7 8 := lay_f0 (a := a0) hL qa0 fm_0_9
      refine r_getR0 (a' := a0 + 6) hC fg_X0_39 rfl hF fm_0_9 qa0.1 qa0.2 rfl dX0_copyFrom_136 ?_
      refine r_iload_n hC 2 dX0_copyFrom_139 rfl rfl ?_
      obtain ⟨i_36, h⟩ := h
      have q_37 : 0 < a0 + 51 + 4 * (bm x2).toNat ∧ M0 0 (a0 + 51 + 4 * (bm x2).toNat) = kO 5 := lay_a7 (a := a0 + 6) hL q_35 (inb_nat i_36)
      refine r_aald7 hC hF i_36 q_35.1 q_35.2 dX0_copyFrom_140 ?_
      refine r_aload_n hC 1 dX0_copyFrom_141 rfl rfl ?_
      have q_38 : 0 < a1 + 6 ∧ M0 0 (a1 + 6) = kA 7 8 := lay_f0 (a := a1) hL qa1 fm_0_9
      refine r_getR0 (a' := a1 + 6) hC fg_X0_39 rfl hF fm_0_9 qa1.1 qa1.2 rfl dX0_copyFrom_142 ?_
      refine r_iload_n hC 2 dX0_copyFrom_145 rfl rfl ?_
      obtain ⟨i_39, h⟩ := h
      have q_40 : 0 < a1 + 51 + 4 * (bm x2).toNat ∧ M0 0 (a1 + 51 + 4 * (bm x2).toNat) = kO 5 := lay_a7 (a := a1 + 6) hL q_38 (inb_nat i_39)
      refine r_aald7 hC hF i_39 q_38.1 q_38.2 dX0_copyFrom_146 ?_
      refine r_callV (As := [vR Y.1 (a1 + 51 + 4 * (bm x2).toNat)]) (st := []) hC cw_X0_76 rfl q_37.1 q_37.2 rfl rfl (Nat.le_of_ble_eq_true rfl) ⟨Nat.le_of_ble_eq_true rfl, Nat.le_of_ble_eq_true rfl⟩ ⟨Nat.le_of_ble_eq_true rfl, Nat.le_of_ble_eq_true rfl⟩ dX0_copyFrom_147 (fun hk => mX5_copyFrom Y hF _ _ _ _ _ (kqO hk q_37) (kqO hk q_40) h) (fun v M_41 h => ?_)
      obtain ⟨rfl, h⟩ := h
      refine r_aload_n hC 0 dX0_copyFrom_150 rfl rfl ?_
      have q_42 : 0 < a0 + 7 ∧ M0 0 (a0 + 7) = kA 8 8 := lay_f0 (a := a0) hL qa0 fm_0_10
      refine r_getR0 (a' := a0 + 7) hC fg_X0_43 rfl hF fm_0_10 qa0.1 qa0.2 rfl dX0_copyFrom_151 ?_
      refine r_iload_n hC 2 dX0_copyFrom_154 rfl rfl ?_
      obtain ⟨i_43, h⟩ := h
      have q_44 : 0 < a0 + 53 + 4 * (bm x2).toNat ∧ M0 0 (a0 + 53 + 4 * (bm x2).toNat) = kO 5 := lay_a8 (a := a0 + 7) hL q_42 (inb_nat i_43)
      refine r_aald8 hC hF i_43 q_42.1 q_42.2 dX0_copyFrom_155 ?_
      refine r_aload_n hC 1 dX0_copyFrom_156 rfl rfl ?_
      have q_45 : 0 < a1 + 7 ∧ M0 0 (a1 + 7) = kA 8 8 := lay_f0 (a := a1) hL qa1 fm_0_10
      refine r_getR0 (a' := a1 + 7) hC fg_X0_43 rfl hF fm_0_10 qa1.1 qa1.2 rfl dX0_copyFrom_157 ?_
      refine r_iload_n hC 2 dX0_copyFrom_160 rfl rfl ?_
      obtain ⟨i_46, h⟩ := h
      have q_47 : 0 < a1 + 53 + 4 * (bm x2).toNat ∧ M0 0 (a1 + 53 + 4 * (bm x2).toNat) = kO 5 := lay_a8 (a := a1 + 7) hL q_45 (inb_nat i_46)
      refine r_aald8 hC hF i_46 q_45.1 q_45.2 dX0_copyFrom_161 ?_
      refine r_callV (As := [vR Y.1 (a1 + 53 + 4 * (bm x2).toNat)]) (st := []) hC cw_X0_76 rfl q_44.1 q_44.2 rfl rfl (Nat.le_of_ble_eq_true rfl) ⟨Nat.le_of_ble_eq_true rfl, Nat.le_of_ble_eq_true rfl⟩ ⟨Nat.le_of_ble_eq_true rfl, Nat.le_of_ble_eq_true rfl⟩ dX0_copyFrom_162 (fun hk => mX5_copyFrom Y hF _ _ _ _ _ (kqO hk q_44) (kqO hk q_47) h) (fun v M_48 h => ?_)
      obtain ⟨rfl, h⟩ := h
      refine let_elim h (fun x2_49 e_50 h => ?_)
      refine r_iinc (lv' := [(2, vI x2_49), (0, vR Y.1 a0), (1, vR Y.1 a1)]) hC 2 dX0_copyFrom_165 rfl (by decide) e_50 rfl ?_
      refine r_goto hC 127 dX0_copyFrom_168 (by decide) ?_
      refine r_sub [1, 2, 0] rfl ?_
      exact ih _ _ h
set_option maxHeartbeats 4000000 in
set_option maxRecDepth 100000 in
theorem mX0_copyFrom (Y : Yx) (hF : Y.2.2.2.2 = true) (l : Launch) (a0 : Nat) (a1 : Nat) (M0 : Mem) (Q : Mem → Prop) (qa0 : 0 < a0 ∧ M0 0 a0 = kO 0) (qa1 : 0 < a1 ∧ M0 0 a1 = kO 0) (h : wX0_copyFrom a0 a1 M0 Q) : CT Y l yX0_copyFrom cX0_copyFrom 3 none rmX0_copyFrom [vR Y.1 a0, vR Y.1 a1] M0 (QV Q) := by
  unfold wX0_copyFrom at h
  refine ct_intro (by decide) (Nat.le_of_ble_eq_true rfl) ?_
  intro X hXl hC hL0
  have hL := hL0 hF
  change OKX X Y RX0 cX0_copyFrom 3 none rmX0_copyFrom at hC
  change WW X Y 3 rmX0_copyFrom (QV Q) M0 0 0 0 [(0, vR Y.1 a0), (1, vR Y.1 a1)] [] M0
  refine r_aload_n hC 0 dX0_copyFrom_0 rfl rfl ?_
  refine r_aload_n hC 1 dX0_copyFrom_1 rfl rfl ?_
  refine r_getI hC fg_X0_53 rfl qa1.1 qa1.2 dX0_copyFrom_2 ?_
  refine r_putI hC fp_X0_53 rfl qa0.1 qa0.2 dX0_copyFrom_5 ?_
  refine r_nameM h (fun M_1 h => ?_)
  refine r_iconst hC dX0_copyFrom_8 ?_
  refine r_istore_n (lv' := [(2, vI 0), (0, vR Y.1 a0), (1, vR Y.1 a1)]) hC dX0_copyFrom_9 rfl (by decide) rfl ?_
  refine r_sub [1, 2, 0] rfl ?_
  obtain ⟨N_72, h⟩ := h
  refine tX0_copyFrom_L10 hC hF hL Q _ _ _ qa0 qa1 ?_ N_72 _ _ h
  · intro M_11 h
    refine r_aload_n hC 0 dX0_copyFrom_39 rfl rfl ?_
    refine r_aload_n hC 1 dX0_copyFrom_40 rfl rfl ?_
    refine r_getI hC fg_X0_61 rfl qa1.1 qa1.2 dX0_copyFrom_41 ?_
    refine r_putI hC fp_X0_61 rfl qa0.1 qa0.2 dX0_copyFrom_44 ?_
    refine r_nameM h (fun M_12 h => ?_)
    refine r_iconst hC dX0_copyFrom_47 ?_
    refine r_istore_n (lv' := [(2, vI 0), (0, vR Y.1 a0), (1, vR Y.1 a1)]) hC dX0_copyFrom_48 rfl (by decide) rfl ?_
    refine r_sub [1, 2, 0] rfl ?_
    obtain ⟨N_71, h⟩ := h
    refine tX0_copyFrom_L49 hC hF hL Q _ _ _ qa0 qa1 ?_ N_71 _ _ h
    · intro M_22 h
      refine r_aload_n hC 0 dX0_copyFrom_78 rfl rfl ?_
      refine r_aload_n hC 1 dX0_copyFrom_79 rfl rfl ?_
      refine r_getI hC fg_X0_67 rfl qa1.1 qa1.2 dX0_copyFrom_80 ?_
      refine r_putI hC fp_X0_67 rfl qa0.1 qa0.2 dX0_copyFrom_83 ?_
      refine r_nameM h (fun M_23 h => ?_)
      refine r_iconst hC dX0_copyFrom_86 ?_
      refine r_istore_n (lv' := [(2, vI 0), (0, vR Y.1 a0), (1, vR Y.1 a1)]) hC dX0_copyFrom_87 rfl (by decide) rfl ?_
      refine r_sub [1, 2, 0] rfl ?_
      obtain ⟨N_70, h⟩ := h
      refine tX0_copyFrom_L88 hC hF hL Q _ _ _ qa0 qa1 ?_ N_70 _ _ h
      · intro M_33 h
        refine r_aload_n hC 0 dX0_copyFrom_117 rfl rfl ?_
        refine r_aload_n hC 1 dX0_copyFrom_118 rfl rfl ?_
        refine r_getI hC fg_X0_73 rfl qa1.1 qa1.2 dX0_copyFrom_119 ?_
        refine r_putI hC fp_X0_73 rfl qa0.1 qa0.2 dX0_copyFrom_122 ?_
        refine r_nameM h (fun M_34 h => ?_)
        refine r_iconst hC dX0_copyFrom_125 ?_
        refine r_istore_n (lv' := [(2, vI 0), (0, vR Y.1 a0), (1, vR Y.1 a1)]) hC dX0_copyFrom_126 rfl (by decide) rfl ?_
        refine r_sub [1, 2, 0] rfl ?_
        obtain ⟨N_69, h⟩ := h
        refine tX0_copyFrom_L127 hC hF hL Q _ _ _ qa0 qa1 ?_ N_69 _ _ h
        · intro M_51 h
          refine r_aload_n hC 0 dX0_copyFrom_171 rfl rfl ?_
          refine r_aload_n hC 1 dX0_copyFrom_172 rfl rfl ?_
          refine r_getI hC fg_X0_79 rfl qa1.1 qa1.2 dX0_copyFrom_173 ?_
          refine r_putI hC fp_X0_79 rfl qa0.1 qa0.2 dX0_copyFrom_176 ?_
          refine r_nameM h (fun M_52 h => ?_)
          refine r_aload_n hC 1 dX0_copyFrom_179 rfl rfl ?_
          have q_53 : 0 < a1 + 5 ∧ M0 0 (a1 + 5) = kA 1 50 := lay_f0 (a := a1) hL qa1 fm_0_7
          refine r_getR0 (a' := a1 + 5) hC fg_X0_33 rfl hF fm_0_7 qa1.1 qa1.2 rfl dX0_copyFrom_180 ?_
          refine r_iconst hC dX0_copyFrom_183 ?_
          refine r_aload_n hC 0 dX0_copyFrom_184 rfl rfl ?_
          have q_54 : 0 < a0 + 5 ∧ M0 0 (a0 + 5) = kA 1 50 := lay_f0 (a := a0) hL qa0 fm_0_7
          refine r_getR0 (a' := a0 + 5) hC fg_X0_33 rfl hF fm_0_7 qa0.1 qa0.2 rfl dX0_copyFrom_185 ?_
          refine r_iconst hC dX0_copyFrom_188 ?_
          refine r_bipush hC (by decide +kernel) dX0_copyFrom_189 ?_
          obtain ⟨i_55, h⟩ := h
          obtain ⟨b_56, h⟩ := h
          refine r_copy (t := 1) hC (by decide) cp_X0_82 (Nat.le_of_ble_eq_true rfl) (Nat.le_of_ble_eq_true rfl) (Nat.le_of_ble_eq_true rfl) i_55 (fun _ => b_56) q_53 q_54 (by decide) (by decide) dX0_copyFrom_191 ?_
          refine r_nameM h (fun M_57 h => ?_)
          refine r_aload_n hC 0 dX0_copyFrom_194 rfl rfl ?_
          refine r_aload_n hC 1 dX0_copyFrom_195 rfl rfl ?_
          refine r_getI hC fg_X0_88 rfl qa1.1 qa1.2 dX0_copyFrom_196 ?_
          refine r_putI hC fp_X0_88 rfl qa0.1 qa0.2 dX0_copyFrom_199 ?_
          refine r_nameM h (fun M_58 h => ?_)
          refine r_aload_n hC 1 dX0_copyFrom_202 rfl rfl ?_
          have q_59 : 0 < a1 + 8 ∧ M0 0 (a1 + 8) = kA 0 12 := lay_f0 (a := a1) hL qa1 fm_0_12
          refine r_getR0 (a' := a1 + 8) hC fg_X0_46 rfl hF fm_0_12 qa1.1 qa1.2 rfl dX0_copyFrom_203 ?_
          refine r_iconst hC dX0_copyFrom_206 ?_
          refine r_aload_n hC 0 dX0_copyFrom_207 rfl rfl ?_
          have q_60 : 0 < a0 + 8 ∧ M0 0 (a0 + 8) = kA 0 12 := lay_f0 (a := a0) hL qa0 fm_0_12
          refine r_getR0 (a' := a0 + 8) hC fg_X0_46 rfl hF fm_0_12 qa0.1 qa0.2 rfl dX0_copyFrom_208 ?_
          refine r_iconst hC dX0_copyFrom_211 ?_
          refine r_bipush hC (by decide +kernel) dX0_copyFrom_212 ?_
          obtain ⟨i_61, h⟩ := h
          refine r_copy (t := 0) hC (by decide) cp_X0_82 (Nat.le_of_ble_eq_true rfl) (Nat.le_of_ble_eq_true rfl) (Nat.le_of_ble_eq_true rfl) i_61 (by intro q; cases q) q_59 q_60 (by decide) (by decide) dX0_copyFrom_214 ?_
          refine r_nameM h (fun M_63 h => ?_)
          refine r_aload_n hC 1 dX0_copyFrom_217 rfl rfl ?_
          have q_64 : 0 < a1 + 2 ∧ M0 0 (a1 + 2) = kA 0 4 := lay_f0 (a := a1) hL qa1 fm_0_2
          refine r_getR0 (a' := a1 + 2) hC fg_X0_17 rfl hF fm_0_2 qa1.1 qa1.2 rfl dX0_copyFrom_218 ?_
          refine r_iconst hC dX0_copyFrom_221 ?_
          refine r_aload_n hC 0 dX0_copyFrom_222 rfl rfl ?_
          have q_65 : 0 < a0 + 2 ∧ M0 0 (a0 + 2) = kA 0 4 := lay_f0 (a := a0) hL qa0 fm_0_2
          refine r_getR0 (a' := a0 + 2) hC fg_X0_17 rfl hF fm_0_2 qa0.1 qa0.2 rfl dX0_copyFrom_223 ?_
          refine r_iconst hC dX0_copyFrom_226 ?_
          refine r_iconst hC dX0_copyFrom_227 ?_
          obtain ⟨i_66, h⟩ := h
          refine r_copy (t := 0) hC (by decide) cp_X0_82 (Nat.le_of_ble_eq_true rfl) (Nat.le_of_ble_eq_true rfl) (Nat.le_of_ble_eq_true rfl) i_66 (by intro q; cases q) q_64 q_65 (by decide) (by decide) dX0_copyFrom_228 ?_
          refine r_nameM h (fun M_68 h => ?_)
          exact r_vret hC (Nat.zero_le _) (Nat.zero_le _) dX0_copyFrom_231 ⟨rfl, h⟩
theorem dX0_likingsOn_0 : dec cX0_likingsOn 0 1 1 (.iconst 0) := ⟨by decide +kernel, rfl⟩
theorem dX0_likingsOn_1 : dec cX0_likingsOn 1 1 2 (.istore_n 1) := ⟨by decide +kernel, rfl⟩
theorem dX0_likingsOn_2 : dec cX0_likingsOn 2 1 3 (.iconst 0) := ⟨by decide +kernel, rfl⟩
theorem dX0_likingsOn_3 : dec cX0_likingsOn 3 1 4 (.istore_n 2) := ⟨by decide +kernel, rfl⟩
theorem dX0_likingsOn_4 : dec cX0_likingsOn 4 1 5 (.iload_n 2) := ⟨by decide +kernel, rfl⟩
theorem dX0_likingsOn_5 : dec cX0_likingsOn 5 1 6 (.aload_n 0) := ⟨by decide +kernel, rfl⟩
theorem dX0_likingsOn_6 : dec cX0_likingsOn 6 3 9 (.getfield 61) := ⟨by decide +kernel, rfl⟩
theorem dX0_likingsOn_9 : dec cX0_likingsOn 9 3 12 (.if_icmp .ge 27) := ⟨by decide +kernel, rfl⟩
theorem dX0_likingsOn_12 : dec cX0_likingsOn 12 1 13 (.aload_n 0) := ⟨by decide +kernel, rfl⟩
theorem dX0_likingsOn_13 : dec cX0_likingsOn 13 3 16 (.getfield 23) := ⟨by decide +kernel, rfl⟩
theorem dX0_likingsOn_16 : dec cX0_likingsOn 16 1 17 (.iload_n 2) := ⟨by decide +kernel, rfl⟩
theorem dX0_likingsOn_17 : dec cX0_likingsOn 17 1 18 (.aaload) := ⟨by decide +kernel, rfl⟩
theorem dX0_likingsOn_18 : dec cX0_likingsOn 18 3 21 (.getfield 91) := ⟨by decide +kernel, rfl⟩
theorem dX0_likingsOn_21 : dec cX0_likingsOn 21 3 24 (.ifCond .eq 9) := ⟨by decide +kernel, rfl⟩
theorem dX0_likingsOn_24 : dec cX0_likingsOn 24 1 25 (.iload_n 1) := ⟨by decide +kernel, rfl⟩
theorem dX0_likingsOn_25 : dec cX0_likingsOn 25 1 26 (.iconst 1) := ⟨by decide +kernel, rfl⟩
theorem dX0_likingsOn_26 : dec cX0_likingsOn 26 1 27 (.iload_n 2) := ⟨by decide +kernel, rfl⟩
theorem dX0_likingsOn_27 : dec cX0_likingsOn 27 1 28 (.ishl) := ⟨by decide +kernel, rfl⟩
theorem dX0_likingsOn_28 : dec cX0_likingsOn 28 1 29 (.ior) := ⟨by decide +kernel, rfl⟩
theorem dX0_likingsOn_29 : dec cX0_likingsOn 29 1 30 (.istore_n 1) := ⟨by decide +kernel, rfl⟩
theorem dX0_likingsOn_30 : dec cX0_likingsOn 30 3 33 (.iinc 2 1) := ⟨by decide +kernel, rfl⟩
theorem dX0_likingsOn_33 : dec cX0_likingsOn 33 3 36 (.goto (-29)) := ⟨by decide +kernel, rfl⟩
theorem dX0_likingsOn_36 : dec cX0_likingsOn 36 1 37 (.iload_n 1) := ⟨by decide +kernel, rfl⟩
theorem dX0_likingsOn_37 : dec cX0_likingsOn 37 1 38 (.ireturn) := ⟨by decide +kernel, rfl⟩
set_option maxHeartbeats 4000000 in
set_option maxRecDepth 100000 in
theorem tX0_likingsOn_L4 {X : Cx} {Y : Yx} {M0 : Mem} (hC : OKX X Y RX0 cX0_likingsOn 3 (some .int) rmX0_likingsOn) (hF : Y.2.2.2.2 = true) (hL : Lay M0) (Q : Int → Mem → Prop)  (a0 : Nat) (qa0 : 0 < a0 ∧ M0 0 a0 = kO 0)  : ∀ (N : Nat) (x1 : Int) (x2 : Int) (M : Mem) (_ : wX0_likingsOn_L4 Q  a0 N x1 x2 M), WW X Y 3 rmX0_likingsOn (QI Q) M0 0 0 4 [(0, vR Y.1 a0), (1, vI x1), (2, vI x2)] [] M := by
  intro N
  induction N with
  | zero =>
    intro x1 x2 M h
    exact h.elim
  | succ N ih =>
    intro x1 x2 M h
    unfold wX0_likingsOn_L4 at h
    refine r_iload_n hC 2 dX0_likingsOn_4 rfl rfl ?_
    refine r_aload_n hC 0 dX0_likingsOn_5 rfl rfl ?_
    refine r_getI hC fg_X0_61 rfl qa0.1 qa0.2 dX0_likingsOn_6 ?_
    refine r_icmp_ge hC 36 rfl rfl dX0_likingsOn_9 (by decide) (fun cq => ?_) (fun cq => ?_)
    · replace h := h.1 cq
      refine r_iload_n hC 1 dX0_likingsOn_36 rfl rfl ?_
      exact r_iret hC (Nat.zero_le _) (Nat.zero_le _) dX0_likingsOn_37 ⟨_, rfl, h⟩
    · replace h := h.2 cq
      refine r_aload_n hC 0 dX0_likingsOn_12 rfl rfl ?_
      have q_1 : 0 < a0 + 3 ∧ M0 0 (a0 + 3) = kA 5 10 := lay_f0 (a := a0) hL qa0 fm_0_3
      refine r_getR0 (a' := a0 + 3) hC fg_X0_23 rfl hF fm_0_3 qa0.1 qa0.2 rfl dX0_likingsOn_13 ?_
      refine r_iload_n hC 2 dX0_likingsOn_16 rfl rfl ?_
      obtain ⟨i_2, h⟩ := h
      have q_3 : 0 < a0 + 21 + 2 * (bm x2).toNat ∧ M0 0 (a0 + 21 + 2 * (bm x2).toNat) = kO 1 := lay_a5 (a := a0 + 3) hL q_1 (inb_nat i_2)
      refine r_aald5 hC hF i_2 q_1.1 q_1.2 dX0_likingsOn_17 ?_
      refine r_getI hC fg_X0_91 rfl q_3.1 q_3.2 dX0_likingsOn_18 ?_
      refine r_if_eq hC 30 rfl dX0_likingsOn_21 (by decide) (fun cq => ?_) (fun cq => ?_)
      · replace h := h.1 cq
        refine let_elim h (fun x2_4 e_5 h => ?_)
        refine r_iinc (lv' := [(2, vI x2_4), (0, vR Y.1 a0), (1, vI x1)]) hC 2 dX0_likingsOn_30 rfl (by decide) e_5 rfl ?_
        refine r_goto hC 4 dX0_likingsOn_33 (by decide) ?_
        refine r_sub [1, 2, 0] rfl ?_
        exact ih _ _ _ h
      · replace h := h.2 cq
        refine r_iload_n hC 1 dX0_likingsOn_24 rfl rfl ?_
        refine r_iconst hC dX0_likingsOn_25 ?_
        refine r_iload_n hC 2 dX0_likingsOn_26 rfl rfl ?_
        refine r_ishl hC dX0_likingsOn_27 ?_
        refine r_ior hC dX0_likingsOn_28 ?_
        refine r_nameI h (fun x1_6 h => ?_)
        refine r_istore_n (lv' := [(1, vI x1_6), (0, vR Y.1 a0), (2, vI x2)]) hC dX0_likingsOn_29 rfl (by decide) rfl ?_
        refine let_elim h (fun x2_7 e_8 h => ?_)
        refine r_iinc (lv' := [(2, vI x2_7), (1, vI x1_6), (0, vR Y.1 a0)]) hC 2 dX0_likingsOn_30 rfl (by decide) e_8 rfl ?_
        refine r_goto hC 4 dX0_likingsOn_33 (by decide) ?_
        refine r_sub [2, 1, 0] rfl ?_
        exact ih _ _ _ h
set_option maxHeartbeats 4000000 in
set_option maxRecDepth 100000 in
theorem mX0_likingsOn (Y : Yx) (hF : Y.2.2.2.2 = true) (l : Launch) (a0 : Nat) (M0 : Mem) (Q : Int → Mem → Prop) (qa0 : 0 < a0 ∧ M0 0 a0 = kO 0) (h : wX0_likingsOn a0 M0 Q) : CT Y l yX0_likingsOn cX0_likingsOn 3 (some .int) rmX0_likingsOn [vR Y.1 a0] M0 (QI Q) := by
  unfold wX0_likingsOn at h
  refine ct_intro (by decide) (Nat.le_of_ble_eq_true rfl) ?_
  intro X hXl hC hL0
  have hL := hL0 hF
  change OKX X Y RX0 cX0_likingsOn 3 (some .int) rmX0_likingsOn at hC
  change WW X Y 3 rmX0_likingsOn (QI Q) M0 0 0 0 [(0, vR Y.1 a0)] [] M0
  refine r_iconst hC dX0_likingsOn_0 ?_
  refine r_istore_n (lv' := [(1, vI 0), (0, vR Y.1 a0)]) hC dX0_likingsOn_1 rfl (by decide) rfl ?_
  refine r_iconst hC dX0_likingsOn_2 ?_
  refine r_istore_n (lv' := [(2, vI 0), (1, vI 0), (0, vR Y.1 a0)]) hC dX0_likingsOn_3 rfl (by decide) rfl ?_
  refine r_sub [2, 1, 0] rfl ?_
  obtain ⟨N_9, h⟩ := h
  refine tX0_likingsOn_L4 hC hF hL Q  _ qa0  N_9 _ _ _ h
theorem dX1_become_0 : dec cX1_become 0 1 1 (.aload_n 0) := ⟨by decide +kernel, rfl⟩
theorem dX1_become_1 : dec cX1_become 1 1 2 (.iload_n 1) := ⟨by decide +kernel, rfl⟩
theorem dX1_become_2 : dec cX1_become 2 3 5 (.putfield 19) := ⟨by decide +kernel, rfl⟩
theorem dX1_become_5 : dec cX1_become 5 1 6 (.aload_n 0) := ⟨by decide +kernel, rfl⟩
theorem dX1_become_6 : dec cX1_become 6 1 7 (.iload_n 2) := ⟨by decide +kernel, rfl⟩
theorem dX1_become_7 : dec cX1_become 7 3 10 (.putfield 22) := ⟨by decide +kernel, rfl⟩
theorem dX1_become_10 : dec cX1_become 10 1 11 (.aload_n 0) := ⟨by decide +kernel, rfl⟩
theorem dX1_become_11 : dec cX1_become 11 1 12 (.iload_n 3) := ⟨by decide +kernel, rfl⟩
theorem dX1_become_12 : dec cX1_become 12 3 15 (.putfield 11) := ⟨by decide +kernel, rfl⟩
theorem dX1_become_15 : dec cX1_become 15 1 16 (.aload_n 0) := ⟨by decide +kernel, rfl⟩
theorem dX1_become_16 : dec cX1_become 16 1 17 (.iload_n 3) := ⟨by decide +kernel, rfl⟩
theorem dX1_become_17 : dec cX1_become 17 3 20 (.ifCond .ne 7) := ⟨by decide +kernel, rfl⟩
theorem dX1_become_20 : dec cX1_become 20 1 21 (.iconst 0) := ⟨by decide +kernel, rfl⟩
theorem dX1_become_21 : dec cX1_become 21 3 24 (.goto 10) := ⟨by decide +kernel, rfl⟩
theorem dX1_become_24 : dec cX1_become 24 1 25 (.iload_n 2) := ⟨by decide +kernel, rfl⟩
theorem dX1_become_25 : dec cX1_become 25 3 28 (.sipush 2520) := ⟨by decide +kernel, rfl⟩
theorem dX1_become_28 : dec cX1_become 28 1 29 (.iload_n 3) := ⟨by decide +kernel, rfl⟩
theorem dX1_become_29 : dec cX1_become 29 1 30 (.idiv) := ⟨by decide +kernel, rfl⟩
theorem dX1_become_30 : dec cX1_become 30 1 31 (.imul) := ⟨by decide +kernel, rfl⟩
theorem dX1_become_31 : dec cX1_become 31 3 34 (.putfield 25) := ⟨by decide +kernel, rfl⟩
theorem dX1_become_34 : dec cX1_become 34 1 35 (.aload_n 0) := ⟨by decide +kernel, rfl⟩
theorem dX1_become_35 : dec cX1_become 35 1 36 (.iconst 1) := ⟨by decide +kernel, rfl⟩
theorem dX1_become_36 : dec cX1_become 36 3 39 (.putfield 28) := ⟨by decide +kernel, rfl⟩
theorem dX1_become_39 : dec cX1_become 39 1 40 (.aload_n 0) := ⟨by decide +kernel, rfl⟩
theorem dX1_become_40 : dec cX1_become 40 1 41 (.iconst 0) := ⟨by decide +kernel, rfl⟩
theorem dX1_become_41 : dec cX1_become 41 3 44 (.putfield 32) := ⟨by decide +kernel, rfl⟩
theorem dX1_become_44 : dec cX1_become 44 1 45 (.return_) := ⟨by decide +kernel, rfl⟩
set_option maxHeartbeats 4000000 in
set_option maxRecDepth 100000 in
theorem tX1_become_J31 {X : Cx} {Y : Yx} {M0 : Mem} (hC : OKX X Y RX1 cX1_become 4 none rmX1_become) (hF : Y.2.2.2.2 = true) (hL : Lay M0) (Q : Mem → Prop)   (a0 : Nat) (xs0 : Int) (as1 : Nat) (qa0 : 0 < a0 ∧ M0 0 a0 = kO 1) (qas1 : 0 < as1 ∧ M0 0 as1 = kO 1)  (M : Mem) (h : wX1_become_J31 Q  a0 xs0 as1 M) : WW X Y 4 rmX1_become (QV Q) M0 0 0 31 [(0, vR Y.1 a0)] [vI xs0, vR Y.1 as1] M := by
  unfold wX1_become_J31 at h
  refine r_putI hC fp_X1_25 rfl qas1.1 qas1.2 dX1_become_31 ?_
  refine r_nameM h (fun M_5 h => ?_)
  refine r_aload_n hC 0 dX1_become_34 rfl rfl ?_
  refine r_iconst hC dX1_become_35 ?_
  refine r_putZ hC (Or.inr rfl) fp_X1_28 rfl qa0.1 qa0.2 dX1_become_36 ?_
  refine r_nameM h (fun M_6 h => ?_)
  refine r_aload_n hC 0 dX1_become_39 rfl rfl ?_
  refine r_iconst hC dX1_become_40 ?_
  refine r_putI hC fp_X1_32 rfl qa0.1 qa0.2 dX1_become_41 ?_
  refine r_nameM h (fun M_7 h => ?_)
  exact r_vret hC (Nat.zero_le _) (Nat.zero_le _) dX1_become_44 ⟨rfl, h⟩
set_option maxHeartbeats 4000000 in
set_option maxRecDepth 100000 in
theorem mX1_become (Y : Yx) (hF : Y.2.2.2.2 = true) (l : Launch) (a0 : Nat) (x1 : Int) (x2 : Int) (x3 : Int) (M0 : Mem) (Q : Mem → Prop) (qa0 : 0 < a0 ∧ M0 0 a0 = kO 1) (h : wX1_become a0 x1 x2 x3 M0 Q) : CT Y l yX1_become cX1_become 4 none rmX1_become [vR Y.1 a0, vI x1, vI x2, vI x3] M0 (QV Q) := by
  unfold wX1_become at h
  refine ct_intro (by decide) (Nat.le_of_ble_eq_true rfl) ?_
  intro X hXl hC hL0
  have hL := hL0 hF
  change OKX X Y RX1 cX1_become 4 none rmX1_become at hC
  change WW X Y 4 rmX1_become (QV Q) M0 0 0 0 [(0, vR Y.1 a0), (1, vI x1), (2, vI x2), (3, vI x3)] [] M0
  refine r_aload_n hC 0 dX1_become_0 rfl rfl ?_
  refine r_iload_n hC 1 dX1_become_1 rfl rfl ?_
  refine r_putI hC fp_X1_19 rfl qa0.1 qa0.2 dX1_become_2 ?_
  refine r_nameM h (fun M_1 h => ?_)
  refine r_aload_n hC 0 dX1_become_5 rfl rfl ?_
  refine r_iload_n hC 2 dX1_become_6 rfl rfl ?_
  refine r_putI hC fp_X1_22 rfl qa0.1 qa0.2 dX1_become_7 ?_
  refine r_nameM h (fun M_2 h => ?_)
  refine r_aload_n hC 0 dX1_become_10 rfl rfl ?_
  refine r_iload_n hC 3 dX1_become_11 rfl rfl ?_
  refine r_putI hC fp_X1_11 rfl qa0.1 qa0.2 dX1_become_12 ?_
  refine r_nameM h (fun M_3 h => ?_)
  refine r_aload_n hC 0 dX1_become_15 rfl rfl ?_
  refine r_iload_n hC 3 dX1_become_16 rfl rfl ?_
  refine r_if_ne hC 24 rfl dX1_become_17 (by decide) (fun cq => ?_) (fun cq => ?_)
  · replace h := h.2 cq
    refine r_iload_n hC 2 dX1_become_24 rfl rfl ?_
    refine r_sipush hC (by decide +kernel) dX1_become_25 ?_
    refine r_iload_n hC 3 dX1_become_28 rfl rfl ?_
    obtain ⟨z_4, h⟩ := h
    refine r_idiv hC z_4 dX1_become_29 ?_
    refine r_imul hC dX1_become_30 ?_
    refine r_sub [0] rfl ?_
    exact tX1_become_J31 hC hF hL Q   _ _ _ qa0 qa0  _ h
  · replace h := h.1 cq
    refine r_iconst hC dX1_become_20 ?_
    refine r_goto hC 31 dX1_become_21 (by decide) ?_
    refine r_sub [0] rfl ?_
    exact tX1_become_J31 hC hF hL Q   _ _ _ qa0 qa0  _ h
theorem dX1_hasText_0 : dec cX1_hasText 0 1 1 (.aload_n 0) := ⟨by decide +kernel, rfl⟩
theorem dX1_hasText_1 : dec cX1_hasText 1 3 4 (.getfield 32) := ⟨by decide +kernel, rfl⟩
theorem dX1_hasText_4 : dec cX1_hasText 4 3 7 (.ifCond .le 7) := ⟨by decide +kernel, rfl⟩
theorem dX1_hasText_7 : dec cX1_hasText 7 1 8 (.iconst 1) := ⟨by decide +kernel, rfl⟩
theorem dX1_hasText_8 : dec cX1_hasText 8 3 11 (.goto 4) := ⟨by decide +kernel, rfl⟩
theorem dX1_hasText_11 : dec cX1_hasText 11 1 12 (.iconst 0) := ⟨by decide +kernel, rfl⟩
theorem dX1_hasText_12 : dec cX1_hasText 12 1 13 (.ireturn) := ⟨by decide +kernel, rfl⟩
set_option maxHeartbeats 4000000 in
set_option maxRecDepth 100000 in
theorem mX1_hasText (Y : Yx) (hF : Y.2.2.2.2 = true) (l : Launch) (a0 : Nat) (M0 : Mem) (Q : Int → Mem → Prop) (qa0 : 0 < a0 ∧ M0 0 a0 = kO 1) (h : wX1_hasText a0 M0 Q) : CT Y l yX1_hasText cX1_hasText 1 (some .boolean) rmX1_hasText [vR Y.1 a0] M0 (QI Q) := by
  unfold wX1_hasText at h
  refine ct_intro (by decide) (Nat.le_of_ble_eq_true rfl) ?_
  intro X hXl hC hL0
  have hL := hL0 hF
  change OKX X Y RX1 cX1_hasText 1 (some .boolean) rmX1_hasText at hC
  change WW X Y 1 rmX1_hasText (QI Q) M0 0 0 0 [(0, vR Y.1 a0)] [] M0
  refine r_aload_n hC 0 dX1_hasText_0 rfl rfl ?_
  refine r_getI hC fg_X1_32 rfl qa0.1 qa0.2 dX1_hasText_1 ?_
  refine r_if_le hC 11 rfl dX1_hasText_4 (by decide) (fun cq => ?_) (fun cq => ?_)
  · replace h := h.1 cq
    refine r_iconst hC dX1_hasText_11 ?_
    exact r_zret hC (Or.inl rfl) (Nat.zero_le _) (Nat.zero_le _) dX1_hasText_12 ⟨_, rfl, h⟩
  · replace h := h.2 cq
    refine r_iconst hC dX1_hasText_7 ?_
    refine r_goto hC 12 dX1_hasText_8 (by decide) ?_
    exact r_zret hC (Or.inr rfl) (Nat.zero_le _) (Nat.zero_le _) dX1_hasText_12 ⟨_, rfl, h⟩
