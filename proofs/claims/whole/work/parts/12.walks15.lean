theorem dX12_init_0 : dec cX12_init 0 1 1 (.aload_n 0) := ⟨by decide +kernel, rfl⟩
theorem dX12_init_1 : dec cX12_init 1 3 4 (.invokespecial 1) := ⟨by decide +kernel, rfl⟩
theorem dX12_init_4 : dec cX12_init 4 1 5 (.aload_n 0) := ⟨by decide +kernel, rfl⟩
theorem dX12_init_5 : dec cX12_init 5 3 8 (.sipush 1522) := ⟨by decide +kernel, rfl⟩
theorem dX12_init_8 : dec cX12_init 8 2 10 (.newarray .int) := ⟨by decide +kernel, rfl⟩
theorem dX12_init_10 : dec cX12_init 10 3 13 (.putfield 7) := ⟨by decide +kernel, rfl⟩
theorem dX12_init_13 : dec cX12_init 13 1 14 (.aload_n 0) := ⟨by decide +kernel, rfl⟩
theorem dX12_init_14 : dec cX12_init 14 3 17 (.sipush 1522) := ⟨by decide +kernel, rfl⟩
theorem dX12_init_17 : dec cX12_init 17 2 19 (.newarray .int) := ⟨by decide +kernel, rfl⟩
theorem dX12_init_19 : dec cX12_init 19 3 22 (.putfield 13) := ⟨by decide +kernel, rfl⟩
theorem dX12_init_22 : dec cX12_init 22 1 23 (.aload_n 0) := ⟨by decide +kernel, rfl⟩
theorem dX12_init_23 : dec cX12_init 23 2 25 (.bipush 7) := ⟨by decide +kernel, rfl⟩
theorem dX12_init_25 : dec cX12_init 25 2 27 (.newarray .int) := ⟨by decide +kernel, rfl⟩
theorem dX12_init_27 : dec cX12_init 27 3 30 (.putfield 16) := ⟨by decide +kernel, rfl⟩
theorem dX12_init_30 : dec cX12_init 30 1 31 (.aload_n 0) := ⟨by decide +kernel, rfl⟩
theorem dX12_init_31 : dec cX12_init 31 2 33 (.bipush 104) := ⟨by decide +kernel, rfl⟩
theorem dX12_init_33 : dec cX12_init 33 2 35 (.newarray .int) := ⟨by decide +kernel, rfl⟩
theorem dX12_init_35 : dec cX12_init 35 3 38 (.putfield 19) := ⟨by decide +kernel, rfl⟩
theorem dX12_init_38 : dec cX12_init 38 1 39 (.aload_n 0) := ⟨by decide +kernel, rfl⟩
theorem dX12_init_39 : dec cX12_init 39 3 42 (.sipush 128) := ⟨by decide +kernel, rfl⟩
theorem dX12_init_42 : dec cX12_init 42 2 44 (.newarray .int) := ⟨by decide +kernel, rfl⟩
theorem dX12_init_44 : dec cX12_init 44 3 47 (.putfield 22) := ⟨by decide +kernel, rfl⟩
theorem dX12_init_47 : dec cX12_init 47 1 48 (.aload_n 0) := ⟨by decide +kernel, rfl⟩
theorem dX12_init_48 : dec cX12_init 48 2 50 (.bipush 60) := ⟨by decide +kernel, rfl⟩
theorem dX12_init_50 : dec cX12_init 50 2 52 (.newarray .int) := ⟨by decide +kernel, rfl⟩
theorem dX12_init_52 : dec cX12_init 52 3 55 (.putfield 25) := ⟨by decide +kernel, rfl⟩
theorem dX12_init_55 : dec cX12_init 55 1 56 (.aload_n 0) := ⟨by decide +kernel, rfl⟩
theorem dX12_init_56 : dec cX12_init 56 2 58 (.bipush 12) := ⟨by decide +kernel, rfl⟩
theorem dX12_init_58 : dec cX12_init 58 2 60 (.newarray .int) := ⟨by decide +kernel, rfl⟩
theorem dX12_init_60 : dec cX12_init 60 3 63 (.putfield 28) := ⟨by decide +kernel, rfl⟩
theorem dX12_init_63 : dec cX12_init 63 1 64 (.aload_n 0) := ⟨by decide +kernel, rfl⟩
theorem dX12_init_64 : dec cX12_init 64 2 66 (.bipush 12) := ⟨by decide +kernel, rfl⟩
theorem dX12_init_66 : dec cX12_init 66 2 68 (.newarray .int) := ⟨by decide +kernel, rfl⟩
theorem dX12_init_68 : dec cX12_init 68 3 71 (.putfield 31) := ⟨by decide +kernel, rfl⟩
theorem dX12_init_71 : dec cX12_init 71 1 72 (.aload_n 0) := ⟨by decide +kernel, rfl⟩
theorem dX12_init_72 : dec cX12_init 72 2 74 (.bipush 12) := ⟨by decide +kernel, rfl⟩
theorem dX12_init_74 : dec cX12_init 74 2 76 (.newarray .int) := ⟨by decide +kernel, rfl⟩
theorem dX12_init_76 : dec cX12_init 76 3 79 (.putfield 34) := ⟨by decide +kernel, rfl⟩
theorem dX12_init_79 : dec cX12_init 79 1 80 (.aload_n 0) := ⟨by decide +kernel, rfl⟩
theorem dX12_init_80 : dec cX12_init 80 2 82 (.bipush 96) := ⟨by decide +kernel, rfl⟩
theorem dX12_init_82 : dec cX12_init 82 2 84 (.newarray .int) := ⟨by decide +kernel, rfl⟩
theorem dX12_init_84 : dec cX12_init 84 3 87 (.putfield 37) := ⟨by decide +kernel, rfl⟩
theorem dX12_init_87 : dec cX12_init 87 1 88 (.aload_n 0) := ⟨by decide +kernel, rfl⟩
theorem dX12_init_88 : dec cX12_init 88 2 90 (.bipush 12) := ⟨by decide +kernel, rfl⟩
theorem dX12_init_90 : dec cX12_init 90 2 92 (.newarray .int) := ⟨by decide +kernel, rfl⟩
theorem dX12_init_92 : dec cX12_init 92 3 95 (.putfield 40) := ⟨by decide +kernel, rfl⟩
theorem dX12_init_95 : dec cX12_init 95 1 96 (.aload_n 0) := ⟨by decide +kernel, rfl⟩
theorem dX12_init_96 : dec cX12_init 96 2 98 (.bipush 12) := ⟨by decide +kernel, rfl⟩
theorem dX12_init_98 : dec cX12_init 98 2 100 (.newarray .boolean) := ⟨by decide +kernel, rfl⟩
theorem dX12_init_100 : dec cX12_init 100 3 103 (.putfield 43) := ⟨by decide +kernel, rfl⟩
theorem dX12_init_103 : dec cX12_init 103 1 104 (.aload_n 0) := ⟨by decide +kernel, rfl⟩
theorem dX12_init_104 : dec cX12_init 104 3 107 (.sipush 1024) := ⟨by decide +kernel, rfl⟩
theorem dX12_init_107 : dec cX12_init 107 2 109 (.newarray .boolean) := ⟨by decide +kernel, rfl⟩
theorem dX12_init_109 : dec cX12_init 109 3 112 (.putfield 47) := ⟨by decide +kernel, rfl⟩
theorem dX12_init_112 : dec cX12_init 112 1 113 (.aload_n 0) := ⟨by decide +kernel, rfl⟩
theorem dX12_init_113 : dec cX12_init 113 3 116 (.sipush 10240) := ⟨by decide +kernel, rfl⟩
theorem dX12_init_116 : dec cX12_init 116 2 118 (.newarray .int) := ⟨by decide +kernel, rfl⟩
theorem dX12_init_118 : dec cX12_init 118 3 121 (.putfield 50) := ⟨by decide +kernel, rfl⟩
theorem dX12_init_121 : dec cX12_init 121 1 122 (.aload_n 0) := ⟨by decide +kernel, rfl⟩
theorem dX12_init_122 : dec cX12_init 122 2 124 (.bipush 10) := ⟨by decide +kernel, rfl⟩
theorem dX12_init_124 : dec cX12_init 124 2 126 (.newarray .int) := ⟨by decide +kernel, rfl⟩
theorem dX12_init_126 : dec cX12_init 126 3 129 (.putfield 53) := ⟨by decide +kernel, rfl⟩
theorem dX12_init_129 : dec cX12_init 129 1 130 (.aload_n 0) := ⟨by decide +kernel, rfl⟩
theorem dX12_init_130 : dec cX12_init 130 2 132 (.bipush 12) := ⟨by decide +kernel, rfl⟩
theorem dX12_init_132 : dec cX12_init 132 2 134 (.newarray .int) := ⟨by decide +kernel, rfl⟩
theorem dX12_init_134 : dec cX12_init 134 3 137 (.putfield 56) := ⟨by decide +kernel, rfl⟩
theorem dX12_init_137 : dec cX12_init 137 1 138 (.aload_n 0) := ⟨by decide +kernel, rfl⟩
theorem dX12_init_138 : dec cX12_init 138 2 140 (.bipush 80) := ⟨by decide +kernel, rfl⟩
theorem dX12_init_140 : dec cX12_init 140 2 142 (.newarray .long) := ⟨by decide +kernel, rfl⟩
theorem dX12_init_142 : dec cX12_init 142 3 145 (.putfield 59) := ⟨by decide +kernel, rfl⟩
theorem dX12_init_145 : dec cX12_init 145 1 146 (.aload_n 0) := ⟨by decide +kernel, rfl⟩
theorem dX12_init_146 : dec cX12_init 146 2 148 (.bipush 30) := ⟨by decide +kernel, rfl⟩
theorem dX12_init_148 : dec cX12_init 148 2 150 (.newarray .int) := ⟨by decide +kernel, rfl⟩
theorem dX12_init_150 : dec cX12_init 150 3 153 (.putfield 63) := ⟨by decide +kernel, rfl⟩
theorem dX12_init_153 : dec cX12_init 153 1 154 (.aload_n 0) := ⟨by decide +kernel, rfl⟩
theorem dX12_init_154 : dec cX12_init 154 1 155 (.iconst 4) := ⟨by decide +kernel, rfl⟩
theorem dX12_init_155 : dec cX12_init 155 2 157 (.newarray .int) := ⟨by decide +kernel, rfl⟩
theorem dX12_init_157 : dec cX12_init 157 3 160 (.putfield 66) := ⟨by decide +kernel, rfl⟩
theorem dX12_init_160 : dec cX12_init 160 1 161 (.aload_n 0) := ⟨by decide +kernel, rfl⟩
theorem dX12_init_161 : dec cX12_init 161 1 162 (.iconst 4) := ⟨by decide +kernel, rfl⟩
theorem dX12_init_162 : dec cX12_init 162 2 164 (.newarray .int) := ⟨by decide +kernel, rfl⟩
theorem dX12_init_164 : dec cX12_init 164 3 167 (.putfield 69) := ⟨by decide +kernel, rfl⟩
theorem dX12_init_167 : dec cX12_init 167 1 168 (.aload_n 0) := ⟨by decide +kernel, rfl⟩
theorem dX12_init_168 : dec cX12_init 168 2 170 (.bipush 96) := ⟨by decide +kernel, rfl⟩
theorem dX12_init_170 : dec cX12_init 170 2 172 (.newarray .int) := ⟨by decide +kernel, rfl⟩
theorem dX12_init_172 : dec cX12_init 172 3 175 (.putfield 72) := ⟨by decide +kernel, rfl⟩
theorem dX12_init_175 : dec cX12_init 175 1 176 (.aload_n 0) := ⟨by decide +kernel, rfl⟩
theorem dX12_init_176 : dec cX12_init 176 2 178 (.bipush 24) := ⟨by decide +kernel, rfl⟩
theorem dX12_init_178 : dec cX12_init 178 2 180 (.newarray .int) := ⟨by decide +kernel, rfl⟩
theorem dX12_init_180 : dec cX12_init 180 3 183 (.putfield 75) := ⟨by decide +kernel, rfl⟩
theorem dX12_init_183 : dec cX12_init 183 1 184 (.aload_n 0) := ⟨by decide +kernel, rfl⟩
theorem dX12_init_184 : dec cX12_init 184 3 187 (.getfield 7) := ⟨by decide +kernel, rfl⟩
theorem dX12_init_187 : dec cX12_init 187 2 189 (.bipush 6) := ⟨by decide +kernel, rfl⟩
theorem dX12_init_189 : dec cX12_init 189 1 190 (.iconst 1) := ⟨by decide +kernel, rfl⟩
theorem dX12_init_190 : dec cX12_init 190 1 191 (.iastore) := ⟨by decide +kernel, rfl⟩
theorem dX12_init_191 : dec cX12_init 191 1 192 (.aload_n 0) := ⟨by decide +kernel, rfl⟩
theorem dX12_init_192 : dec cX12_init 192 3 195 (.getfield 7) := ⟨by decide +kernel, rfl⟩
theorem dX12_init_195 : dec cX12_init 195 2 197 (.bipush 7) := ⟨by decide +kernel, rfl⟩
theorem dX12_init_197 : dec cX12_init 197 1 198 (.iconst 1) := ⟨by decide +kernel, rfl⟩
theorem dX12_init_198 : dec cX12_init 198 1 199 (.iastore) := ⟨by decide +kernel, rfl⟩
theorem dX12_init_199 : dec cX12_init 199 1 200 (.aload_n 0) := ⟨by decide +kernel, rfl⟩
theorem dX12_init_200 : dec cX12_init 200 3 203 (.getfield 7) := ⟨by decide +kernel, rfl⟩
theorem dX12_init_203 : dec cX12_init 203 2 205 (.bipush 8) := ⟨by decide +kernel, rfl⟩
theorem dX12_init_205 : dec cX12_init 205 2 207 (.bipush 20) := ⟨by decide +kernel, rfl⟩
theorem dX12_init_207 : dec cX12_init 207 1 208 (.iastore) := ⟨by decide +kernel, rfl⟩
theorem dX12_init_208 : dec cX12_init 208 1 209 (.aload_n 0) := ⟨by decide +kernel, rfl⟩
theorem dX12_init_209 : dec cX12_init 209 3 212 (.getfield 7) := ⟨by decide +kernel, rfl⟩
theorem dX12_init_212 : dec cX12_init 212 2 214 (.bipush 9) := ⟨by decide +kernel, rfl⟩
theorem dX12_init_214 : dec cX12_init 214 3 217 (.sipush 999) := ⟨by decide +kernel, rfl⟩
theorem dX12_init_217 : dec cX12_init 217 1 218 (.iastore) := ⟨by decide +kernel, rfl⟩
theorem dX12_init_218 : dec cX12_init 218 1 219 (.return_) := ⟨by decide +kernel, rfl⟩
set_option maxHeartbeats 4000000 in
set_option maxRecDepth 100000 in
theorem mX12_init (Y : Yx) (hF0 : Y.2.2.2.2 = false) (l : Launch) (a0 : Nat) (M0 : Mem) (Q : Mem → Prop) (qa0 : 0 < a0 ∧ M0 0 a0 = kO 12) (h : wX12_init a0 M0 Q) : CT Y l yX12_init cX12_init 1 none rmX12_init [vR Y.1 a0] M0 (QV Q) := by
  unfold wX12_init at h
  refine ct_introI (by decide) (Nat.le_of_ble_eq_true rfl) ?_
  intro X hXl hC hN
  change OKX X Y RX12 cX12_init 1 none rmX12_init at hC
  change nameX X = "<init>" at hN
  change WW X Y 1 rmX12_init (QV Q) M0 0 0 0 [(0, vR Y.1 a0)] [] M0
  refine r_aload_n hC 0 dX12_init_0 rfl rfl ?_
  refine r_objInit hC ob_X12_1 (Nat.le_of_ble_eq_true rfl) (Nat.le_of_ble_eq_true rfl) (Nat.le_of_ble_eq_true rfl) dX12_init_1 ?_
  refine r_aload_n hC 0 dX12_init_4 rfl rfl ?_
  refine r_sipush hC (by decide +kernel) dX12_init_5 ?_
  refine r_newarr (t := 0) (len := 1522) hC (by decide) rfl ac_0 rfl (by decide) (by decide +kernel) ⟨Nat.le_of_ble_eq_true rfl, Nat.le_of_ble_eq_true rfl⟩ dX12_init_8 ?_
  refine r_widen (n' := 1) (k' := 10240 * 1) (by omega) (by omega) ?_
  refine r_nameM h (fun M_2 h => ?_)
  obtain ⟨q_1, h⟩ := h
  refine r_base (fun hk hL0 => ?_)
  have qa0 := kqO hk qa0
  refine r_putF hC hN hF0 q_1.1 ff_X12_7 rfl (by first | exact Or.inl ⟨_, rfl⟩ | exact Or.inr ⟨_, rfl⟩) qa0.1 qa0.2 dX12_init_10 ?_
  refine r_nameM h (fun M_3 h => ?_)
  refine r_aload_n hC 0 dX12_init_13 rfl rfl ?_
  refine r_sipush hC (by decide +kernel) dX12_init_14 ?_
  refine r_newarr (t := 0) (len := 1522) hC (by decide) rfl ac_0 rfl (by decide) (by decide +kernel) ⟨Nat.le_of_ble_eq_true rfl, Nat.le_of_ble_eq_true rfl⟩ dX12_init_17 ?_
  refine r_widen (n' := 2) (k' := 10240 * 2) (by omega) (by omega) ?_
  refine r_nameM h (fun M_5 h => ?_)
  obtain ⟨q_4, h⟩ := h
  refine r_base (fun hk hL0 => ?_)
  have qa0 := kqO hk qa0
  refine r_putF hC hN hF0 q_4.1 ff_X12_13 rfl (by first | exact Or.inl ⟨_, rfl⟩ | exact Or.inr ⟨_, rfl⟩) qa0.1 qa0.2 dX12_init_19 ?_
  refine r_nameM h (fun M_6 h => ?_)
  refine r_aload_n hC 0 dX12_init_22 rfl rfl ?_
  refine r_bipush hC (by decide +kernel) dX12_init_23 ?_
  refine r_newarr (t := 0) (len := 7) hC (by decide) rfl ac_0 rfl (by decide) (by decide +kernel) ⟨Nat.le_of_ble_eq_true rfl, Nat.le_of_ble_eq_true rfl⟩ dX12_init_25 ?_
  refine r_widen (n' := 3) (k' := 10240 * 3) (by omega) (by omega) ?_
  refine r_nameM h (fun M_8 h => ?_)
  obtain ⟨q_7, h⟩ := h
  refine r_base (fun hk hL0 => ?_)
  have qa0 := kqO hk qa0
  refine r_putF hC hN hF0 q_7.1 ff_X12_16 rfl (by first | exact Or.inl ⟨_, rfl⟩ | exact Or.inr ⟨_, rfl⟩) qa0.1 qa0.2 dX12_init_27 ?_
  refine r_nameM h (fun M_9 h => ?_)
  refine r_aload_n hC 0 dX12_init_30 rfl rfl ?_
  refine r_bipush hC (by decide +kernel) dX12_init_31 ?_
  refine r_newarr (t := 0) (len := 104) hC (by decide) rfl ac_0 rfl (by decide) (by decide +kernel) ⟨Nat.le_of_ble_eq_true rfl, Nat.le_of_ble_eq_true rfl⟩ dX12_init_33 ?_
  refine r_widen (n' := 4) (k' := 10240 * 4) (by omega) (by omega) ?_
  refine r_nameM h (fun M_11 h => ?_)
  obtain ⟨q_10, h⟩ := h
  refine r_base (fun hk hL0 => ?_)
  have qa0 := kqO hk qa0
  refine r_putF hC hN hF0 q_10.1 ff_X12_19 rfl (by first | exact Or.inl ⟨_, rfl⟩ | exact Or.inr ⟨_, rfl⟩) qa0.1 qa0.2 dX12_init_35 ?_
  refine r_nameM h (fun M_12 h => ?_)
  refine r_aload_n hC 0 dX12_init_38 rfl rfl ?_
  refine r_sipush hC (by decide +kernel) dX12_init_39 ?_
  refine r_newarr (t := 0) (len := 128) hC (by decide) rfl ac_0 rfl (by decide) (by decide +kernel) ⟨Nat.le_of_ble_eq_true rfl, Nat.le_of_ble_eq_true rfl⟩ dX12_init_42 ?_
  refine r_widen (n' := 5) (k' := 10240 * 5) (by omega) (by omega) ?_
  refine r_nameM h (fun M_14 h => ?_)
  obtain ⟨q_13, h⟩ := h
  refine r_base (fun hk hL0 => ?_)
  have qa0 := kqO hk qa0
  refine r_putF hC hN hF0 q_13.1 ff_X12_22 rfl (by first | exact Or.inl ⟨_, rfl⟩ | exact Or.inr ⟨_, rfl⟩) qa0.1 qa0.2 dX12_init_44 ?_
  refine r_nameM h (fun M_15 h => ?_)
  refine r_aload_n hC 0 dX12_init_47 rfl rfl ?_
  refine r_bipush hC (by decide +kernel) dX12_init_48 ?_
  refine r_newarr (t := 0) (len := 60) hC (by decide) rfl ac_0 rfl (by decide) (by decide +kernel) ⟨Nat.le_of_ble_eq_true rfl, Nat.le_of_ble_eq_true rfl⟩ dX12_init_50 ?_
  refine r_widen (n' := 6) (k' := 10240 * 6) (by omega) (by omega) ?_
  refine r_nameM h (fun M_17 h => ?_)
  obtain ⟨q_16, h⟩ := h
  refine r_base (fun hk hL0 => ?_)
  have qa0 := kqO hk qa0
  refine r_putF hC hN hF0 q_16.1 ff_X12_25 rfl (by first | exact Or.inl ⟨_, rfl⟩ | exact Or.inr ⟨_, rfl⟩) qa0.1 qa0.2 dX12_init_52 ?_
  refine r_nameM h (fun M_18 h => ?_)
  refine r_aload_n hC 0 dX12_init_55 rfl rfl ?_
  refine r_bipush hC (by decide +kernel) dX12_init_56 ?_
  refine r_newarr (t := 0) (len := 12) hC (by decide) rfl ac_0 rfl (by decide) (by decide +kernel) ⟨Nat.le_of_ble_eq_true rfl, Nat.le_of_ble_eq_true rfl⟩ dX12_init_58 ?_
  refine r_widen (n' := 7) (k' := 10240 * 7) (by omega) (by omega) ?_
  refine r_nameM h (fun M_20 h => ?_)
  obtain ⟨q_19, h⟩ := h
  refine r_base (fun hk hL0 => ?_)
  have qa0 := kqO hk qa0
  refine r_putF hC hN hF0 q_19.1 ff_X12_28 rfl (by first | exact Or.inl ⟨_, rfl⟩ | exact Or.inr ⟨_, rfl⟩) qa0.1 qa0.2 dX12_init_60 ?_
  refine r_nameM h (fun M_21 h => ?_)
  refine r_aload_n hC 0 dX12_init_63 rfl rfl ?_
  refine r_bipush hC (by decide +kernel) dX12_init_64 ?_
  refine r_newarr (t := 0) (len := 12) hC (by decide) rfl ac_0 rfl (by decide) (by decide +kernel) ⟨Nat.le_of_ble_eq_true rfl, Nat.le_of_ble_eq_true rfl⟩ dX12_init_66 ?_
  refine r_widen (n' := 8) (k' := 10240 * 8) (by omega) (by omega) ?_
  refine r_nameM h (fun M_23 h => ?_)
  obtain ⟨q_22, h⟩ := h
  refine r_base (fun hk hL0 => ?_)
  have qa0 := kqO hk qa0
  refine r_putF hC hN hF0 q_22.1 ff_X12_31 rfl (by first | exact Or.inl ⟨_, rfl⟩ | exact Or.inr ⟨_, rfl⟩) qa0.1 qa0.2 dX12_init_68 ?_
  refine r_nameM h (fun M_24 h => ?_)
  refine r_aload_n hC 0 dX12_init_71 rfl rfl ?_
  refine r_bipush hC (by decide +kernel) dX12_init_72 ?_
  refine r_newarr (t := 0) (len := 12) hC (by decide) rfl ac_0 rfl (by decide) (by decide +kernel) ⟨Nat.le_of_ble_eq_true rfl, Nat.le_of_ble_eq_true rfl⟩ dX12_init_74 ?_
  refine r_widen (n' := 9) (k' := 10240 * 9) (by omega) (by omega) ?_
  refine r_nameM h (fun M_26 h => ?_)
  obtain ⟨q_25, h⟩ := h
  refine r_base (fun hk hL0 => ?_)
  have qa0 := kqO hk qa0
  refine r_putF hC hN hF0 q_25.1 ff_X12_34 rfl (by first | exact Or.inl ⟨_, rfl⟩ | exact Or.inr ⟨_, rfl⟩) qa0.1 qa0.2 dX12_init_76 ?_
  refine r_nameM h (fun M_27 h => ?_)
  refine r_aload_n hC 0 dX12_init_79 rfl rfl ?_
  refine r_bipush hC (by decide +kernel) dX12_init_80 ?_
  refine r_newarr (t := 0) (len := 96) hC (by decide) rfl ac_0 rfl (by decide) (by decide +kernel) ⟨Nat.le_of_ble_eq_true rfl, Nat.le_of_ble_eq_true rfl⟩ dX12_init_82 ?_
  refine r_widen (n' := 10) (k' := 10240 * 10) (by omega) (by omega) ?_
  refine r_nameM h (fun M_29 h => ?_)
  obtain ⟨q_28, h⟩ := h
  refine r_base (fun hk hL0 => ?_)
  have qa0 := kqO hk qa0
  refine r_putF hC hN hF0 q_28.1 ff_X12_37 rfl (by first | exact Or.inl ⟨_, rfl⟩ | exact Or.inr ⟨_, rfl⟩) qa0.1 qa0.2 dX12_init_84 ?_
  refine r_nameM h (fun M_30 h => ?_)
  refine r_aload_n hC 0 dX12_init_87 rfl rfl ?_
  refine r_bipush hC (by decide +kernel) dX12_init_88 ?_
  refine r_newarr (t := 0) (len := 12) hC (by decide) rfl ac_0 rfl (by decide) (by decide +kernel) ⟨Nat.le_of_ble_eq_true rfl, Nat.le_of_ble_eq_true rfl⟩ dX12_init_90 ?_
  refine r_widen (n' := 11) (k' := 10240 * 11) (by omega) (by omega) ?_
  refine r_nameM h (fun M_32 h => ?_)
  obtain ⟨q_31, h⟩ := h
  refine r_base (fun hk hL0 => ?_)
  have qa0 := kqO hk qa0
  refine r_putF hC hN hF0 q_31.1 ff_X12_40 rfl (by first | exact Or.inl ⟨_, rfl⟩ | exact Or.inr ⟨_, rfl⟩) qa0.1 qa0.2 dX12_init_92 ?_
  refine r_nameM h (fun M_33 h => ?_)
  refine r_aload_n hC 0 dX12_init_95 rfl rfl ?_
  refine r_bipush hC (by decide +kernel) dX12_init_96 ?_
  refine r_newarr (t := 2) (len := 12) hC (by decide) rfl ac_2 rfl (by decide) (by decide +kernel) ⟨Nat.le_of_ble_eq_true rfl, Nat.le_of_ble_eq_true rfl⟩ dX12_init_98 ?_
  refine r_widen (n' := 12) (k' := 10240 * 12) (by omega) (by omega) ?_
  refine r_nameM h (fun M_35 h => ?_)
  obtain ⟨q_34, h⟩ := h
  refine r_base (fun hk hL0 => ?_)
  have qa0 := kqO hk qa0
  refine r_putF hC hN hF0 q_34.1 ff_X12_43 rfl (by first | exact Or.inl ⟨_, rfl⟩ | exact Or.inr ⟨_, rfl⟩) qa0.1 qa0.2 dX12_init_100 ?_
  refine r_nameM h (fun M_36 h => ?_)
  refine r_aload_n hC 0 dX12_init_103 rfl rfl ?_
  refine r_sipush hC (by decide +kernel) dX12_init_104 ?_
  refine r_newarr (t := 2) (len := 1024) hC (by decide) rfl ac_2 rfl (by decide) (by decide +kernel) ⟨Nat.le_of_ble_eq_true rfl, Nat.le_of_ble_eq_true rfl⟩ dX12_init_107 ?_
  refine r_widen (n' := 13) (k' := 10240 * 13) (by omega) (by omega) ?_
  refine r_nameM h (fun M_38 h => ?_)
  obtain ⟨q_37, h⟩ := h
  refine r_base (fun hk hL0 => ?_)
  have qa0 := kqO hk qa0
  refine r_putF hC hN hF0 q_37.1 ff_X12_47 rfl (by first | exact Or.inl ⟨_, rfl⟩ | exact Or.inr ⟨_, rfl⟩) qa0.1 qa0.2 dX12_init_109 ?_
  refine r_nameM h (fun M_39 h => ?_)
  refine r_aload_n hC 0 dX12_init_112 rfl rfl ?_
  refine r_sipush hC (by decide +kernel) dX12_init_113 ?_
  refine r_newarr (t := 0) (len := 10240) hC (by decide) rfl ac_0 rfl (by decide) (by decide +kernel) ⟨Nat.le_of_ble_eq_true rfl, Nat.le_of_ble_eq_true rfl⟩ dX12_init_116 ?_
  refine r_widen (n' := 14) (k' := 10240 * 14) (by omega) (by omega) ?_
  refine r_nameM h (fun M_41 h => ?_)
  obtain ⟨q_40, h⟩ := h
  refine r_base (fun hk hL0 => ?_)
  have qa0 := kqO hk qa0
  refine r_putF hC hN hF0 q_40.1 ff_X12_50 rfl (by first | exact Or.inl ⟨_, rfl⟩ | exact Or.inr ⟨_, rfl⟩) qa0.1 qa0.2 dX12_init_118 ?_
  refine r_nameM h (fun M_42 h => ?_)
  refine r_aload_n hC 0 dX12_init_121 rfl rfl ?_
  refine r_bipush hC (by decide +kernel) dX12_init_122 ?_
  refine r_newarr (t := 0) (len := 10) hC (by decide) rfl ac_0 rfl (by decide) (by decide +kernel) ⟨Nat.le_of_ble_eq_true rfl, Nat.le_of_ble_eq_true rfl⟩ dX12_init_124 ?_
  refine r_widen (n' := 15) (k' := 10240 * 15) (by omega) (by omega) ?_
  refine r_nameM h (fun M_44 h => ?_)
  obtain ⟨q_43, h⟩ := h
  refine r_base (fun hk hL0 => ?_)
  have qa0 := kqO hk qa0
  refine r_putF hC hN hF0 q_43.1 ff_X12_53 rfl (by first | exact Or.inl ⟨_, rfl⟩ | exact Or.inr ⟨_, rfl⟩) qa0.1 qa0.2 dX12_init_126 ?_
  refine r_nameM h (fun M_45 h => ?_)
  refine r_aload_n hC 0 dX12_init_129 rfl rfl ?_
  refine r_bipush hC (by decide +kernel) dX12_init_130 ?_
  refine r_newarr (t := 0) (len := 12) hC (by decide) rfl ac_0 rfl (by decide) (by decide +kernel) ⟨Nat.le_of_ble_eq_true rfl, Nat.le_of_ble_eq_true rfl⟩ dX12_init_132 ?_
  refine r_widen (n' := 16) (k' := 10240 * 16) (by omega) (by omega) ?_
  refine r_nameM h (fun M_47 h => ?_)
  obtain ⟨q_46, h⟩ := h
  refine r_base (fun hk hL0 => ?_)
  have qa0 := kqO hk qa0
  refine r_putF hC hN hF0 q_46.1 ff_X12_56 rfl (by first | exact Or.inl ⟨_, rfl⟩ | exact Or.inr ⟨_, rfl⟩) qa0.1 qa0.2 dX12_init_134 ?_
  refine r_nameM h (fun M_48 h => ?_)
  refine r_aload_n hC 0 dX12_init_137 rfl rfl ?_
  refine r_bipush hC (by decide +kernel) dX12_init_138 ?_
  refine r_newarr (t := 3) (len := 80) hC (by decide) rfl ac_3 rfl (by decide) (by decide +kernel) ⟨Nat.le_of_ble_eq_true rfl, Nat.le_of_ble_eq_true rfl⟩ dX12_init_140 ?_
  refine r_widen (n' := 17) (k' := 10240 * 17) (by omega) (by omega) ?_
  refine r_nameM h (fun M_50 h => ?_)
  obtain ⟨q_49, h⟩ := h
  refine r_base (fun hk hL0 => ?_)
  have qa0 := kqO hk qa0
  refine r_putF hC hN hF0 q_49.1 ff_X12_59 rfl (by first | exact Or.inl ⟨_, rfl⟩ | exact Or.inr ⟨_, rfl⟩) qa0.1 qa0.2 dX12_init_142 ?_
  refine r_nameM h (fun M_51 h => ?_)
  refine r_aload_n hC 0 dX12_init_145 rfl rfl ?_
  refine r_bipush hC (by decide +kernel) dX12_init_146 ?_
  refine r_newarr (t := 0) (len := 30) hC (by decide) rfl ac_0 rfl (by decide) (by decide +kernel) ⟨Nat.le_of_ble_eq_true rfl, Nat.le_of_ble_eq_true rfl⟩ dX12_init_148 ?_
  refine r_widen (n' := 18) (k' := 10240 * 18) (by omega) (by omega) ?_
  refine r_nameM h (fun M_53 h => ?_)
  obtain ⟨q_52, h⟩ := h
  refine r_base (fun hk hL0 => ?_)
  have qa0 := kqO hk qa0
  refine r_putF hC hN hF0 q_52.1 ff_X12_63 rfl (by first | exact Or.inl ⟨_, rfl⟩ | exact Or.inr ⟨_, rfl⟩) qa0.1 qa0.2 dX12_init_150 ?_
  refine r_nameM h (fun M_54 h => ?_)
  refine r_aload_n hC 0 dX12_init_153 rfl rfl ?_
  refine r_iconst hC dX12_init_154 ?_
  refine r_newarr (t := 0) (len := 4) hC (by decide) rfl ac_0 rfl (by decide) (by decide +kernel) ⟨Nat.le_of_ble_eq_true rfl, Nat.le_of_ble_eq_true rfl⟩ dX12_init_155 ?_
  refine r_widen (n' := 19) (k' := 10240 * 19) (by omega) (by omega) ?_
  refine r_nameM h (fun M_56 h => ?_)
  obtain ⟨q_55, h⟩ := h
  refine r_base (fun hk hL0 => ?_)
  have qa0 := kqO hk qa0
  refine r_putF hC hN hF0 q_55.1 ff_X12_66 rfl (by first | exact Or.inl ⟨_, rfl⟩ | exact Or.inr ⟨_, rfl⟩) qa0.1 qa0.2 dX12_init_157 ?_
  refine r_nameM h (fun M_57 h => ?_)
  refine r_aload_n hC 0 dX12_init_160 rfl rfl ?_
  refine r_iconst hC dX12_init_161 ?_
  refine r_newarr (t := 0) (len := 4) hC (by decide) rfl ac_0 rfl (by decide) (by decide +kernel) ⟨Nat.le_of_ble_eq_true rfl, Nat.le_of_ble_eq_true rfl⟩ dX12_init_162 ?_
  refine r_widen (n' := 20) (k' := 10240 * 20) (by omega) (by omega) ?_
  refine r_nameM h (fun M_59 h => ?_)
  obtain ⟨q_58, h⟩ := h
  refine r_base (fun hk hL0 => ?_)
  have qa0 := kqO hk qa0
  refine r_putF hC hN hF0 q_58.1 ff_X12_69 rfl (by first | exact Or.inl ⟨_, rfl⟩ | exact Or.inr ⟨_, rfl⟩) qa0.1 qa0.2 dX12_init_164 ?_
  refine r_nameM h (fun M_60 h => ?_)
  refine r_aload_n hC 0 dX12_init_167 rfl rfl ?_
  refine r_bipush hC (by decide +kernel) dX12_init_168 ?_
  refine r_newarr (t := 0) (len := 96) hC (by decide) rfl ac_0 rfl (by decide) (by decide +kernel) ⟨Nat.le_of_ble_eq_true rfl, Nat.le_of_ble_eq_true rfl⟩ dX12_init_170 ?_
  refine r_widen (n' := 21) (k' := 10240 * 21) (by omega) (by omega) ?_
  refine r_nameM h (fun M_62 h => ?_)
  obtain ⟨q_61, h⟩ := h
  refine r_base (fun hk hL0 => ?_)
  have qa0 := kqO hk qa0
  refine r_putF hC hN hF0 q_61.1 ff_X12_72 rfl (by first | exact Or.inl ⟨_, rfl⟩ | exact Or.inr ⟨_, rfl⟩) qa0.1 qa0.2 dX12_init_172 ?_
  refine r_nameM h (fun M_63 h => ?_)
  refine r_aload_n hC 0 dX12_init_175 rfl rfl ?_
  refine r_bipush hC (by decide +kernel) dX12_init_176 ?_
  refine r_newarr (t := 0) (len := 24) hC (by decide) rfl ac_0 rfl (by decide) (by decide +kernel) ⟨Nat.le_of_ble_eq_true rfl, Nat.le_of_ble_eq_true rfl⟩ dX12_init_178 ?_
  refine r_widen (n' := 22) (k' := 10240 * 22) (by omega) (by omega) ?_
  refine r_nameM h (fun M_65 h => ?_)
  obtain ⟨q_64, h⟩ := h
  refine r_base (fun hk hL0 => ?_)
  have qa0 := kqO hk qa0
  refine r_putF hC hN hF0 q_64.1 ff_X12_75 rfl (by first | exact Or.inl ⟨_, rfl⟩ | exact Or.inr ⟨_, rfl⟩) qa0.1 qa0.2 dX12_init_180 ?_
  refine r_nameM h (fun M_66 h => ?_)
  refine r_aload_n hC 0 dX12_init_183 rfl rfl ?_
  refine r_getN hC fg_X12_7 rfl qa0.1 qa0.2 dX12_init_184 ?_
  obtain ⟨q_67, h⟩ := h
  refine r_base (fun hk hL0 => ?_)
  have qa0 := kqO hk qa0
  rw [vN_R (q := (M_66 a0 0).toNat) q_67.1 (by have := q_67.1; omega)]
  refine r_bipush hC (by decide +kernel) dX12_init_187 ?_
  refine r_iconst hC dX12_init_189 ?_
  refine r_iast hC ⟨by decide +kernel, by decide +kernel⟩ q_67.1 q_67.2 (by decide) dX12_init_190 ?_
  refine r_nameM h (fun M_68 h => ?_)
  refine r_aload_n hC 0 dX12_init_191 rfl rfl ?_
  refine r_getN hC fg_X12_7 rfl qa0.1 qa0.2 dX12_init_192 ?_
  obtain ⟨q_69, h⟩ := h
  refine r_base (fun hk hL0 => ?_)
  have qa0 := kqO hk qa0
  rw [vN_R (q := (M_68 a0 0).toNat) q_69.1 (by have := q_69.1; omega)]
  refine r_bipush hC (by decide +kernel) dX12_init_195 ?_
  refine r_iconst hC dX12_init_197 ?_
  refine r_iast hC ⟨by decide +kernel, by decide +kernel⟩ q_69.1 q_69.2 (by decide) dX12_init_198 ?_
  refine r_nameM h (fun M_70 h => ?_)
  refine r_aload_n hC 0 dX12_init_199 rfl rfl ?_
  refine r_getN hC fg_X12_7 rfl qa0.1 qa0.2 dX12_init_200 ?_
  obtain ⟨q_71, h⟩ := h
  refine r_base (fun hk hL0 => ?_)
  have qa0 := kqO hk qa0
  rw [vN_R (q := (M_70 a0 0).toNat) q_71.1 (by have := q_71.1; omega)]
  refine r_bipush hC (by decide +kernel) dX12_init_203 ?_
  refine r_bipush hC (by decide +kernel) dX12_init_205 ?_
  refine r_iast hC ⟨by decide +kernel, by decide +kernel⟩ q_71.1 q_71.2 (by decide) dX12_init_207 ?_
  refine r_nameM h (fun M_72 h => ?_)
  refine r_aload_n hC 0 dX12_init_208 rfl rfl ?_
  refine r_getN hC fg_X12_7 rfl qa0.1 qa0.2 dX12_init_209 ?_
  obtain ⟨q_73, h⟩ := h
  refine r_base (fun hk hL0 => ?_)
  have qa0 := kqO hk qa0
  rw [vN_R (q := (M_72 a0 0).toNat) q_73.1 (by have := q_73.1; omega)]
  refine r_bipush hC (by decide +kernel) dX12_init_212 ?_
  refine r_sipush hC (by decide +kernel) dX12_init_214 ?_
  refine r_iast hC ⟨by decide +kernel, by decide +kernel⟩ q_73.1 q_73.2 (by decide) dX12_init_217 ?_
  refine r_nameM h (fun M_74 h => ?_)
  exact r_vret hC (by first | exact Nat.le_of_ble_eq_true rfl | (simp only [rmX12_init]; omega)) (by first | exact Nat.le_of_ble_eq_true rfl | (simp only [rmX12_init]; omega)) dX12_init_218 ⟨rfl, h⟩
theorem dX12_error_0 : dec cX12_error 0 1 1 (.aload_n 0) := ⟨by decide +kernel, rfl⟩
theorem dX12_error_1 : dec cX12_error 1 3 4 (.getfield 16) := ⟨by decide +kernel, rfl⟩
theorem dX12_error_4 : dec cX12_error 4 1 5 (.iload_n 1) := ⟨by decide +kernel, rfl⟩
theorem dX12_error_5 : dec cX12_error 5 1 6 (.dup2) := ⟨by decide +kernel, rfl⟩
theorem dX12_error_6 : dec cX12_error 6 1 7 (.iaload) := ⟨by decide +kernel, rfl⟩
theorem dX12_error_7 : dec cX12_error 7 1 8 (.iconst 1) := ⟨by decide +kernel, rfl⟩
theorem dX12_error_8 : dec cX12_error 8 1 9 (.iadd) := ⟨by decide +kernel, rfl⟩
theorem dX12_error_9 : dec cX12_error 9 1 10 (.iastore) := ⟨by decide +kernel, rfl⟩
theorem dX12_error_10 : dec cX12_error 10 2 12 (.ldc 78) := ⟨by decide +kernel, rfl⟩
theorem dX12_error_12 : dec cX12_error 12 1 13 (.iload_n 1) := ⟨by decide +kernel, rfl⟩
theorem dX12_error_13 : dec cX12_error 13 1 14 (.isub) := ⟨by decide +kernel, rfl⟩
theorem dX12_error_14 : dec cX12_error 14 1 15 (.ireturn) := ⟨by decide +kernel, rfl⟩
set_option maxHeartbeats 4000000 in
set_option maxRecDepth 100000 in
theorem mX12_error (Y : Yx) (hF : Y.2.2.2.2 = true) (l : Launch) (a0 : Nat) (x1 : Int) (M0 : Mem) (Q : Int → Mem → Prop) (qa0 : 0 < a0 ∧ M0 0 a0 = kO 12) (h : wX12_error a0 x1 M0 Q) : CT Y l yX12_error cX12_error 2 (some .int) rmX12_error [vR Y.1 a0, vI x1] M0 (QI Q) := by
  unfold wX12_error at h
  refine ct_intro (by decide) (Nat.le_of_ble_eq_true rfl) ?_
  intro X hXl hC hL0
  have hL := hL0 hF
  change OKX X Y RX12 cX12_error 2 (some .int) rmX12_error at hC
  change WW X Y 2 rmX12_error (QI Q) M0 0 0 0 [(0, vR Y.1 a0), (1, vI x1)] [] M0
  refine r_aload_n hC 0 dX12_error_0 rfl rfl ?_
  have q_1 : 0 < a0 + 3 ∧ M0 0 (a0 + 3) = kA 0 7 := lay_f0 (a := a0) hL qa0 fm_12_3
  refine r_getR0 (a' := a0 + 3) hC fg_X12_16 rfl hF fm_12_3 qa0.1 qa0.2 rfl dX12_error_1 ?_
  refine r_iload_n hC 1 dX12_error_4 rfl rfl ?_
  refine r_dup2 hC rfl rfl dX12_error_5 ?_
  obtain ⟨i_2, h⟩ := h
  refine r_iald hC i_2 q_1.1 q_1.2 (by decide) dX12_error_6 ?_
  refine r_iconst hC dX12_error_7 ?_
  refine r_iadd hC dX12_error_8 ?_
  obtain ⟨i_3, h⟩ := h
  refine r_iast hC i_3 q_1.1 q_1.2 (by decide) dX12_error_9 ?_
  refine r_nameM h (fun M_4 h => ?_)
  refine r_ldc hC kc_X12_78 dX12_error_10 ?_
  refine r_iload_n hC 1 dX12_error_12 rfl rfl ?_
  refine r_isub hC dX12_error_13 ?_
  exact r_iret hC (Nat.zero_le _) (Nat.zero_le _) dX12_error_14 ⟨_, rfl, h⟩
theorem dX12_in_0 : dec cX12_in 0 1 1 (.iload_n 0) := ⟨by decide +kernel, rfl⟩
theorem dX12_in_1 : dec cX12_in 1 1 2 (.iload_n 1) := ⟨by decide +kernel, rfl⟩
theorem dX12_in_2 : dec cX12_in 2 3 5 (.if_icmp .lt 12) := ⟨by decide +kernel, rfl⟩
theorem dX12_in_5 : dec cX12_in 5 1 6 (.iload_n 0) := ⟨by decide +kernel, rfl⟩
theorem dX12_in_6 : dec cX12_in 6 1 7 (.iload_n 2) := ⟨by decide +kernel, rfl⟩
theorem dX12_in_7 : dec cX12_in 7 3 10 (.if_icmp .gt 7) := ⟨by decide +kernel, rfl⟩
theorem dX12_in_10 : dec cX12_in 10 1 11 (.iconst 1) := ⟨by decide +kernel, rfl⟩
theorem dX12_in_11 : dec cX12_in 11 3 14 (.goto 4) := ⟨by decide +kernel, rfl⟩
theorem dX12_in_14 : dec cX12_in 14 1 15 (.iconst 0) := ⟨by decide +kernel, rfl⟩
theorem dX12_in_15 : dec cX12_in 15 1 16 (.ireturn) := ⟨by decide +kernel, rfl⟩
set_option maxHeartbeats 4000000 in
set_option maxRecDepth 100000 in
theorem mX12_in (Y : Yx) (hF : Y.2.2.2.2 = true) (l : Launch) (x0 : Int) (x1 : Int) (x2 : Int) (M0 : Mem) (Q : Int → Mem → Prop)  (h : wX12_in x0 x1 x2 M0 Q) : CT Y l yX12_in cX12_in 3 (some .boolean) rmX12_in [vI x0, vI x1, vI x2] M0 (QI Q) := by
  unfold wX12_in at h
  refine ct_intro (by decide) (Nat.le_of_ble_eq_true rfl) ?_
  intro X hXl hC hL0
  have hL := hL0 hF
  change OKX X Y RX12 cX12_in 3 (some .boolean) rmX12_in at hC
  change WW X Y 3 rmX12_in (QI Q) M0 0 0 0 [(0, vI x0), (1, vI x1), (2, vI x2)] [] M0
  refine r_iload_n hC 0 dX12_in_0 rfl rfl ?_
  refine r_iload_n hC 1 dX12_in_1 rfl rfl ?_
  refine r_icmp_lt hC 14 rfl rfl dX12_in_2 (by decide) (fun cq => ?_) (fun cq => ?_)
  · replace h := h.1 cq
    refine r_iconst hC dX12_in_14 ?_
    exact r_zret hC (Or.inl rfl) (Nat.zero_le _) (Nat.zero_le _) dX12_in_15 ⟨_, rfl, h⟩
  · replace h := h.2 cq
    refine r_iload_n hC 0 dX12_in_5 rfl rfl ?_
    refine r_iload_n hC 2 dX12_in_6 rfl rfl ?_
    refine r_icmp_gt hC 14 rfl rfl dX12_in_7 (by decide) (fun cq => ?_) (fun cq => ?_)
    · replace h := h.1 cq
      refine r_iconst hC dX12_in_14 ?_
      exact r_zret hC (Or.inl rfl) (Nat.zero_le _) (Nat.zero_le _) dX12_in_15 ⟨_, rfl, h⟩
    · replace h := h.2 cq
      refine r_iconst hC dX12_in_10 ?_
      refine r_goto hC 15 dX12_in_11 (by decide) ?_
      exact r_zret hC (Or.inr rfl) (Nat.zero_le _) (Nat.zero_le _) dX12_in_15 ⟨_, rfl, h⟩
theorem dX12_ones_0 : dec cX12_ones 0 1 1 (.iconst 0) := ⟨by decide +kernel, rfl⟩
theorem dX12_ones_1 : dec cX12_ones 1 1 2 (.istore_n 1) := ⟨by decide +kernel, rfl⟩
theorem dX12_ones_2 : dec cX12_ones 2 1 3 (.iconst 0) := ⟨by decide +kernel, rfl⟩
theorem dX12_ones_3 : dec cX12_ones 3 1 4 (.istore_n 2) := ⟨by decide +kernel, rfl⟩
theorem dX12_ones_4 : dec cX12_ones 4 1 5 (.iload_n 2) := ⟨by decide +kernel, rfl⟩
theorem dX12_ones_5 : dec cX12_ones 5 2 7 (.bipush 12) := ⟨by decide +kernel, rfl⟩
theorem dX12_ones_7 : dec cX12_ones 7 3 10 (.if_icmp .ge 17) := ⟨by decide +kernel, rfl⟩
theorem dX12_ones_10 : dec cX12_ones 10 1 11 (.iload_n 1) := ⟨by decide +kernel, rfl⟩
theorem dX12_ones_11 : dec cX12_ones 11 1 12 (.iload_n 0) := ⟨by decide +kernel, rfl⟩
theorem dX12_ones_12 : dec cX12_ones 12 1 13 (.iload_n 2) := ⟨by decide +kernel, rfl⟩
theorem dX12_ones_13 : dec cX12_ones 13 1 14 (.ishr) := ⟨by decide +kernel, rfl⟩
theorem dX12_ones_14 : dec cX12_ones 14 1 15 (.iconst 1) := ⟨by decide +kernel, rfl⟩
theorem dX12_ones_15 : dec cX12_ones 15 1 16 (.iand) := ⟨by decide +kernel, rfl⟩
theorem dX12_ones_16 : dec cX12_ones 16 1 17 (.iadd) := ⟨by decide +kernel, rfl⟩
theorem dX12_ones_17 : dec cX12_ones 17 1 18 (.istore_n 1) := ⟨by decide +kernel, rfl⟩
theorem dX12_ones_18 : dec cX12_ones 18 3 21 (.iinc 2 1) := ⟨by decide +kernel, rfl⟩
theorem dX12_ones_21 : dec cX12_ones 21 3 24 (.goto (-17)) := ⟨by decide +kernel, rfl⟩
theorem dX12_ones_24 : dec cX12_ones 24 1 25 (.iload_n 1) := ⟨by decide +kernel, rfl⟩
theorem dX12_ones_25 : dec cX12_ones 25 1 26 (.ireturn) := ⟨by decide +kernel, rfl⟩
set_option maxHeartbeats 4000000 in
set_option maxRecDepth 100000 in
theorem tX12_ones_L4 {X : Cx} {Y : Yx} {M0 : Mem} (hC : OKX X Y RX12 cX12_ones 3 (some .int) rmX12_ones) (hF : Y.2.2.2.2 = true) (hL : Lay M0) (Q : Int → Mem → Prop)  (x0 : Int)   : ∀ (N : Nat) (x1 : Int) (x2 : Int) (M : Mem) (_ : wX12_ones_L4 Q  x0 N x1 x2 M), WW X Y 3 rmX12_ones (QI Q) M0 0 0 4 [(0, vI x0), (1, vI x1), (2, vI x2)] [] M := by
  intro N
  induction N with
  | zero =>
    intro x1 x2 M h
    exact h.elim
  | succ N ih =>
    intro x1 x2 M h
    unfold wX12_ones_L4 at h
    refine r_iload_n hC 2 dX12_ones_4 rfl rfl ?_
    refine r_bipush hC (by decide +kernel) dX12_ones_5 ?_
    refine r_icmp_ge hC 24 rfl bmL_12 dX12_ones_7 (by decide) (fun cq => ?_) (fun cq => ?_)
    · replace h := h.1 cq
      refine r_iload_n hC 1 dX12_ones_24 rfl rfl ?_
      exact r_iret hC (Nat.zero_le _) (Nat.zero_le _) dX12_ones_25 ⟨_, rfl, h⟩
    · replace h := h.2 cq
      refine r_iload_n hC 1 dX12_ones_10 rfl rfl ?_
      refine r_iload_n hC 0 dX12_ones_11 rfl rfl ?_
      refine r_iload_n hC 2 dX12_ones_12 rfl rfl ?_
      refine r_ishr hC dX12_ones_13 ?_
      refine r_iconst hC dX12_ones_14 ?_
      refine r_iand hC dX12_ones_15 ?_
      refine r_iadd hC dX12_ones_16 ?_
      refine r_nameI h (fun x1_1 h => ?_)
      refine r_istore_n (lv' := [(1, vI x1_1), (0, vI x0), (2, vI x2)]) hC dX12_ones_17 rfl (by decide) rfl ?_
      refine let_elim h (fun x2_2 e_3 h => ?_)
      refine r_iinc (lv' := [(2, vI x2_2), (1, vI x1_1), (0, vI x0)]) hC 2 dX12_ones_18 rfl (by decide) e_3 rfl ?_
      refine r_goto hC 4 dX12_ones_21 (by decide) ?_
      refine r_sub [2, 1, 0] rfl ?_
      exact ih _ _ _ h
set_option maxHeartbeats 4000000 in
set_option maxRecDepth 100000 in
theorem mX12_ones (Y : Yx) (hF : Y.2.2.2.2 = true) (l : Launch) (x0 : Int) (M0 : Mem) (Q : Int → Mem → Prop)  (h : wX12_ones x0 M0 Q) : CT Y l yX12_ones cX12_ones 3 (some .int) rmX12_ones [vI x0] M0 (QI Q) := by
  unfold wX12_ones at h
  refine ct_intro (by decide) (Nat.le_of_ble_eq_true rfl) ?_
  intro X hXl hC hL0
  have hL := hL0 hF
  change OKX X Y RX12 cX12_ones 3 (some .int) rmX12_ones at hC
  change WW X Y 3 rmX12_ones (QI Q) M0 0 0 0 [(0, vI x0)] [] M0
  refine r_iconst hC dX12_ones_0 ?_
  refine r_istore_n (lv' := [(1, vI 0), (0, vI x0)]) hC dX12_ones_1 rfl (by decide) rfl ?_
  refine r_iconst hC dX12_ones_2 ?_
  refine r_istore_n (lv' := [(2, vI 0), (1, vI 0), (0, vI x0)]) hC dX12_ones_3 rfl (by decide) rfl ?_
  refine r_sub [2, 1, 0] rfl ?_
  obtain ⟨N_4, h⟩ := h
  refine tX12_ones_L4 hC hF hL Q  _   N_4 _ _ _ h
theorem dX12_become_0 : dec cX12_become 0 1 1 (.aload_n 0) := ⟨by decide +kernel, rfl⟩
theorem dX12_become_1 : dec cX12_become 1 3 4 (.getfield 7) := ⟨by decide +kernel, rfl⟩
theorem dX12_become_4 : dec cX12_become 4 1 5 (.iload_n 1) := ⟨by decide +kernel, rfl⟩
theorem dX12_become_5 : dec cX12_become 5 1 6 (.iaload) := ⟨by decide +kernel, rfl⟩
theorem dX12_become_6 : dec cX12_become 6 1 7 (.istore_n 3) := ⟨by decide +kernel, rfl⟩
theorem dX12_become_7 : dec cX12_become 7 1 8 (.aload_n 0) := ⟨by decide +kernel, rfl⟩
theorem dX12_become_8 : dec cX12_become 8 3 11 (.getfield 7) := ⟨by decide +kernel, rfl⟩
theorem dX12_become_11 : dec cX12_become 11 1 12 (.iload_n 1) := ⟨by decide +kernel, rfl⟩
theorem dX12_become_12 : dec cX12_become 12 1 13 (.iload_n 2) := ⟨by decide +kernel, rfl⟩
theorem dX12_become_13 : dec cX12_become 13 1 14 (.iastore) := ⟨by decide +kernel, rfl⟩
theorem dX12_become_14 : dec cX12_become 14 1 15 (.iload_n 3) := ⟨by decide +kernel, rfl⟩
theorem dX12_become_15 : dec cX12_become 15 1 16 (.ireturn) := ⟨by decide +kernel, rfl⟩
set_option maxHeartbeats 4000000 in
set_option maxRecDepth 100000 in
theorem mX12_become (Y : Yx) (hF : Y.2.2.2.2 = true) (l : Launch) (a0 : Nat) (x1 : Int) (x2 : Int) (M0 : Mem) (Q : Int → Mem → Prop) (qa0 : 0 < a0 ∧ M0 0 a0 = kO 12) (h : wX12_become a0 x1 x2 M0 Q) : CT Y l yX12_become cX12_become 4 (some .int) rmX12_become [vR Y.1 a0, vI x1, vI x2] M0 (QI Q) := by
  unfold wX12_become at h
  refine ct_intro (by decide) (Nat.le_of_ble_eq_true rfl) ?_
  intro X hXl hC hL0
  have hL := hL0 hF
  change OKX X Y RX12 cX12_become 4 (some .int) rmX12_become at hC
  change WW X Y 4 rmX12_become (QI Q) M0 0 0 0 [(0, vR Y.1 a0), (1, vI x1), (2, vI x2)] [] M0
  refine r_aload_n hC 0 dX12_become_0 rfl rfl ?_
  have q_1 : 0 < a0 + 1 ∧ M0 0 (a0 + 1) = kA 0 1522 := lay_f0 (a := a0) hL qa0 fm_12_0
  refine r_getR0 (a' := a0 + 1) hC fg_X12_7 rfl hF fm_12_0 qa0.1 qa0.2 rfl dX12_become_1 ?_
  refine r_iload_n hC 1 dX12_become_4 rfl rfl ?_
  obtain ⟨i_2, h⟩ := h
  refine r_iald hC i_2 q_1.1 q_1.2 (by decide) dX12_become_5 ?_
  refine r_nameI h (fun x3_3 h => ?_)
  refine r_istore_n (lv' := [(3, vI x3_3), (0, vR Y.1 a0), (1, vI x1), (2, vI x2)]) hC dX12_become_6 rfl (by decide) rfl ?_
  refine r_aload_n hC 1 dX12_become_7 rfl rfl ?_
  have q_4 : 0 < a0 + 1 ∧ M0 0 (a0 + 1) = kA 0 1522 := lay_f0 (a := a0) hL qa0 fm_12_0
  refine r_getR0 (a' := a0 + 1) hC fg_X12_7 rfl hF fm_12_0 qa0.1 qa0.2 rfl dX12_become_8 ?_
  refine r_iload_n hC 2 dX12_become_11 rfl rfl ?_
  refine r_iload_n hC 3 dX12_become_12 rfl rfl ?_
  obtain ⟨i_5, h⟩ := h
  refine r_iast hC i_5 q_4.1 q_4.2 (by decide) dX12_become_13 ?_
  refine r_nameM h (fun M_6 h => ?_)
  refine r_iload_n hC 0 dX12_become_14 rfl rfl ?_
  exact r_iret hC (Nat.zero_le _) (Nat.zero_le _) dX12_become_15 ⟨_, rfl, h⟩
theorem dX12_isPiece_0 : dec cX12_isPiece 0 1 1 (.iload_n 1) := ⟨by decide +kernel, rfl⟩
theorem dX12_isPiece_1 : dec cX12_isPiece 1 1 2 (.iconst 0) := ⟨by decide +kernel, rfl⟩
theorem dX12_isPiece_2 : dec cX12_isPiece 2 1 3 (.aload_n 0) := ⟨by decide +kernel, rfl⟩
theorem dX12_isPiece_3 : dec cX12_isPiece 3 3 6 (.getfield 7) := ⟨by decide +kernel, rfl⟩
theorem dX12_isPiece_6 : dec cX12_isPiece 6 1 7 (.iconst 0) := ⟨by decide +kernel, rfl⟩
theorem dX12_isPiece_7 : dec cX12_isPiece 7 1 8 (.iaload) := ⟨by decide +kernel, rfl⟩
theorem dX12_isPiece_8 : dec cX12_isPiece 8 1 9 (.iconst 1) := ⟨by decide +kernel, rfl⟩
theorem dX12_isPiece_9 : dec cX12_isPiece 9 1 10 (.isub) := ⟨by decide +kernel, rfl⟩
theorem dX12_isPiece_10 : dec cX12_isPiece 10 3 13 (.invokestatic 79) := ⟨by decide +kernel, rfl⟩
theorem dX12_isPiece_13 : dec cX12_isPiece 13 1 14 (.ireturn) := ⟨by decide +kernel, rfl⟩
set_option maxHeartbeats 4000000 in
set_option maxRecDepth 100000 in
theorem mX12_isPiece (Y : Yx) (hF : Y.2.2.2.2 = true) (l : Launch) (a0 : Nat) (x1 : Int) (M0 : Mem) (Q : Int → Mem → Prop) (qa0 : 0 < a0 ∧ M0 0 a0 = kO 12) (h : wX12_isPiece a0 x1 M0 Q) : CT Y l yX12_isPiece cX12_isPiece 2 (some .boolean) rmX12_isPiece [vR Y.1 a0, vI x1] M0 (QI Q) := by
  unfold wX12_isPiece at h
  refine ct_intro (by decide) (Nat.le_of_ble_eq_true rfl) ?_
  intro X hXl hC hL0
  have hL := hL0 hF
  change OKX X Y RX12 cX12_isPiece 2 (some .boolean) rmX12_isPiece at hC
  change WW X Y 2 rmX12_isPiece (QI Q) M0 0 0 0 [(0, vR Y.1 a0), (1, vI x1)] [] M0
  refine r_iload_n hC 1 dX12_isPiece_0 rfl rfl ?_
  refine r_iconst hC dX12_isPiece_1 ?_
  refine r_aload_n hC 0 dX12_isPiece_2 rfl rfl ?_
  have q_1 : 0 < a0 + 1 ∧ M0 0 (a0 + 1) = kA 0 1522 := lay_f0 (a := a0) hL qa0 fm_12_0
  refine r_getR0 (a' := a0 + 1) hC fg_X12_7 rfl hF fm_12_0 qa0.1 qa0.2 rfl dX12_isPiece_3 ?_
  refine r_iconst hC dX12_isPiece_6 ?_
  refine r_iald hC ⟨by decide +kernel, by decide +kernel⟩ q_1.1 q_1.2 (by decide) dX12_isPiece_7 ?_
  refine r_iconst hC dX12_isPiece_8 ?_
  refine r_isub hC dX12_isPiece_9 ?_
  refine r_callS (As := [vI x1, vI 0, vI ((rd M0 (a0 + 1) 0) - 1)]) (st := []) hC cw_X12_79 rfl rfl (Nat.le_of_ble_eq_true rfl) ⟨Nat.le_of_ble_eq_true rfl, Nat.le_of_ble_eq_true rfl⟩ ⟨Nat.le_of_ble_eq_true rfl, Nat.le_of_ble_eq_true rfl⟩ dX12_isPiece_10 (fun hk => mX12_in Y hF _ _ _ _ _ _  h) (fun v M_2 h => ?_)
  obtain ⟨r_3, rfl, h⟩ := h
  exact r_zret hC h.1 (Nat.zero_le _) (Nat.zero_le _) dX12_isPiece_13 ⟨_, rfl, h.2⟩
theorem dX12_isLiking_0 : dec cX12_isLiking 0 1 1 (.iload_n 1) := ⟨by decide +kernel, rfl⟩
theorem dX12_isLiking_1 : dec cX12_isLiking 1 1 2 (.iconst 0) := ⟨by decide +kernel, rfl⟩
theorem dX12_isLiking_2 : dec cX12_isLiking 2 1 3 (.aload_n 0) := ⟨by decide +kernel, rfl⟩
theorem dX12_isLiking_3 : dec cX12_isLiking 3 3 6 (.getfield 7) := ⟨by decide +kernel, rfl⟩
theorem dX12_isLiking_6 : dec cX12_isLiking 6 1 7 (.iconst 1) := ⟨by decide +kernel, rfl⟩
theorem dX12_isLiking_7 : dec cX12_isLiking 7 1 8 (.iaload) := ⟨by decide +kernel, rfl⟩
theorem dX12_isLiking_8 : dec cX12_isLiking 8 1 9 (.iconst 1) := ⟨by decide +kernel, rfl⟩
theorem dX12_isLiking_9 : dec cX12_isLiking 9 1 10 (.isub) := ⟨by decide +kernel, rfl⟩
theorem dX12_isLiking_10 : dec cX12_isLiking 10 3 13 (.invokestatic 79) := ⟨by decide +kernel, rfl⟩
theorem dX12_isLiking_13 : dec cX12_isLiking 13 1 14 (.ireturn) := ⟨by decide +kernel, rfl⟩
set_option maxHeartbeats 4000000 in
set_option maxRecDepth 100000 in
theorem mX12_isLiking (Y : Yx) (hF : Y.2.2.2.2 = true) (l : Launch) (a0 : Nat) (x1 : Int) (M0 : Mem) (Q : Int → Mem → Prop) (qa0 : 0 < a0 ∧ M0 0 a0 = kO 12) (h : wX12_isLiking a0 x1 M0 Q) : CT Y l yX12_isLiking cX12_isLiking 2 (some .boolean) rmX12_isLiking [vR Y.1 a0, vI x1] M0 (QI Q) := by
  unfold wX12_isLiking at h
  refine ct_intro (by decide) (Nat.le_of_ble_eq_true rfl) ?_
  intro X hXl hC hL0
  have hL := hL0 hF
  change OKX X Y RX12 cX12_isLiking 2 (some .boolean) rmX12_isLiking at hC
  change WW X Y 2 rmX12_isLiking (QI Q) M0 0 0 0 [(0, vR Y.1 a0), (1, vI x1)] [] M0
  refine r_iload_n hC 1 dX12_isLiking_0 rfl rfl ?_
  refine r_iconst hC dX12_isLiking_1 ?_
  refine r_aload_n hC 0 dX12_isLiking_2 rfl rfl ?_
  have q_1 : 0 < a0 + 1 ∧ M0 0 (a0 + 1) = kA 0 1522 := lay_f0 (a := a0) hL qa0 fm_12_0
  refine r_getR0 (a' := a0 + 1) hC fg_X12_7 rfl hF fm_12_0 qa0.1 qa0.2 rfl dX12_isLiking_3 ?_
  refine r_iconst hC dX12_isLiking_6 ?_
  refine r_iald hC ⟨by decide +kernel, by decide +kernel⟩ q_1.1 q_1.2 (by decide) dX12_isLiking_7 ?_
  refine r_iconst hC dX12_isLiking_8 ?_
  refine r_isub hC dX12_isLiking_9 ?_
  refine r_callS (As := [vI x1, vI 0, vI ((rd M0 (a0 + 1) 1) - 1)]) (st := []) hC cw_X12_79 rfl rfl (Nat.le_of_ble_eq_true rfl) ⟨Nat.le_of_ble_eq_true rfl, Nat.le_of_ble_eq_true rfl⟩ ⟨Nat.le_of_ble_eq_true rfl, Nat.le_of_ble_eq_true rfl⟩ dX12_isLiking_10 (fun hk => mX12_in Y hF _ _ _ _ _ _  h) (fun v M_2 h => ?_)
  obtain ⟨r_3, rfl, h⟩ := h
  exact r_zret hC h.1 (Nat.zero_le _) (Nat.zero_le _) dX12_isLiking_13 ⟨_, rfl, h.2⟩
theorem dX12_of_0 : dec cX12_of 0 1 1 (.aload_n 0) := ⟨by decide +kernel, rfl⟩
theorem dX12_of_1 : dec cX12_of 1 3 4 (.getfield 7) := ⟨by decide +kernel, rfl⟩
theorem dX12_of_4 : dec cX12_of 4 2 6 (.bipush 20) := ⟨by decide +kernel, rfl⟩
theorem dX12_of_6 : dec cX12_of 6 2 8 (.bipush 6) := ⟨by decide +kernel, rfl⟩
theorem dX12_of_8 : dec cX12_of 8 1 9 (.iload_n 1) := ⟨by decide +kernel, rfl⟩
theorem dX12_of_9 : dec cX12_of 9 1 10 (.imul) := ⟨by decide +kernel, rfl⟩
theorem dX12_of_10 : dec cX12_of 10 1 11 (.iadd) := ⟨by decide +kernel, rfl⟩
theorem dX12_of_11 : dec cX12_of 11 1 12 (.iload_n 2) := ⟨by decide +kernel, rfl⟩
theorem dX12_of_12 : dec cX12_of 12 1 13 (.iadd) := ⟨by decide +kernel, rfl⟩
theorem dX12_of_13 : dec cX12_of 13 1 14 (.iaload) := ⟨by decide +kernel, rfl⟩
theorem dX12_of_14 : dec cX12_of 14 1 15 (.ireturn) := ⟨by decide +kernel, rfl⟩
set_option maxHeartbeats 4000000 in
set_option maxRecDepth 100000 in
theorem mX12_of (Y : Yx) (hF : Y.2.2.2.2 = true) (l : Launch) (a0 : Nat) (x1 : Int) (x2 : Int) (M0 : Mem) (Q : Int → Mem → Prop) (qa0 : 0 < a0 ∧ M0 0 a0 = kO 12) (h : wX12_of a0 x1 x2 M0 Q) : CT Y l yX12_of cX12_of 3 (some .int) rmX12_of [vR Y.1 a0, vI x1, vI x2] M0 (QI Q) := by
  unfold wX12_of at h
  refine ct_intro (by decide) (Nat.le_of_ble_eq_true rfl) ?_
  intro X hXl hC hL0
  have hL := hL0 hF
  change OKX X Y RX12 cX12_of 3 (some .int) rmX12_of at hC
  change WW X Y 3 rmX12_of (QI Q) M0 0 0 0 [(0, vR Y.1 a0), (1, vI x1), (2, vI x2)] [] M0
  refine r_aload_n hC 0 dX12_of_0 rfl rfl ?_
  have q_1 : 0 < a0 + 1 ∧ M0 0 (a0 + 1) = kA 0 1522 := lay_f0 (a := a0) hL qa0 fm_12_0
  refine r_getR0 (a' := a0 + 1) hC fg_X12_7 rfl hF fm_12_0 qa0.1 qa0.2 rfl dX12_of_1 ?_
  refine r_bipush hC (by decide +kernel) dX12_of_4 ?_
  refine r_bipush hC (by decide +kernel) dX12_of_6 ?_
  refine r_iload_n hC 1 dX12_of_8 rfl rfl ?_
  refine r_imul hC dX12_of_9 ?_
  refine r_iadd hC dX12_of_10 ?_
  refine r_iload_n hC 2 dX12_of_11 rfl rfl ?_
  refine r_iadd hC dX12_of_12 ?_
  obtain ⟨i_2, h⟩ := h
  refine r_iald hC i_2 q_1.1 q_1.2 (by decide) dX12_of_13 ?_
  exact r_iret hC (Nat.zero_le _) (Nat.zero_le _) dX12_of_14 ⟨_, rfl, h⟩
theorem dX12_likingIs_0 : dec cX12_likingIs 0 1 1 (.aload_n 0) := ⟨by decide +kernel, rfl⟩
theorem dX12_likingIs_1 : dec cX12_likingIs 1 3 4 (.getfield 7) := ⟨by decide +kernel, rfl⟩
theorem dX12_likingIs_4 : dec cX12_likingIs 4 2 6 (.bipush 100) := ⟨by decide +kernel, rfl⟩
theorem dX12_likingIs_6 : dec cX12_likingIs 6 1 7 (.iconst 4) := ⟨by decide +kernel, rfl⟩
theorem dX12_likingIs_7 : dec cX12_likingIs 7 1 8 (.iload_n 1) := ⟨by decide +kernel, rfl⟩
theorem dX12_likingIs_8 : dec cX12_likingIs 8 1 9 (.imul) := ⟨by decide +kernel, rfl⟩
theorem dX12_likingIs_9 : dec cX12_likingIs 9 1 10 (.iadd) := ⟨by decide +kernel, rfl⟩
theorem dX12_likingIs_10 : dec cX12_likingIs 10 1 11 (.iload_n 2) := ⟨by decide +kernel, rfl⟩
theorem dX12_likingIs_11 : dec cX12_likingIs 11 1 12 (.iadd) := ⟨by decide +kernel, rfl⟩
theorem dX12_likingIs_12 : dec cX12_likingIs 12 1 13 (.iaload) := ⟨by decide +kernel, rfl⟩
theorem dX12_likingIs_13 : dec cX12_likingIs 13 1 14 (.ireturn) := ⟨by decide +kernel, rfl⟩
set_option maxHeartbeats 4000000 in
set_option maxRecDepth 100000 in
theorem mX12_likingIs (Y : Yx) (hF : Y.2.2.2.2 = true) (l : Launch) (a0 : Nat) (x1 : Int) (x2 : Int) (M0 : Mem) (Q : Int → Mem → Prop) (qa0 : 0 < a0 ∧ M0 0 a0 = kO 12) (h : wX12_likingIs a0 x1 x2 M0 Q) : CT Y l yX12_likingIs cX12_likingIs 3 (some .int) rmX12_likingIs [vR Y.1 a0, vI x1, vI x2] M0 (QI Q) := by
  unfold wX12_likingIs at h
  refine ct_intro (by decide) (Nat.le_of_ble_eq_true rfl) ?_
  intro X hXl hC hL0
  have hL := hL0 hF
  change OKX X Y RX12 cX12_likingIs 3 (some .int) rmX12_likingIs at hC
  change WW X Y 3 rmX12_likingIs (QI Q) M0 0 0 0 [(0, vR Y.1 a0), (1, vI x1), (2, vI x2)] [] M0
  refine r_aload_n hC 0 dX12_likingIs_0 rfl rfl ?_
  have q_1 : 0 < a0 + 1 ∧ M0 0 (a0 + 1) = kA 0 1522 := lay_f0 (a := a0) hL qa0 fm_12_0
  refine r_getR0 (a' := a0 + 1) hC fg_X12_7 rfl hF fm_12_0 qa0.1 qa0.2 rfl dX12_likingIs_1 ?_
  refine r_bipush hC (by decide +kernel) dX12_likingIs_4 ?_
  refine r_iconst hC dX12_likingIs_6 ?_
  refine r_iload_n hC 1 dX12_likingIs_7 rfl rfl ?_
  refine r_imul hC dX12_likingIs_8 ?_
  refine r_iadd hC dX12_likingIs_9 ?_
  refine r_iload_n hC 2 dX12_likingIs_10 rfl rfl ?_
  refine r_iadd hC dX12_likingIs_11 ?_
  obtain ⟨i_2, h⟩ := h
  refine r_iald hC i_2 q_1.1 q_1.2 (by decide) dX12_likingIs_12 ?_
  exact r_iret hC (Nat.zero_le _) (Nat.zero_le _) dX12_likingIs_13 ⟨_, rfl, h⟩
theorem dX12_piece_0 : dec cX12_piece 0 1 1 (.iload_n 1) := ⟨by decide +kernel, rfl⟩
theorem dX12_piece_1 : dec cX12_piece 1 3 4 (.sipush 1000) := ⟨by decide +kernel, rfl⟩
theorem dX12_piece_4 : dec cX12_piece 4 1 5 (.idiv) := ⟨by decide +kernel, rfl⟩
theorem dX12_piece_5 : dec cX12_piece 5 1 6 (.iconst 1) := ⟨by decide +kernel, rfl⟩
theorem dX12_piece_6 : dec cX12_piece 6 2 8 (.bipush 60) := ⟨by decide +kernel, rfl⟩
theorem dX12_piece_8 : dec cX12_piece 8 3 11 (.invokestatic 79) := ⟨by decide +kernel, rfl⟩
theorem dX12_piece_11 : dec cX12_piece 11 3 14 (.ifCond .eq 53) := ⟨by decide +kernel, rfl⟩
theorem dX12_piece_14 : dec cX12_piece 14 1 15 (.iload_n 1) := ⟨by decide +kernel, rfl⟩
theorem dX12_piece_15 : dec cX12_piece 15 3 18 (.sipush 1000) := ⟨by decide +kernel, rfl⟩
theorem dX12_piece_18 : dec cX12_piece 18 1 19 (.irem) := ⟨by decide +kernel, rfl⟩
theorem dX12_piece_19 : dec cX12_piece 19 2 21 (.bipush 10) := ⟨by decide +kernel, rfl⟩
theorem dX12_piece_21 : dec cX12_piece 21 1 22 (.idiv) := ⟨by decide +kernel, rfl⟩
theorem dX12_piece_22 : dec cX12_piece 22 2 24 (.bipush 11) := ⟨by decide +kernel, rfl⟩
theorem dX12_piece_24 : dec cX12_piece 24 3 27 (.if_icmp .gt 40) := ⟨by decide +kernel, rfl⟩
theorem dX12_piece_27 : dec cX12_piece 27 1 28 (.iload_n 2) := ⟨by decide +kernel, rfl⟩
theorem dX12_piece_28 : dec cX12_piece 28 1 29 (.iconst 0) := ⟨by decide +kernel, rfl⟩
theorem dX12_piece_29 : dec cX12_piece 29 3 32 (.sipush 255) := ⟨by decide +kernel, rfl⟩
theorem dX12_piece_32 : dec cX12_piece 32 3 35 (.invokestatic 79) := ⟨by decide +kernel, rfl⟩
theorem dX12_piece_35 : dec cX12_piece 35 3 38 (.ifCond .eq 29) := ⟨by decide +kernel, rfl⟩
theorem dX12_piece_38 : dec cX12_piece 38 1 39 (.iload_n 3) := ⟨by decide +kernel, rfl⟩
theorem dX12_piece_39 : dec cX12_piece 39 1 40 (.iconst 0) := ⟨by decide +kernel, rfl⟩
theorem dX12_piece_40 : dec cX12_piece 40 3 43 (.sipush 255) := ⟨by decide +kernel, rfl⟩
theorem dX12_piece_43 : dec cX12_piece 43 3 46 (.invokestatic 79) := ⟨by decide +kernel, rfl⟩
theorem dX12_piece_46 : dec cX12_piece 46 3 49 (.ifCond .eq 18) := ⟨by decide +kernel, rfl⟩
theorem dX12_piece_49 : dec cX12_piece 49 2 51 (.iload 4) := ⟨by decide +kernel, rfl⟩
theorem dX12_piece_51 : dec cX12_piece 51 1 52 (.iconst 0) := ⟨by decide +kernel, rfl⟩
theorem dX12_piece_52 : dec cX12_piece 52 2 54 (.bipush 99) := ⟨by decide +kernel, rfl⟩
theorem dX12_piece_54 : dec cX12_piece 54 3 57 (.invokestatic 79) := ⟨by decide +kernel, rfl⟩
theorem dX12_piece_57 : dec cX12_piece 57 3 60 (.ifCond .eq 7) := ⟨by decide +kernel, rfl⟩
theorem dX12_piece_60 : dec cX12_piece 60 1 61 (.iconst 1) := ⟨by decide +kernel, rfl⟩
theorem dX12_piece_61 : dec cX12_piece 61 3 64 (.goto 4) := ⟨by decide +kernel, rfl⟩
theorem dX12_piece_64 : dec cX12_piece 64 1 65 (.iconst 0) := ⟨by decide +kernel, rfl⟩
theorem dX12_piece_65 : dec cX12_piece 65 2 67 (.istore 5) := ⟨by decide +kernel, rfl⟩
theorem dX12_piece_67 : dec cX12_piece 67 1 68 (.iload_n 1) := ⟨by decide +kernel, rfl⟩
theorem dX12_piece_68 : dec cX12_piece 68 3 71 (.ifCond .lt 8) := ⟨by decide +kernel, rfl⟩
theorem dX12_piece_71 : dec cX12_piece 71 2 73 (.iload 5) := ⟨by decide +kernel, rfl⟩
theorem dX12_piece_73 : dec cX12_piece 73 3 76 (.ifCond .ne 9) := ⟨by decide +kernel, rfl⟩
theorem dX12_piece_76 : dec cX12_piece 76 1 77 (.aload_n 0) := ⟨by decide +kernel, rfl⟩
theorem dX12_piece_77 : dec cX12_piece 77 1 78 (.iconst 1) := ⟨by decide +kernel, rfl⟩
theorem dX12_piece_78 : dec cX12_piece 78 3 81 (.invokevirtual 83) := ⟨by decide +kernel, rfl⟩
theorem dX12_piece_81 : dec cX12_piece 81 1 82 (.ireturn) := ⟨by decide +kernel, rfl⟩
theorem dX12_piece_82 : dec cX12_piece 82 1 83 (.aload_n 0) := ⟨by decide +kernel, rfl⟩
theorem dX12_piece_83 : dec cX12_piece 83 3 86 (.getfield 7) := ⟨by decide +kernel, rfl⟩
theorem dX12_piece_86 : dec cX12_piece 86 1 87 (.iconst 0) := ⟨by decide +kernel, rfl⟩
theorem dX12_piece_87 : dec cX12_piece 87 1 88 (.iaload) := ⟨by decide +kernel, rfl⟩
theorem dX12_piece_88 : dec cX12_piece 88 2 90 (.bipush 12) := ⟨by decide +kernel, rfl⟩
theorem dX12_piece_90 : dec cX12_piece 90 3 93 (.if_icmp .ne 9) := ⟨by decide +kernel, rfl⟩
theorem dX12_piece_93 : dec cX12_piece 93 1 94 (.aload_n 0) := ⟨by decide +kernel, rfl⟩
theorem dX12_piece_94 : dec cX12_piece 94 1 95 (.iconst 4) := ⟨by decide +kernel, rfl⟩
theorem dX12_piece_95 : dec cX12_piece 95 3 98 (.invokevirtual 83) := ⟨by decide +kernel, rfl⟩
theorem dX12_piece_98 : dec cX12_piece 98 1 99 (.ireturn) := ⟨by decide +kernel, rfl⟩
theorem dX12_piece_99 : dec cX12_piece 99 2 101 (.bipush 20) := ⟨by decide +kernel, rfl⟩
theorem dX12_piece_101 : dec cX12_piece 101 2 103 (.bipush 6) := ⟨by decide +kernel, rfl⟩
theorem dX12_piece_103 : dec cX12_piece 103 1 104 (.aload_n 0) := ⟨by decide +kernel, rfl⟩
theorem dX12_piece_104 : dec cX12_piece 104 3 107 (.getfield 7) := ⟨by decide +kernel, rfl⟩
theorem dX12_piece_107 : dec cX12_piece 107 1 108 (.iconst 0) := ⟨by decide +kernel, rfl⟩
theorem dX12_piece_108 : dec cX12_piece 108 1 109 (.iaload) := ⟨by decide +kernel, rfl⟩
theorem dX12_piece_109 : dec cX12_piece 109 1 110 (.imul) := ⟨by decide +kernel, rfl⟩
theorem dX12_piece_110 : dec cX12_piece 110 1 111 (.iadd) := ⟨by decide +kernel, rfl⟩
theorem dX12_piece_111 : dec cX12_piece 111 2 113 (.istore 6) := ⟨by decide +kernel, rfl⟩
theorem dX12_piece_113 : dec cX12_piece 113 1 114 (.aload_n 0) := ⟨by decide +kernel, rfl⟩
theorem dX12_piece_114 : dec cX12_piece 114 3 117 (.getfield 7) := ⟨by decide +kernel, rfl⟩
theorem dX12_piece_117 : dec cX12_piece 117 2 119 (.iload 6) := ⟨by decide +kernel, rfl⟩
theorem dX12_piece_119 : dec cX12_piece 119 1 120 (.iconst 0) := ⟨by decide +kernel, rfl⟩
theorem dX12_piece_120 : dec cX12_piece 120 1 121 (.iadd) := ⟨by decide +kernel, rfl⟩
theorem dX12_piece_121 : dec cX12_piece 121 1 122 (.iload_n 1) := ⟨by decide +kernel, rfl⟩
theorem dX12_piece_122 : dec cX12_piece 122 3 125 (.sipush 1000) := ⟨by decide +kernel, rfl⟩
theorem dX12_piece_125 : dec cX12_piece 125 1 126 (.idiv) := ⟨by decide +kernel, rfl⟩
theorem dX12_piece_126 : dec cX12_piece 126 1 127 (.iastore) := ⟨by decide +kernel, rfl⟩
theorem dX12_piece_127 : dec cX12_piece 127 1 128 (.aload_n 0) := ⟨by decide +kernel, rfl⟩
theorem dX12_piece_128 : dec cX12_piece 128 3 131 (.getfield 7) := ⟨by decide +kernel, rfl⟩
theorem dX12_piece_131 : dec cX12_piece 131 2 133 (.iload 6) := ⟨by decide +kernel, rfl⟩
theorem dX12_piece_133 : dec cX12_piece 133 1 134 (.iconst 1) := ⟨by decide +kernel, rfl⟩
theorem dX12_piece_134 : dec cX12_piece 134 1 135 (.iadd) := ⟨by decide +kernel, rfl⟩
theorem dX12_piece_135 : dec cX12_piece 135 1 136 (.iload_n 1) := ⟨by decide +kernel, rfl⟩
theorem dX12_piece_136 : dec cX12_piece 136 3 139 (.sipush 1000) := ⟨by decide +kernel, rfl⟩
theorem dX12_piece_139 : dec cX12_piece 139 1 140 (.irem) := ⟨by decide +kernel, rfl⟩
theorem dX12_piece_140 : dec cX12_piece 140 2 142 (.bipush 10) := ⟨by decide +kernel, rfl⟩
theorem dX12_piece_142 : dec cX12_piece 142 1 143 (.idiv) := ⟨by decide +kernel, rfl⟩
theorem dX12_piece_143 : dec cX12_piece 143 1 144 (.iastore) := ⟨by decide +kernel, rfl⟩
theorem dX12_piece_144 : dec cX12_piece 144 1 145 (.aload_n 0) := ⟨by decide +kernel, rfl⟩
theorem dX12_piece_145 : dec cX12_piece 145 3 148 (.getfield 7) := ⟨by decide +kernel, rfl⟩
theorem dX12_piece_148 : dec cX12_piece 148 2 150 (.iload 6) := ⟨by decide +kernel, rfl⟩
theorem dX12_piece_150 : dec cX12_piece 150 1 151 (.iconst 2) := ⟨by decide +kernel, rfl⟩
theorem dX12_piece_151 : dec cX12_piece 151 1 152 (.iadd) := ⟨by decide +kernel, rfl⟩
theorem dX12_piece_152 : dec cX12_piece 152 1 153 (.iload_n 1) := ⟨by decide +kernel, rfl⟩
theorem dX12_piece_153 : dec cX12_piece 153 2 155 (.bipush 10) := ⟨by decide +kernel, rfl⟩
theorem dX12_piece_155 : dec cX12_piece 155 1 156 (.irem) := ⟨by decide +kernel, rfl⟩
theorem dX12_piece_156 : dec cX12_piece 156 1 157 (.iastore) := ⟨by decide +kernel, rfl⟩
theorem dX12_piece_157 : dec cX12_piece 157 1 158 (.aload_n 0) := ⟨by decide +kernel, rfl⟩
theorem dX12_piece_158 : dec cX12_piece 158 3 161 (.getfield 7) := ⟨by decide +kernel, rfl⟩
theorem dX12_piece_161 : dec cX12_piece 161 2 163 (.iload 6) := ⟨by decide +kernel, rfl⟩
theorem dX12_piece_163 : dec cX12_piece 163 1 164 (.iconst 3) := ⟨by decide +kernel, rfl⟩
theorem dX12_piece_164 : dec cX12_piece 164 1 165 (.iadd) := ⟨by decide +kernel, rfl⟩
theorem dX12_piece_165 : dec cX12_piece 165 1 166 (.iload_n 2) := ⟨by decide +kernel, rfl⟩
theorem dX12_piece_166 : dec cX12_piece 166 1 167 (.iastore) := ⟨by decide +kernel, rfl⟩
theorem dX12_piece_167 : dec cX12_piece 167 1 168 (.aload_n 0) := ⟨by decide +kernel, rfl⟩
theorem dX12_piece_168 : dec cX12_piece 168 3 171 (.getfield 7) := ⟨by decide +kernel, rfl⟩
theorem dX12_piece_171 : dec cX12_piece 171 2 173 (.iload 6) := ⟨by decide +kernel, rfl⟩
theorem dX12_piece_173 : dec cX12_piece 173 1 174 (.iconst 4) := ⟨by decide +kernel, rfl⟩
theorem dX12_piece_174 : dec cX12_piece 174 1 175 (.iadd) := ⟨by decide +kernel, rfl⟩
theorem dX12_piece_175 : dec cX12_piece 175 1 176 (.iload_n 3) := ⟨by decide +kernel, rfl⟩
theorem dX12_piece_176 : dec cX12_piece 176 1 177 (.iastore) := ⟨by decide +kernel, rfl⟩
theorem dX12_piece_177 : dec cX12_piece 177 1 178 (.aload_n 0) := ⟨by decide +kernel, rfl⟩
theorem dX12_piece_178 : dec cX12_piece 178 3 181 (.getfield 7) := ⟨by decide +kernel, rfl⟩
theorem dX12_piece_181 : dec cX12_piece 181 2 183 (.iload 6) := ⟨by decide +kernel, rfl⟩
theorem dX12_piece_183 : dec cX12_piece 183 1 184 (.iconst 5) := ⟨by decide +kernel, rfl⟩
theorem dX12_piece_184 : dec cX12_piece 184 1 185 (.iadd) := ⟨by decide +kernel, rfl⟩
theorem dX12_piece_185 : dec cX12_piece 185 2 187 (.iload 4) := ⟨by decide +kernel, rfl⟩
theorem dX12_piece_187 : dec cX12_piece 187 1 188 (.iastore) := ⟨by decide +kernel, rfl⟩
theorem dX12_piece_188 : dec cX12_piece 188 1 189 (.aload_n 0) := ⟨by decide +kernel, rfl⟩
theorem dX12_piece_189 : dec cX12_piece 189 3 192 (.getfield 7) := ⟨by decide +kernel, rfl⟩
theorem dX12_piece_192 : dec cX12_piece 192 1 193 (.iconst 0) := ⟨by decide +kernel, rfl⟩
theorem dX12_piece_193 : dec cX12_piece 193 1 194 (.dup2) := ⟨by decide +kernel, rfl⟩
theorem dX12_piece_194 : dec cX12_piece 194 1 195 (.iaload) := ⟨by decide +kernel, rfl⟩
theorem dX12_piece_195 : dec cX12_piece 195 1 196 (.iconst 1) := ⟨by decide +kernel, rfl⟩
theorem dX12_piece_196 : dec cX12_piece 196 1 197 (.iadd) := ⟨by decide +kernel, rfl⟩
theorem dX12_piece_197 : dec cX12_piece 197 1 198 (.iastore) := ⟨by decide +kernel, rfl⟩
theorem dX12_piece_198 : dec cX12_piece 198 1 199 (.aload_n 0) := ⟨by decide +kernel, rfl⟩
theorem dX12_piece_199 : dec cX12_piece 199 3 202 (.getfield 7) := ⟨by decide +kernel, rfl⟩
theorem dX12_piece_202 : dec cX12_piece 202 1 203 (.iconst 0) := ⟨by decide +kernel, rfl⟩
theorem dX12_piece_203 : dec cX12_piece 203 1 204 (.iaload) := ⟨by decide +kernel, rfl⟩
theorem dX12_piece_204 : dec cX12_piece 204 1 205 (.iconst 1) := ⟨by decide +kernel, rfl⟩
theorem dX12_piece_205 : dec cX12_piece 205 1 206 (.isub) := ⟨by decide +kernel, rfl⟩
theorem dX12_piece_206 : dec cX12_piece 206 1 207 (.ireturn) := ⟨by decide +kernel, rfl⟩
set_option maxHeartbeats 4000000 in
set_option maxRecDepth 100000 in
theorem tX12_piece_J76 {X : Cx} {Y : Yx} {M0 : Mem} (hC : OKX X Y RX12 cX12_piece 7 (some .int) rmX12_piece) (hF : Y.2.2.2.2 = true) (hL : Lay M0) (Q : Int → Mem → Prop)   (a0 : Nat) (qa0 : 0 < a0 ∧ M0 0 a0 = kO 12)  (M : Mem) (h : wX12_piece_J76 Q  a0 M) : WW X Y 7 rmX12_piece (QI Q) M0 0 0 76 [(0, vR Y.1 a0)] [] M := by
  unfold wX12_piece_J76 at h
  refine r_aload_n hC 0 dX12_piece_76 rfl rfl ?_
  refine r_iconst hC dX12_piece_77 ?_
  refine r_callV (As := [vI 1]) (st := []) hC cw_X12_83 rfl qa0.1 qa0.2 rfl rfl (Nat.le_of_ble_eq_true rfl) ⟨Nat.le_of_ble_eq_true rfl, Nat.le_of_ble_eq_true rfl⟩ ⟨Nat.le_of_ble_eq_true rfl, Nat.le_of_ble_eq_true rfl⟩ dX12_piece_78 (fun hk => mX12_error Y hF _ _ _ _ _ (kqO hk qa0) h) (fun v M_3 h => ?_)
  obtain ⟨r_4, rfl, h⟩ := h
  exact r_iret hC (Nat.zero_le _) (Nat.zero_le _) dX12_piece_81 ⟨_, rfl, h⟩
set_option maxHeartbeats 4000000 in
set_option maxRecDepth 100000 in
theorem tX12_piece_J65 {X : Cx} {Y : Yx} {M0 : Mem} (hC : OKX X Y RX12 cX12_piece 7 (some .int) rmX12_piece) (hF : Y.2.2.2.2 = true) (hL : Lay M0) (Q : Int → Mem → Prop)   (a0 : Nat) (x1 : Int) (x2 : Int) (x3 : Int) (x4 : Int) (xs0 : Int) (qa0 : 0 < a0 ∧ M0 0 a0 = kO 12)  (M : Mem) (h : wX12_piece_J65 Q  a0 x1 x2 x3 x4 xs0 M) : WW X Y 7 rmX12_piece (QI Q) M0 0 0 65 [(0, vR Y.1 a0), (1, vI x1), (2, vI x2), (3, vI x3), (4, vI x4)] [vI xs0] M := by
  unfold wX12_piece_J65 at h
  refine r_istore (lv' := [(5, vI xs0), (0, vR Y.1 a0), (1, vI x1), (2, vI x2), (3, vI x3), (4, vI x4)]) hC dX12_piece_65 (by decide) rfl ?_
  refine r_iload_n hC 2 dX12_piece_67 rfl rfl ?_
  refine r_if_lt hC 76 rfl dX12_piece_68 (by decide) (fun cq => ?_) (fun cq => ?_)
  · replace h := h.1 cq
    refine r_sub [1] rfl ?_
    exact tX12_piece_J76 hC hF hL Q   _ qa0  _ h
  · replace h := h.2 cq
    refine r_iload hC 0 dX12_piece_71 rfl ?_
    refine r_if_ne hC 82 rfl dX12_piece_73 (by decide) (fun cq => ?_) (fun cq => ?_)
    · replace h := h.2 cq
      refine r_aload_n hC 1 dX12_piece_82 rfl rfl ?_
      have q_5 : 0 < a0 + 1 ∧ M0 0 (a0 + 1) = kA 0 1522 := lay_f0 (a := a0) hL qa0 fm_12_0
      refine r_getR0 (a' := a0 + 1) hC fg_X12_7 rfl hF fm_12_0 qa0.1 qa0.2 rfl dX12_piece_83 ?_
      refine r_iconst hC dX12_piece_86 ?_
      refine r_iald hC ⟨by decide +kernel, by decide +kernel⟩ q_5.1 q_5.2 (by decide) dX12_piece_87 ?_
      refine r_bipush hC (by decide +kernel) dX12_piece_88 ?_
      refine r_icmp_ne hC 99 rfl bmL_12 dX12_piece_90 (by decide) (fun cq => ?_) (fun cq => ?_)
      · replace h := h.2 cq
        refine r_bipush hC (by decide +kernel) dX12_piece_99 ?_
        refine r_bipush hC (by decide +kernel) dX12_piece_101 ?_
        refine r_aload_n hC 1 dX12_piece_103 rfl rfl ?_
        have q_6 : 0 < a0 + 1 ∧ M0 0 (a0 + 1) = kA 0 1522 := lay_f0 (a := a0) hL qa0 fm_12_0
        refine r_getR0 (a' := a0 + 1) hC fg_X12_7 rfl hF fm_12_0 qa0.1 qa0.2 rfl dX12_piece_104 ?_
        refine r_iconst hC dX12_piece_107 ?_
        refine r_iald hC ⟨by decide +kernel, by decide +kernel⟩ q_6.1 q_6.2 (by decide) dX12_piece_108 ?_
        refine r_imul hC dX12_piece_109 ?_
        refine r_iadd hC dX12_piece_110 ?_
        refine r_nameI h (fun x6_7 h => ?_)
        refine r_istore (lv' := [(6, vI x6_7), (5, vI xs0), (0, vR Y.1 a0), (1, vI x1), (2, vI x2), (3, vI x3), (4, vI x4)]) hC dX12_piece_111 (by decide) rfl ?_
        refine r_aload_n hC 2 dX12_piece_113 rfl rfl ?_
        have q_8 : 0 < a0 + 1 ∧ M0 0 (a0 + 1) = kA 0 1522 := lay_f0 (a := a0) hL qa0 fm_12_0
        refine r_getR0 (a' := a0 + 1) hC fg_X12_7 rfl hF fm_12_0 qa0.1 qa0.2 rfl dX12_piece_114 ?_
        refine r_iload hC 0 dX12_piece_117 rfl ?_
        refine r_iconst hC dX12_piece_119 ?_
        refine r_iadd hC dX12_piece_120 ?_
        refine r_iload_n hC 3 dX12_piece_121 rfl rfl ?_
        refine r_sipush hC (by decide +kernel) dX12_piece_122 ?_
        refine r_idiv hC (by decide +kernel) dX12_piece_125 ?_
        obtain ⟨i_9, h⟩ := h
        refine r_iast hC i_9 q_8.1 q_8.2 (by decide) dX12_piece_126 ?_
        refine r_nameM h (fun M_10 h => ?_)
        refine r_aload_n hC 2 dX12_piece_127 rfl rfl ?_
        have q_11 : 0 < a0 + 1 ∧ M0 0 (a0 + 1) = kA 0 1522 := lay_f0 (a := a0) hL qa0 fm_12_0
        refine r_getR0 (a' := a0 + 1) hC fg_X12_7 rfl hF fm_12_0 qa0.1 qa0.2 rfl dX12_piece_128 ?_
        refine r_iload hC 0 dX12_piece_131 rfl ?_
        refine r_iconst hC dX12_piece_133 ?_
        refine r_iadd hC dX12_piece_134 ?_
        refine r_iload_n hC 3 dX12_piece_135 rfl rfl ?_
        refine r_sipush hC (by decide +kernel) dX12_piece_136 ?_
        refine r_irem hC (by decide +kernel) dX12_piece_139 ?_
        refine r_bipush hC (by decide +kernel) dX12_piece_140 ?_
        refine r_idiv hC (by decide +kernel) dX12_piece_142 ?_
        obtain ⟨i_12, h⟩ := h
        refine r_iast hC i_12 q_11.1 q_11.2 (by decide) dX12_piece_143 ?_
        refine r_nameM h (fun M_13 h => ?_)
        refine r_aload_n hC 2 dX12_piece_144 rfl rfl ?_
        have q_14 : 0 < a0 + 1 ∧ M0 0 (a0 + 1) = kA 0 1522 := lay_f0 (a := a0) hL qa0 fm_12_0
        refine r_getR0 (a' := a0 + 1) hC fg_X12_7 rfl hF fm_12_0 qa0.1 qa0.2 rfl dX12_piece_145 ?_
        refine r_iload hC 0 dX12_piece_148 rfl ?_
        refine r_iconst hC dX12_piece_150 ?_
        refine r_iadd hC dX12_piece_151 ?_
        refine r_iload_n hC 3 dX12_piece_152 rfl rfl ?_
        refine r_bipush hC (by decide +kernel) dX12_piece_153 ?_
        refine r_irem hC (by decide +kernel) dX12_piece_155 ?_
        obtain ⟨i_15, h⟩ := h
        refine r_iast hC i_15 q_14.1 q_14.2 (by decide) dX12_piece_156 ?_
        refine r_nameM h (fun M_16 h => ?_)
        refine r_aload_n hC 2 dX12_piece_157 rfl rfl ?_
        have q_17 : 0 < a0 + 1 ∧ M0 0 (a0 + 1) = kA 0 1522 := lay_f0 (a := a0) hL qa0 fm_12_0
        refine r_getR0 (a' := a0 + 1) hC fg_X12_7 rfl hF fm_12_0 qa0.1 qa0.2 rfl dX12_piece_158 ?_
        refine r_iload hC 0 dX12_piece_161 rfl ?_
        refine r_iconst hC dX12_piece_163 ?_
        refine r_iadd hC dX12_piece_164 ?_
        refine r_iload_n hC 4 dX12_piece_165 rfl rfl ?_
        obtain ⟨i_18, h⟩ := h
        refine r_iast hC i_18 q_17.1 q_17.2 (by decide) dX12_piece_166 ?_
        refine r_nameM h (fun M_19 h => ?_)
        refine r_aload_n hC 2 dX12_piece_167 rfl rfl ?_
        have q_20 : 0 < a0 + 1 ∧ M0 0 (a0 + 1) = kA 0 1522 := lay_f0 (a := a0) hL qa0 fm_12_0
        refine r_getR0 (a' := a0 + 1) hC fg_X12_7 rfl hF fm_12_0 qa0.1 qa0.2 rfl dX12_piece_168 ?_
        refine r_iload hC 0 dX12_piece_171 rfl ?_
        refine r_iconst hC dX12_piece_173 ?_
        refine r_iadd hC dX12_piece_174 ?_
        refine r_iload_n hC 5 dX12_piece_175 rfl rfl ?_
        obtain ⟨i_21, h⟩ := h
        refine r_iast hC i_21 q_20.1 q_20.2 (by decide) dX12_piece_176 ?_
        refine r_nameM h (fun M_22 h => ?_)
        refine r_aload_n hC 2 dX12_piece_177 rfl rfl ?_
        have q_23 : 0 < a0 + 1 ∧ M0 0 (a0 + 1) = kA 0 1522 := lay_f0 (a := a0) hL qa0 fm_12_0
        refine r_getR0 (a' := a0 + 1) hC fg_X12_7 rfl hF fm_12_0 qa0.1 qa0.2 rfl dX12_piece_178 ?_
        refine r_iload hC 0 dX12_piece_181 rfl ?_
        refine r_iconst hC dX12_piece_183 ?_
        refine r_iadd hC dX12_piece_184 ?_
        refine r_iload hC 6 dX12_piece_185 rfl ?_
        obtain ⟨i_24, h⟩ := h
        refine r_iast hC i_24 q_23.1 q_23.2 (by decide) dX12_piece_187 ?_
        refine r_nameM h (fun M_25 h => ?_)
        refine r_aload_n hC 2 dX12_piece_188 rfl rfl ?_
        have q_26 : 0 < a0 + 1 ∧ M0 0 (a0 + 1) = kA 0 1522 := lay_f0 (a := a0) hL qa0 fm_12_0
        refine r_getR0 (a' := a0 + 1) hC fg_X12_7 rfl hF fm_12_0 qa0.1 qa0.2 rfl dX12_piece_189 ?_
        refine r_iconst hC dX12_piece_192 ?_
        refine r_dup2 hC rfl rfl dX12_piece_193 ?_
        refine r_iald hC ⟨by decide +kernel, by decide +kernel⟩ q_26.1 q_26.2 (by decide) dX12_piece_194 ?_
        refine r_iconst hC dX12_piece_195 ?_
        refine r_iadd hC dX12_piece_196 ?_
        refine r_iast hC ⟨by decide +kernel, by decide +kernel⟩ q_26.1 q_26.2 (by decide) dX12_piece_197 ?_
        refine r_nameM h (fun M_27 h => ?_)
        refine r_aload_n hC 2 dX12_piece_198 rfl rfl ?_
        have q_28 : 0 < a0 + 1 ∧ M0 0 (a0 + 1) = kA 0 1522 := lay_f0 (a := a0) hL qa0 fm_12_0
        refine r_getR0 (a' := a0 + 1) hC fg_X12_7 rfl hF fm_12_0 qa0.1 qa0.2 rfl dX12_piece_199 ?_
        refine r_iconst hC dX12_piece_202 ?_
        refine r_iald hC ⟨by decide +kernel, by decide +kernel⟩ q_28.1 q_28.2 (by decide) dX12_piece_203 ?_
        refine r_iconst hC dX12_piece_204 ?_
        refine r_isub hC dX12_piece_205 ?_
        exact r_iret hC (Nat.zero_le _) (Nat.zero_le _) dX12_piece_206 ⟨_, rfl, h⟩
      · replace h := h.1 cq
        refine r_aload_n hC 1 dX12_piece_93 rfl rfl ?_
        refine r_iconst hC dX12_piece_94 ?_
        refine r_callV (As := [vI 4]) (st := []) hC cw_X12_83 rfl qa0.1 qa0.2 rfl rfl (Nat.le_of_ble_eq_true rfl) ⟨Nat.le_of_ble_eq_true rfl, Nat.le_of_ble_eq_true rfl⟩ ⟨Nat.le_of_ble_eq_true rfl, Nat.le_of_ble_eq_true rfl⟩ dX12_piece_95 (fun hk => mX12_error Y hF _ _ _ _ _ (kqO hk qa0) h) (fun v M_29 h => ?_)
        obtain ⟨r_30, rfl, h⟩ := h
        exact r_iret hC (Nat.zero_le _) (Nat.zero_le _) dX12_piece_98 ⟨_, rfl, h⟩
    · replace h := h.1 cq
      refine r_sub [1] rfl ?_
      exact tX12_piece_J76 hC hF hL Q   _ qa0  _ h
set_option maxHeartbeats 4000000 in
set_option maxRecDepth 100000 in
theorem tX12_piece_J64 {X : Cx} {Y : Yx} {M0 : Mem} (hC : OKX X Y RX12 cX12_piece 7 (some .int) rmX12_piece) (hF : Y.2.2.2.2 = true) (hL : Lay M0) (Q : Int → Mem → Prop)   (a0 : Nat) (x1 : Int) (x2 : Int) (x3 : Int) (x4 : Int) (qa0 : 0 < a0 ∧ M0 0 a0 = kO 12)  (M : Mem) (h : wX12_piece_J64 Q  a0 x1 x2 x3 x4 M) : WW X Y 7 rmX12_piece (QI Q) M0 0 0 64 [(0, vR Y.1 a0), (1, vI x1), (2, vI x2), (3, vI x3), (4, vI x4)] [] M := by
  unfold wX12_piece_J64 at h
  refine r_iconst hC dX12_piece_64 ?_
  refine r_sub [0, 1, 2, 3, 4] rfl ?_
  exact tX12_piece_J65 hC hF hL Q   _ _ _ _ _ _ qa0  _ h
set_option maxHeartbeats 4000000 in
set_option maxRecDepth 100000 in
theorem mX12_piece (Y : Yx) (hF : Y.2.2.2.2 = true) (l : Launch) (a0 : Nat) (x1 : Int) (x2 : Int) (x3 : Int) (x4 : Int) (M0 : Mem) (Q : Int → Mem → Prop) (qa0 : 0 < a0 ∧ M0 0 a0 = kO 12) (h : wX12_piece a0 x1 x2 x3 x4 M0 Q) : CT Y l yX12_piece cX12_piece 7 (some .int) rmX12_piece [vR Y.1 a0, vI x1, vI x2, vI x3, vI x4] M0 (QI Q) := by
  unfold wX12_piece at h
  refine ct_intro (by decide) (Nat.le_of_ble_eq_true rfl) ?_
  intro X hXl hC hL0
  have hL := hL0 hF
  change OKX X Y RX12 cX12_piece 7 (some .int) rmX12_piece at hC
  change WW X Y 7 rmX12_piece (QI Q) M0 0 0 0 [(0, vR Y.1 a0), (1, vI x1), (2, vI x2), (3, vI x3), (4, vI x4)] [] M0
  refine r_iload_n hC 1 dX12_piece_0 rfl rfl ?_
  refine r_sipush hC (by decide +kernel) dX12_piece_1 ?_
  refine r_idiv hC (by decide +kernel) dX12_piece_4 ?_
  refine r_iconst hC dX12_piece_5 ?_
  refine r_bipush hC (by decide +kernel) dX12_piece_6 ?_
  refine r_callS (As := [vI (iDiv x1 1000), vI 1, vI 60]) (st := []) hC cw_X12_79 rfl rfl (Nat.le_of_ble_eq_true rfl) ⟨Nat.le_of_ble_eq_true rfl, Nat.le_of_ble_eq_true rfl⟩ ⟨Nat.le_of_ble_eq_true rfl, Nat.le_of_ble_eq_true rfl⟩ dX12_piece_8 (fun hk => mX12_in Y hF _ _ _ _ _ _  h) (fun v M_1 h => ?_)
  obtain ⟨r_2, rfl, h⟩ := h
  refine r_if_eq hC 64 rfl dX12_piece_11 (by decide) (fun cq => ?_) (fun cq => ?_)
  · replace h := h.1 cq
    refine r_sub [0, 1, 2, 3, 4] rfl ?_
    exact tX12_piece_J64 hC hF hL Q   _ _ _ _ _ qa0  _ h
  · replace h := h.2 cq
    refine r_iload_n hC 1 dX12_piece_14 rfl rfl ?_
    refine r_sipush hC (by decide +kernel) dX12_piece_15 ?_
    refine r_irem hC (by decide +kernel) dX12_piece_18 ?_
    refine r_bipush hC (by decide +kernel) dX12_piece_19 ?_
    refine r_idiv hC (by decide +kernel) dX12_piece_21 ?_
    refine r_bipush hC (by decide +kernel) dX12_piece_22 ?_
    refine r_icmp_gt hC 64 rfl bmL_11 dX12_piece_24 (by decide) (fun cq => ?_) (fun cq => ?_)
    · replace h := h.1 cq
      refine r_sub [0, 1, 2, 3, 4] rfl ?_
      exact tX12_piece_J64 hC hF hL Q   _ _ _ _ _ qa0  _ h
    · replace h := h.2 cq
      refine r_iload_n hC 2 dX12_piece_27 rfl rfl ?_
      refine r_iconst hC dX12_piece_28 ?_
      refine r_sipush hC (by decide +kernel) dX12_piece_29 ?_
      refine r_callS (As := [vI x2, vI 0, vI 255]) (st := []) hC cw_X12_79 rfl rfl (Nat.le_of_ble_eq_true rfl) ⟨Nat.le_of_ble_eq_true rfl, Nat.le_of_ble_eq_true rfl⟩ ⟨Nat.le_of_ble_eq_true rfl, Nat.le_of_ble_eq_true rfl⟩ dX12_piece_32 (fun hk => mX12_in Y hF _ _ _ _ _ _  h) (fun v M_31 h => ?_)
      obtain ⟨r_32, rfl, h⟩ := h
      refine r_if_eq hC 64 rfl dX12_piece_35 (by decide) (fun cq => ?_) (fun cq => ?_)
      · replace h := h.1 cq
        refine r_sub [0, 1, 2, 3, 4] rfl ?_
        exact tX12_piece_J64 hC hF hL Q   _ _ _ _ _ qa0  _ h
      · replace h := h.2 cq
        refine r_iload_n hC 3 dX12_piece_38 rfl rfl ?_
        refine r_iconst hC dX12_piece_39 ?_
        refine r_sipush hC (by decide +kernel) dX12_piece_40 ?_
        refine r_callS (As := [vI x3, vI 0, vI 255]) (st := []) hC cw_X12_79 rfl rfl (Nat.le_of_ble_eq_true rfl) ⟨Nat.le_of_ble_eq_true rfl, Nat.le_of_ble_eq_true rfl⟩ ⟨Nat.le_of_ble_eq_true rfl, Nat.le_of_ble_eq_true rfl⟩ dX12_piece_43 (fun hk => mX12_in Y hF _ _ _ _ _ _  h) (fun v M_33 h => ?_)
        obtain ⟨r_34, rfl, h⟩ := h
        refine r_if_eq hC 64 rfl dX12_piece_46 (by decide) (fun cq => ?_) (fun cq => ?_)
        · replace h := h.1 cq
          refine r_sub [0, 1, 2, 3, 4] rfl ?_
          exact tX12_piece_J64 hC hF hL Q   _ _ _ _ _ qa0  _ h
        · replace h := h.2 cq
          refine r_iload hC 4 dX12_piece_49 rfl ?_
          refine r_iconst hC dX12_piece_51 ?_
          refine r_bipush hC (by decide +kernel) dX12_piece_52 ?_
          refine r_callS (As := [vI x4, vI 0, vI 99]) (st := []) hC cw_X12_79 rfl rfl (Nat.le_of_ble_eq_true rfl) ⟨Nat.le_of_ble_eq_true rfl, Nat.le_of_ble_eq_true rfl⟩ ⟨Nat.le_of_ble_eq_true rfl, Nat.le_of_ble_eq_true rfl⟩ dX12_piece_54 (fun hk => mX12_in Y hF _ _ _ _ _ _  h) (fun v M_35 h => ?_)
          obtain ⟨r_36, rfl, h⟩ := h
          refine r_if_eq hC 64 rfl dX12_piece_57 (by decide) (fun cq => ?_) (fun cq => ?_)
          · replace h := h.1 cq
            refine r_sub [0, 1, 2, 3, 4] rfl ?_
            exact tX12_piece_J64 hC hF hL Q   _ _ _ _ _ qa0  _ h
          · replace h := h.2 cq
            refine r_iconst hC dX12_piece_60 ?_
            refine r_goto hC 65 dX12_piece_61 (by decide) ?_
            refine r_sub [0, 1, 2, 3, 4] rfl ?_
            exact tX12_piece_J65 hC hF hL Q   _ _ _ _ _ _ qa0  _ h
theorem dX12_pieceIs_0 : dec cX12_pieceIs 0 1 1 (.aload_n 0) := ⟨by decide +kernel, rfl⟩
theorem dX12_pieceIs_1 : dec cX12_pieceIs 1 1 2 (.iload_n 1) := ⟨by decide +kernel, rfl⟩
theorem dX12_pieceIs_2 : dec cX12_pieceIs 2 3 5 (.invokevirtual 87) := ⟨by decide +kernel, rfl⟩
theorem dX12_pieceIs_5 : dec cX12_pieceIs 5 3 8 (.ifCond .eq 21) := ⟨by decide +kernel, rfl⟩
theorem dX12_pieceIs_8 : dec cX12_pieceIs 8 1 9 (.iload_n 2) := ⟨by decide +kernel, rfl⟩
theorem dX12_pieceIs_9 : dec cX12_pieceIs 9 1 10 (.iconst 0) := ⟨by decide +kernel, rfl⟩
theorem dX12_pieceIs_10 : dec cX12_pieceIs 10 1 11 (.iconst 5) := ⟨by decide +kernel, rfl⟩
theorem dX12_pieceIs_11 : dec cX12_pieceIs 11 3 14 (.invokestatic 79) := ⟨by decide +kernel, rfl⟩
theorem dX12_pieceIs_14 : dec cX12_pieceIs 14 3 17 (.ifCond .eq 12) := ⟨by decide +kernel, rfl⟩
theorem dX12_pieceIs_17 : dec cX12_pieceIs 17 1 18 (.aload_n 0) := ⟨by decide +kernel, rfl⟩
theorem dX12_pieceIs_18 : dec cX12_pieceIs 18 1 19 (.iload_n 1) := ⟨by decide +kernel, rfl⟩
theorem dX12_pieceIs_19 : dec cX12_pieceIs 19 1 20 (.iload_n 2) := ⟨by decide +kernel, rfl⟩
theorem dX12_pieceIs_20 : dec cX12_pieceIs 20 3 23 (.invokevirtual 91) := ⟨by decide +kernel, rfl⟩
theorem dX12_pieceIs_23 : dec cX12_pieceIs 23 3 26 (.goto 8) := ⟨by decide +kernel, rfl⟩
theorem dX12_pieceIs_26 : dec cX12_pieceIs 26 1 27 (.aload_n 0) := ⟨by decide +kernel, rfl⟩
theorem dX12_pieceIs_27 : dec cX12_pieceIs 27 1 28 (.iconst 1) := ⟨by decide +kernel, rfl⟩
theorem dX12_pieceIs_28 : dec cX12_pieceIs 28 3 31 (.invokevirtual 83) := ⟨by decide +kernel, rfl⟩
theorem dX12_pieceIs_31 : dec cX12_pieceIs 31 1 32 (.ireturn) := ⟨by decide +kernel, rfl⟩
set_option maxHeartbeats 4000000 in
set_option maxRecDepth 100000 in
theorem tX12_pieceIs_J26 {X : Cx} {Y : Yx} {M0 : Mem} (hC : OKX X Y RX12 cX12_pieceIs 3 (some .int) rmX12_pieceIs) (hF : Y.2.2.2.2 = true) (hL : Lay M0) (Q : Int → Mem → Prop)   (a0 : Nat) (qa0 : 0 < a0 ∧ M0 0 a0 = kO 12)  (M : Mem) (h : wX12_pieceIs_J26 Q  a0 M) : WW X Y 3 rmX12_pieceIs (QI Q) M0 0 0 26 [(0, vR Y.1 a0)] [] M := by
  unfold wX12_pieceIs_J26 at h
  refine r_aload_n hC 0 dX12_pieceIs_26 rfl rfl ?_
  refine r_iconst hC dX12_pieceIs_27 ?_
  refine r_callV (As := [vI 1]) (st := []) hC cw_X12_83 rfl qa0.1 qa0.2 rfl rfl (Nat.le_of_ble_eq_true rfl) ⟨Nat.le_of_ble_eq_true rfl, Nat.le_of_ble_eq_true rfl⟩ ⟨Nat.le_of_ble_eq_true rfl, Nat.le_of_ble_eq_true rfl⟩ dX12_pieceIs_28 (fun hk => mX12_error Y hF _ _ _ _ _ (kqO hk qa0) h) (fun v M_3 h => ?_)
  obtain ⟨r_4, rfl, h⟩ := h
  exact r_iret hC (Nat.zero_le _) (Nat.zero_le _) dX12_pieceIs_31 ⟨_, rfl, h⟩
set_option maxHeartbeats 4000000 in
set_option maxRecDepth 100000 in
theorem mX12_pieceIs (Y : Yx) (hF : Y.2.2.2.2 = true) (l : Launch) (a0 : Nat) (x1 : Int) (x2 : Int) (M0 : Mem) (Q : Int → Mem → Prop) (qa0 : 0 < a0 ∧ M0 0 a0 = kO 12) (h : wX12_pieceIs a0 x1 x2 M0 Q) : CT Y l yX12_pieceIs cX12_pieceIs 3 (some .int) rmX12_pieceIs [vR Y.1 a0, vI x1, vI x2] M0 (QI Q) := by
  unfold wX12_pieceIs at h
  refine ct_intro (by decide) (Nat.le_of_ble_eq_true rfl) ?_
  intro X hXl hC hL0
  have hL := hL0 hF
  change OKX X Y RX12 cX12_pieceIs 3 (some .int) rmX12_pieceIs at hC
  change WW X Y 3 rmX12_pieceIs (QI Q) M0 0 0 0 [(0, vR Y.1 a0), (1, vI x1), (2, vI x2)] [] M0
  refine r_aload_n hC 0 dX12_pieceIs_0 rfl rfl ?_
  refine r_iload_n hC 1 dX12_pieceIs_1 rfl rfl ?_
  refine r_callV (As := [vI x1]) (st := []) hC cw_X12_87 rfl qa0.1 qa0.2 rfl rfl (Nat.le_of_ble_eq_true rfl) ⟨Nat.le_of_ble_eq_true rfl, Nat.le_of_ble_eq_true rfl⟩ ⟨Nat.le_of_ble_eq_true rfl, Nat.le_of_ble_eq_true rfl⟩ dX12_pieceIs_2 (fun hk => mX12_isPiece Y hF _ _ _ _ _ (kqO hk qa0) h) (fun v M_1 h => ?_)
  obtain ⟨r_2, rfl, h⟩ := h
  refine r_if_eq hC 26 rfl dX12_pieceIs_5 (by decide) (fun cq => ?_) (fun cq => ?_)
  · replace h := h.1 cq
    refine r_sub [0] rfl ?_
    exact tX12_pieceIs_J26 hC hF hL Q   _ qa0  _ h
  · replace h := h.2 cq
    refine r_iload_n hC 2 dX12_pieceIs_8 rfl rfl ?_
    refine r_iconst hC dX12_pieceIs_9 ?_
    refine r_iconst hC dX12_pieceIs_10 ?_
    refine r_callS (As := [vI x2, vI 0, vI 5]) (st := []) hC cw_X12_79 rfl rfl (Nat.le_of_ble_eq_true rfl) ⟨Nat.le_of_ble_eq_true rfl, Nat.le_of_ble_eq_true rfl⟩ ⟨Nat.le_of_ble_eq_true rfl, Nat.le_of_ble_eq_true rfl⟩ dX12_pieceIs_11 (fun hk => mX12_in Y hF _ _ _ _ _ _  h) (fun v M_5 h => ?_)
    obtain ⟨r_6, rfl, h⟩ := h
    refine r_if_eq hC 26 rfl dX12_pieceIs_14 (by decide) (fun cq => ?_) (fun cq => ?_)
    · replace h := h.1 cq
      refine r_sub [0] rfl ?_
      exact tX12_pieceIs_J26 hC hF hL Q   _ qa0  _ h
    · replace h := h.2 cq
      refine r_aload_n hC 0 dX12_pieceIs_17 rfl rfl ?_
      refine r_iload_n hC 1 dX12_pieceIs_18 rfl rfl ?_
      refine r_iload_n hC 2 dX12_pieceIs_19 rfl rfl ?_
      refine r_callV (As := [vI x1, vI x2]) (st := []) hC cw_X12_91 rfl qa0.1 qa0.2 rfl rfl (Nat.le_of_ble_eq_true rfl) ⟨Nat.le_of_ble_eq_true rfl, Nat.le_of_ble_eq_true rfl⟩ ⟨Nat.le_of_ble_eq_true rfl, Nat.le_of_ble_eq_true rfl⟩ dX12_pieceIs_20 (fun hk => mX12_of Y hF _ _ _ _ _ _ (kqO hk qa0) h) (fun v M_7 h => ?_)
      obtain ⟨r_8, rfl, h⟩ := h
      refine r_goto hC 31 dX12_pieceIs_23 (by decide) ?_
      exact r_iret hC (Nat.zero_le _) (Nat.zero_le _) dX12_pieceIs_31 ⟨_, rfl, h⟩
theorem dX12_rule_0 : dec cX12_rule 0 1 1 (.iload_n 1) := ⟨by decide +kernel, rfl⟩
theorem dX12_rule_1 : dec cX12_rule 1 1 2 (.iconst 2) := ⟨by decide +kernel, rfl⟩
theorem dX12_rule_2 : dec cX12_rule 2 3 5 (.if_icmp .ne 8) := ⟨by decide +kernel, rfl⟩
theorem dX12_rule_5 : dec cX12_rule 5 2 7 (.bipush 60) := ⟨by decide +kernel, rfl⟩
theorem dX12_rule_7 : dec cX12_rule 7 3 10 (.goto 16) := ⟨by decide +kernel, rfl⟩
theorem dX12_rule_10 : dec cX12_rule 10 1 11 (.iload_n 1) := ⟨by decide +kernel, rfl⟩
theorem dX12_rule_11 : dec cX12_rule 11 1 12 (.iconst 3) := ⟨by decide +kernel, rfl⟩
theorem dX12_rule_12 : dec cX12_rule 12 3 15 (.if_icmp .ne 9) := ⟨by decide +kernel, rfl⟩
theorem dX12_rule_15 : dec cX12_rule 15 3 18 (.sipush 999) := ⟨by decide +kernel, rfl⟩
theorem dX12_rule_18 : dec cX12_rule 18 3 21 (.goto 5) := ⟨by decide +kernel, rfl⟩
theorem dX12_rule_21 : dec cX12_rule 21 2 23 (.bipush 9) := ⟨by decide +kernel, rfl⟩
theorem dX12_rule_23 : dec cX12_rule 23 1 24 (.istore_n 3) := ⟨by decide +kernel, rfl⟩
theorem dX12_rule_24 : dec cX12_rule 24 1 25 (.iload_n 1) := ⟨by decide +kernel, rfl⟩
theorem dX12_rule_25 : dec cX12_rule 25 1 26 (.iconst 0) := ⟨by decide +kernel, rfl⟩
theorem dX12_rule_26 : dec cX12_rule 26 1 27 (.iconst 3) := ⟨by decide +kernel, rfl⟩
theorem dX12_rule_27 : dec cX12_rule 27 3 30 (.invokestatic 79) := ⟨by decide +kernel, rfl⟩
theorem dX12_rule_30 : dec cX12_rule 30 3 33 (.ifCond .eq 24) := ⟨by decide +kernel, rfl⟩
theorem dX12_rule_33 : dec cX12_rule 33 1 34 (.iload_n 2) := ⟨by decide +kernel, rfl⟩
theorem dX12_rule_34 : dec cX12_rule 34 1 35 (.iconst 0) := ⟨by decide +kernel, rfl⟩
theorem dX12_rule_35 : dec cX12_rule 35 1 36 (.iload_n 3) := ⟨by decide +kernel, rfl⟩
theorem dX12_rule_36 : dec cX12_rule 36 3 39 (.invokestatic 79) := ⟨by decide +kernel, rfl⟩
theorem dX12_rule_39 : dec cX12_rule 39 3 42 (.ifCond .eq 15) := ⟨by decide +kernel, rfl⟩
theorem dX12_rule_42 : dec cX12_rule 42 1 43 (.aload_n 0) := ⟨by decide +kernel, rfl⟩
theorem dX12_rule_43 : dec cX12_rule 43 2 45 (.bipush 6) := ⟨by decide +kernel, rfl⟩
theorem dX12_rule_45 : dec cX12_rule 45 1 46 (.iload_n 1) := ⟨by decide +kernel, rfl⟩
theorem dX12_rule_46 : dec cX12_rule 46 1 47 (.iadd) := ⟨by decide +kernel, rfl⟩
theorem dX12_rule_47 : dec cX12_rule 47 1 48 (.iload_n 2) := ⟨by decide +kernel, rfl⟩
theorem dX12_rule_48 : dec cX12_rule 48 3 51 (.invokevirtual 95) := ⟨by decide +kernel, rfl⟩
theorem dX12_rule_51 : dec cX12_rule 51 3 54 (.goto 8) := ⟨by decide +kernel, rfl⟩
theorem dX12_rule_54 : dec cX12_rule 54 1 55 (.aload_n 0) := ⟨by decide +kernel, rfl⟩
theorem dX12_rule_55 : dec cX12_rule 55 1 56 (.iconst 1) := ⟨by decide +kernel, rfl⟩
theorem dX12_rule_56 : dec cX12_rule 56 3 59 (.invokevirtual 83) := ⟨by decide +kernel, rfl⟩
theorem dX12_rule_59 : dec cX12_rule 59 1 60 (.ireturn) := ⟨by decide +kernel, rfl⟩
set_option maxHeartbeats 4000000 in
set_option maxRecDepth 100000 in
theorem tX12_rule_J54 {X : Cx} {Y : Yx} {M0 : Mem} (hC : OKX X Y RX12 cX12_rule 4 (some .int) rmX12_rule) (hF : Y.2.2.2.2 = true) (hL : Lay M0) (Q : Int → Mem → Prop)   (a0 : Nat) (qa0 : 0 < a0 ∧ M0 0 a0 = kO 12)  (M : Mem) (h : wX12_rule_J54 Q  a0 M) : WW X Y 4 rmX12_rule (QI Q) M0 0 0 54 [(0, vR Y.1 a0)] [] M := by
  unfold wX12_rule_J54 at h
  refine r_aload_n hC 0 dX12_rule_54 rfl rfl ?_
  refine r_iconst hC dX12_rule_55 ?_
  refine r_callV (As := [vI 1]) (st := []) hC cw_X12_83 rfl qa0.1 qa0.2 rfl rfl (Nat.le_of_ble_eq_true rfl) ⟨Nat.le_of_ble_eq_true rfl, Nat.le_of_ble_eq_true rfl⟩ ⟨Nat.le_of_ble_eq_true rfl, Nat.le_of_ble_eq_true rfl⟩ dX12_rule_56 (fun hk => mX12_error Y hF _ _ _ _ _ (kqO hk qa0) h) (fun v M_3 h => ?_)
  obtain ⟨r_4, rfl, h⟩ := h
  exact r_iret hC (Nat.zero_le _) (Nat.zero_le _) dX12_rule_59 ⟨_, rfl, h⟩
set_option maxHeartbeats 4000000 in
set_option maxRecDepth 100000 in
theorem tX12_rule_J23 {X : Cx} {Y : Yx} {M0 : Mem} (hC : OKX X Y RX12 cX12_rule 4 (some .int) rmX12_rule) (hF : Y.2.2.2.2 = true) (hL : Lay M0) (Q : Int → Mem → Prop)   (a0 : Nat) (x1 : Int) (x2 : Int) (xs0 : Int) (qa0 : 0 < a0 ∧ M0 0 a0 = kO 12)  (M : Mem) (h : wX12_rule_J23 Q  a0 x1 x2 xs0 M) : WW X Y 4 rmX12_rule (QI Q) M0 0 0 23 [(0, vR Y.1 a0), (1, vI x1), (2, vI x2)] [vI xs0] M := by
  unfold wX12_rule_J23 at h
  refine r_istore_n (lv' := [(3, vI xs0), (0, vR Y.1 a0), (1, vI x1), (2, vI x2)]) hC dX12_rule_23 rfl (by decide) rfl ?_
  refine r_iload_n hC 2 dX12_rule_24 rfl rfl ?_
  refine r_iconst hC dX12_rule_25 ?_
  refine r_iconst hC dX12_rule_26 ?_
  refine r_callS (As := [vI x1, vI 0, vI 3]) (st := []) hC cw_X12_79 rfl rfl (Nat.le_of_ble_eq_true rfl) ⟨Nat.le_of_ble_eq_true rfl, Nat.le_of_ble_eq_true rfl⟩ ⟨Nat.le_of_ble_eq_true rfl, Nat.le_of_ble_eq_true rfl⟩ dX12_rule_27 (fun hk => mX12_in Y hF _ _ _ _ _ _  h) (fun v M_1 h => ?_)
  obtain ⟨r_2, rfl, h⟩ := h
  refine r_if_eq hC 54 rfl dX12_rule_30 (by decide) (fun cq => ?_) (fun cq => ?_)
  · replace h := h.1 cq
    refine r_sub [1] rfl ?_
    exact tX12_rule_J54 hC hF hL Q   _ qa0  _ h
  · replace h := h.2 cq
    refine r_iload_n hC 3 dX12_rule_33 rfl rfl ?_
    refine r_iconst hC dX12_rule_34 ?_
    refine r_iload_n hC 0 dX12_rule_35 rfl rfl ?_
    refine r_callS (As := [vI x2, vI 0, vI xs0]) (st := []) hC cw_X12_79 rfl rfl (Nat.le_of_ble_eq_true rfl) ⟨Nat.le_of_ble_eq_true rfl, Nat.le_of_ble_eq_true rfl⟩ ⟨Nat.le_of_ble_eq_true rfl, Nat.le_of_ble_eq_true rfl⟩ dX12_rule_36 (fun hk => mX12_in Y hF _ _ _ _ _ _  h) (fun v M_5 h => ?_)
    obtain ⟨r_6, rfl, h⟩ := h
    refine r_if_eq hC 54 rfl dX12_rule_39 (by decide) (fun cq => ?_) (fun cq => ?_)
    · replace h := h.1 cq
      refine r_sub [1] rfl ?_
      exact tX12_rule_J54 hC hF hL Q   _ qa0  _ h
    · replace h := h.2 cq
      refine r_aload_n hC 1 dX12_rule_42 rfl rfl ?_
      refine r_bipush hC (by decide +kernel) dX12_rule_43 ?_
      refine r_iload_n hC 2 dX12_rule_45 rfl rfl ?_
      refine r_iadd hC dX12_rule_46 ?_
      refine r_iload_n hC 3 dX12_rule_47 rfl rfl ?_
      refine r_callV (As := [vI (6 + x1), vI x2]) (st := []) hC cw_X12_95 rfl qa0.1 qa0.2 rfl rfl (Nat.le_of_ble_eq_true rfl) ⟨Nat.le_of_ble_eq_true rfl, Nat.le_of_ble_eq_true rfl⟩ ⟨Nat.le_of_ble_eq_true rfl, Nat.le_of_ble_eq_true rfl⟩ dX12_rule_48 (fun hk => mX12_become Y hF _ _ _ _ _ _ (kqO hk qa0) h) (fun v M_7 h => ?_)
      obtain ⟨r_8, rfl, h⟩ := h
      refine r_goto hC 59 dX12_rule_51 (by decide) ?_
      exact r_iret hC (Nat.zero_le _) (Nat.zero_le _) dX12_rule_59 ⟨_, rfl, h⟩
set_option maxHeartbeats 4000000 in
set_option maxRecDepth 100000 in
theorem mX12_rule (Y : Yx) (hF : Y.2.2.2.2 = true) (l : Launch) (a0 : Nat) (x1 : Int) (x2 : Int) (M0 : Mem) (Q : Int → Mem → Prop) (qa0 : 0 < a0 ∧ M0 0 a0 = kO 12) (h : wX12_rule a0 x1 x2 M0 Q) : CT Y l yX12_rule cX12_rule 4 (some .int) rmX12_rule [vR Y.1 a0, vI x1, vI x2] M0 (QI Q) := by
  unfold wX12_rule at h
  refine ct_intro (by decide) (Nat.le_of_ble_eq_true rfl) ?_
  intro X hXl hC hL0
  have hL := hL0 hF
  change OKX X Y RX12 cX12_rule 4 (some .int) rmX12_rule at hC
  change WW X Y 4 rmX12_rule (QI Q) M0 0 0 0 [(0, vR Y.1 a0), (1, vI x1), (2, vI x2)] [] M0
  refine r_iload_n hC 1 dX12_rule_0 rfl rfl ?_
  refine r_iconst hC dX12_rule_1 ?_
  refine r_icmp_ne hC 10 rfl bmL_2 dX12_rule_2 (by decide) (fun cq => ?_) (fun cq => ?_)
  · replace h := h.2 cq
    refine r_iload_n hC 1 dX12_rule_10 rfl rfl ?_
    refine r_iconst hC dX12_rule_11 ?_
    refine r_icmp_ne hC 21 rfl bmL_3 dX12_rule_12 (by decide) (fun cq => ?_) (fun cq => ?_)
    · replace h := h.2 cq
      refine r_bipush hC (by decide +kernel) dX12_rule_21 ?_
      refine r_sub [0, 1, 2] rfl ?_
      exact tX12_rule_J23 hC hF hL Q   _ _ _ _ qa0  _ h
    · replace h := h.1 cq
      refine r_sipush hC (by decide +kernel) dX12_rule_15 ?_
      refine r_goto hC 23 dX12_rule_18 (by decide) ?_
      refine r_sub [0, 1, 2] rfl ?_
      exact tX12_rule_J23 hC hF hL Q   _ _ _ _ qa0  _ h
  · replace h := h.1 cq
    refine r_bipush hC (by decide +kernel) dX12_rule_5 ?_
    refine r_goto hC 23 dX12_rule_7 (by decide) ?_
    refine r_sub [0, 1, 2] rfl ?_
    exact tX12_rule_J23 hC hF hL Q   _ _ _ _ qa0  _ h
theorem dX12_liking_0 : dec cX12_liking 0 1 1 (.iload_n 1) := ⟨by decide +kernel, rfl⟩
theorem dX12_liking_1 : dec cX12_liking 1 1 2 (.iconst 0) := ⟨by decide +kernel, rfl⟩
theorem dX12_liking_2 : dec cX12_liking 2 2 4 (.bipush 6) := ⟨by decide +kernel, rfl⟩
theorem dX12_liking_4 : dec cX12_liking 4 3 7 (.invokestatic 79) := ⟨by decide +kernel, rfl⟩
theorem dX12_liking_7 : dec cX12_liking 7 3 10 (.ifCond .eq 24) := ⟨by decide +kernel, rfl⟩
theorem dX12_liking_10 : dec cX12_liking 10 1 11 (.iload_n 2) := ⟨by decide +kernel, rfl⟩
theorem dX12_liking_11 : dec cX12_liking 11 2 13 (.bipush (-9)) := ⟨by decide +kernel, rfl⟩
theorem dX12_liking_13 : dec cX12_liking 13 2 15 (.bipush 9) := ⟨by decide +kernel, rfl⟩
theorem dX12_liking_15 : dec cX12_liking 15 3 18 (.invokestatic 79) := ⟨by decide +kernel, rfl⟩
theorem dX12_liking_18 : dec cX12_liking 18 3 21 (.ifCond .eq 13) := ⟨by decide +kernel, rfl⟩
theorem dX12_liking_21 : dec cX12_liking 21 1 22 (.iload_n 3) := ⟨by decide +kernel, rfl⟩
theorem dX12_liking_22 : dec cX12_liking 22 1 23 (.iconst 1) := ⟨by decide +kernel, rfl⟩
theorem dX12_liking_23 : dec cX12_liking 23 2 25 (.bipush 9) := ⟨by decide +kernel, rfl⟩
theorem dX12_liking_25 : dec cX12_liking 25 3 28 (.invokestatic 79) := ⟨by decide +kernel, rfl⟩
theorem dX12_liking_28 : dec cX12_liking 28 3 31 (.ifCond .ne 9) := ⟨by decide +kernel, rfl⟩
theorem dX12_liking_31 : dec cX12_liking 31 1 32 (.aload_n 0) := ⟨by decide +kernel, rfl⟩
theorem dX12_liking_32 : dec cX12_liking 32 1 33 (.iconst 1) := ⟨by decide +kernel, rfl⟩
theorem dX12_liking_33 : dec cX12_liking 33 3 36 (.invokevirtual 83) := ⟨by decide +kernel, rfl⟩
theorem dX12_liking_36 : dec cX12_liking 36 1 37 (.ireturn) := ⟨by decide +kernel, rfl⟩
theorem dX12_liking_37 : dec cX12_liking 37 1 38 (.aload_n 0) := ⟨by decide +kernel, rfl⟩
theorem dX12_liking_38 : dec cX12_liking 38 3 41 (.getfield 7) := ⟨by decide +kernel, rfl⟩
theorem dX12_liking_41 : dec cX12_liking 41 1 42 (.iconst 1) := ⟨by decide +kernel, rfl⟩
theorem dX12_liking_42 : dec cX12_liking 42 1 43 (.iaload) := ⟨by decide +kernel, rfl⟩
theorem dX12_liking_43 : dec cX12_liking 43 2 45 (.bipush 10) := ⟨by decide +kernel, rfl⟩
theorem dX12_liking_45 : dec cX12_liking 45 3 48 (.if_icmp .ne 9) := ⟨by decide +kernel, rfl⟩
theorem dX12_liking_48 : dec cX12_liking 48 1 49 (.aload_n 0) := ⟨by decide +kernel, rfl⟩
theorem dX12_liking_49 : dec cX12_liking 49 1 50 (.iconst 4) := ⟨by decide +kernel, rfl⟩
theorem dX12_liking_50 : dec cX12_liking 50 3 53 (.invokevirtual 83) := ⟨by decide +kernel, rfl⟩
theorem dX12_liking_53 : dec cX12_liking 53 1 54 (.ireturn) := ⟨by decide +kernel, rfl⟩
theorem dX12_liking_54 : dec cX12_liking 54 2 56 (.bipush 100) := ⟨by decide +kernel, rfl⟩
theorem dX12_liking_56 : dec cX12_liking 56 1 57 (.iconst 4) := ⟨by decide +kernel, rfl⟩
theorem dX12_liking_57 : dec cX12_liking 57 1 58 (.aload_n 0) := ⟨by decide +kernel, rfl⟩
theorem dX12_liking_58 : dec cX12_liking 58 3 61 (.getfield 7) := ⟨by decide +kernel, rfl⟩
theorem dX12_liking_61 : dec cX12_liking 61 1 62 (.iconst 1) := ⟨by decide +kernel, rfl⟩
theorem dX12_liking_62 : dec cX12_liking 62 1 63 (.iaload) := ⟨by decide +kernel, rfl⟩
theorem dX12_liking_63 : dec cX12_liking 63 1 64 (.imul) := ⟨by decide +kernel, rfl⟩
theorem dX12_liking_64 : dec cX12_liking 64 1 65 (.iadd) := ⟨by decide +kernel, rfl⟩
theorem dX12_liking_65 : dec cX12_liking 65 2 67 (.istore 4) := ⟨by decide +kernel, rfl⟩
theorem dX12_liking_67 : dec cX12_liking 67 1 68 (.aload_n 0) := ⟨by decide +kernel, rfl⟩
theorem dX12_liking_68 : dec cX12_liking 68 3 71 (.getfield 7) := ⟨by decide +kernel, rfl⟩
theorem dX12_liking_71 : dec cX12_liking 71 2 73 (.iload 4) := ⟨by decide +kernel, rfl⟩
theorem dX12_liking_73 : dec cX12_liking 73 1 74 (.iconst 0) := ⟨by decide +kernel, rfl⟩
theorem dX12_liking_74 : dec cX12_liking 74 1 75 (.iadd) := ⟨by decide +kernel, rfl⟩
theorem dX12_liking_75 : dec cX12_liking 75 1 76 (.iload_n 1) := ⟨by decide +kernel, rfl⟩
theorem dX12_liking_76 : dec cX12_liking 76 1 77 (.iastore) := ⟨by decide +kernel, rfl⟩
theorem dX12_liking_77 : dec cX12_liking 77 1 78 (.aload_n 0) := ⟨by decide +kernel, rfl⟩
theorem dX12_liking_78 : dec cX12_liking 78 3 81 (.getfield 7) := ⟨by decide +kernel, rfl⟩
theorem dX12_liking_81 : dec cX12_liking 81 2 83 (.iload 4) := ⟨by decide +kernel, rfl⟩
theorem dX12_liking_83 : dec cX12_liking 83 1 84 (.iconst 1) := ⟨by decide +kernel, rfl⟩
theorem dX12_liking_84 : dec cX12_liking 84 1 85 (.iadd) := ⟨by decide +kernel, rfl⟩
theorem dX12_liking_85 : dec cX12_liking 85 1 86 (.iload_n 2) := ⟨by decide +kernel, rfl⟩
theorem dX12_liking_86 : dec cX12_liking 86 1 87 (.iastore) := ⟨by decide +kernel, rfl⟩
theorem dX12_liking_87 : dec cX12_liking 87 1 88 (.aload_n 0) := ⟨by decide +kernel, rfl⟩
theorem dX12_liking_88 : dec cX12_liking 88 3 91 (.getfield 7) := ⟨by decide +kernel, rfl⟩
theorem dX12_liking_91 : dec cX12_liking 91 2 93 (.iload 4) := ⟨by decide +kernel, rfl⟩
theorem dX12_liking_93 : dec cX12_liking 93 1 94 (.iconst 2) := ⟨by decide +kernel, rfl⟩
theorem dX12_liking_94 : dec cX12_liking 94 1 95 (.iadd) := ⟨by decide +kernel, rfl⟩
theorem dX12_liking_95 : dec cX12_liking 95 1 96 (.iload_n 3) := ⟨by decide +kernel, rfl⟩
theorem dX12_liking_96 : dec cX12_liking 96 1 97 (.iastore) := ⟨by decide +kernel, rfl⟩
theorem dX12_liking_97 : dec cX12_liking 97 1 98 (.aload_n 0) := ⟨by decide +kernel, rfl⟩
theorem dX12_liking_98 : dec cX12_liking 98 3 101 (.getfield 7) := ⟨by decide +kernel, rfl⟩
theorem dX12_liking_101 : dec cX12_liking 101 2 103 (.iload 4) := ⟨by decide +kernel, rfl⟩
theorem dX12_liking_103 : dec cX12_liking 103 1 104 (.iconst 3) := ⟨by decide +kernel, rfl⟩
theorem dX12_liking_104 : dec cX12_liking 104 1 105 (.iadd) := ⟨by decide +kernel, rfl⟩
theorem dX12_liking_105 : dec cX12_liking 105 1 106 (.iconst 1) := ⟨by decide +kernel, rfl⟩
theorem dX12_liking_106 : dec cX12_liking 106 1 107 (.iastore) := ⟨by decide +kernel, rfl⟩
theorem dX12_liking_107 : dec cX12_liking 107 1 108 (.aload_n 0) := ⟨by decide +kernel, rfl⟩
theorem dX12_liking_108 : dec cX12_liking 108 3 111 (.getfield 7) := ⟨by decide +kernel, rfl⟩
theorem dX12_liking_111 : dec cX12_liking 111 3 114 (.sipush 150) := ⟨by decide +kernel, rfl⟩
theorem dX12_liking_114 : dec cX12_liking 114 2 116 (.bipush 105) := ⟨by decide +kernel, rfl⟩
theorem dX12_liking_116 : dec cX12_liking 116 1 117 (.aload_n 0) := ⟨by decide +kernel, rfl⟩
theorem dX12_liking_117 : dec cX12_liking 117 3 120 (.getfield 7) := ⟨by decide +kernel, rfl⟩
theorem dX12_liking_120 : dec cX12_liking 120 1 121 (.iconst 1) := ⟨by decide +kernel, rfl⟩
theorem dX12_liking_121 : dec cX12_liking 121 1 122 (.iaload) := ⟨by decide +kernel, rfl⟩
theorem dX12_liking_122 : dec cX12_liking 122 1 123 (.imul) := ⟨by decide +kernel, rfl⟩
theorem dX12_liking_123 : dec cX12_liking 123 1 124 (.iadd) := ⟨by decide +kernel, rfl⟩
theorem dX12_liking_124 : dec cX12_liking 124 1 125 (.iconst 0) := ⟨by decide +kernel, rfl⟩
theorem dX12_liking_125 : dec cX12_liking 125 1 126 (.iastore) := ⟨by decide +kernel, rfl⟩
theorem dX12_liking_126 : dec cX12_liking 126 1 127 (.aload_n 0) := ⟨by decide +kernel, rfl⟩
theorem dX12_liking_127 : dec cX12_liking 127 3 130 (.getfield 7) := ⟨by decide +kernel, rfl⟩
theorem dX12_liking_130 : dec cX12_liking 130 1 131 (.iconst 1) := ⟨by decide +kernel, rfl⟩
theorem dX12_liking_131 : dec cX12_liking 131 1 132 (.dup2) := ⟨by decide +kernel, rfl⟩
theorem dX12_liking_132 : dec cX12_liking 132 1 133 (.iaload) := ⟨by decide +kernel, rfl⟩
theorem dX12_liking_133 : dec cX12_liking 133 1 134 (.iconst 1) := ⟨by decide +kernel, rfl⟩
theorem dX12_liking_134 : dec cX12_liking 134 1 135 (.iadd) := ⟨by decide +kernel, rfl⟩
theorem dX12_liking_135 : dec cX12_liking 135 1 136 (.iastore) := ⟨by decide +kernel, rfl⟩
theorem dX12_liking_136 : dec cX12_liking 136 1 137 (.aload_n 0) := ⟨by decide +kernel, rfl⟩
theorem dX12_liking_137 : dec cX12_liking 137 3 140 (.getfield 7) := ⟨by decide +kernel, rfl⟩
theorem dX12_liking_140 : dec cX12_liking 140 1 141 (.iconst 1) := ⟨by decide +kernel, rfl⟩
theorem dX12_liking_141 : dec cX12_liking 141 1 142 (.iaload) := ⟨by decide +kernel, rfl⟩
theorem dX12_liking_142 : dec cX12_liking 142 1 143 (.iconst 1) := ⟨by decide +kernel, rfl⟩
theorem dX12_liking_143 : dec cX12_liking 143 1 144 (.isub) := ⟨by decide +kernel, rfl⟩
theorem dX12_liking_144 : dec cX12_liking 144 1 145 (.ireturn) := ⟨by decide +kernel, rfl⟩
set_option maxHeartbeats 4000000 in
set_option maxRecDepth 100000 in
theorem tX12_liking_J31 {X : Cx} {Y : Yx} {M0 : Mem} (hC : OKX X Y RX12 cX12_liking 5 (some .int) rmX12_liking) (hF : Y.2.2.2.2 = true) (hL : Lay M0) (Q : Int → Mem → Prop)   (a0 : Nat) (qa0 : 0 < a0 ∧ M0 0 a0 = kO 12)  (M : Mem) (h : wX12_liking_J31 Q  a0 M) : WW X Y 5 rmX12_liking (QI Q) M0 0 0 31 [(0, vR Y.1 a0)] [] M := by
  unfold wX12_liking_J31 at h
  refine r_aload_n hC 0 dX12_liking_31 rfl rfl ?_
  refine r_iconst hC dX12_liking_32 ?_
  refine r_callV (As := [vI 1]) (st := []) hC cw_X12_83 rfl qa0.1 qa0.2 rfl rfl (Nat.le_of_ble_eq_true rfl) ⟨Nat.le_of_ble_eq_true rfl, Nat.le_of_ble_eq_true rfl⟩ ⟨Nat.le_of_ble_eq_true rfl, Nat.le_of_ble_eq_true rfl⟩ dX12_liking_33 (fun hk => mX12_error Y hF _ _ _ _ _ (kqO hk qa0) h) (fun v M_3 h => ?_)
  obtain ⟨r_4, rfl, h⟩ := h
  exact r_iret hC (Nat.zero_le _) (Nat.zero_le _) dX12_liking_36 ⟨_, rfl, h⟩
set_option maxHeartbeats 4000000 in
set_option maxRecDepth 100000 in
theorem mX12_liking (Y : Yx) (hF : Y.2.2.2.2 = true) (l : Launch) (a0 : Nat) (x1 : Int) (x2 : Int) (x3 : Int) (M0 : Mem) (Q : Int → Mem → Prop) (qa0 : 0 < a0 ∧ M0 0 a0 = kO 12) (h : wX12_liking a0 x1 x2 x3 M0 Q) : CT Y l yX12_liking cX12_liking 5 (some .int) rmX12_liking [vR Y.1 a0, vI x1, vI x2, vI x3] M0 (QI Q) := by
  unfold wX12_liking at h
  refine ct_intro (by decide) (Nat.le_of_ble_eq_true rfl) ?_
  intro X hXl hC hL0
  have hL := hL0 hF
  change OKX X Y RX12 cX12_liking 5 (some .int) rmX12_liking at hC
  change WW X Y 5 rmX12_liking (QI Q) M0 0 0 0 [(0, vR Y.1 a0), (1, vI x1), (2, vI x2), (3, vI x3)] [] M0
  refine r_iload_n hC 1 dX12_liking_0 rfl rfl ?_
  refine r_iconst hC dX12_liking_1 ?_
  refine r_bipush hC (by decide +kernel) dX12_liking_2 ?_
  refine r_callS (As := [vI x1, vI 0, vI 6]) (st := []) hC cw_X12_79 rfl rfl (Nat.le_of_ble_eq_true rfl) ⟨Nat.le_of_ble_eq_true rfl, Nat.le_of_ble_eq_true rfl⟩ ⟨Nat.le_of_ble_eq_true rfl, Nat.le_of_ble_eq_true rfl⟩ dX12_liking_4 (fun hk => mX12_in Y hF _ _ _ _ _ _  h) (fun v M_1 h => ?_)
  obtain ⟨r_2, rfl, h⟩ := h
  refine r_if_eq hC 31 rfl dX12_liking_7 (by decide) (fun cq => ?_) (fun cq => ?_)
  · replace h := h.1 cq
    refine r_sub [0] rfl ?_
    exact tX12_liking_J31 hC hF hL Q   _ qa0  _ h
  · replace h := h.2 cq
    refine r_iload_n hC 2 dX12_liking_10 rfl rfl ?_
    refine r_bipush hC (by decide +kernel) dX12_liking_11 ?_
    refine r_bipush hC (by decide +kernel) dX12_liking_13 ?_
    refine r_callS (As := [vI x2, vI ((-9)), vI 9]) (st := []) hC cw_X12_79 rfl rfl (Nat.le_of_ble_eq_true rfl) ⟨Nat.le_of_ble_eq_true rfl, Nat.le_of_ble_eq_true rfl⟩ ⟨Nat.le_of_ble_eq_true rfl, Nat.le_of_ble_eq_true rfl⟩ dX12_liking_15 (fun hk => mX12_in Y hF _ _ _ _ _ _  h) (fun v M_5 h => ?_)
    obtain ⟨r_6, rfl, h⟩ := h
    refine r_if_eq hC 31 rfl dX12_liking_18 (by decide) (fun cq => ?_) (fun cq => ?_)
    · replace h := h.1 cq
      refine r_sub [0] rfl ?_
      exact tX12_liking_J31 hC hF hL Q   _ qa0  _ h
    · replace h := h.2 cq
      refine r_iload_n hC 3 dX12_liking_21 rfl rfl ?_
      refine r_iconst hC dX12_liking_22 ?_
      refine r_bipush hC (by decide +kernel) dX12_liking_23 ?_
      refine r_callS (As := [vI x3, vI 1, vI 9]) (st := []) hC cw_X12_79 rfl rfl (Nat.le_of_ble_eq_true rfl) ⟨Nat.le_of_ble_eq_true rfl, Nat.le_of_ble_eq_true rfl⟩ ⟨Nat.le_of_ble_eq_true rfl, Nat.le_of_ble_eq_true rfl⟩ dX12_liking_25 (fun hk => mX12_in Y hF _ _ _ _ _ _  h) (fun v M_7 h => ?_)
      obtain ⟨r_8, rfl, h⟩ := h
      refine r_if_ne hC 37 rfl dX12_liking_28 (by decide) (fun cq => ?_) (fun cq => ?_)
      · replace h := h.2 cq
        refine r_aload_n hC 0 dX12_liking_37 rfl rfl ?_
        have q_9 : 0 < a0 + 1 ∧ M0 0 (a0 + 1) = kA 0 1522 := lay_f0 (a := a0) hL qa0 fm_12_0
        refine r_getR0 (a' := a0 + 1) hC fg_X12_7 rfl hF fm_12_0 qa0.1 qa0.2 rfl dX12_liking_38 ?_
        refine r_iconst hC dX12_liking_41 ?_
        refine r_iald hC ⟨by decide +kernel, by decide +kernel⟩ q_9.1 q_9.2 (by decide) dX12_liking_42 ?_
        refine r_bipush hC (by decide +kernel) dX12_liking_43 ?_
        refine r_icmp_ne hC 54 rfl bmL_10 dX12_liking_45 (by decide) (fun cq => ?_) (fun cq => ?_)
        · replace h := h.2 cq
          refine r_bipush hC (by decide +kernel) dX12_liking_54 ?_
          refine r_iconst hC dX12_liking_56 ?_
          refine r_aload_n hC 0 dX12_liking_57 rfl rfl ?_
          have q_10 : 0 < a0 + 1 ∧ M0 0 (a0 + 1) = kA 0 1522 := lay_f0 (a := a0) hL qa0 fm_12_0
          refine r_getR0 (a' := a0 + 1) hC fg_X12_7 rfl hF fm_12_0 qa0.1 qa0.2 rfl dX12_liking_58 ?_
          refine r_iconst hC dX12_liking_61 ?_
          refine r_iald hC ⟨by decide +kernel, by decide +kernel⟩ q_10.1 q_10.2 (by decide) dX12_liking_62 ?_
          refine r_imul hC dX12_liking_63 ?_
          refine r_iadd hC dX12_liking_64 ?_
          refine r_nameI h (fun x4_11 h => ?_)
          refine r_istore (lv' := [(4, vI x4_11), (0, vR Y.1 a0), (1, vI x1), (2, vI x2), (3, vI x3)]) hC dX12_liking_65 (by decide) rfl ?_
          refine r_aload_n hC 1 dX12_liking_67 rfl rfl ?_
          have q_12 : 0 < a0 + 1 ∧ M0 0 (a0 + 1) = kA 0 1522 := lay_f0 (a := a0) hL qa0 fm_12_0
          refine r_getR0 (a' := a0 + 1) hC fg_X12_7 rfl hF fm_12_0 qa0.1 qa0.2 rfl dX12_liking_68 ?_
          refine r_iload hC 0 dX12_liking_71 rfl ?_
          refine r_iconst hC dX12_liking_73 ?_
          refine r_iadd hC dX12_liking_74 ?_
          refine r_iload_n hC 2 dX12_liking_75 rfl rfl ?_
          obtain ⟨i_13, h⟩ := h
          refine r_iast hC i_13 q_12.1 q_12.2 (by decide) dX12_liking_76 ?_
          refine r_nameM h (fun M_14 h => ?_)
          refine r_aload_n hC 1 dX12_liking_77 rfl rfl ?_
          have q_15 : 0 < a0 + 1 ∧ M0 0 (a0 + 1) = kA 0 1522 := lay_f0 (a := a0) hL qa0 fm_12_0
          refine r_getR0 (a' := a0 + 1) hC fg_X12_7 rfl hF fm_12_0 qa0.1 qa0.2 rfl dX12_liking_78 ?_
          refine r_iload hC 0 dX12_liking_81 rfl ?_
          refine r_iconst hC dX12_liking_83 ?_
          refine r_iadd hC dX12_liking_84 ?_
          refine r_iload_n hC 3 dX12_liking_85 rfl rfl ?_
          obtain ⟨i_16, h⟩ := h
          refine r_iast hC i_16 q_15.1 q_15.2 (by decide) dX12_liking_86 ?_
          refine r_nameM h (fun M_17 h => ?_)
          refine r_aload_n hC 1 dX12_liking_87 rfl rfl ?_
          have q_18 : 0 < a0 + 1 ∧ M0 0 (a0 + 1) = kA 0 1522 := lay_f0 (a := a0) hL qa0 fm_12_0
          refine r_getR0 (a' := a0 + 1) hC fg_X12_7 rfl hF fm_12_0 qa0.1 qa0.2 rfl dX12_liking_88 ?_
          refine r_iload hC 0 dX12_liking_91 rfl ?_
          refine r_iconst hC dX12_liking_93 ?_
          refine r_iadd hC dX12_liking_94 ?_
          refine r_iload_n hC 4 dX12_liking_95 rfl rfl ?_
          obtain ⟨i_19, h⟩ := h
          refine r_iast hC i_19 q_18.1 q_18.2 (by decide) dX12_liking_96 ?_
          refine r_nameM h (fun M_20 h => ?_)
          refine r_aload_n hC 1 dX12_liking_97 rfl rfl ?_
          have q_21 : 0 < a0 + 1 ∧ M0 0 (a0 + 1) = kA 0 1522 := lay_f0 (a := a0) hL qa0 fm_12_0
          refine r_getR0 (a' := a0 + 1) hC fg_X12_7 rfl hF fm_12_0 qa0.1 qa0.2 rfl dX12_liking_98 ?_
          refine r_iload hC 0 dX12_liking_101 rfl ?_
          refine r_iconst hC dX12_liking_103 ?_
          refine r_iadd hC dX12_liking_104 ?_
          refine r_iconst hC dX12_liking_105 ?_
          obtain ⟨i_22, h⟩ := h
          refine r_iast hC i_22 q_21.1 q_21.2 (by decide) dX12_liking_106 ?_
          refine r_nameM h (fun M_23 h => ?_)
          refine r_aload_n hC 1 dX12_liking_107 rfl rfl ?_
          have q_24 : 0 < a0 + 1 ∧ M0 0 (a0 + 1) = kA 0 1522 := lay_f0 (a := a0) hL qa0 fm_12_0
          refine r_getR0 (a' := a0 + 1) hC fg_X12_7 rfl hF fm_12_0 qa0.1 qa0.2 rfl dX12_liking_108 ?_
          refine r_sipush hC (by decide +kernel) dX12_liking_111 ?_
          refine r_bipush hC (by decide +kernel) dX12_liking_114 ?_
          refine r_aload_n hC 1 dX12_liking_116 rfl rfl ?_
          have q_25 : 0 < a0 + 1 ∧ M0 0 (a0 + 1) = kA 0 1522 := lay_f0 (a := a0) hL qa0 fm_12_0
          refine r_getR0 (a' := a0 + 1) hC fg_X12_7 rfl hF fm_12_0 qa0.1 qa0.2 rfl dX12_liking_117 ?_
          refine r_iconst hC dX12_liking_120 ?_
          refine r_iald hC ⟨by decide +kernel, by decide +kernel⟩ q_25.1 q_25.2 (by decide) dX12_liking_121 ?_
          refine r_imul hC dX12_liking_122 ?_
          refine r_iadd hC dX12_liking_123 ?_
          refine r_iconst hC dX12_liking_124 ?_
          obtain ⟨i_26, h⟩ := h
          refine r_iast hC i_26 q_24.1 q_24.2 (by decide) dX12_liking_125 ?_
          refine r_nameM h (fun M_27 h => ?_)
          refine r_aload_n hC 1 dX12_liking_126 rfl rfl ?_
          have q_28 : 0 < a0 + 1 ∧ M0 0 (a0 + 1) = kA 0 1522 := lay_f0 (a := a0) hL qa0 fm_12_0
          refine r_getR0 (a' := a0 + 1) hC fg_X12_7 rfl hF fm_12_0 qa0.1 qa0.2 rfl dX12_liking_127 ?_
          refine r_iconst hC dX12_liking_130 ?_
          refine r_dup2 hC rfl rfl dX12_liking_131 ?_
          refine r_iald hC ⟨by decide +kernel, by decide +kernel⟩ q_28.1 q_28.2 (by decide) dX12_liking_132 ?_
          refine r_iconst hC dX12_liking_133 ?_
          refine r_iadd hC dX12_liking_134 ?_
          refine r_iast hC ⟨by decide +kernel, by decide +kernel⟩ q_28.1 q_28.2 (by decide) dX12_liking_135 ?_
          refine r_nameM h (fun M_29 h => ?_)
          refine r_aload_n hC 1 dX12_liking_136 rfl rfl ?_
          have q_30 : 0 < a0 + 1 ∧ M0 0 (a0 + 1) = kA 0 1522 := lay_f0 (a := a0) hL qa0 fm_12_0
          refine r_getR0 (a' := a0 + 1) hC fg_X12_7 rfl hF fm_12_0 qa0.1 qa0.2 rfl dX12_liking_137 ?_
          refine r_iconst hC dX12_liking_140 ?_
          refine r_iald hC ⟨by decide +kernel, by decide +kernel⟩ q_30.1 q_30.2 (by decide) dX12_liking_141 ?_
          refine r_iconst hC dX12_liking_142 ?_
          refine r_isub hC dX12_liking_143 ?_
          exact r_iret hC (Nat.zero_le _) (Nat.zero_le _) dX12_liking_144 ⟨_, rfl, h⟩
        · replace h := h.1 cq
          refine r_aload_n hC 0 dX12_liking_48 rfl rfl ?_
          refine r_iconst hC dX12_liking_49 ?_
          refine r_callV (As := [vI 4]) (st := []) hC cw_X12_83 rfl qa0.1 qa0.2 rfl rfl (Nat.le_of_ble_eq_true rfl) ⟨Nat.le_of_ble_eq_true rfl, Nat.le_of_ble_eq_true rfl⟩ ⟨Nat.le_of_ble_eq_true rfl, Nat.le_of_ble_eq_true rfl⟩ dX12_liking_50 (fun hk => mX12_error Y hF _ _ _ _ _ (kqO hk qa0) h) (fun v M_31 h => ?_)
          obtain ⟨r_32, rfl, h⟩ := h
          exact r_iret hC (Nat.zero_le _) (Nat.zero_le _) dX12_liking_53 ⟨_, rfl, h⟩
      · replace h := h.1 cq
        refine r_sub [0] rfl ?_
        exact tX12_liking_J31 hC hF hL Q   _ qa0  _ h
