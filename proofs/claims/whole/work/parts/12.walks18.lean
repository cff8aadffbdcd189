theorem dX12_less_0 : dec cX12_less 0 1 1 (.iload_n 1) := ⟨by decide +kernel, rfl⟩
theorem dX12_less_1 : dec cX12_less 1 1 2 (.iload_n 2) := ⟨by decide +kernel, rfl⟩
theorem dX12_less_2 : dec cX12_less 2 1 3 (.aload_n 0) := ⟨by decide +kernel, rfl⟩
theorem dX12_less_3 : dec cX12_less 3 3 6 (.getfield 7) := ⟨by decide +kernel, rfl⟩
theorem dX12_less_6 : dec cX12_less 6 2 8 (.bipush 7) := ⟨by decide +kernel, rfl⟩
theorem dX12_less_8 : dec cX12_less 8 1 9 (.iaload) := ⟨by decide +kernel, rfl⟩
theorem dX12_less_9 : dec cX12_less 9 1 10 (.imul) := ⟨by decide +kernel, rfl⟩
theorem dX12_less_10 : dec cX12_less 10 1 11 (.isub) := ⟨by decide +kernel, rfl⟩
theorem dX12_less_11 : dec cX12_less 11 1 12 (.istore_n 3) := ⟨by decide +kernel, rfl⟩
theorem dX12_less_12 : dec cX12_less 12 1 13 (.iload_n 3) := ⟨by decide +kernel, rfl⟩
theorem dX12_less_13 : dec cX12_less 13 3 16 (.ifCond .ge 7) := ⟨by decide +kernel, rfl⟩
theorem dX12_less_16 : dec cX12_less 16 1 17 (.iconst 0) := ⟨by decide +kernel, rfl⟩
theorem dX12_less_17 : dec cX12_less 17 3 20 (.goto 4) := ⟨by decide +kernel, rfl⟩
theorem dX12_less_20 : dec cX12_less 20 1 21 (.iload_n 3) := ⟨by decide +kernel, rfl⟩
theorem dX12_less_21 : dec cX12_less 21 1 22 (.ireturn) := ⟨by decide +kernel, rfl⟩
set_option maxHeartbeats 4000000 in
set_option maxRecDepth 100000 in
theorem mX12_less (Y : Yx) (hF : Y.2.2.2.2 = true) (l : Launch) (a0 : Nat) (x1 : Int) (x2 : Int) (M0 : Mem) (Q : Int → Mem → Prop) (qa0 : 0 < a0 ∧ M0 0 a0 = kO 12) (h : wX12_less a0 x1 x2 M0 Q) : CT Y l yX12_less cX12_less 4 (some .int) rmX12_less [vR Y.1 a0, vI x1, vI x2] M0 (QI Q) := by
  unfold wX12_less at h
  refine ct_intro (by decide) (Nat.le_of_ble_eq_true rfl) ?_
  intro X hXl hC hL0
  have hL := hL0 hF
  change OKX X Y RX12 cX12_less 4 (some .int) rmX12_less at hC
  change WW X Y 4 rmX12_less (QI Q) M0 0 0 0 [(0, vR Y.1 a0), (1, vI x1), (2, vI x2)] [] M0
  refine r_iload_n hC 1 dX12_less_0 rfl rfl ?_
  refine r_iload_n hC 2 dX12_less_1 rfl rfl ?_
  refine r_aload_n hC 0 dX12_less_2 rfl rfl ?_
  have q_1 : 0 < a0 + 1 ∧ M0 0 (a0 + 1) = kA 0 1522 := lay_f0 (a := a0) hL qa0 fm_12_0
  refine r_getR0 (a' := a0 + 1) hC fg_X12_7 rfl hF fm_12_0 qa0.1 qa0.2 rfl dX12_less_3 ?_
  refine r_bipush hC (by decide +kernel) dX12_less_6 ?_
  refine r_iald hC ⟨by decide +kernel, by decide +kernel⟩ q_1.1 q_1.2 (by decide) dX12_less_8 ?_
  refine r_imul hC dX12_less_9 ?_
  refine r_isub hC dX12_less_10 ?_
  refine r_nameI h (fun x3_2 h => ?_)
  refine r_istore_n (lv' := [(3, vI x3_2), (0, vR Y.1 a0), (1, vI x1), (2, vI x2)]) hC dX12_less_11 rfl (by decide) rfl ?_
  refine r_iload_n hC 0 dX12_less_12 rfl rfl ?_
  refine r_if_ge hC 20 rfl dX12_less_13 (by decide) (fun cq => ?_) (fun cq => ?_)
  · replace h := h.1 cq
    refine r_iload_n hC 0 dX12_less_20 rfl rfl ?_
    exact r_iret hC (Nat.zero_le _) (Nat.zero_le _) dX12_less_21 ⟨_, rfl, h⟩
  · replace h := h.2 cq
    refine r_iconst hC dX12_less_16 ?_
    refine r_goto hC 21 dX12_less_17 (by decide) ?_
    exact r_iret hC (Nat.zero_le _) (Nat.zero_le _) dX12_less_21 ⟨_, rfl, h⟩
theorem dX12_layRow_0 : dec cX12_layRow 0 1 1 (.iconst 0) := ⟨by decide +kernel, rfl⟩
theorem dX12_layRow_1 : dec cX12_layRow 1 1 2 (.istore_n 1) := ⟨by decide +kernel, rfl⟩
theorem dX12_layRow_2 : dec cX12_layRow 2 1 3 (.iload_n 1) := ⟨by decide +kernel, rfl⟩
theorem dX12_layRow_3 : dec cX12_layRow 3 1 4 (.aload_n 0) := ⟨by decide +kernel, rfl⟩
theorem dX12_layRow_4 : dec cX12_layRow 4 3 7 (.getfield 162) := ⟨by decide +kernel, rfl⟩
theorem dX12_layRow_7 : dec cX12_layRow 7 3 10 (.if_icmp .ge 232) := ⟨by decide +kernel, rfl⟩
theorem dX12_layRow_10 : dec cX12_layRow 10 1 11 (.iload_n 1) := ⟨by decide +kernel, rfl⟩
theorem dX12_layRow_11 : dec cX12_layRow 11 3 14 (.ifCond .ne 7) := ⟨by decide +kernel, rfl⟩
theorem dX12_layRow_14 : dec cX12_layRow 14 1 15 (.iconst 0) := ⟨by decide +kernel, rfl⟩
theorem dX12_layRow_15 : dec cX12_layRow 15 3 18 (.goto 47) := ⟨by decide +kernel, rfl⟩
theorem dX12_layRow_18 : dec cX12_layRow 18 1 19 (.aload_n 0) := ⟨by decide +kernel, rfl⟩
theorem dX12_layRow_19 : dec cX12_layRow 19 1 20 (.iload_n 1) := ⟨by decide +kernel, rfl⟩
theorem dX12_layRow_20 : dec cX12_layRow 20 3 23 (.invokevirtual 165) := ⟨by decide +kernel, rfl⟩
theorem dX12_layRow_23 : dec cX12_layRow 23 3 26 (.ifCond .eq 13) := ⟨by decide +kernel, rfl⟩
theorem dX12_layRow_26 : dec cX12_layRow 26 1 27 (.aload_n 0) := ⟨by decide +kernel, rfl⟩
theorem dX12_layRow_27 : dec cX12_layRow 27 3 30 (.getfield 7) := ⟨by decide +kernel, rfl⟩
theorem dX12_layRow_30 : dec cX12_layRow 30 2 32 (.bipush 8) := ⟨by decide +kernel, rfl⟩
theorem dX12_layRow_32 : dec cX12_layRow 32 1 33 (.iaload) := ⟨by decide +kernel, rfl⟩
theorem dX12_layRow_33 : dec cX12_layRow 33 3 36 (.goto 29) := ⟨by decide +kernel, rfl⟩
theorem dX12_layRow_36 : dec cX12_layRow 36 1 37 (.aload_n 0) := ⟨by decide +kernel, rfl⟩
theorem dX12_layRow_37 : dec cX12_layRow 37 1 38 (.aload_n 0) := ⟨by decide +kernel, rfl⟩
theorem dX12_layRow_38 : dec cX12_layRow 38 3 41 (.getfield 28) := ⟨by decide +kernel, rfl⟩
theorem dX12_layRow_41 : dec cX12_layRow 41 1 42 (.iload_n 1) := ⟨by decide +kernel, rfl⟩
theorem dX12_layRow_42 : dec cX12_layRow 42 1 43 (.iconst 1) := ⟨by decide +kernel, rfl⟩
theorem dX12_layRow_43 : dec cX12_layRow 43 1 44 (.isub) := ⟨by decide +kernel, rfl⟩
theorem dX12_layRow_44 : dec cX12_layRow 44 1 45 (.iaload) := ⟨by decide +kernel, rfl⟩
theorem dX12_layRow_45 : dec cX12_layRow 45 1 46 (.aload_n 0) := ⟨by decide +kernel, rfl⟩
theorem dX12_layRow_46 : dec cX12_layRow 46 3 49 (.getfield 28) := ⟨by decide +kernel, rfl⟩
theorem dX12_layRow_49 : dec cX12_layRow 49 1 50 (.iload_n 1) := ⟨by decide +kernel, rfl⟩
theorem dX12_layRow_50 : dec cX12_layRow 50 1 51 (.iaload) := ⟨by decide +kernel, rfl⟩
theorem dX12_layRow_51 : dec cX12_layRow 51 3 54 (.invokevirtual 168) := ⟨by decide +kernel, rfl⟩
theorem dX12_layRow_54 : dec cX12_layRow 54 1 55 (.aload_n 0) := ⟨by decide +kernel, rfl⟩
theorem dX12_layRow_55 : dec cX12_layRow 55 3 58 (.getfield 7) := ⟨by decide +kernel, rfl⟩
theorem dX12_layRow_58 : dec cX12_layRow 58 2 60 (.bipush 6) := ⟨by decide +kernel, rfl⟩
theorem dX12_layRow_60 : dec cX12_layRow 60 1 61 (.iaload) := ⟨by decide +kernel, rfl⟩
theorem dX12_layRow_61 : dec cX12_layRow 61 1 62 (.imul) := ⟨by decide +kernel, rfl⟩
theorem dX12_layRow_62 : dec cX12_layRow 62 1 63 (.istore_n 2) := ⟨by decide +kernel, rfl⟩
theorem dX12_layRow_63 : dec cX12_layRow 63 1 64 (.aload_n 0) := ⟨by decide +kernel, rfl⟩
theorem dX12_layRow_64 : dec cX12_layRow 64 3 67 (.getfield 31) := ⟨by decide +kernel, rfl⟩
theorem dX12_layRow_67 : dec cX12_layRow 67 1 68 (.iload_n 1) := ⟨by decide +kernel, rfl⟩
theorem dX12_layRow_68 : dec cX12_layRow 68 1 69 (.iload_n 1) := ⟨by decide +kernel, rfl⟩
theorem dX12_layRow_69 : dec cX12_layRow 69 3 72 (.ifCond .ne 7) := ⟨by decide +kernel, rfl⟩
theorem dX12_layRow_72 : dec cX12_layRow 72 1 73 (.iconst 0) := ⟨by decide +kernel, rfl⟩
theorem dX12_layRow_73 : dec cX12_layRow 73 3 76 (.goto 13) := ⟨by decide +kernel, rfl⟩
theorem dX12_layRow_76 : dec cX12_layRow 76 1 77 (.aload_n 0) := ⟨by decide +kernel, rfl⟩
theorem dX12_layRow_77 : dec cX12_layRow 77 3 80 (.getfield 34) := ⟨by decide +kernel, rfl⟩
theorem dX12_layRow_80 : dec cX12_layRow 80 1 81 (.iload_n 1) := ⟨by decide +kernel, rfl⟩
theorem dX12_layRow_81 : dec cX12_layRow 81 1 82 (.iconst 1) := ⟨by decide +kernel, rfl⟩
theorem dX12_layRow_82 : dec cX12_layRow 82 1 83 (.isub) := ⟨by decide +kernel, rfl⟩
theorem dX12_layRow_83 : dec cX12_layRow 83 1 84 (.iaload) := ⟨by decide +kernel, rfl⟩
theorem dX12_layRow_84 : dec cX12_layRow 84 1 85 (.iload_n 2) := ⟨by decide +kernel, rfl⟩
theorem dX12_layRow_85 : dec cX12_layRow 85 1 86 (.iadd) := ⟨by decide +kernel, rfl⟩
theorem dX12_layRow_86 : dec cX12_layRow 86 1 87 (.iastore) := ⟨by decide +kernel, rfl⟩
theorem dX12_layRow_87 : dec cX12_layRow 87 1 88 (.aload_n 0) := ⟨by decide +kernel, rfl⟩
theorem dX12_layRow_88 : dec cX12_layRow 88 3 91 (.getfield 34) := ⟨by decide +kernel, rfl⟩
theorem dX12_layRow_91 : dec cX12_layRow 91 1 92 (.iload_n 1) := ⟨by decide +kernel, rfl⟩
theorem dX12_layRow_92 : dec cX12_layRow 92 1 93 (.aload_n 0) := ⟨by decide +kernel, rfl⟩
theorem dX12_layRow_93 : dec cX12_layRow 93 3 96 (.getfield 31) := ⟨by decide +kernel, rfl⟩
theorem dX12_layRow_96 : dec cX12_layRow 96 1 97 (.iload_n 1) := ⟨by decide +kernel, rfl⟩
theorem dX12_layRow_97 : dec cX12_layRow 97 1 98 (.iaload) := ⟨by decide +kernel, rfl⟩
theorem dX12_layRow_98 : dec cX12_layRow 98 1 99 (.aload_n 0) := ⟨by decide +kernel, rfl⟩
theorem dX12_layRow_99 : dec cX12_layRow 99 1 100 (.aload_n 0) := ⟨by decide +kernel, rfl⟩
theorem dX12_layRow_100 : dec cX12_layRow 100 3 103 (.getfield 28) := ⟨by decide +kernel, rfl⟩
theorem dX12_layRow_103 : dec cX12_layRow 103 1 104 (.iload_n 1) := ⟨by decide +kernel, rfl⟩
theorem dX12_layRow_104 : dec cX12_layRow 104 1 105 (.iaload) := ⟨by decide +kernel, rfl⟩
theorem dX12_layRow_105 : dec cX12_layRow 105 1 106 (.iconst 0) := ⟨by decide +kernel, rfl⟩
theorem dX12_layRow_106 : dec cX12_layRow 106 3 109 (.invokevirtual 91) := ⟨by decide +kernel, rfl⟩
theorem dX12_layRow_109 : dec cX12_layRow 109 1 110 (.iadd) := ⟨by decide +kernel, rfl⟩
theorem dX12_layRow_110 : dec cX12_layRow 110 1 111 (.iastore) := ⟨by decide +kernel, rfl⟩
theorem dX12_layRow_111 : dec cX12_layRow 111 1 112 (.iconst 0) := ⟨by decide +kernel, rfl⟩
theorem dX12_layRow_112 : dec cX12_layRow 112 1 113 (.istore_n 3) := ⟨by decide +kernel, rfl⟩
theorem dX12_layRow_113 : dec cX12_layRow 113 1 114 (.iload_n 3) := ⟨by decide +kernel, rfl⟩
theorem dX12_layRow_114 : dec cX12_layRow 114 2 116 (.bipush 8) := ⟨by decide +kernel, rfl⟩
theorem dX12_layRow_116 : dec cX12_layRow 116 3 119 (.if_icmp .ge 117) := ⟨by decide +kernel, rfl⟩
theorem dX12_layRow_119 : dec cX12_layRow 119 1 120 (.iload_n 1) := ⟨by decide +kernel, rfl⟩
theorem dX12_layRow_120 : dec cX12_layRow 120 3 123 (.ifCond .ne 7) := ⟨by decide +kernel, rfl⟩
theorem dX12_layRow_123 : dec cX12_layRow 123 1 124 (.iconst 0) := ⟨by decide +kernel, rfl⟩
theorem dX12_layRow_124 : dec cX12_layRow 124 3 127 (.goto 16) := ⟨by decide +kernel, rfl⟩
theorem dX12_layRow_127 : dec cX12_layRow 127 1 128 (.aload_n 0) := ⟨by decide +kernel, rfl⟩
theorem dX12_layRow_128 : dec cX12_layRow 128 3 131 (.getfield 37) := ⟨by decide +kernel, rfl⟩
theorem dX12_layRow_131 : dec cX12_layRow 131 2 133 (.bipush 8) := ⟨by decide +kernel, rfl⟩
theorem dX12_layRow_133 : dec cX12_layRow 133 1 134 (.iload_n 1) := ⟨by decide +kernel, rfl⟩
theorem dX12_layRow_134 : dec cX12_layRow 134 1 135 (.iconst 1) := ⟨by decide +kernel, rfl⟩
theorem dX12_layRow_135 : dec cX12_layRow 135 1 136 (.isub) := ⟨by decide +kernel, rfl⟩
theorem dX12_layRow_136 : dec cX12_layRow 136 1 137 (.imul) := ⟨by decide +kernel, rfl⟩
theorem dX12_layRow_137 : dec cX12_layRow 137 1 138 (.iload_n 3) := ⟨by decide +kernel, rfl⟩
theorem dX12_layRow_138 : dec cX12_layRow 138 1 139 (.iadd) := ⟨by decide +kernel, rfl⟩
theorem dX12_layRow_139 : dec cX12_layRow 139 1 140 (.iaload) := ⟨by decide +kernel, rfl⟩
theorem dX12_layRow_140 : dec cX12_layRow 140 2 142 (.istore 4) := ⟨by decide +kernel, rfl⟩
theorem dX12_layRow_142 : dec cX12_layRow 142 1 143 (.aload_n 0) := ⟨by decide +kernel, rfl⟩
theorem dX12_layRow_143 : dec cX12_layRow 143 2 145 (.iload 4) := ⟨by decide +kernel, rfl⟩
theorem dX12_layRow_145 : dec cX12_layRow 145 1 146 (.iload_n 2) := ⟨by decide +kernel, rfl⟩
theorem dX12_layRow_146 : dec cX12_layRow 146 3 149 (.invokevirtual 171) := ⟨by decide +kernel, rfl⟩
theorem dX12_layRow_149 : dec cX12_layRow 149 2 151 (.istore 5) := ⟨by decide +kernel, rfl⟩
theorem dX12_layRow_151 : dec cX12_layRow 151 1 152 (.aload_n 0) := ⟨by decide +kernel, rfl⟩
theorem dX12_layRow_152 : dec cX12_layRow 152 1 153 (.aload_n 0) := ⟨by decide +kernel, rfl⟩
theorem dX12_layRow_153 : dec cX12_layRow 153 3 156 (.getfield 28) := ⟨by decide +kernel, rfl⟩
theorem dX12_layRow_156 : dec cX12_layRow 156 1 157 (.iload_n 1) := ⟨by decide +kernel, rfl⟩
theorem dX12_layRow_157 : dec cX12_layRow 157 1 158 (.iaload) := ⟨by decide +kernel, rfl⟩
theorem dX12_layRow_158 : dec cX12_layRow 158 1 159 (.iconst 3) := ⟨by decide +kernel, rfl⟩
theorem dX12_layRow_159 : dec cX12_layRow 159 3 162 (.invokevirtual 91) := ⟨by decide +kernel, rfl⟩
theorem dX12_layRow_162 : dec cX12_layRow 162 1 163 (.iload_n 3) := ⟨by decide +kernel, rfl⟩
theorem dX12_layRow_163 : dec cX12_layRow 163 1 164 (.ishr) := ⟨by decide +kernel, rfl⟩
theorem dX12_layRow_164 : dec cX12_layRow 164 1 165 (.iconst 1) := ⟨by decide +kernel, rfl⟩
theorem dX12_layRow_165 : dec cX12_layRow 165 1 166 (.iand) := ⟨by decide +kernel, rfl⟩
theorem dX12_layRow_166 : dec cX12_layRow 166 1 167 (.iconst 1) := ⟨by decide +kernel, rfl⟩
theorem dX12_layRow_167 : dec cX12_layRow 167 3 170 (.if_icmp .ne 7) := ⟨by decide +kernel, rfl⟩
theorem dX12_layRow_170 : dec cX12_layRow 170 1 171 (.iconst 1) := ⟨by decide +kernel, rfl⟩
theorem dX12_layRow_171 : dec cX12_layRow 171 3 174 (.goto 4) := ⟨by decide +kernel, rfl⟩
theorem dX12_layRow_174 : dec cX12_layRow 174 1 175 (.iconst 0) := ⟨by decide +kernel, rfl⟩
theorem dX12_layRow_175 : dec cX12_layRow 175 2 177 (.istore 6) := ⟨by decide +kernel, rfl⟩
theorem dX12_layRow_177 : dec cX12_layRow 177 1 178 (.aload_n 0) := ⟨by decide +kernel, rfl⟩
theorem dX12_layRow_178 : dec cX12_layRow 178 3 181 (.getfield 37) := ⟨by decide +kernel, rfl⟩
theorem dX12_layRow_181 : dec cX12_layRow 181 2 183 (.bipush 8) := ⟨by decide +kernel, rfl⟩
theorem dX12_layRow_183 : dec cX12_layRow 183 1 184 (.iload_n 1) := ⟨by decide +kernel, rfl⟩
theorem dX12_layRow_184 : dec cX12_layRow 184 1 185 (.imul) := ⟨by decide +kernel, rfl⟩
theorem dX12_layRow_185 : dec cX12_layRow 185 1 186 (.iload_n 3) := ⟨by decide +kernel, rfl⟩
theorem dX12_layRow_186 : dec cX12_layRow 186 1 187 (.iadd) := ⟨by decide +kernel, rfl⟩
theorem dX12_layRow_187 : dec cX12_layRow 187 2 189 (.iload 6) := ⟨by decide +kernel, rfl⟩
theorem dX12_layRow_189 : dec cX12_layRow 189 3 192 (.ifCond .eq 20) := ⟨by decide +kernel, rfl⟩
theorem dX12_layRow_192 : dec cX12_layRow 192 2 194 (.iload 5) := ⟨by decide +kernel, rfl⟩
theorem dX12_layRow_194 : dec cX12_layRow 194 1 195 (.aload_n 0) := ⟨by decide +kernel, rfl⟩
theorem dX12_layRow_195 : dec cX12_layRow 195 1 196 (.aload_n 0) := ⟨by decide +kernel, rfl⟩
theorem dX12_layRow_196 : dec cX12_layRow 196 3 199 (.getfield 28) := ⟨by decide +kernel, rfl⟩
theorem dX12_layRow_199 : dec cX12_layRow 199 1 200 (.iload_n 1) := ⟨by decide +kernel, rfl⟩
theorem dX12_layRow_200 : dec cX12_layRow 200 1 201 (.iaload) := ⟨by decide +kernel, rfl⟩
theorem dX12_layRow_201 : dec cX12_layRow 201 1 202 (.iconst 5) := ⟨by decide +kernel, rfl⟩
theorem dX12_layRow_202 : dec cX12_layRow 202 3 205 (.invokevirtual 91) := ⟨by decide +kernel, rfl⟩
theorem dX12_layRow_205 : dec cX12_layRow 205 1 206 (.iadd) := ⟨by decide +kernel, rfl⟩
theorem dX12_layRow_206 : dec cX12_layRow 206 3 209 (.goto 20) := ⟨by decide +kernel, rfl⟩
theorem dX12_layRow_209 : dec cX12_layRow 209 1 210 (.aload_n 0) := ⟨by decide +kernel, rfl⟩
theorem dX12_layRow_210 : dec cX12_layRow 210 2 212 (.iload 5) := ⟨by decide +kernel, rfl⟩
theorem dX12_layRow_212 : dec cX12_layRow 212 1 213 (.aload_n 0) := ⟨by decide +kernel, rfl⟩
theorem dX12_layRow_213 : dec cX12_layRow 213 1 214 (.aload_n 0) := ⟨by decide +kernel, rfl⟩
theorem dX12_layRow_214 : dec cX12_layRow 214 3 217 (.getfield 28) := ⟨by decide +kernel, rfl⟩
theorem dX12_layRow_217 : dec cX12_layRow 217 1 218 (.iload_n 1) := ⟨by decide +kernel, rfl⟩
theorem dX12_layRow_218 : dec cX12_layRow 218 1 219 (.iaload) := ⟨by decide +kernel, rfl⟩
theorem dX12_layRow_219 : dec cX12_layRow 219 1 220 (.iconst 0) := ⟨by decide +kernel, rfl⟩
theorem dX12_layRow_220 : dec cX12_layRow 220 3 223 (.invokevirtual 91) := ⟨by decide +kernel, rfl⟩
theorem dX12_layRow_223 : dec cX12_layRow 223 3 226 (.invokevirtual 171) := ⟨by decide +kernel, rfl⟩
theorem dX12_layRow_226 : dec cX12_layRow 226 1 227 (.iastore) := ⟨by decide +kernel, rfl⟩
theorem dX12_layRow_227 : dec cX12_layRow 227 3 230 (.iinc 3 1) := ⟨by decide +kernel, rfl⟩
theorem dX12_layRow_230 : dec cX12_layRow 230 3 233 (.goto (-117)) := ⟨by decide +kernel, rfl⟩
theorem dX12_layRow_233 : dec cX12_layRow 233 3 236 (.iinc 1 1) := ⟨by decide +kernel, rfl⟩
theorem dX12_layRow_236 : dec cX12_layRow 236 3 239 (.goto (-234)) := ⟨by decide +kernel, rfl⟩
theorem dX12_layRow_239 : dec cX12_layRow 239 1 240 (.return_) := ⟨by decide +kernel, rfl⟩
set_option maxHeartbeats 4000000 in
set_option maxRecDepth 100000 in
theorem tX12_layRow_J226 {X : Cx} {Y : Yx} {M0 : Mem} (hC : OKX X Y RX12 cX12_layRow 7 none rmX12_layRow) (hF : Y.2.2.2.2 = true) (hL : Lay M0) (Q : Mem → Prop) (C113 : Int → Mem → Prop)  (a0 : Nat) (x1 : Int) (x2 : Int) (x3 : Int) (xs0 : Int) (xs1 : Int) (as2 : Nat) (qa0 : 0 < a0 ∧ M0 0 a0 = kO 12) (qas2 : 0 < as2 ∧ M0 0 as2 = kA 0 96) (hC113 : ∀ (x3 : Int) (M : Mem), C113 x3 M → WW X Y 7 rmX12_layRow (QV Q) M0 0 0 113 [(0, vR Y.1 a0), (1, vI x1), (2, vI x2), (3, vI x3)] [] M) (M : Mem) (h : wX12_layRow_J226 Q C113 a0 x1 x2 x3 xs0 xs1 as2 M) : WW X Y 7 rmX12_layRow (QV Q) M0 0 0 226 [(0, vR Y.1 a0), (1, vI x1), (2, vI x2), (3, vI x3)] [vI xs0, vI xs1, vR Y.1 as2] M := by
  unfold wX12_layRow_J226 at h
  obtain ⟨i_39, h⟩ := h
  refine r_iast hC i_39 qas2.1 qas2.2 (by decide) dX12_layRow_226 ?_
  refine r_nameM h (fun M_40 h => ?_)
  refine let_elim h (fun x3_41 e_42 h => ?_)
  refine r_iinc (lv' := [(3, vI x3_41), (0, vR Y.1 a0), (1, vI x1), (2, vI x2)]) hC 3 dX12_layRow_227 rfl (by decide) e_42 rfl ?_
  refine r_goto hC 113 dX12_layRow_230 (by decide) ?_
  refine r_sub [1, 2, 3, 0] rfl ?_
  exact hC113 _ _ h
set_option maxHeartbeats 4000000 in
set_option maxRecDepth 100000 in
theorem tX12_layRow_J175 {X : Cx} {Y : Yx} {M0 : Mem} (hC : OKX X Y RX12 cX12_layRow 7 none rmX12_layRow) (hF : Y.2.2.2.2 = true) (hL : Lay M0) (Q : Mem → Prop) (C113 : Int → Mem → Prop)  (a0 : Nat) (x1 : Int) (x2 : Int) (x3 : Int) (x5 : Int) (xs0 : Int) (qa0 : 0 < a0 ∧ M0 0 a0 = kO 12) (hC113 : ∀ (x3 : Int) (M : Mem), C113 x3 M → WW X Y 7 rmX12_layRow (QV Q) M0 0 0 113 [(0, vR Y.1 a0), (1, vI x1), (2, vI x2), (3, vI x3)] [] M) (M : Mem) (h : wX12_layRow_J175 Q C113 a0 x1 x2 x3 x5 xs0 M) : WW X Y 7 rmX12_layRow (QV Q) M0 0 0 175 [(0, vR Y.1 a0), (1, vI x1), (2, vI x2), (3, vI x3), (5, vI x5)] [vI xs0] M := by
  unfold wX12_layRow_J175 at h
  refine r_istore (lv' := [(6, vI xs0), (0, vR Y.1 a0), (1, vI x1), (2, vI x2), (3, vI x3), (5, vI x5)]) hC dX12_layRow_175 (by decide) rfl ?_
  refine r_aload_n hC 1 dX12_layRow_177 rfl rfl ?_
  have q_32 : 0 < a0 + 10 ∧ M0 0 (a0 + 10) = kA 0 96 := lay_f0 (a := a0) hL qa0 fm_12_17
  refine r_getR0 (a' := a0 + 10) hC fg_X12_37 rfl hF fm_12_17 qa0.1 qa0.2 rfl dX12_layRow_178 ?_
  refine r_bipush hC (by decide +kernel) dX12_layRow_181 ?_
  refine r_iload_n hC 2 dX12_layRow_183 rfl rfl ?_
  refine r_imul hC dX12_layRow_184 ?_
  refine r_iload_n hC 4 dX12_layRow_185 rfl rfl ?_
  refine r_iadd hC dX12_layRow_186 ?_
  refine r_iload hC 0 dX12_layRow_187 rfl ?_
  refine r_if_eq hC 209 rfl dX12_layRow_189 (by decide) (fun cq => ?_) (fun cq => ?_)
  · replace h := h.1 cq
    refine r_aload_n hC 1 dX12_layRow_209 rfl rfl ?_
    refine r_iload hC 5 dX12_layRow_210 rfl ?_
    refine r_aload_n hC 1 dX12_layRow_212 rfl rfl ?_
    refine r_aload_n hC 1 dX12_layRow_213 rfl rfl ?_
    have q_33 : 0 < a0 + 7 ∧ M0 0 (a0 + 7) = kA 0 12 := lay_f0 (a := a0) hL qa0 fm_12_12
    refine r_getR0 (a' := a0 + 7) hC fg_X12_28 rfl hF fm_12_12 qa0.1 qa0.2 rfl dX12_layRow_214 ?_
    refine r_iload_n hC 2 dX12_layRow_217 rfl rfl ?_
    obtain ⟨i_34, h⟩ := h
    refine r_iald hC i_34 q_33.1 q_33.2 (by decide) dX12_layRow_218 ?_
    refine r_iconst hC dX12_layRow_219 ?_
    refine r_callV (As := [vI (rd M (a0 + 7) x1), vI 0]) (st := [vI x5, vR Y.1 a0, vI ((8 * x1) + x3), vR Y.1 (a0 + 10)]) hC cw_X12_91 rfl qa0.1 qa0.2 rfl rfl (Nat.le_of_ble_eq_true rfl) ⟨Nat.le_of_ble_eq_true rfl, Nat.le_of_ble_eq_true rfl⟩ ⟨Nat.le_of_ble_eq_true rfl, Nat.le_of_ble_eq_true rfl⟩ dX12_layRow_220 (fun hk => mX12_of Y hF _ _ _ _ _ _ (kqO hk qa0) h) (fun v M_35 h => ?_)
    obtain ⟨r_36, rfl, h⟩ := h
    refine r_callV (As := [vI x5, vI r_36]) (st := [vI ((8 * x1) + x3), vR Y.1 (a0 + 10)]) hC cw_X12_171 rfl qa0.1 qa0.2 rfl rfl (Nat.le_of_ble_eq_true rfl) ⟨Nat.le_of_ble_eq_true rfl, Nat.le_of_ble_eq_true rfl⟩ ⟨Nat.le_of_ble_eq_true rfl, Nat.le_of_ble_eq_true rfl⟩ dX12_layRow_223 (fun hk => mX12_less Y hF _ _ _ _ _ _ (kqO hk qa0) h) (fun v M_37 h => ?_)
    obtain ⟨r_38, rfl, h⟩ := h
    refine r_sub [1, 2, 3, 4] rfl ?_
    exact tX12_layRow_J226 hC hF hL Q _  _ _ _ _ _ _ _ qa0 q_32 hC113 _ h
  · replace h := h.2 cq
    refine r_iload hC 5 dX12_layRow_192 rfl ?_
    refine r_aload_n hC 1 dX12_layRow_194 rfl rfl ?_
    refine r_aload_n hC 1 dX12_layRow_195 rfl rfl ?_
    have q_43 : 0 < a0 + 7 ∧ M0 0 (a0 + 7) = kA 0 12 := lay_f0 (a := a0) hL qa0 fm_12_12
    refine r_getR0 (a' := a0 + 7) hC fg_X12_28 rfl hF fm_12_12 qa0.1 qa0.2 rfl dX12_layRow_196 ?_
    refine r_iload_n hC 2 dX12_layRow_199 rfl rfl ?_
    obtain ⟨i_44, h⟩ := h
    refine r_iald hC i_44 q_43.1 q_43.2 (by decide) dX12_layRow_200 ?_
    refine r_iconst hC dX12_layRow_201 ?_
    refine r_callV (As := [vI (rd M (a0 + 7) x1), vI 5]) (st := [vI x5, vI ((8 * x1) + x3), vR Y.1 (a0 + 10)]) hC cw_X12_91 rfl qa0.1 qa0.2 rfl rfl (Nat.le_of_ble_eq_true rfl) ⟨Nat.le_of_ble_eq_true rfl, Nat.le_of_ble_eq_true rfl⟩ ⟨Nat.le_of_ble_eq_true rfl, Nat.le_of_ble_eq_true rfl⟩ dX12_layRow_202 (fun hk => mX12_of Y hF _ _ _ _ _ _ (kqO hk qa0) h) (fun v M_45 h => ?_)
    obtain ⟨r_46, rfl, h⟩ := h
    refine r_iadd hC dX12_layRow_205 ?_
    refine r_goto hC 226 dX12_layRow_206 (by decide) ?_
    refine r_sub [1, 2, 3, 4] rfl ?_
    exact tX12_layRow_J226 hC hF hL Q _  _ _ _ _ _ _ _ qa0 q_32 hC113 _ h
set_option maxHeartbeats 4000000 in
set_option maxRecDepth 100000 in
theorem tX12_layRow_J140 {X : Cx} {Y : Yx} {M0 : Mem} (hC : OKX X Y RX12 cX12_layRow 7 none rmX12_layRow) (hF : Y.2.2.2.2 = true) (hL : Lay M0) (Q : Mem → Prop) (C113 : Int → Mem → Prop)  (a0 : Nat) (x1 : Int) (x2 : Int) (x3 : Int) (xs0 : Int) (qa0 : 0 < a0 ∧ M0 0 a0 = kO 12) (hC113 : ∀ (x3 : Int) (M : Mem), C113 x3 M → WW X Y 7 rmX12_layRow (QV Q) M0 0 0 113 [(0, vR Y.1 a0), (1, vI x1), (2, vI x2), (3, vI x3)] [] M) (M : Mem) (h : wX12_layRow_J140 Q C113 a0 x1 x2 x3 xs0 M) : WW X Y 7 rmX12_layRow (QV Q) M0 0 0 140 [(0, vR Y.1 a0), (1, vI x1), (2, vI x2), (3, vI x3)] [vI xs0] M := by
  unfold wX12_layRow_J140 at h
  refine r_istore (lv' := [(4, vI xs0), (0, vR Y.1 a0), (1, vI x1), (2, vI x2), (3, vI x3)]) hC dX12_layRow_140 (by decide) rfl ?_
  refine r_aload_n hC 1 dX12_layRow_142 rfl rfl ?_
  refine r_iload hC 0 dX12_layRow_143 rfl ?_
  refine r_iload_n hC 3 dX12_layRow_145 rfl rfl ?_
  refine r_callV (As := [vI xs0, vI x2]) (st := []) hC cw_X12_171 rfl qa0.1 qa0.2 rfl rfl (Nat.le_of_ble_eq_true rfl) ⟨Nat.le_of_ble_eq_true rfl, Nat.le_of_ble_eq_true rfl⟩ ⟨Nat.le_of_ble_eq_true rfl, Nat.le_of_ble_eq_true rfl⟩ dX12_layRow_146 (fun hk => mX12_less Y hF _ _ _ _ _ _ (kqO hk qa0) h) (fun v M_26 h => ?_)
  obtain ⟨r_27, rfl, h⟩ := h
  refine r_istore (lv' := [(5, vI r_27), (4, vI xs0), (0, vR Y.1 a0), (1, vI x1), (2, vI x2), (3, vI x3)]) hC dX12_layRow_149 (by decide) rfl ?_
  refine r_aload_n hC 2 dX12_layRow_151 rfl rfl ?_
  refine r_aload_n hC 2 dX12_layRow_152 rfl rfl ?_
  have q_28 : 0 < a0 + 7 ∧ M0 0 (a0 + 7) = kA 0 12 := lay_f0 (a := a0) hL qa0 fm_12_12
  refine r_getR0 (a' := a0 + 7) hC fg_X12_28 rfl hF fm_12_12 qa0.1 qa0.2 rfl dX12_layRow_153 ?_
  refine r_iload_n hC 3 dX12_layRow_156 rfl rfl ?_
  obtain ⟨i_29, h⟩ := h
  refine r_iald hC i_29 q_28.1 q_28.2 (by decide) dX12_layRow_157 ?_
  refine r_iconst hC dX12_layRow_158 ?_
  refine r_callV (As := [vI (rd M_26 (a0 + 7) x1), vI 3]) (st := []) hC cw_X12_91 rfl qa0.1 qa0.2 rfl rfl (Nat.le_of_ble_eq_true rfl) ⟨Nat.le_of_ble_eq_true rfl, Nat.le_of_ble_eq_true rfl⟩ ⟨Nat.le_of_ble_eq_true rfl, Nat.le_of_ble_eq_true rfl⟩ dX12_layRow_159 (fun hk => mX12_of Y hF _ _ _ _ _ _ (kqO hk qa0) h) (fun v M_30 h => ?_)
  obtain ⟨r_31, rfl, h⟩ := h
  refine r_iload_n hC 5 dX12_layRow_162 rfl rfl ?_
  refine r_ishr hC dX12_layRow_163 ?_
  refine r_iconst hC dX12_layRow_164 ?_
  refine r_iand hC dX12_layRow_165 ?_
  refine r_iconst hC dX12_layRow_166 ?_
  refine r_icmp_ne hC 174 rfl bmL_1 dX12_layRow_167 (by decide) (fun cq => ?_) (fun cq => ?_)
  · replace h := h.2 cq
    refine r_iconst hC dX12_layRow_174 ?_
    refine r_sub [2, 3, 4, 5, 0] rfl ?_
    exact tX12_layRow_J175 hC hF hL Q _  _ _ _ _ _ _ qa0 hC113 _ h
  · replace h := h.1 cq
    refine r_iconst hC dX12_layRow_170 ?_
    refine r_goto hC 175 dX12_layRow_171 (by decide) ?_
    refine r_sub [2, 3, 4, 5, 0] rfl ?_
    exact tX12_layRow_J175 hC hF hL Q _  _ _ _ _ _ _ qa0 hC113 _ h
set_option maxHeartbeats 4000000 in
set_option maxRecDepth 100000 in
theorem tX12_layRow_L113 {X : Cx} {Y : Yx} {M0 : Mem} (hC : OKX X Y RX12 cX12_layRow 7 none rmX12_layRow) (hF : Y.2.2.2.2 = true) (hL : Lay M0) (Q : Mem → Prop) (E233 : Mem → Prop) (a0 : Nat) (x1 : Int) (x2 : Int) (qa0 : 0 < a0 ∧ M0 0 a0 = kO 12) (hE233 : ∀  (M : Mem), E233  M → WW X Y 7 rmX12_layRow (QV Q) M0 0 0 233 [(0, vR Y.1 a0), (1, vI x1)] [] M) : ∀ (N : Nat) (x3 : Int) (M : Mem) (_ : wX12_layRow_L113 Q E233 a0 x1 x2 N x3 M), WW X Y 7 rmX12_layRow (QV Q) M0 0 0 113 [(0, vR Y.1 a0), (1, vI x1), (2, vI x2), (3, vI x3)] [] M := by
  intro N
  induction N with
  | zero =>
    intro x3 M h
    exact h.elim
  | succ N ih =>
    intro x3 M h
    unfold wX12_layRow_L113 at h
    refine r_iload_n hC 3 dX12_layRow_113 rfl rfl ?_
    refine r_bipush hC (by decide +kernel) dX12_layRow_114 ?_
    refine r_icmp_ge hC 233 rfl bmL_8 dX12_layRow_116 (by decide) (fun cq => ?_) (fun cq => ?_)
    · replace h := h.1 cq
      refine r_sub [0, 1] rfl ?_
      exact hE233  _ h
    · replace h := h.2 cq
      refine r_iload_n hC 1 dX12_layRow_119 rfl rfl ?_
      refine r_if_ne hC 127 rfl dX12_layRow_120 (by decide) (fun cq => ?_) (fun cq => ?_)
      · replace h := h.2 cq
        refine r_aload_n hC 0 dX12_layRow_127 rfl rfl ?_
        have q_24 : 0 < a0 + 10 ∧ M0 0 (a0 + 10) = kA 0 96 := lay_f0 (a := a0) hL qa0 fm_12_17
        refine r_getR0 (a' := a0 + 10) hC fg_X12_37 rfl hF fm_12_17 qa0.1 qa0.2 rfl dX12_layRow_128 ?_
        refine r_bipush hC (by decide +kernel) dX12_layRow_131 ?_
        refine r_iload_n hC 1 dX12_layRow_133 rfl rfl ?_
        refine r_iconst hC dX12_layRow_134 ?_
        refine r_isub hC dX12_layRow_135 ?_
        refine r_imul hC dX12_layRow_136 ?_
        refine r_iload_n hC 3 dX12_layRow_137 rfl rfl ?_
        refine r_iadd hC dX12_layRow_138 ?_
        obtain ⟨i_25, h⟩ := h
        refine r_iald hC i_25 q_24.1 q_24.2 (by decide) dX12_layRow_139 ?_
        refine r_sub [0, 1, 2, 3] rfl ?_
        exact tX12_layRow_J140 hC hF hL Q _  _ _ _ _ _ qa0 ih _ h
      · replace h := h.1 cq
        refine r_iconst hC dX12_layRow_123 ?_
        refine r_goto hC 140 dX12_layRow_124 (by decide) ?_
        refine r_sub [0, 1, 2, 3] rfl ?_
        exact tX12_layRow_J140 hC hF hL Q _  _ _ _ _ _ qa0 ih _ h
set_option maxHeartbeats 4000000 in
set_option maxRecDepth 100000 in
theorem tX12_layRow_J86 {X : Cx} {Y : Yx} {M0 : Mem} (hC : OKX X Y RX12 cX12_layRow 7 none rmX12_layRow) (hF : Y.2.2.2.2 = true) (hL : Lay M0) (Q : Mem → Prop) (C2 : Int → Mem → Prop)  (a0 : Nat) (x1 : Int) (x2 : Int) (xs0 : Int) (xs1 : Int) (as2 : Nat) (qa0 : 0 < a0 ∧ M0 0 a0 = kO 12) (qas2 : 0 < as2 ∧ M0 0 as2 = kA 0 12) (hC2 : ∀ (x1 : Int) (M : Mem), C2 x1 M → WW X Y 7 rmX12_layRow (QV Q) M0 0 0 2 [(0, vR Y.1 a0), (1, vI x1)] [] M) (M : Mem) (h : wX12_layRow_J86 Q C2 a0 x1 x2 xs0 xs1 as2 M) : WW X Y 7 rmX12_layRow (QV Q) M0 0 0 86 [(0, vR Y.1 a0), (1, vI x1), (2, vI x2)] [vI xs0, vI xs1, vR Y.1 as2] M := by
  unfold wX12_layRow_J86 at h
  obtain ⟨i_13, h⟩ := h
  refine r_iast hC i_13 qas2.1 qas2.2 (by decide) dX12_layRow_86 ?_
  refine r_nameM h (fun M_14 h => ?_)
  refine r_aload_n hC 0 dX12_layRow_87 rfl rfl ?_
  have q_15 : 0 < a0 + 9 ∧ M0 0 (a0 + 9) = kA 0 12 := lay_f0 (a := a0) hL qa0 fm_12_16
  refine r_getR0 (a' := a0 + 9) hC fg_X12_34 rfl hF fm_12_16 qa0.1 qa0.2 rfl dX12_layRow_88 ?_
  refine r_iload_n hC 1 dX12_layRow_91 rfl rfl ?_
  refine r_aload_n hC 0 dX12_layRow_92 rfl rfl ?_
  have q_16 : 0 < a0 + 8 ∧ M0 0 (a0 + 8) = kA 0 12 := lay_f0 (a := a0) hL qa0 fm_12_15
  refine r_getR0 (a' := a0 + 8) hC fg_X12_31 rfl hF fm_12_15 qa0.1 qa0.2 rfl dX12_layRow_93 ?_
  refine r_iload_n hC 1 dX12_layRow_96 rfl rfl ?_
  obtain ⟨i_17, h⟩ := h
  refine r_iald hC i_17 q_16.1 q_16.2 (by decide) dX12_layRow_97 ?_
  refine r_aload_n hC 0 dX12_layRow_98 rfl rfl ?_
  refine r_aload_n hC 0 dX12_layRow_99 rfl rfl ?_
  have q_18 : 0 < a0 + 7 ∧ M0 0 (a0 + 7) = kA 0 12 := lay_f0 (a := a0) hL qa0 fm_12_12
  refine r_getR0 (a' := a0 + 7) hC fg_X12_28 rfl hF fm_12_12 qa0.1 qa0.2 rfl dX12_layRow_100 ?_
  refine r_iload_n hC 1 dX12_layRow_103 rfl rfl ?_
  obtain ⟨i_19, h⟩ := h
  refine r_iald hC i_19 q_18.1 q_18.2 (by decide) dX12_layRow_104 ?_
  refine r_iconst hC dX12_layRow_105 ?_
  refine r_callV (As := [vI (rd M_14 (a0 + 7) x1), vI 0]) (st := [vI (rd M_14 (a0 + 8) x1), vI x1, vR Y.1 (a0 + 9)]) hC cw_X12_91 rfl qa0.1 qa0.2 rfl rfl (Nat.le_of_ble_eq_true rfl) ⟨Nat.le_of_ble_eq_true rfl, Nat.le_of_ble_eq_true rfl⟩ ⟨Nat.le_of_ble_eq_true rfl, Nat.le_of_ble_eq_true rfl⟩ dX12_layRow_106 (fun hk => mX12_of Y hF _ _ _ _ _ _ (kqO hk qa0) h) (fun v M_20 h => ?_)
  obtain ⟨r_21, rfl, h⟩ := h
  refine r_iadd hC dX12_layRow_109 ?_
  obtain ⟨i_22, h⟩ := h
  refine r_iast hC i_22 q_15.1 q_15.2 (by decide) dX12_layRow_110 ?_
  refine r_nameM h (fun M_23 h => ?_)
  refine r_iconst hC dX12_layRow_111 ?_
  refine r_istore_n (lv' := [(3, vI 0), (0, vR Y.1 a0), (1, vI x1), (2, vI x2)]) hC dX12_layRow_112 rfl (by decide) rfl ?_
  refine r_sub [1, 2, 3, 0] rfl ?_
  obtain ⟨N_50, h⟩ := h
  refine tX12_layRow_L113 hC hF hL Q _ _ _ _ qa0 ?_ N_50 _ _ h
  · intro M_47 h
    refine let_elim h (fun x1_48 e_49 h => ?_)
    refine r_iinc (lv' := [(1, vI x1_48), (0, vR Y.1 a0)]) hC 1 dX12_layRow_233 rfl (by decide) e_49 rfl ?_
    refine r_goto hC 2 dX12_layRow_236 (by decide) ?_
    refine r_sub [1, 0] rfl ?_
    exact hC2 _ _ h
set_option maxHeartbeats 4000000 in
set_option maxRecDepth 100000 in
theorem tX12_layRow_J62 {X : Cx} {Y : Yx} {M0 : Mem} (hC : OKX X Y RX12 cX12_layRow 7 none rmX12_layRow) (hF : Y.2.2.2.2 = true) (hL : Lay M0) (Q : Mem → Prop) (C2 : Int → Mem → Prop)  (a0 : Nat) (x1 : Int) (xs0 : Int) (qa0 : 0 < a0 ∧ M0 0 a0 = kO 12) (hC2 : ∀ (x1 : Int) (M : Mem), C2 x1 M → WW X Y 7 rmX12_layRow (QV Q) M0 0 0 2 [(0, vR Y.1 a0), (1, vI x1)] [] M) (M : Mem) (h : wX12_layRow_J62 Q C2 a0 x1 xs0 M) : WW X Y 7 rmX12_layRow (QV Q) M0 0 0 62 [(0, vR Y.1 a0), (1, vI x1)] [vI xs0] M := by
  unfold wX12_layRow_J62 at h
  refine r_istore_n (lv' := [(2, vI xs0), (0, vR Y.1 a0), (1, vI x1)]) hC dX12_layRow_62 rfl (by decide) rfl ?_
  refine r_aload_n hC 1 dX12_layRow_63 rfl rfl ?_
  have q_10 : 0 < a0 + 8 ∧ M0 0 (a0 + 8) = kA 0 12 := lay_f0 (a := a0) hL qa0 fm_12_15
  refine r_getR0 (a' := a0 + 8) hC fg_X12_31 rfl hF fm_12_15 qa0.1 qa0.2 rfl dX12_layRow_64 ?_
  refine r_iload_n hC 2 dX12_layRow_67 rfl rfl ?_
  refine r_iload_n hC 2 dX12_layRow_68 rfl rfl ?_
  refine r_if_ne hC 76 rfl dX12_layRow_69 (by decide) (fun cq => ?_) (fun cq => ?_)
  · replace h := h.2 cq
    refine r_aload_n hC 1 dX12_layRow_76 rfl rfl ?_
    have q_11 : 0 < a0 + 9 ∧ M0 0 (a0 + 9) = kA 0 12 := lay_f0 (a := a0) hL qa0 fm_12_16
    refine r_getR0 (a' := a0 + 9) hC fg_X12_34 rfl hF fm_12_16 qa0.1 qa0.2 rfl dX12_layRow_77 ?_
    refine r_iload_n hC 2 dX12_layRow_80 rfl rfl ?_
    refine r_iconst hC dX12_layRow_81 ?_
    refine r_isub hC dX12_layRow_82 ?_
    obtain ⟨i_12, h⟩ := h
    refine r_iald hC i_12 q_11.1 q_11.2 (by decide) dX12_layRow_83 ?_
    refine r_iload_n hC 0 dX12_layRow_84 rfl rfl ?_
    refine r_iadd hC dX12_layRow_85 ?_
    refine r_sub [1, 2, 0] rfl ?_
    exact tX12_layRow_J86 hC hF hL Q _  _ _ _ _ _ _ qa0 q_10 hC2 _ h
  · replace h := h.1 cq
    refine r_iconst hC dX12_layRow_72 ?_
    refine r_goto hC 86 dX12_layRow_73 (by decide) ?_
    refine r_sub [1, 2, 0] rfl ?_
    exact tX12_layRow_J86 hC hF hL Q _  _ _ _ _ _ _ qa0 q_10 hC2 _ h
set_option maxHeartbeats 4000000 in
set_option maxRecDepth 100000 in
theorem tX12_layRow_L2 {X : Cx} {Y : Yx} {M0 : Mem} (hC : OKX X Y RX12 cX12_layRow 7 none rmX12_layRow) (hF : Y.2.2.2.2 = true) (hL : Lay M0) (Q : Mem → Prop)  (a0 : Nat) (qa0 : 0 < a0 ∧ M0 0 a0 = kO 12)  : ∀ (N : Nat) (x1 : Int) (M : Mem) (_ : wX12_layRow_L2 Q  a0 N x1 M), WW X Y 7 rmX12_layRow (QV Q) M0 0 0 2 [(0, vR Y.1 a0), (1, vI x1)] [] M := by
  intro N
  induction N with
  | zero =>
    intro x1 M h
    exact h.elim
  | succ N ih =>
    intro x1 M h
    unfold wX12_layRow_L2 at h
    refine r_iload_n hC 1 dX12_layRow_2 rfl rfl ?_
    refine r_aload_n hC 0 dX12_layRow_3 rfl rfl ?_
    refine r_getI hC fg_X12_162 rfl qa0.1 qa0.2 dX12_layRow_4 ?_
    refine r_icmp_ge hC 239 rfl rfl dX12_layRow_7 (by decide) (fun cq => ?_) (fun cq => ?_)
    · replace h := h.1 cq
      exact r_vret hC (Nat.zero_le _) (Nat.zero_le _) dX12_layRow_239 ⟨rfl, h⟩
    · replace h := h.2 cq
      refine r_iload_n hC 1 dX12_layRow_10 rfl rfl ?_
      refine r_if_ne hC 18 rfl dX12_layRow_11 (by decide) (fun cq => ?_) (fun cq => ?_)
      · replace h := h.2 cq
        refine r_aload_n hC 0 dX12_layRow_18 rfl rfl ?_
        refine r_iload_n hC 1 dX12_layRow_19 rfl rfl ?_
        refine r_callV (As := [vI x1]) (st := []) hC cw_X12_165 rfl qa0.1 qa0.2 rfl rfl (Nat.le_of_ble_eq_true rfl) ⟨Nat.le_of_ble_eq_true rfl, Nat.le_of_ble_eq_true rfl⟩ ⟨Nat.le_of_ble_eq_true rfl, Nat.le_of_ble_eq_true rfl⟩ dX12_layRow_20 (fun hk => mX12_isApart Y hF _ _ _ _ _ (kqO hk qa0) h) (fun v M_1 h => ?_)
        obtain ⟨r_2, rfl, h⟩ := h
        refine r_if_eq hC 36 rfl dX12_layRow_23 (by decide) (fun cq => ?_) (fun cq => ?_)
        · replace h := h.1 cq
          refine r_aload_n hC 0 dX12_layRow_36 rfl rfl ?_
          refine r_aload_n hC 0 dX12_layRow_37 rfl rfl ?_
          have q_3 : 0 < a0 + 7 ∧ M0 0 (a0 + 7) = kA 0 12 := lay_f0 (a := a0) hL qa0 fm_12_12
          refine r_getR0 (a' := a0 + 7) hC fg_X12_28 rfl hF fm_12_12 qa0.1 qa0.2 rfl dX12_layRow_38 ?_
          refine r_iload_n hC 1 dX12_layRow_41 rfl rfl ?_
          refine r_iconst hC dX12_layRow_42 ?_
          refine r_isub hC dX12_layRow_43 ?_
          obtain ⟨i_4, h⟩ := h
          refine r_iald hC i_4 q_3.1 q_3.2 (by decide) dX12_layRow_44 ?_
          refine r_aload_n hC 0 dX12_layRow_45 rfl rfl ?_
          have q_5 : 0 < a0 + 7 ∧ M0 0 (a0 + 7) = kA 0 12 := lay_f0 (a := a0) hL qa0 fm_12_12
          refine r_getR0 (a' := a0 + 7) hC fg_X12_28 rfl hF fm_12_12 qa0.1 qa0.2 rfl dX12_layRow_46 ?_
          refine r_iload_n hC 1 dX12_layRow_49 rfl rfl ?_
          obtain ⟨i_6, h⟩ := h
          refine r_iald hC i_6 q_5.1 q_5.2 (by decide) dX12_layRow_50 ?_
          refine r_callV (As := [vI (rd M_1 (a0 + 7) (x1 - 1)), vI (rd M_1 (a0 + 7) x1)]) (st := []) hC cw_X12_168 rfl qa0.1 qa0.2 rfl rfl (Nat.le_of_ble_eq_true rfl) ⟨Nat.le_of_ble_eq_true rfl, Nat.le_of_ble_eq_true rfl⟩ ⟨Nat.le_of_ble_eq_true rfl, Nat.le_of_ble_eq_true rfl⟩ dX12_layRow_51 (fun hk => mX12_carried Y hF _ _ _ _ _ _ (kqO hk qa0) h) (fun v M_7 h => ?_)
          obtain ⟨r_8, rfl, h⟩ := h
          refine r_aload_n hC 0 dX12_layRow_54 rfl rfl ?_
          have q_9 : 0 < a0 + 1 ∧ M0 0 (a0 + 1) = kA 0 1522 := lay_f0 (a := a0) hL qa0 fm_12_0
          refine r_getR0 (a' := a0 + 1) hC fg_X12_7 rfl hF fm_12_0 qa0.1 qa0.2 rfl dX12_layRow_55 ?_
          refine r_bipush hC (by decide +kernel) dX12_layRow_58 ?_
          refine r_iald hC ⟨by decide +kernel, by decide +kernel⟩ q_9.1 q_9.2 (by decide) dX12_layRow_60 ?_
          refine r_imul hC dX12_layRow_61 ?_
          refine r_sub [0, 1] rfl ?_
          exact tX12_layRow_J62 hC hF hL Q _  _ _ _ qa0 ih _ h
        · replace h := h.2 cq
          refine r_aload_n hC 0 dX12_layRow_26 rfl rfl ?_
          have q_51 : 0 < a0 + 1 ∧ M0 0 (a0 + 1) = kA 0 1522 := lay_f0 (a := a0) hL qa0 fm_12_0
          refine r_getR0 (a' := a0 + 1) hC fg_X12_7 rfl hF fm_12_0 qa0.1 qa0.2 rfl dX12_layRow_27 ?_
          refine r_bipush hC (by decide +kernel) dX12_layRow_30 ?_
          refine r_iald hC ⟨by decide +kernel, by decide +kernel⟩ q_51.1 q_51.2 (by decide) dX12_layRow_32 ?_
          refine r_goto hC 62 dX12_layRow_33 (by decide) ?_
          refine r_sub [0, 1] rfl ?_
          exact tX12_layRow_J62 hC hF hL Q _  _ _ _ qa0 ih _ h
      · replace h := h.1 cq
        refine r_iconst hC dX12_layRow_14 ?_
        refine r_goto hC 62 dX12_layRow_15 (by decide) ?_
        refine r_sub [0, 1] rfl ?_
        exact tX12_layRow_J62 hC hF hL Q _  _ _ _ qa0 ih _ h
set_option maxHeartbeats 4000000 in
set_option maxRecDepth 100000 in
theorem mX12_layRow (Y : Yx) (hF : Y.2.2.2.2 = true) (l : Launch) (a0 : Nat) (M0 : Mem) (Q : Mem → Prop) (qa0 : 0 < a0 ∧ M0 0 a0 = kO 12) (h : wX12_layRow a0 M0 Q) : CT Y l yX12_layRow cX12_layRow 7 none rmX12_layRow [vR Y.1 a0] M0 (QV Q) := by
  unfold wX12_layRow at h
  refine ct_intro (by decide) (Nat.le_of_ble_eq_true rfl) ?_
  intro X hXl hC hL0
  have hL := hL0 hF
  change OKX X Y RX12 cX12_layRow 7 none rmX12_layRow at hC
  change WW X Y 7 rmX12_layRow (QV Q) M0 0 0 0 [(0, vR Y.1 a0)] [] M0
  refine r_iconst hC dX12_layRow_0 ?_
  refine r_istore_n (lv' := [(1, vI 0), (0, vR Y.1 a0)]) hC dX12_layRow_1 rfl (by decide) rfl ?_
  refine r_sub [1, 0] rfl ?_
  obtain ⟨N_52, h⟩ := h
  refine tX12_layRow_L2 hC hF hL Q  _ qa0  N_52 _ _ h
theorem dX12_greatestTired_0 : dec cX12_greatestTired 0 1 1 (.iconst 0) := ⟨by decide +kernel, rfl⟩
theorem dX12_greatestTired_1 : dec cX12_greatestTired 1 1 2 (.istore_n 1) := ⟨by decide +kernel, rfl⟩
theorem dX12_greatestTired_2 : dec cX12_greatestTired 2 1 3 (.iconst 0) := ⟨by decide +kernel, rfl⟩
theorem dX12_greatestTired_3 : dec cX12_greatestTired 3 1 4 (.istore_n 2) := ⟨by decide +kernel, rfl⟩
theorem dX12_greatestTired_4 : dec cX12_greatestTired 4 1 5 (.iload_n 2) := ⟨by decide +kernel, rfl⟩
theorem dX12_greatestTired_5 : dec cX12_greatestTired 5 2 7 (.bipush 8) := ⟨by decide +kernel, rfl⟩
theorem dX12_greatestTired_7 : dec cX12_greatestTired 7 1 8 (.aload_n 0) := ⟨by decide +kernel, rfl⟩
theorem dX12_greatestTired_8 : dec cX12_greatestTired 8 3 11 (.getfield 162) := ⟨by decide +kernel, rfl⟩
theorem dX12_greatestTired_11 : dec cX12_greatestTired 11 1 12 (.imul) := ⟨by decide +kernel, rfl⟩
theorem dX12_greatestTired_12 : dec cX12_greatestTired 12 3 15 (.if_icmp .ge 30) := ⟨by decide +kernel, rfl⟩
theorem dX12_greatestTired_15 : dec cX12_greatestTired 15 1 16 (.aload_n 0) := ⟨by decide +kernel, rfl⟩
theorem dX12_greatestTired_16 : dec cX12_greatestTired 16 3 19 (.getfield 37) := ⟨by decide +kernel, rfl⟩
theorem dX12_greatestTired_19 : dec cX12_greatestTired 19 1 20 (.iload_n 2) := ⟨by decide +kernel, rfl⟩
theorem dX12_greatestTired_20 : dec cX12_greatestTired 20 1 21 (.iaload) := ⟨by decide +kernel, rfl⟩
theorem dX12_greatestTired_21 : dec cX12_greatestTired 21 1 22 (.iload_n 1) := ⟨by decide +kernel, rfl⟩
theorem dX12_greatestTired_22 : dec cX12_greatestTired 22 3 25 (.if_icmp .le 12) := ⟨by decide +kernel, rfl⟩
theorem dX12_greatestTired_25 : dec cX12_greatestTired 25 1 26 (.aload_n 0) := ⟨by decide +kernel, rfl⟩
theorem dX12_greatestTired_26 : dec cX12_greatestTired 26 3 29 (.getfield 37) := ⟨by decide +kernel, rfl⟩
theorem dX12_greatestTired_29 : dec cX12_greatestTired 29 1 30 (.iload_n 2) := ⟨by decide +kernel, rfl⟩
theorem dX12_greatestTired_30 : dec cX12_greatestTired 30 1 31 (.iaload) := ⟨by decide +kernel, rfl⟩
theorem dX12_greatestTired_31 : dec cX12_greatestTired 31 3 34 (.goto 4) := ⟨by decide +kernel, rfl⟩
theorem dX12_greatestTired_34 : dec cX12_greatestTired 34 1 35 (.iload_n 1) := ⟨by decide +kernel, rfl⟩
theorem dX12_greatestTired_35 : dec cX12_greatestTired 35 1 36 (.istore_n 1) := ⟨by decide +kernel, rfl⟩
theorem dX12_greatestTired_36 : dec cX12_greatestTired 36 3 39 (.iinc 2 1) := ⟨by decide +kernel, rfl⟩
theorem dX12_greatestTired_39 : dec cX12_greatestTired 39 3 42 (.goto (-35)) := ⟨by decide +kernel, rfl⟩
theorem dX12_greatestTired_42 : dec cX12_greatestTired 42 1 43 (.iload_n 1) := ⟨by decide +kernel, rfl⟩
theorem dX12_greatestTired_43 : dec cX12_greatestTired 43 1 44 (.ireturn) := ⟨by decide +kernel, rfl⟩
set_option maxHeartbeats 4000000 in
set_option maxRecDepth 100000 in
theorem tX12_greatestTired_J35 {X : Cx} {Y : Yx} {M0 : Mem} (hC : OKX X Y RX12 cX12_greatestTired 3 (some .int) rmX12_greatestTired) (hF : Y.2.2.2.2 = true) (hL : Lay M0) (Q : Int → Mem → Prop) (C4 : Int → Int → Mem → Prop)  (a0 : Nat) (x2 : Int) (xs0 : Int) (qa0 : 0 < a0 ∧ M0 0 a0 = kO 12) (hC4 : ∀ (x1 : Int) (x2 : Int) (M : Mem), C4 x1 x2 M → WW X Y 3 rmX12_greatestTired (QI Q) M0 0 0 4 [(0, vR Y.1 a0), (1, vI x1), (2, vI x2)] [] M) (M : Mem) (h : wX12_greatestTired_J35 Q C4 a0 x2 xs0 M) : WW X Y 3 rmX12_greatestTired (QI Q) M0 0 0 35 [(0, vR Y.1 a0), (2, vI x2)] [vI xs0] M := by
  unfold wX12_greatestTired_J35 at h
  refine r_istore_n (lv' := [(1, vI xs0), (0, vR Y.1 a0), (2, vI x2)]) hC dX12_greatestTired_35 rfl (by decide) rfl ?_
  refine let_elim h (fun x2_3 e_4 h => ?_)
  refine r_iinc (lv' := [(2, vI x2_3), (1, vI xs0), (0, vR Y.1 a0)]) hC 2 dX12_greatestTired_36 rfl (by decide) e_4 rfl ?_
  refine r_goto hC 4 dX12_greatestTired_39 (by decide) ?_
  refine r_sub [2, 1, 0] rfl ?_
  exact hC4 _ _ _ h
set_option maxHeartbeats 4000000 in
set_option maxRecDepth 100000 in
theorem tX12_greatestTired_L4 {X : Cx} {Y : Yx} {M0 : Mem} (hC : OKX X Y RX12 cX12_greatestTired 3 (some .int) rmX12_greatestTired) (hF : Y.2.2.2.2 = true) (hL : Lay M0) (Q : Int → Mem → Prop)  (a0 : Nat) (qa0 : 0 < a0 ∧ M0 0 a0 = kO 12)  : ∀ (N : Nat) (x1 : Int) (x2 : Int) (M : Mem) (_ : wX12_greatestTired_L4 Q  a0 N x1 x2 M), WW X Y 3 rmX12_greatestTired (QI Q) M0 0 0 4 [(0, vR Y.1 a0), (1, vI x1), (2, vI x2)] [] M := by
  intro N
  induction N with
  | zero =>
    intro x1 x2 M h
    exact h.elim
  | succ N ih =>
    intro x1 x2 M h
    unfold wX12_greatestTired_L4 at h
    refine r_iload_n hC 2 dX12_greatestTired_4 rfl rfl ?_
    refine r_bipush hC (by decide +kernel) dX12_greatestTired_5 ?_
    refine r_aload_n hC 0 dX12_greatestTired_7 rfl rfl ?_
    refine r_getI hC fg_X12_162 rfl qa0.1 qa0.2 dX12_greatestTired_8 ?_
    refine r_imul hC dX12_greatestTired_11 ?_
    refine r_icmp_ge hC 42 rfl rfl dX12_greatestTired_12 (by decide) (fun cq => ?_) (fun cq => ?_)
    · replace h := h.1 cq
      refine r_iload_n hC 1 dX12_greatestTired_42 rfl rfl ?_
      exact r_iret hC (Nat.zero_le _) (Nat.zero_le _) dX12_greatestTired_43 ⟨_, rfl, h⟩
    · replace h := h.2 cq
      refine r_aload_n hC 0 dX12_greatestTired_15 rfl rfl ?_
      have q_1 : 0 < a0 + 10 ∧ M0 0 (a0 + 10) = kA 0 96 := lay_f0 (a := a0) hL qa0 fm_12_17
      refine r_getR0 (a' := a0 + 10) hC fg_X12_37 rfl hF fm_12_17 qa0.1 qa0.2 rfl dX12_greatestTired_16 ?_
      refine r_iload_n hC 2 dX12_greatestTired_19 rfl rfl ?_
      obtain ⟨i_2, h⟩ := h
      refine r_iald hC i_2 q_1.1 q_1.2 (by decide) dX12_greatestTired_20 ?_
      refine r_iload_n hC 1 dX12_greatestTired_21 rfl rfl ?_
      refine r_icmp_le hC 34 rfl rfl dX12_greatestTired_22 (by decide) (fun cq => ?_) (fun cq => ?_)
      · replace h := h.1 cq
        refine r_iload_n hC 1 dX12_greatestTired_34 rfl rfl ?_
        refine r_sub [0, 2] rfl ?_
        exact tX12_greatestTired_J35 hC hF hL Q _  _ _ _ qa0 ih _ h
      · replace h := h.2 cq
        refine r_aload_n hC 0 dX12_greatestTired_25 rfl rfl ?_
        have q_5 : 0 < a0 + 10 ∧ M0 0 (a0 + 10) = kA 0 96 := lay_f0 (a := a0) hL qa0 fm_12_17
        refine r_getR0 (a' := a0 + 10) hC fg_X12_37 rfl hF fm_12_17 qa0.1 qa0.2 rfl dX12_greatestTired_26 ?_
        refine r_iload_n hC 2 dX12_greatestTired_29 rfl rfl ?_
        obtain ⟨i_6, h⟩ := h
        refine r_iald hC i_6 q_5.1 q_5.2 (by decide) dX12_greatestTired_30 ?_
        refine r_goto hC 35 dX12_greatestTired_31 (by decide) ?_
        refine r_sub [0, 2] rfl ?_
        exact tX12_greatestTired_J35 hC hF hL Q _  _ _ _ qa0 ih _ h
set_option maxHeartbeats 4000000 in
set_option maxRecDepth 100000 in
theorem mX12_greatestTired (Y : Yx) (hF : Y.2.2.2.2 = true) (l : Launch) (a0 : Nat) (M0 : Mem) (Q : Int → Mem → Prop) (qa0 : 0 < a0 ∧ M0 0 a0 = kO 12) (h : wX12_greatestTired a0 M0 Q) : CT Y l yX12_greatestTired cX12_greatestTired 3 (some .int) rmX12_greatestTired [vR Y.1 a0] M0 (QI Q) := by
  unfold wX12_greatestTired at h
  refine ct_intro (by decide) (Nat.le_of_ble_eq_true rfl) ?_
  intro X hXl hC hL0
  have hL := hL0 hF
  change OKX X Y RX12 cX12_greatestTired 3 (some .int) rmX12_greatestTired at hC
  change WW X Y 3 rmX12_greatestTired (QI Q) M0 0 0 0 [(0, vR Y.1 a0)] [] M0
  refine r_iconst hC dX12_greatestTired_0 ?_
  refine r_istore_n (lv' := [(1, vI 0), (0, vR Y.1 a0)]) hC dX12_greatestTired_1 rfl (by decide) rfl ?_
  refine r_iconst hC dX12_greatestTired_2 ?_
  refine r_istore_n (lv' := [(2, vI 0), (1, vI 0), (0, vR Y.1 a0)]) hC dX12_greatestTired_3 rfl (by decide) rfl ?_
  refine r_sub [2, 1, 0] rfl ?_
  obtain ⟨N_7, h⟩ := h
  refine tX12_greatestTired_L4 hC hF hL Q  _ qa0  N_7 _ _ _ h
theorem dX12_placeOf_0 : dec cX12_placeOf 0 1 1 (.iconst (-1)) := ⟨by decide +kernel, rfl⟩
theorem dX12_placeOf_1 : dec cX12_placeOf 1 1 2 (.istore_n 2) := ⟨by decide +kernel, rfl⟩
theorem dX12_placeOf_2 : dec cX12_placeOf 2 1 3 (.iconst 0) := ⟨by decide +kernel, rfl⟩
theorem dX12_placeOf_3 : dec cX12_placeOf 3 1 4 (.istore_n 3) := ⟨by decide +kernel, rfl⟩
theorem dX12_placeOf_4 : dec cX12_placeOf 4 1 5 (.iload_n 3) := ⟨by decide +kernel, rfl⟩
theorem dX12_placeOf_5 : dec cX12_placeOf 5 1 6 (.aload_n 0) := ⟨by decide +kernel, rfl⟩
theorem dX12_placeOf_6 : dec cX12_placeOf 6 3 9 (.getfield 162) := ⟨by decide +kernel, rfl⟩
theorem dX12_placeOf_9 : dec cX12_placeOf 9 3 12 (.if_icmp .ge 25) := ⟨by decide +kernel, rfl⟩
theorem dX12_placeOf_12 : dec cX12_placeOf 12 1 13 (.aload_n 0) := ⟨by decide +kernel, rfl⟩
theorem dX12_placeOf_13 : dec cX12_placeOf 13 3 16 (.getfield 28) := ⟨by decide +kernel, rfl⟩
theorem dX12_placeOf_16 : dec cX12_placeOf 16 1 17 (.iload_n 3) := ⟨by decide +kernel, rfl⟩
theorem dX12_placeOf_17 : dec cX12_placeOf 17 1 18 (.iaload) := ⟨by decide +kernel, rfl⟩
theorem dX12_placeOf_18 : dec cX12_placeOf 18 1 19 (.iload_n 1) := ⟨by decide +kernel, rfl⟩
theorem dX12_placeOf_19 : dec cX12_placeOf 19 3 22 (.if_icmp .ne 7) := ⟨by decide +kernel, rfl⟩
theorem dX12_placeOf_22 : dec cX12_placeOf 22 1 23 (.iload_n 3) := ⟨by decide +kernel, rfl⟩
theorem dX12_placeOf_23 : dec cX12_placeOf 23 3 26 (.goto 4) := ⟨by decide +kernel, rfl⟩
theorem dX12_placeOf_26 : dec cX12_placeOf 26 1 27 (.iload_n 2) := ⟨by decide +kernel, rfl⟩
theorem dX12_placeOf_27 : dec cX12_placeOf 27 1 28 (.istore_n 2) := ⟨by decide +kernel, rfl⟩
theorem dX12_placeOf_28 : dec cX12_placeOf 28 3 31 (.iinc 3 1) := ⟨by decide +kernel, rfl⟩
theorem dX12_placeOf_31 : dec cX12_placeOf 31 3 34 (.goto (-27)) := ⟨by decide +kernel, rfl⟩
theorem dX12_placeOf_34 : dec cX12_placeOf 34 1 35 (.iload_n 2) := ⟨by decide +kernel, rfl⟩
theorem dX12_placeOf_35 : dec cX12_placeOf 35 1 36 (.ireturn) := ⟨by decide +kernel, rfl⟩
set_option maxHeartbeats 4000000 in
set_option maxRecDepth 100000 in
theorem tX12_placeOf_J27 {X : Cx} {Y : Yx} {M0 : Mem} (hC : OKX X Y RX12 cX12_placeOf 4 (some .int) rmX12_placeOf) (hF : Y.2.2.2.2 = true) (hL : Lay M0) (Q : Int → Mem → Prop) (C4 : Int → Int → Mem → Prop)  (a0 : Nat) (x1 : Int) (x3 : Int) (xs0 : Int) (qa0 : 0 < a0 ∧ M0 0 a0 = kO 12) (hC4 : ∀ (x2 : Int) (x3 : Int) (M : Mem), C4 x2 x3 M → WW X Y 4 rmX12_placeOf (QI Q) M0 0 0 4 [(0, vR Y.1 a0), (1, vI x1), (2, vI x2), (3, vI x3)] [] M) (M : Mem) (h : wX12_placeOf_J27 Q C4 a0 x1 x3 xs0 M) : WW X Y 4 rmX12_placeOf (QI Q) M0 0 0 27 [(0, vR Y.1 a0), (1, vI x1), (3, vI x3)] [vI xs0] M := by
  unfold wX12_placeOf_J27 at h
  refine r_istore_n (lv' := [(2, vI xs0), (0, vR Y.1 a0), (1, vI x1), (3, vI x3)]) hC dX12_placeOf_27 rfl (by decide) rfl ?_
  refine let_elim h (fun x3_4 e_5 h => ?_)
  refine r_iinc (lv' := [(3, vI x3_4), (2, vI xs0), (0, vR Y.1 a0), (1, vI x1)]) hC 3 dX12_placeOf_28 rfl (by decide) e_5 rfl ?_
  refine r_goto hC 4 dX12_placeOf_31 (by decide) ?_
  refine r_sub [2, 3, 1, 0] rfl ?_
  exact hC4 _ _ _ h
set_option maxHeartbeats 4000000 in
set_option maxRecDepth 100000 in
theorem tX12_placeOf_L4 {X : Cx} {Y : Yx} {M0 : Mem} (hC : OKX X Y RX12 cX12_placeOf 4 (some .int) rmX12_placeOf) (hF : Y.2.2.2.2 = true) (hL : Lay M0) (Q : Int → Mem → Prop)  (a0 : Nat) (x1 : Int) (qa0 : 0 < a0 ∧ M0 0 a0 = kO 12)  : ∀ (N : Nat) (x2 : Int) (x3 : Int) (M : Mem) (_ : wX12_placeOf_L4 Q  a0 x1 N x2 x3 M), WW X Y 4 rmX12_placeOf (QI Q) M0 0 0 4 [(0, vR Y.1 a0), (1, vI x1), (2, vI x2), (3, vI x3)] [] M := by
  intro N
  induction N with
  | zero =>
    intro x2 x3 M h
    exact h.elim
  | succ N ih =>
    intro x2 x3 M h
    unfold wX12_placeOf_L4 at h
    refine r_iload_n hC 3 dX12_placeOf_4 rfl rfl ?_
    refine r_aload_n hC 0 dX12_placeOf_5 rfl rfl ?_
    refine r_getI hC fg_X12_162 rfl qa0.1 qa0.2 dX12_placeOf_6 ?_
    refine r_icmp_ge hC 34 rfl rfl dX12_placeOf_9 (by decide) (fun cq => ?_) (fun cq => ?_)
    · replace h := h.1 cq
      refine r_iload_n hC 2 dX12_placeOf_34 rfl rfl ?_
      exact r_iret hC (Nat.zero_le _) (Nat.zero_le _) dX12_placeOf_35 ⟨_, rfl, h⟩
    · replace h := h.2 cq
      refine r_aload_n hC 0 dX12_placeOf_12 rfl rfl ?_
      have q_2 : 0 < a0 + 7 ∧ M0 0 (a0 + 7) = kA 0 12 := lay_f0 (a := a0) hL qa0 fm_12_12
      refine r_getR0 (a' := a0 + 7) hC fg_X12_28 rfl hF fm_12_12 qa0.1 qa0.2 rfl dX12_placeOf_13 ?_
      refine r_iload_n hC 3 dX12_placeOf_16 rfl rfl ?_
      obtain ⟨i_3, h⟩ := h
      refine r_iald hC i_3 q_2.1 q_2.2 (by decide) dX12_placeOf_17 ?_
      refine r_iload_n hC 1 dX12_placeOf_18 rfl rfl ?_
      refine r_icmp_ne hC 26 rfl rfl dX12_placeOf_19 (by decide) (fun cq => ?_) (fun cq => ?_)
      · replace h := h.2 cq
        refine r_iload_n hC 2 dX12_placeOf_26 rfl rfl ?_
        refine r_sub [0, 1, 3] rfl ?_
        exact tX12_placeOf_J27 hC hF hL Q _  _ _ _ _ qa0 ih _ h
      · replace h := h.1 cq
        refine r_iload_n hC 3 dX12_placeOf_22 rfl rfl ?_
        refine r_goto hC 27 dX12_placeOf_23 (by decide) ?_
        refine r_sub [0, 1, 3] rfl ?_
        exact tX12_placeOf_J27 hC hF hL Q _  _ _ _ _ qa0 ih _ h
set_option maxHeartbeats 4000000 in
set_option maxRecDepth 100000 in
theorem mX12_placeOf (Y : Yx) (hF : Y.2.2.2.2 = true) (l : Launch) (a0 : Nat) (x1 : Int) (M0 : Mem) (Q : Int → Mem → Prop) (qa0 : 0 < a0 ∧ M0 0 a0 = kO 12) (h : wX12_placeOf a0 x1 M0 Q) : CT Y l yX12_placeOf cX12_placeOf 4 (some .int) rmX12_placeOf [vR Y.1 a0, vI x1] M0 (QI Q) := by
  unfold wX12_placeOf at h
  refine ct_intro (by decide) (Nat.le_of_ble_eq_true rfl) ?_
  intro X hXl hC hL0
  have hL := hL0 hF
  change OKX X Y RX12 cX12_placeOf 4 (some .int) rmX12_placeOf at hC
  change WW X Y 4 rmX12_placeOf (QI Q) M0 0 0 0 [(0, vR Y.1 a0), (1, vI x1)] [] M0
  refine r_iconst hC dX12_placeOf_0 ?_
  refine r_nameI h (fun x2_1 h => ?_)
  refine r_istore_n (lv' := [(2, vI x2_1), (0, vR Y.1 a0), (1, vI x1)]) hC dX12_placeOf_1 rfl (by decide) rfl ?_
  refine r_iconst hC dX12_placeOf_2 ?_
  refine r_istore_n (lv' := [(3, vI 0), (2, vI x2_1), (0, vR Y.1 a0), (1, vI x1)]) hC dX12_placeOf_3 rfl (by decide) rfl ?_
  refine r_sub [2, 3, 1, 0] rfl ?_
  obtain ⟨N_6, h⟩ := h
  refine tX12_placeOf_L4 hC hF hL Q  _ _ qa0  N_6 _ _ _ h
theorem dX12_isBroken_0 : dec cX12_isBroken 0 3 3 (.sipush 1200) := ⟨by decide +kernel, rfl⟩
theorem dX12_isBroken_3 : dec cX12_isBroken 3 1 4 (.iconst 4) := ⟨by decide +kernel, rfl⟩
theorem dX12_isBroken_4 : dec cX12_isBroken 4 1 5 (.iload_n 1) := ⟨by decide +kernel, rfl⟩
theorem dX12_isBroken_5 : dec cX12_isBroken 5 1 6 (.imul) := ⟨by decide +kernel, rfl⟩
theorem dX12_isBroken_6 : dec cX12_isBroken 6 1 7 (.iadd) := ⟨by decide +kernel, rfl⟩
theorem dX12_isBroken_7 : dec cX12_isBroken 7 1 8 (.istore_n 2) := ⟨by decide +kernel, rfl⟩
theorem dX12_isBroken_8 : dec cX12_isBroken 8 1 9 (.aload_n 0) := ⟨by decide +kernel, rfl⟩
theorem dX12_isBroken_9 : dec cX12_isBroken 9 3 12 (.getfield 7) := ⟨by decide +kernel, rfl⟩
theorem dX12_isBroken_12 : dec cX12_isBroken 12 1 13 (.iload_n 2) := ⟨by decide +kernel, rfl⟩
theorem dX12_isBroken_13 : dec cX12_isBroken 13 1 14 (.iaload) := ⟨by decide +kernel, rfl⟩
theorem dX12_isBroken_14 : dec cX12_isBroken 14 1 15 (.istore_n 3) := ⟨by decide +kernel, rfl⟩
theorem dX12_isBroken_15 : dec cX12_isBroken 15 1 16 (.aload_n 0) := ⟨by decide +kernel, rfl⟩
theorem dX12_isBroken_16 : dec cX12_isBroken 16 1 17 (.aload_n 0) := ⟨by decide +kernel, rfl⟩
theorem dX12_isBroken_17 : dec cX12_isBroken 17 3 20 (.getfield 7) := ⟨by decide +kernel, rfl⟩
theorem dX12_isBroken_20 : dec cX12_isBroken 20 1 21 (.iload_n 2) := ⟨by decide +kernel, rfl⟩
theorem dX12_isBroken_21 : dec cX12_isBroken 21 1 22 (.iconst 1) := ⟨by decide +kernel, rfl⟩
theorem dX12_isBroken_22 : dec cX12_isBroken 22 1 23 (.iadd) := ⟨by decide +kernel, rfl⟩
theorem dX12_isBroken_23 : dec cX12_isBroken 23 1 24 (.iaload) := ⟨by decide +kernel, rfl⟩
theorem dX12_isBroken_24 : dec cX12_isBroken 24 3 27 (.invokevirtual 174) := ⟨by decide +kernel, rfl⟩
theorem dX12_isBroken_27 : dec cX12_isBroken 27 2 29 (.istore 4) := ⟨by decide +kernel, rfl⟩
theorem dX12_isBroken_29 : dec cX12_isBroken 29 1 30 (.aload_n 0) := ⟨by decide +kernel, rfl⟩
theorem dX12_isBroken_30 : dec cX12_isBroken 30 1 31 (.aload_n 0) := ⟨by decide +kernel, rfl⟩
theorem dX12_isBroken_31 : dec cX12_isBroken 31 3 34 (.getfield 7) := ⟨by decide +kernel, rfl⟩
theorem dX12_isBroken_34 : dec cX12_isBroken 34 1 35 (.iload_n 2) := ⟨by decide +kernel, rfl⟩
theorem dX12_isBroken_35 : dec cX12_isBroken 35 1 36 (.iconst 2) := ⟨by decide +kernel, rfl⟩
theorem dX12_isBroken_36 : dec cX12_isBroken 36 1 37 (.iadd) := ⟨by decide +kernel, rfl⟩
theorem dX12_isBroken_37 : dec cX12_isBroken 37 1 38 (.iaload) := ⟨by decide +kernel, rfl⟩
theorem dX12_isBroken_38 : dec cX12_isBroken 38 3 41 (.invokevirtual 174) := ⟨by decide +kernel, rfl⟩
theorem dX12_isBroken_41 : dec cX12_isBroken 41 2 43 (.istore 5) := ⟨by decide +kernel, rfl⟩
theorem dX12_isBroken_43 : dec cX12_isBroken 43 1 44 (.iload_n 3) := ⟨by decide +kernel, rfl⟩
theorem dX12_isBroken_44 : dec cX12_isBroken 44 3 47 (.ifCond .eq 13) := ⟨by decide +kernel, rfl⟩
theorem dX12_isBroken_47 : dec cX12_isBroken 47 1 48 (.iload_n 3) := ⟨by decide +kernel, rfl⟩
theorem dX12_isBroken_48 : dec cX12_isBroken 48 1 49 (.iconst 1) := ⟨by decide +kernel, rfl⟩
theorem dX12_isBroken_49 : dec cX12_isBroken 49 3 52 (.if_icmp .eq 8) := ⟨by decide +kernel, rfl⟩
theorem dX12_isBroken_52 : dec cX12_isBroken 52 1 53 (.iload_n 3) := ⟨by decide +kernel, rfl⟩
theorem dX12_isBroken_53 : dec cX12_isBroken 53 1 54 (.iconst 5) := ⟨by decide +kernel, rfl⟩
theorem dX12_isBroken_54 : dec cX12_isBroken 54 3 57 (.if_icmp .ne 7) := ⟨by decide +kernel, rfl⟩
theorem dX12_isBroken_57 : dec cX12_isBroken 57 1 58 (.iconst 1) := ⟨by decide +kernel, rfl⟩
theorem dX12_isBroken_58 : dec cX12_isBroken 58 3 61 (.goto 4) := ⟨by decide +kernel, rfl⟩
theorem dX12_isBroken_61 : dec cX12_isBroken 61 1 62 (.iconst 0) := ⟨by decide +kernel, rfl⟩
theorem dX12_isBroken_62 : dec cX12_isBroken 62 2 64 (.istore 6) := ⟨by decide +kernel, rfl⟩
theorem dX12_isBroken_64 : dec cX12_isBroken 64 2 66 (.iload 4) := ⟨by decide +kernel, rfl⟩
theorem dX12_isBroken_66 : dec cX12_isBroken 66 3 69 (.ifCond .lt 13) := ⟨by decide +kernel, rfl⟩
theorem dX12_isBroken_69 : dec cX12_isBroken 69 2 71 (.iload 6) := ⟨by decide +kernel, rfl⟩
theorem dX12_isBroken_71 : dec cX12_isBroken 71 3 74 (.ifCond .eq 10) := ⟨by decide +kernel, rfl⟩
theorem dX12_isBroken_74 : dec cX12_isBroken 74 2 76 (.iload 5) := ⟨by decide +kernel, rfl⟩
theorem dX12_isBroken_76 : dec cX12_isBroken 76 3 79 (.ifCond .ge 5) := ⟨by decide +kernel, rfl⟩
theorem dX12_isBroken_79 : dec cX12_isBroken 79 1 80 (.iconst 0) := ⟨by decide +kernel, rfl⟩
theorem dX12_isBroken_80 : dec cX12_isBroken 80 1 81 (.ireturn) := ⟨by decide +kernel, rfl⟩
theorem dX12_isBroken_81 : dec cX12_isBroken 81 1 82 (.iload_n 3) := ⟨by decide +kernel, rfl⟩
theorem dX12_isBroken_82 : dec cX12_isBroken 82 42 124 (.tableswitch 171 0 6 #[42, 57, 99, 123, 134, 151, 164]) := ⟨by decide +kernel, rfl⟩
theorem dX12_isBroken_124 : dec cX12_isBroken 124 2 126 (.iload 4) := ⟨by decide +kernel, rfl⟩
theorem dX12_isBroken_126 : dec cX12_isBroken 126 2 128 (.iload 5) := ⟨by decide +kernel, rfl⟩
theorem dX12_isBroken_128 : dec cX12_isBroken 128 1 129 (.iconst 1) := ⟨by decide +kernel, rfl⟩
theorem dX12_isBroken_129 : dec cX12_isBroken 129 1 130 (.iadd) := ⟨by decide +kernel, rfl⟩
theorem dX12_isBroken_130 : dec cX12_isBroken 130 3 133 (.if_icmp .ne 7) := ⟨by decide +kernel, rfl⟩
theorem dX12_isBroken_133 : dec cX12_isBroken 133 1 134 (.iconst 1) := ⟨by decide +kernel, rfl⟩
theorem dX12_isBroken_134 : dec cX12_isBroken 134 3 137 (.goto 4) := ⟨by decide +kernel, rfl⟩
theorem dX12_isBroken_137 : dec cX12_isBroken 137 1 138 (.iconst 0) := ⟨by decide +kernel, rfl⟩
theorem dX12_isBroken_138 : dec cX12_isBroken 138 1 139 (.ireturn) := ⟨by decide +kernel, rfl⟩
theorem dX12_isBroken_139 : dec cX12_isBroken 139 2 141 (.iload 4) := ⟨by decide +kernel, rfl⟩
theorem dX12_isBroken_141 : dec cX12_isBroken 141 2 143 (.iload 5) := ⟨by decide +kernel, rfl⟩
theorem dX12_isBroken_143 : dec cX12_isBroken 143 1 144 (.iconst 1) := ⟨by decide +kernel, rfl⟩
theorem dX12_isBroken_144 : dec cX12_isBroken 144 1 145 (.iadd) := ⟨by decide +kernel, rfl⟩
theorem dX12_isBroken_145 : dec cX12_isBroken 145 3 148 (.if_icmp .ne 12) := ⟨by decide +kernel, rfl⟩
theorem dX12_isBroken_148 : dec cX12_isBroken 148 1 149 (.aload_n 0) := ⟨by decide +kernel, rfl⟩
theorem dX12_isBroken_149 : dec cX12_isBroken 149 2 151 (.iload 4) := ⟨by decide +kernel, rfl⟩
theorem dX12_isBroken_151 : dec cX12_isBroken 151 3 154 (.invokevirtual 165) := ⟨by decide +kernel, rfl⟩
theorem dX12_isBroken_154 : dec cX12_isBroken 154 3 157 (.ifCond .eq 25) := ⟨by decide +kernel, rfl⟩
theorem dX12_isBroken_157 : dec cX12_isBroken 157 2 159 (.iload 5) := ⟨by decide +kernel, rfl⟩
theorem dX12_isBroken_159 : dec cX12_isBroken 159 2 161 (.iload 4) := ⟨by decide +kernel, rfl⟩
theorem dX12_isBroken_161 : dec cX12_isBroken 161 1 162 (.iconst 1) := ⟨by decide +kernel, rfl⟩
theorem dX12_isBroken_162 : dec cX12_isBroken 162 1 163 (.iadd) := ⟨by decide +kernel, rfl⟩
theorem dX12_isBroken_163 : dec cX12_isBroken 163 3 166 (.if_icmp .ne 12) := ⟨by decide +kernel, rfl⟩
theorem dX12_isBroken_166 : dec cX12_isBroken 166 1 167 (.aload_n 0) := ⟨by decide +kernel, rfl⟩
theorem dX12_isBroken_167 : dec cX12_isBroken 167 2 169 (.iload 5) := ⟨by decide +kernel, rfl⟩
theorem dX12_isBroken_169 : dec cX12_isBroken 169 3 172 (.invokevirtual 165) := ⟨by decide +kernel, rfl⟩
theorem dX12_isBroken_172 : dec cX12_isBroken 172 3 175 (.ifCond .eq 7) := ⟨by decide +kernel, rfl⟩
theorem dX12_isBroken_175 : dec cX12_isBroken 175 1 176 (.iconst 1) := ⟨by decide +kernel, rfl⟩
theorem dX12_isBroken_176 : dec cX12_isBroken 176 3 179 (.goto 4) := ⟨by decide +kernel, rfl⟩
theorem dX12_isBroken_179 : dec cX12_isBroken 179 1 180 (.iconst 0) := ⟨by decide +kernel, rfl⟩
theorem dX12_isBroken_180 : dec cX12_isBroken 180 1 181 (.ireturn) := ⟨by decide +kernel, rfl⟩
theorem dX12_isBroken_181 : dec cX12_isBroken 181 1 182 (.aload_n 0) := ⟨by decide +kernel, rfl⟩
theorem dX12_isBroken_182 : dec cX12_isBroken 182 3 185 (.getfield 34) := ⟨by decide +kernel, rfl⟩
theorem dX12_isBroken_185 : dec cX12_isBroken 185 2 187 (.iload 4) := ⟨by decide +kernel, rfl⟩
theorem dX12_isBroken_187 : dec cX12_isBroken 187 1 188 (.iaload) := ⟨by decide +kernel, rfl⟩
theorem dX12_isBroken_188 : dec cX12_isBroken 188 1 189 (.aload_n 0) := ⟨by decide +kernel, rfl⟩
theorem dX12_isBroken_189 : dec cX12_isBroken 189 3 192 (.getfield 7) := ⟨by decide +kernel, rfl⟩
theorem dX12_isBroken_192 : dec cX12_isBroken 192 1 193 (.iload_n 2) := ⟨by decide +kernel, rfl⟩
theorem dX12_isBroken_193 : dec cX12_isBroken 193 1 194 (.iconst 3) := ⟨by decide +kernel, rfl⟩
theorem dX12_isBroken_194 : dec cX12_isBroken 194 1 195 (.iadd) := ⟨by decide +kernel, rfl⟩
theorem dX12_isBroken_195 : dec cX12_isBroken 195 1 196 (.iaload) := ⟨by decide +kernel, rfl⟩
theorem dX12_isBroken_196 : dec cX12_isBroken 196 3 199 (.if_icmp .le 7) := ⟨by decide +kernel, rfl⟩
theorem dX12_isBroken_199 : dec cX12_isBroken 199 1 200 (.iconst 1) := ⟨by decide +kernel, rfl⟩
theorem dX12_isBroken_200 : dec cX12_isBroken 200 3 203 (.goto 4) := ⟨by decide +kernel, rfl⟩
theorem dX12_isBroken_203 : dec cX12_isBroken 203 1 204 (.iconst 0) := ⟨by decide +kernel, rfl⟩
theorem dX12_isBroken_204 : dec cX12_isBroken 204 1 205 (.ireturn) := ⟨by decide +kernel, rfl⟩
theorem dX12_isBroken_205 : dec cX12_isBroken 205 2 207 (.iload 4) := ⟨by decide +kernel, rfl⟩
theorem dX12_isBroken_207 : dec cX12_isBroken 207 3 210 (.ifCond .ne 7) := ⟨by decide +kernel, rfl⟩
theorem dX12_isBroken_210 : dec cX12_isBroken 210 1 211 (.iconst 1) := ⟨by decide +kernel, rfl⟩
theorem dX12_isBroken_211 : dec cX12_isBroken 211 3 214 (.goto 4) := ⟨by decide +kernel, rfl⟩
theorem dX12_isBroken_214 : dec cX12_isBroken 214 1 215 (.iconst 0) := ⟨by decide +kernel, rfl⟩
theorem dX12_isBroken_215 : dec cX12_isBroken 215 1 216 (.ireturn) := ⟨by decide +kernel, rfl⟩
theorem dX12_isBroken_216 : dec cX12_isBroken 216 2 218 (.iload 4) := ⟨by decide +kernel, rfl⟩
theorem dX12_isBroken_218 : dec cX12_isBroken 218 1 219 (.aload_n 0) := ⟨by decide +kernel, rfl⟩
theorem dX12_isBroken_219 : dec cX12_isBroken 219 3 222 (.getfield 162) := ⟨by decide +kernel, rfl⟩
theorem dX12_isBroken_222 : dec cX12_isBroken 222 1 223 (.iconst 1) := ⟨by decide +kernel, rfl⟩
theorem dX12_isBroken_223 : dec cX12_isBroken 223 1 224 (.isub) := ⟨by decide +kernel, rfl⟩
theorem dX12_isBroken_224 : dec cX12_isBroken 224 3 227 (.if_icmp .ne 7) := ⟨by decide +kernel, rfl⟩
theorem dX12_isBroken_227 : dec cX12_isBroken 227 1 228 (.iconst 1) := ⟨by decide +kernel, rfl⟩
theorem dX12_isBroken_228 : dec cX12_isBroken 228 3 231 (.goto 4) := ⟨by decide +kernel, rfl⟩
theorem dX12_isBroken_231 : dec cX12_isBroken 231 1 232 (.iconst 0) := ⟨by decide +kernel, rfl⟩
theorem dX12_isBroken_232 : dec cX12_isBroken 232 1 233 (.ireturn) := ⟨by decide +kernel, rfl⟩
theorem dX12_isBroken_233 : dec cX12_isBroken 233 2 235 (.iload 4) := ⟨by decide +kernel, rfl⟩
theorem dX12_isBroken_235 : dec cX12_isBroken 235 2 237 (.iload 5) := ⟨by decide +kernel, rfl⟩
theorem dX12_isBroken_237 : dec cX12_isBroken 237 3 240 (.if_icmp .le 7) := ⟨by decide +kernel, rfl⟩
theorem dX12_isBroken_240 : dec cX12_isBroken 240 1 241 (.iconst 1) := ⟨by decide +kernel, rfl⟩
theorem dX12_isBroken_241 : dec cX12_isBroken 241 3 244 (.goto 4) := ⟨by decide +kernel, rfl⟩
theorem dX12_isBroken_244 : dec cX12_isBroken 244 1 245 (.iconst 0) := ⟨by decide +kernel, rfl⟩
theorem dX12_isBroken_245 : dec cX12_isBroken 245 1 246 (.ireturn) := ⟨by decide +kernel, rfl⟩
theorem dX12_isBroken_246 : dec cX12_isBroken 246 1 247 (.aload_n 0) := ⟨by decide +kernel, rfl⟩
theorem dX12_isBroken_247 : dec cX12_isBroken 247 2 249 (.iload 4) := ⟨by decide +kernel, rfl⟩
theorem dX12_isBroken_249 : dec cX12_isBroken 249 3 252 (.invokevirtual 165) := ⟨by decide +kernel, rfl⟩
theorem dX12_isBroken_252 : dec cX12_isBroken 252 1 253 (.ireturn) := ⟨by decide +kernel, rfl⟩
theorem dX12_isBroken_253 : dec cX12_isBroken 253 1 254 (.aload_n 0) := ⟨by decide +kernel, rfl⟩
theorem dX12_isBroken_254 : dec cX12_isBroken 254 3 257 (.getfield 159) := ⟨by decide +kernel, rfl⟩
theorem dX12_isBroken_257 : dec cX12_isBroken 257 3 260 (.ifCond .le 16) := ⟨by decide +kernel, rfl⟩
theorem dX12_isBroken_260 : dec cX12_isBroken 260 2 262 (.iload 4) := ⟨by decide +kernel, rfl⟩
theorem dX12_isBroken_262 : dec cX12_isBroken 262 1 263 (.aload_n 0) := ⟨by decide +kernel, rfl⟩
theorem dX12_isBroken_263 : dec cX12_isBroken 263 3 266 (.getfield 159) := ⟨by decide +kernel, rfl⟩
theorem dX12_isBroken_266 : dec cX12_isBroken 266 3 269 (.if_icmp .lt 7) := ⟨by decide +kernel, rfl⟩
theorem dX12_isBroken_269 : dec cX12_isBroken 269 1 270 (.iconst 1) := ⟨by decide +kernel, rfl⟩
theorem dX12_isBroken_270 : dec cX12_isBroken 270 3 273 (.goto 4) := ⟨by decide +kernel, rfl⟩
theorem dX12_isBroken_273 : dec cX12_isBroken 273 1 274 (.iconst 0) := ⟨by decide +kernel, rfl⟩
theorem dX12_isBroken_274 : dec cX12_isBroken 274 1 275 (.ireturn) := ⟨by decide +kernel, rfl⟩
set_option maxHeartbeats 4000000 in
set_option maxRecDepth 100000 in
theorem tX12_isBroken_J157 {X : Cx} {Y : Yx} {M0 : Mem} (hC : OKX X Y RX12 cX12_isBroken 7 (some .boolean) rmX12_isBroken) (hF : Y.2.2.2.2 = true) (hL : Lay M0) (Q : Int → Mem → Prop)   (a0 : Nat) (x4 : Int) (x5 : Int) (qa0 : 0 < a0 ∧ M0 0 a0 = kO 12)  (M : Mem) (h : wX12_isBroken_J157 Q  a0 x4 x5 M) : WW X Y 7 rmX12_isBroken (QI Q) M0 0 0 157 [(0, vR Y.1 a0), (4, vI x4), (5, vI x5)] [] M := by
  unfold wX12_isBroken_J157 at h
  refine r_iload hC 2 dX12_isBroken_157 rfl ?_
  refine r_iload hC 1 dX12_isBroken_159 rfl ?_
  refine r_iconst hC dX12_isBroken_161 ?_
  refine r_iadd hC dX12_isBroken_162 ?_
  refine r_icmp_ne hC 175 rfl rfl dX12_isBroken_163 (by decide) (fun cq => ?_) (fun cq => ?_)
  · replace h := h.2 cq
    refine r_iconst hC dX12_isBroken_175 ?_
    refine r_goto hC 180 dX12_isBroken_176 (by decide) ?_
    exact r_zret hC (Or.inr rfl) (Nat.zero_le _) (Nat.zero_le _) dX12_isBroken_180 ⟨_, rfl, h⟩
  · replace h := h.1 cq
    refine r_aload_n hC 0 dX12_isBroken_166 rfl rfl ?_
    refine r_iload hC 2 dX12_isBroken_167 rfl ?_
    refine r_callV (As := [vI x5]) (st := []) hC cw_X12_165 rfl qa0.1 qa0.2 rfl rfl (Nat.le_of_ble_eq_true rfl) ⟨Nat.le_of_ble_eq_true rfl, Nat.le_of_ble_eq_true rfl⟩ ⟨Nat.le_of_ble_eq_true rfl, Nat.le_of_ble_eq_true rfl⟩ dX12_isBroken_169 (fun hk => mX12_isApart Y hF _ _ _ _ _ (kqO hk qa0) h) (fun v M_13 h => ?_)
    obtain ⟨r_14, rfl, h⟩ := h
    refine r_if_eq hC 179 rfl dX12_isBroken_172 (by decide) (fun cq => ?_) (fun cq => ?_)
    · replace h := h.1 cq
      refine r_iconst hC dX12_isBroken_179 ?_
      exact r_zret hC (Or.inl rfl) (Nat.zero_le _) (Nat.zero_le _) dX12_isBroken_180 ⟨_, rfl, h⟩
    · replace h := h.2 cq
      refine r_iconst hC dX12_isBroken_175 ?_
      refine r_goto hC 180 dX12_isBroken_176 (by decide) ?_
      exact r_zret hC (Or.inr rfl) (Nat.zero_le _) (Nat.zero_le _) dX12_isBroken_180 ⟨_, rfl, h⟩
set_option maxHeartbeats 4000000 in
set_option maxRecDepth 100000 in
theorem tX12_isBroken_J81 {X : Cx} {Y : Yx} {M0 : Mem} (hC : OKX X Y RX12 cX12_isBroken 7 (some .boolean) rmX12_isBroken) (hF : Y.2.2.2.2 = true) (hL : Lay M0) (Q : Int → Mem → Prop)   (a0 : Nat) (x2 : Int) (x3 : Int) (x4 : Int) (x5 : Int) (qa0 : 0 < a0 ∧ M0 0 a0 = kO 12)  (M : Mem) (h : wX12_isBroken_J81 Q  a0 x2 x3 x4 x5 M) : WW X Y 7 rmX12_isBroken (QI Q) M0 0 0 81 [(0, vR Y.1 a0), (2, vI x2), (3, vI x3), (4, vI x4), (5, vI x5)] [] M := by
  unfold wX12_isBroken_J81 at h
  refine r_iload_n hC 2 dX12_isBroken_81 rfl rfl ?_
  by_cases c0 : bm x3 = 0
  · replace h := h.1 c0
    refine r_tabIn hC 124 0 dX12_isBroken_82 c0 (by decide) (by decide) rfl (by decide) ?_
    refine r_iload hC 3 dX12_isBroken_124 rfl ?_
    refine r_iload hC 4 dX12_isBroken_126 rfl ?_
    refine r_iconst hC dX12_isBroken_128 ?_
    refine r_iadd hC dX12_isBroken_129 ?_
    refine r_icmp_ne hC 137 rfl rfl dX12_isBroken_130 (by decide) (fun cq => ?_) (fun cq => ?_)
    · replace h := h.2 cq
      refine r_iconst hC dX12_isBroken_137 ?_
      exact r_zret hC (Or.inl rfl) (Nat.zero_le _) (Nat.zero_le _) dX12_isBroken_138 ⟨_, rfl, h⟩
    · replace h := h.1 cq
      refine r_iconst hC dX12_isBroken_133 ?_
      refine r_goto hC 138 dX12_isBroken_134 (by decide) ?_
      exact r_zret hC (Or.inr rfl) (Nat.zero_le _) (Nat.zero_le _) dX12_isBroken_138 ⟨_, rfl, h⟩
  · replace h := h.2 c0
    by_cases c1 : bm x3 = 1
    · replace h := h.1 c1
      refine r_tabIn hC 139 1 dX12_isBroken_82 c1 (by decide) (by decide) rfl (by decide) ?_
      refine r_iload hC 3 dX12_isBroken_139 rfl ?_
      refine r_iload hC 4 dX12_isBroken_141 rfl ?_
      refine r_iconst hC dX12_isBroken_143 ?_
      refine r_iadd hC dX12_isBroken_144 ?_
      refine r_icmp_ne hC 157 rfl rfl dX12_isBroken_145 (by decide) (fun cq => ?_) (fun cq => ?_)
      · replace h := h.2 cq
        refine r_sub [0, 3, 4] rfl ?_
        exact tX12_isBroken_J157 hC hF hL Q   _ _ _ qa0  _ h
      · replace h := h.1 cq
        refine r_aload_n hC 0 dX12_isBroken_148 rfl rfl ?_
        refine r_iload hC 3 dX12_isBroken_149 rfl ?_
        refine r_callV (As := [vI x4]) (st := []) hC cw_X12_165 rfl qa0.1 qa0.2 rfl rfl (Nat.le_of_ble_eq_true rfl) ⟨Nat.le_of_ble_eq_true rfl, Nat.le_of_ble_eq_true rfl⟩ ⟨Nat.le_of_ble_eq_true rfl, Nat.le_of_ble_eq_true rfl⟩ dX12_isBroken_151 (fun hk => mX12_isApart Y hF _ _ _ _ _ (kqO hk qa0) h) (fun v M_15 h => ?_)
        obtain ⟨r_16, rfl, h⟩ := h
        refine r_if_eq hC 179 rfl dX12_isBroken_154 (by decide) (fun cq => ?_) (fun cq => ?_)
        · replace h := h.1 cq
          refine r_iconst hC dX12_isBroken_179 ?_
          exact r_zret hC (Or.inl rfl) (Nat.zero_le _) (Nat.zero_le _) dX12_isBroken_180 ⟨_, rfl, h⟩
        · replace h := h.2 cq
          refine r_sub [0, 3, 4] rfl ?_
          exact tX12_isBroken_J157 hC hF hL Q   _ _ _ qa0  _ h
    · replace h := h.2 c1
      by_cases c2 : bm x3 = 2
      · replace h := h.1 c2
        refine r_tabIn hC 181 2 dX12_isBroken_82 c2 (by decide) (by decide) rfl (by decide) ?_
        refine r_aload_n hC 0 dX12_isBroken_181 rfl rfl ?_
        have q_17 : 0 < a0 + 9 ∧ M0 0 (a0 + 9) = kA 0 12 := lay_f0 (a := a0) hL qa0 fm_12_16
        refine r_getR0 (a' := a0 + 9) hC fg_X12_34 rfl hF fm_12_16 qa0.1 qa0.2 rfl dX12_isBroken_182 ?_
        refine r_iload hC 3 dX12_isBroken_185 rfl ?_
        obtain ⟨i_18, h⟩ := h
        refine r_iald hC i_18 q_17.1 q_17.2 (by decide) dX12_isBroken_187 ?_
        refine r_aload_n hC 0 dX12_isBroken_188 rfl rfl ?_
        have q_19 : 0 < a0 + 1 ∧ M0 0 (a0 + 1) = kA 0 1522 := lay_f0 (a := a0) hL qa0 fm_12_0
        refine r_getR0 (a' := a0 + 1) hC fg_X12_7 rfl hF fm_12_0 qa0.1 qa0.2 rfl dX12_isBroken_189 ?_
        refine r_iload_n hC 1 dX12_isBroken_192 rfl rfl ?_
        refine r_iconst hC dX12_isBroken_193 ?_
        refine r_iadd hC dX12_isBroken_194 ?_
        obtain ⟨i_20, h⟩ := h
        refine r_iald hC i_20 q_19.1 q_19.2 (by decide) dX12_isBroken_195 ?_
        refine r_icmp_le hC 203 rfl rfl dX12_isBroken_196 (by decide) (fun cq => ?_) (fun cq => ?_)
        · replace h := h.1 cq
          refine r_iconst hC dX12_isBroken_203 ?_
          exact r_zret hC (Or.inl rfl) (Nat.zero_le _) (Nat.zero_le _) dX12_isBroken_204 ⟨_, rfl, h⟩
        · replace h := h.2 cq
          refine r_iconst hC dX12_isBroken_199 ?_
          refine r_goto hC 204 dX12_isBroken_200 (by decide) ?_
          exact r_zret hC (Or.inr rfl) (Nat.zero_le _) (Nat.zero_le _) dX12_isBroken_204 ⟨_, rfl, h⟩
      · replace h := h.2 c2
        by_cases c3 : bm x3 = 3
        · replace h := h.1 c3
          refine r_tabIn hC 205 3 dX12_isBroken_82 c3 (by decide) (by decide) rfl (by decide) ?_
          refine r_iload hC 3 dX12_isBroken_205 rfl ?_
          refine r_if_ne hC 214 rfl dX12_isBroken_207 (by decide) (fun cq => ?_) (fun cq => ?_)
          · replace h := h.2 cq
            refine r_iconst hC dX12_isBroken_214 ?_
            exact r_zret hC (Or.inl rfl) (Nat.zero_le _) (Nat.zero_le _) dX12_isBroken_215 ⟨_, rfl, h⟩
          · replace h := h.1 cq
            refine r_iconst hC dX12_isBroken_210 ?_
            refine r_goto hC 215 dX12_isBroken_211 (by decide) ?_
            exact r_zret hC (Or.inr rfl) (Nat.zero_le _) (Nat.zero_le _) dX12_isBroken_215 ⟨_, rfl, h⟩
        · replace h := h.2 c3
          by_cases c4 : bm x3 = 4
          · replace h := h.1 c4
            refine r_tabIn hC 216 4 dX12_isBroken_82 c4 (by decide) (by decide) rfl (by decide) ?_
            refine r_iload hC 3 dX12_isBroken_216 rfl ?_
            refine r_aload_n hC 0 dX12_isBroken_218 rfl rfl ?_
            refine r_getI hC fg_X12_162 rfl qa0.1 qa0.2 dX12_isBroken_219 ?_
            refine r_iconst hC dX12_isBroken_222 ?_
            refine r_isub hC dX12_isBroken_223 ?_
            refine r_icmp_ne hC 231 rfl rfl dX12_isBroken_224 (by decide) (fun cq => ?_) (fun cq => ?_)
            · replace h := h.2 cq
              refine r_iconst hC dX12_isBroken_231 ?_
              exact r_zret hC (Or.inl rfl) (Nat.zero_le _) (Nat.zero_le _) dX12_isBroken_232 ⟨_, rfl, h⟩
            · replace h := h.1 cq
              refine r_iconst hC dX12_isBroken_227 ?_
              refine r_goto hC 232 dX12_isBroken_228 (by decide) ?_
              exact r_zret hC (Or.inr rfl) (Nat.zero_le _) (Nat.zero_le _) dX12_isBroken_232 ⟨_, rfl, h⟩
          · replace h := h.2 c4
            by_cases c5 : bm x3 = 5
            · replace h := h.1 c5
              refine r_tabIn hC 233 5 dX12_isBroken_82 c5 (by decide) (by decide) rfl (by decide) ?_
              refine r_iload hC 3 dX12_isBroken_233 rfl ?_
              refine r_iload hC 4 dX12_isBroken_235 rfl ?_
              refine r_icmp_le hC 244 rfl rfl dX12_isBroken_237 (by decide) (fun cq => ?_) (fun cq => ?_)
              · replace h := h.1 cq
                refine r_iconst hC dX12_isBroken_244 ?_
                exact r_zret hC (Or.inl rfl) (Nat.zero_le _) (Nat.zero_le _) dX12_isBroken_245 ⟨_, rfl, h⟩
              · replace h := h.2 cq
                refine r_iconst hC dX12_isBroken_240 ?_
                refine r_goto hC 245 dX12_isBroken_241 (by decide) ?_
                exact r_zret hC (Or.inr rfl) (Nat.zero_le _) (Nat.zero_le _) dX12_isBroken_245 ⟨_, rfl, h⟩
            · replace h := h.2 c5
              by_cases c6 : bm x3 = 6
              · replace h := h.1 c6
                refine r_tabIn hC 246 6 dX12_isBroken_82 c6 (by decide) (by decide) rfl (by decide) ?_
                refine r_aload_n hC 0 dX12_isBroken_246 rfl rfl ?_
                refine r_iload hC 3 dX12_isBroken_247 rfl ?_
                refine r_callV (As := [vI x4]) (st := []) hC cw_X12_165 rfl qa0.1 qa0.2 rfl rfl (Nat.le_of_ble_eq_true rfl) ⟨Nat.le_of_ble_eq_true rfl, Nat.le_of_ble_eq_true rfl⟩ ⟨Nat.le_of_ble_eq_true rfl, Nat.le_of_ble_eq_true rfl⟩ dX12_isBroken_249 (fun hk => mX12_isApart Y hF _ _ _ _ _ (kqO hk qa0) h) (fun v M_21 h => ?_)
                obtain ⟨r_22, rfl, h⟩ := h
                exact r_zret hC h.1 (Nat.zero_le _) (Nat.zero_le _) dX12_isBroken_252 ⟨_, rfl, h.2⟩
              · replace h := h.2 c6
                refine r_tabOut hC 253 dX12_isBroken_82 (by omega) (by decide) ?_
                refine r_aload_n hC 0 dX12_isBroken_253 rfl rfl ?_
                refine r_getI hC fg_X12_159 rfl qa0.1 qa0.2 dX12_isBroken_254 ?_
                refine r_if_le hC 273 rfl dX12_isBroken_257 (by decide) (fun cq => ?_) (fun cq => ?_)
                · replace h := h.1 cq
                  refine r_iconst hC dX12_isBroken_273 ?_
                  exact r_zret hC (Or.inl rfl) (Nat.zero_le _) (Nat.zero_le _) dX12_isBroken_274 ⟨_, rfl, h⟩
                · replace h := h.2 cq
                  refine r_iload hC 3 dX12_isBroken_260 rfl ?_
                  refine r_aload_n hC 0 dX12_isBroken_262 rfl rfl ?_
                  refine r_getI hC fg_X12_159 rfl qa0.1 qa0.2 dX12_isBroken_263 ?_
                  refine r_icmp_lt hC 273 rfl rfl dX12_isBroken_266 (by decide) (fun cq => ?_) (fun cq => ?_)
                  · replace h := h.1 cq
                    refine r_iconst hC dX12_isBroken_273 ?_
                    exact r_zret hC (Or.inl rfl) (Nat.zero_le _) (Nat.zero_le _) dX12_isBroken_274 ⟨_, rfl, h⟩
                  · replace h := h.2 cq
                    refine r_iconst hC dX12_isBroken_269 ?_
                    refine r_goto hC 274 dX12_isBroken_270 (by decide) ?_
                    exact r_zret hC (Or.inr rfl) (Nat.zero_le _) (Nat.zero_le _) dX12_isBroken_274 ⟨_, rfl, h⟩
set_option maxHeartbeats 4000000 in
set_option maxRecDepth 100000 in
theorem tX12_isBroken_J62 {X : Cx} {Y : Yx} {M0 : Mem} (hC : OKX X Y RX12 cX12_isBroken 7 (some .boolean) rmX12_isBroken) (hF : Y.2.2.2.2 = true) (hL : Lay M0) (Q : Int → Mem → Prop)   (a0 : Nat) (x2 : Int) (x3 : Int) (x4 : Int) (x5 : Int) (xs0 : Int) (qa0 : 0 < a0 ∧ M0 0 a0 = kO 12)  (M : Mem) (h : wX12_isBroken_J62 Q  a0 x2 x3 x4 x5 xs0 M) : WW X Y 7 rmX12_isBroken (QI Q) M0 0 0 62 [(0, vR Y.1 a0), (2, vI x2), (3, vI x3), (4, vI x4), (5, vI x5)] [vI xs0] M := by
  unfold wX12_isBroken_J62 at h
  refine r_istore (lv' := [(6, vI xs0), (0, vR Y.1 a0), (2, vI x2), (3, vI x3), (4, vI x4), (5, vI x5)]) hC dX12_isBroken_62 (by decide) rfl ?_
  refine r_iload hC 4 dX12_isBroken_64 rfl ?_
  refine r_if_lt hC 79 rfl dX12_isBroken_66 (by decide) (fun cq => ?_) (fun cq => ?_)
  · replace h := h.1 cq
    refine r_iconst hC dX12_isBroken_79 ?_
    exact r_zret hC (Or.inl rfl) (Nat.zero_le _) (Nat.zero_le _) dX12_isBroken_80 ⟨_, rfl, h⟩
  · replace h := h.2 cq
    refine r_iload hC 0 dX12_isBroken_69 rfl ?_
    refine r_if_eq hC 81 rfl dX12_isBroken_71 (by decide) (fun cq => ?_) (fun cq => ?_)
    · replace h := h.1 cq
      refine r_sub [1, 2, 3, 4, 5] rfl ?_
      exact tX12_isBroken_J81 hC hF hL Q   _ _ _ _ _ qa0  _ h
    · replace h := h.2 cq
      refine r_iload hC 5 dX12_isBroken_74 rfl ?_
      refine r_if_ge hC 81 rfl dX12_isBroken_76 (by decide) (fun cq => ?_) (fun cq => ?_)
      · replace h := h.1 cq
        refine r_sub [1, 2, 3, 4, 5] rfl ?_
        exact tX12_isBroken_J81 hC hF hL Q   _ _ _ _ _ qa0  _ h
      · replace h := h.2 cq
        refine r_iconst hC dX12_isBroken_79 ?_
        exact r_zret hC (Or.inl rfl) (Nat.zero_le _) (Nat.zero_le _) dX12_isBroken_80 ⟨_, rfl, h⟩
set_option maxHeartbeats 4000000 in
set_option maxRecDepth 100000 in
theorem tX12_isBroken_J57 {X : Cx} {Y : Yx} {M0 : Mem} (hC : OKX X Y RX12 cX12_isBroken 7 (some .boolean) rmX12_isBroken) (hF : Y.2.2.2.2 = true) (hL : Lay M0) (Q : Int → Mem → Prop)   (a0 : Nat) (x2 : Int) (x3 : Int) (x4 : Int) (x5 : Int) (qa0 : 0 < a0 ∧ M0 0 a0 = kO 12)  (M : Mem) (h : wX12_isBroken_J57 Q  a0 x2 x3 x4 x5 M) : WW X Y 7 rmX12_isBroken (QI Q) M0 0 0 57 [(0, vR Y.1 a0), (2, vI x2), (3, vI x3), (4, vI x4), (5, vI x5)] [] M := by
  unfold wX12_isBroken_J57 at h
  refine r_iconst hC dX12_isBroken_57 ?_
  refine r_goto hC 62 dX12_isBroken_58 (by decide) ?_
  refine r_sub [0, 1, 2, 3, 4] rfl ?_
  exact tX12_isBroken_J62 hC hF hL Q   _ _ _ _ _ _ qa0  _ h
set_option maxHeartbeats 4000000 in
set_option maxRecDepth 100000 in
theorem mX12_isBroken (Y : Yx) (hF : Y.2.2.2.2 = true) (l : Launch) (a0 : Nat) (x1 : Int) (M0 : Mem) (Q : Int → Mem → Prop) (qa0 : 0 < a0 ∧ M0 0 a0 = kO 12) (h : wX12_isBroken a0 x1 M0 Q) : CT Y l yX12_isBroken cX12_isBroken 7 (some .boolean) rmX12_isBroken [vR Y.1 a0, vI x1] M0 (QI Q) := by
  unfold wX12_isBroken at h
  refine ct_intro (by decide) (Nat.le_of_ble_eq_true rfl) ?_
  intro X hXl hC hL0
  have hL := hL0 hF
  change OKX X Y RX12 cX12_isBroken 7 (some .boolean) rmX12_isBroken at hC
  change WW X Y 7 rmX12_isBroken (QI Q) M0 0 0 0 [(0, vR Y.1 a0), (1, vI x1)] [] M0
  refine r_sipush hC (by decide +kernel) dX12_isBroken_0 ?_
  refine r_iconst hC dX12_isBroken_3 ?_
  refine r_iload_n hC 1 dX12_isBroken_4 rfl rfl ?_
  refine r_imul hC dX12_isBroken_5 ?_
  refine r_iadd hC dX12_isBroken_6 ?_
  refine r_nameI h (fun x2_1 h => ?_)
  refine r_istore_n (lv' := [(2, vI x2_1), (0, vR Y.1 a0), (1, vI x1)]) hC dX12_isBroken_7 rfl (by decide) rfl ?_
  refine r_aload_n hC 1 dX12_isBroken_8 rfl rfl ?_
  have q_2 : 0 < a0 + 1 ∧ M0 0 (a0 + 1) = kA 0 1522 := lay_f0 (a := a0) hL qa0 fm_12_0
  refine r_getR0 (a' := a0 + 1) hC fg_X12_7 rfl hF fm_12_0 qa0.1 qa0.2 rfl dX12_isBroken_9 ?_
  refine r_iload_n hC 0 dX12_isBroken_12 rfl rfl ?_
  obtain ⟨i_3, h⟩ := h
  refine r_iald hC i_3 q_2.1 q_2.2 (by decide) dX12_isBroken_13 ?_
  refine r_nameI h (fun x3_4 h => ?_)
  refine r_istore_n (lv' := [(3, vI x3_4), (2, vI x2_1), (0, vR Y.1 a0), (1, vI x1)]) hC dX12_isBroken_14 rfl (by decide) rfl ?_
  refine r_aload_n hC 2 dX12_isBroken_15 rfl rfl ?_
  refine r_aload_n hC 2 dX12_isBroken_16 rfl rfl ?_
  have q_5 : 0 < a0 + 1 ∧ M0 0 (a0 + 1) = kA 0 1522 := lay_f0 (a := a0) hL qa0 fm_12_0
  refine r_getR0 (a' := a0 + 1) hC fg_X12_7 rfl hF fm_12_0 qa0.1 qa0.2 rfl dX12_isBroken_17 ?_
  refine r_iload_n hC 1 dX12_isBroken_20 rfl rfl ?_
  refine r_iconst hC dX12_isBroken_21 ?_
  refine r_iadd hC dX12_isBroken_22 ?_
  obtain ⟨i_6, h⟩ := h
  refine r_iald hC i_6 q_5.1 q_5.2 (by decide) dX12_isBroken_23 ?_
  refine r_callV (As := [vI (rd M0 (a0 + 1) (x2_1 + 1))]) (st := []) hC cw_X12_174 rfl qa0.1 qa0.2 rfl rfl (Nat.le_of_ble_eq_true rfl) ⟨Nat.le_of_ble_eq_true rfl, Nat.le_of_ble_eq_true rfl⟩ ⟨Nat.le_of_ble_eq_true rfl, Nat.le_of_ble_eq_true rfl⟩ dX12_isBroken_24 (fun hk => mX12_placeOf Y hF _ _ _ _ _ (kqO hk qa0) h) (fun v M_7 h => ?_)
  obtain ⟨r_8, rfl, h⟩ := h
  refine r_istore (lv' := [(4, vI r_8), (3, vI x3_4), (2, vI x2_1), (0, vR Y.1 a0), (1, vI x1)]) hC dX12_isBroken_27 (by decide) rfl ?_
  refine r_aload_n hC 3 dX12_isBroken_29 rfl rfl ?_
  refine r_aload_n hC 3 dX12_isBroken_30 rfl rfl ?_
  have q_9 : 0 < a0 + 1 ∧ M0 0 (a0 + 1) = kA 0 1522 := lay_f0 (a := a0) hL qa0 fm_12_0
  refine r_getR0 (a' := a0 + 1) hC fg_X12_7 rfl hF fm_12_0 qa0.1 qa0.2 rfl dX12_isBroken_31 ?_
  refine r_iload_n hC 2 dX12_isBroken_34 rfl rfl ?_
  refine r_iconst hC dX12_isBroken_35 ?_
  refine r_iadd hC dX12_isBroken_36 ?_
  obtain ⟨i_10, h⟩ := h
  refine r_iald hC i_10 q_9.1 q_9.2 (by decide) dX12_isBroken_37 ?_
  refine r_callV (As := [vI (rd M_7 (a0 + 1) (x2_1 + 2))]) (st := []) hC cw_X12_174 rfl qa0.1 qa0.2 rfl rfl (Nat.le_of_ble_eq_true rfl) ⟨Nat.le_of_ble_eq_true rfl, Nat.le_of_ble_eq_true rfl⟩ ⟨Nat.le_of_ble_eq_true rfl, Nat.le_of_ble_eq_true rfl⟩ dX12_isBroken_38 (fun hk => mX12_placeOf Y hF _ _ _ _ _ (kqO hk qa0) h) (fun v M_11 h => ?_)
  obtain ⟨r_12, rfl, h⟩ := h
  refine r_istore (lv' := [(5, vI r_12), (4, vI r_8), (3, vI x3_4), (2, vI x2_1), (0, vR Y.1 a0), (1, vI x1)]) hC dX12_isBroken_41 (by decide) rfl ?_
  refine r_iload_n hC 2 dX12_isBroken_43 rfl rfl ?_
  refine r_if_eq hC 57 rfl dX12_isBroken_44 (by decide) (fun cq => ?_) (fun cq => ?_)
  · replace h := h.1 cq
    refine r_sub [4, 3, 2, 1, 0] rfl ?_
    exact tX12_isBroken_J57 hC hF hL Q   _ _ _ _ _ qa0  _ h
  · replace h := h.2 cq
    refine r_iload_n hC 2 dX12_isBroken_47 rfl rfl ?_
    refine r_iconst hC dX12_isBroken_48 ?_
    refine r_icmp_eq hC 57 rfl bmL_1 dX12_isBroken_49 (by decide) (fun cq => ?_) (fun cq => ?_)
    · replace h := h.1 cq
      refine r_sub [4, 3, 2, 1, 0] rfl ?_
      exact tX12_isBroken_J57 hC hF hL Q   _ _ _ _ _ qa0  _ h
    · replace h := h.2 cq
      refine r_iload_n hC 2 dX12_isBroken_52 rfl rfl ?_
      refine r_iconst hC dX12_isBroken_53 ?_
      refine r_icmp_ne hC 61 rfl bmL_5 dX12_isBroken_54 (by decide) (fun cq => ?_) (fun cq => ?_)
      · replace h := h.2 cq
        refine r_iconst hC dX12_isBroken_61 ?_
        refine r_sub [4, 3, 2, 1, 0] rfl ?_
        exact tX12_isBroken_J62 hC hF hL Q   _ _ _ _ _ _ qa0  _ h
      · replace h := h.1 cq
        refine r_sub [4, 3, 2, 1, 0] rfl ?_
        exact tX12_isBroken_J57 hC hF hL Q   _ _ _ _ _ qa0  _ h
theorem dX12_broken_0 : dec cX12_broken 0 1 1 (.iconst 0) := ⟨by decide +kernel, rfl⟩
theorem dX12_broken_1 : dec cX12_broken 1 1 2 (.istore_n 1) := ⟨by decide +kernel, rfl⟩
theorem dX12_broken_2 : dec cX12_broken 2 1 3 (.iconst 0) := ⟨by decide +kernel, rfl⟩
theorem dX12_broken_3 : dec cX12_broken 3 1 4 (.istore_n 2) := ⟨by decide +kernel, rfl⟩
theorem dX12_broken_4 : dec cX12_broken 4 1 5 (.iload_n 2) := ⟨by decide +kernel, rfl⟩
theorem dX12_broken_5 : dec cX12_broken 5 1 6 (.aload_n 0) := ⟨by decide +kernel, rfl⟩
theorem dX12_broken_6 : dec cX12_broken 6 3 9 (.getfield 7) := ⟨by decide +kernel, rfl⟩
theorem dX12_broken_9 : dec cX12_broken 9 1 10 (.iconst 2) := ⟨by decide +kernel, rfl⟩
theorem dX12_broken_10 : dec cX12_broken 10 1 11 (.iaload) := ⟨by decide +kernel, rfl⟩
theorem dX12_broken_11 : dec cX12_broken 11 3 14 (.if_icmp .ge 27) := ⟨by decide +kernel, rfl⟩
theorem dX12_broken_14 : dec cX12_broken 14 1 15 (.iload_n 1) := ⟨by decide +kernel, rfl⟩
theorem dX12_broken_15 : dec cX12_broken 15 1 16 (.aload_n 0) := ⟨by decide +kernel, rfl⟩
theorem dX12_broken_16 : dec cX12_broken 16 1 17 (.iload_n 2) := ⟨by decide +kernel, rfl⟩
theorem dX12_broken_17 : dec cX12_broken 17 3 20 (.invokevirtual 177) := ⟨by decide +kernel, rfl⟩
theorem dX12_broken_20 : dec cX12_broken 20 3 23 (.ifCond .eq 9) := ⟨by decide +kernel, rfl⟩
theorem dX12_broken_23 : dec cX12_broken 23 1 24 (.iconst 1) := ⟨by decide +kernel, rfl⟩
theorem dX12_broken_24 : dec cX12_broken 24 1 25 (.iload_n 2) := ⟨by decide +kernel, rfl⟩
theorem dX12_broken_25 : dec cX12_broken 25 1 26 (.ishl) := ⟨by decide +kernel, rfl⟩
theorem dX12_broken_26 : dec cX12_broken 26 3 29 (.goto 4) := ⟨by decide +kernel, rfl⟩
theorem dX12_broken_29 : dec cX12_broken 29 1 30 (.iconst 0) := ⟨by decide +kernel, rfl⟩
theorem dX12_broken_30 : dec cX12_broken 30 1 31 (.ior) := ⟨by decide +kernel, rfl⟩
theorem dX12_broken_31 : dec cX12_broken 31 1 32 (.istore_n 1) := ⟨by decide +kernel, rfl⟩
theorem dX12_broken_32 : dec cX12_broken 32 3 35 (.iinc 2 1) := ⟨by decide +kernel, rfl⟩
theorem dX12_broken_35 : dec cX12_broken 35 3 38 (.goto (-31)) := ⟨by decide +kernel, rfl⟩
theorem dX12_broken_38 : dec cX12_broken 38 1 39 (.iload_n 1) := ⟨by decide +kernel, rfl⟩
theorem dX12_broken_39 : dec cX12_broken 39 1 40 (.ireturn) := ⟨by decide +kernel, rfl⟩
set_option maxHeartbeats 4000000 in
set_option maxRecDepth 100000 in
theorem tX12_broken_J30 {X : Cx} {Y : Yx} {M0 : Mem} (hC : OKX X Y RX12 cX12_broken 3 (some .int) rmX12_broken) (hF : Y.2.2.2.2 = true) (hL : Lay M0) (Q : Int → Mem → Prop) (C4 : Int → Int → Mem → Prop)  (a0 : Nat) (x2 : Int) (xs0 : Int) (xs1 : Int) (qa0 : 0 < a0 ∧ M0 0 a0 = kO 12) (hC4 : ∀ (x1 : Int) (x2 : Int) (M : Mem), C4 x1 x2 M → WW X Y 3 rmX12_broken (QI Q) M0 0 0 4 [(0, vR Y.1 a0), (1, vI x1), (2, vI x2)] [] M) (M : Mem) (h : wX12_broken_J30 Q C4 a0 x2 xs0 xs1 M) : WW X Y 3 rmX12_broken (QI Q) M0 0 0 30 [(0, vR Y.1 a0), (2, vI x2)] [vI xs0, vI xs1] M := by
  unfold wX12_broken_J30 at h
  refine r_ior hC dX12_broken_30 ?_
  refine r_nameI h (fun x1_4 h => ?_)
  refine r_istore_n (lv' := [(1, vI x1_4), (0, vR Y.1 a0), (2, vI x2)]) hC dX12_broken_31 rfl (by decide) rfl ?_
  refine let_elim h (fun x2_5 e_6 h => ?_)
  refine r_iinc (lv' := [(2, vI x2_5), (1, vI x1_4), (0, vR Y.1 a0)]) hC 2 dX12_broken_32 rfl (by decide) e_6 rfl ?_
  refine r_goto hC 4 dX12_broken_35 (by decide) ?_
  refine r_sub [2, 1, 0] rfl ?_
  exact hC4 _ _ _ h
set_option maxHeartbeats 4000000 in
set_option maxRecDepth 100000 in
theorem tX12_broken_L4 {X : Cx} {Y : Yx} {M0 : Mem} (hC : OKX X Y RX12 cX12_broken 3 (some .int) rmX12_broken) (hF : Y.2.2.2.2 = true) (hL : Lay M0) (Q : Int → Mem → Prop)  (a0 : Nat) (qa0 : 0 < a0 ∧ M0 0 a0 = kO 12)  : ∀ (N : Nat) (x1 : Int) (x2 : Int) (M : Mem) (_ : wX12_broken_L4 Q  a0 N x1 x2 M), WW X Y 3 rmX12_broken (QI Q) M0 0 0 4 [(0, vR Y.1 a0), (1, vI x1), (2, vI x2)] [] M := by
  intro N
  induction N with
  | zero =>
    intro x1 x2 M h
    exact h.elim
  | succ N ih =>
    intro x1 x2 M h
    unfold wX12_broken_L4 at h
    refine r_iload_n hC 2 dX12_broken_4 rfl rfl ?_
    refine r_aload_n hC 0 dX12_broken_5 rfl rfl ?_
    have q_1 : 0 < a0 + 1 ∧ M0 0 (a0 + 1) = kA 0 1522 := lay_f0 (a := a0) hL qa0 fm_12_0
    refine r_getR0 (a' := a0 + 1) hC fg_X12_7 rfl hF fm_12_0 qa0.1 qa0.2 rfl dX12_broken_6 ?_
    refine r_iconst hC dX12_broken_9 ?_
    refine r_iald hC ⟨by decide +kernel, by decide +kernel⟩ q_1.1 q_1.2 (by decide) dX12_broken_10 ?_
    refine r_icmp_ge hC 38 rfl rfl dX12_broken_11 (by decide) (fun cq => ?_) (fun cq => ?_)
    · replace h := h.1 cq
      refine r_iload_n hC 1 dX12_broken_38 rfl rfl ?_
      exact r_iret hC (Nat.zero_le _) (Nat.zero_le _) dX12_broken_39 ⟨_, rfl, h⟩
    · replace h := h.2 cq
      refine r_iload_n hC 1 dX12_broken_14 rfl rfl ?_
      refine r_aload_n hC 0 dX12_broken_15 rfl rfl ?_
      refine r_iload_n hC 2 dX12_broken_16 rfl rfl ?_
      refine r_callV (As := [vI x2]) (st := [vI x1]) hC cw_X12_177 rfl qa0.1 qa0.2 rfl rfl (Nat.le_of_ble_eq_true rfl) ⟨Nat.le_of_ble_eq_true rfl, Nat.le_of_ble_eq_true rfl⟩ ⟨Nat.le_of_ble_eq_true rfl, Nat.le_of_ble_eq_true rfl⟩ dX12_broken_17 (fun hk => mX12_isBroken Y hF _ _ _ _ _ (kqO hk qa0) h) (fun v M_2 h => ?_)
      obtain ⟨r_3, rfl, h⟩ := h
      refine r_if_eq hC 29 rfl dX12_broken_20 (by decide) (fun cq => ?_) (fun cq => ?_)
      · replace h := h.1 cq
        refine r_iconst hC dX12_broken_29 ?_
        refine r_sub [0, 2] rfl ?_
        exact tX12_broken_J30 hC hF hL Q _  _ _ _ _ qa0 ih _ h
      · replace h := h.2 cq
        refine r_iconst hC dX12_broken_23 ?_
        refine r_iload_n hC 2 dX12_broken_24 rfl rfl ?_
        refine r_ishl hC dX12_broken_25 ?_
        refine r_goto hC 30 dX12_broken_26 (by decide) ?_
        refine r_sub [0, 2] rfl ?_
        exact tX12_broken_J30 hC hF hL Q _  _ _ _ _ qa0 ih _ h
set_option maxHeartbeats 4000000 in
set_option maxRecDepth 100000 in
theorem mX12_broken (Y : Yx) (hF : Y.2.2.2.2 = true) (l : Launch) (a0 : Nat) (M0 : Mem) (Q : Int → Mem → Prop) (qa0 : 0 < a0 ∧ M0 0 a0 = kO 12) (h : wX12_broken a0 M0 Q) : CT Y l yX12_broken cX12_broken 3 (some .int) rmX12_broken [vR Y.1 a0] M0 (QI Q) := by
  unfold wX12_broken at h
  refine ct_intro (by decide) (Nat.le_of_ble_eq_true rfl) ?_
  intro X hXl hC hL0
  have hL := hL0 hF
  change OKX X Y RX12 cX12_broken 3 (some .int) rmX12_broken at hC
  change WW X Y 3 rmX12_broken (QI Q) M0 0 0 0 [(0, vR Y.1 a0)] [] M0
  refine r_iconst hC dX12_broken_0 ?_
  refine r_istore_n (lv' := [(1, vI 0), (0, vR Y.1 a0)]) hC dX12_broken_1 rfl (by decide) rfl ?_
  refine r_iconst hC dX12_broken_2 ?_
  refine r_istore_n (lv' := [(2, vI 0), (1, vI 0), (0, vR Y.1 a0)]) hC dX12_broken_3 rfl (by decide) rfl ?_
  refine r_sub [2, 1, 0] rfl ?_
  obtain ⟨N_7, h⟩ := h
  refine tX12_broken_L4 hC hF hL Q  _ qa0  N_7 _ _ _ h
theorem dX12_isGood_0 : dec cX12_isGood 0 1 1 (.aload_n 0) := ⟨by decide +kernel, rfl⟩
theorem dX12_isGood_1 : dec cX12_isGood 1 3 4 (.invokevirtual 180) := ⟨by decide +kernel, rfl⟩
theorem dX12_isGood_4 : dec cX12_isGood 4 1 5 (.aload_n 0) := ⟨by decide +kernel, rfl⟩
theorem dX12_isGood_5 : dec cX12_isGood 5 3 8 (.getfield 7) := ⟨by decide +kernel, rfl⟩
theorem dX12_isGood_8 : dec cX12_isGood 8 2 10 (.bipush 9) := ⟨by decide +kernel, rfl⟩
theorem dX12_isGood_10 : dec cX12_isGood 10 1 11 (.iaload) := ⟨by decide +kernel, rfl⟩
theorem dX12_isGood_11 : dec cX12_isGood 11 3 14 (.if_icmp .gt 14) := ⟨by decide +kernel, rfl⟩
theorem dX12_isGood_14 : dec cX12_isGood 14 1 15 (.aload_n 0) := ⟨by decide +kernel, rfl⟩
theorem dX12_isGood_15 : dec cX12_isGood 15 3 18 (.invokevirtual 183) := ⟨by decide +kernel, rfl⟩
theorem dX12_isGood_18 : dec cX12_isGood 18 3 21 (.ifCond .ne 7) := ⟨by decide +kernel, rfl⟩
theorem dX12_isGood_21 : dec cX12_isGood 21 1 22 (.iconst 1) := ⟨by decide +kernel, rfl⟩
theorem dX12_isGood_22 : dec cX12_isGood 22 3 25 (.goto 4) := ⟨by decide +kernel, rfl⟩
theorem dX12_isGood_25 : dec cX12_isGood 25 1 26 (.iconst 0) := ⟨by decide +kernel, rfl⟩
theorem dX12_isGood_26 : dec cX12_isGood 26 1 27 (.ireturn) := ⟨by decide +kernel, rfl⟩
set_option maxHeartbeats 4000000 in
set_option maxRecDepth 100000 in
theorem mX12_isGood (Y : Yx) (hF : Y.2.2.2.2 = true) (l : Launch) (a0 : Nat) (M0 : Mem) (Q : Int → Mem → Prop) (qa0 : 0 < a0 ∧ M0 0 a0 = kO 12) (h : wX12_isGood a0 M0 Q) : CT Y l yX12_isGood cX12_isGood 1 (some .boolean) rmX12_isGood [vR Y.1 a0] M0 (QI Q) := by
  unfold wX12_isGood at h
  refine ct_intro (by decide) (Nat.le_of_ble_eq_true rfl) ?_
  intro X hXl hC hL0
  have hL := hL0 hF
  change OKX X Y RX12 cX12_isGood 1 (some .boolean) rmX12_isGood at hC
  change WW X Y 1 rmX12_isGood (QI Q) M0 0 0 0 [(0, vR Y.1 a0)] [] M0
  refine r_aload_n hC 0 dX12_isGood_0 rfl rfl ?_
  refine r_callV (As := []) (st := []) hC cw_X12_180 rfl qa0.1 qa0.2 rfl rfl (Nat.le_of_ble_eq_true rfl) ⟨Nat.le_of_ble_eq_true rfl, Nat.le_of_ble_eq_true rfl⟩ ⟨Nat.le_of_ble_eq_true rfl, Nat.le_of_ble_eq_true rfl⟩ dX12_isGood_1 (fun hk => mX12_greatestTired Y hF _ _ _ _ (kqO hk qa0) h) (fun v M_1 h => ?_)
  obtain ⟨r_2, rfl, h⟩ := h
  refine r_aload_n hC 0 dX12_isGood_4 rfl rfl ?_
  have q_3 : 0 < a0 + 1 ∧ M0 0 (a0 + 1) = kA 0 1522 := lay_f0 (a := a0) hL qa0 fm_12_0
  refine r_getR0 (a' := a0 + 1) hC fg_X12_7 rfl hF fm_12_0 qa0.1 qa0.2 rfl dX12_isGood_5 ?_
  refine r_bipush hC (by decide +kernel) dX12_isGood_8 ?_
  refine r_iald hC ⟨by decide +kernel, by decide +kernel⟩ q_3.1 q_3.2 (by decide) dX12_isGood_10 ?_
  refine r_icmp_gt hC 25 rfl rfl dX12_isGood_11 (by decide) (fun cq => ?_) (fun cq => ?_)
  · replace h := h.1 cq
    refine r_iconst hC dX12_isGood_25 ?_
    exact r_zret hC (Or.inl rfl) (Nat.zero_le _) (Nat.zero_le _) dX12_isGood_26 ⟨_, rfl, h⟩
  · replace h := h.2 cq
    refine r_aload_n hC 0 dX12_isGood_14 rfl rfl ?_
    refine r_callV (As := []) (st := []) hC cw_X12_183 rfl qa0.1 qa0.2 rfl rfl (Nat.le_of_ble_eq_true rfl) ⟨Nat.le_of_ble_eq_true rfl, Nat.le_of_ble_eq_true rfl⟩ ⟨Nat.le_of_ble_eq_true rfl, Nat.le_of_ble_eq_true rfl⟩ dX12_isGood_15 (fun hk => mX12_broken Y hF _ _ _ _ (kqO hk qa0) h) (fun v M_4 h => ?_)
    obtain ⟨r_5, rfl, h⟩ := h
    refine r_if_ne hC 25 rfl dX12_isGood_18 (by decide) (fun cq => ?_) (fun cq => ?_)
    · replace h := h.2 cq
      refine r_iconst hC dX12_isGood_25 ?_
      exact r_zret hC (Or.inl rfl) (Nat.zero_le _) (Nat.zero_le _) dX12_isGood_26 ⟨_, rfl, h⟩
    · replace h := h.1 cq
      refine r_iconst hC dX12_isGood_21 ?_
      refine r_goto hC 26 dX12_isGood_22 (by decide) ?_
      exact r_zret hC (Or.inr rfl) (Nat.zero_le _) (Nat.zero_le _) dX12_isGood_26 ⟨_, rfl, h⟩
