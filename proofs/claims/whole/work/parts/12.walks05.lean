theorem dX10_isRightBehind_0 : dec cX10_isRightBehind 0 1 1 (.iload_n 1) := ⟨by decide +kernel, rfl⟩
theorem dX10_isRightBehind_1 : dec cX10_isRightBehind 1 3 4 (.ifCond .le 19) := ⟨by decide +kernel, rfl⟩
theorem dX10_isRightBehind_4 : dec cX10_isRightBehind 4 1 5 (.aload_n 0) := ⟨by decide +kernel, rfl⟩
theorem dX10_isRightBehind_5 : dec cX10_isRightBehind 5 3 8 (.getfield 9) := ⟨by decide +kernel, rfl⟩
theorem dX10_isRightBehind_8 : dec cX10_isRightBehind 8 1 9 (.iload_n 1) := ⟨by decide +kernel, rfl⟩
theorem dX10_isRightBehind_9 : dec cX10_isRightBehind 9 1 10 (.iconst 1) := ⟨by decide +kernel, rfl⟩
theorem dX10_isRightBehind_10 : dec cX10_isRightBehind 10 1 11 (.isub) := ⟨by decide +kernel, rfl⟩
theorem dX10_isRightBehind_11 : dec cX10_isRightBehind 11 1 12 (.iaload) := ⟨by decide +kernel, rfl⟩
theorem dX10_isRightBehind_12 : dec cX10_isRightBehind 12 1 13 (.iload_n 2) := ⟨by decide +kernel, rfl⟩
theorem dX10_isRightBehind_13 : dec cX10_isRightBehind 13 3 16 (.if_icmp .ne 7) := ⟨by decide +kernel, rfl⟩
theorem dX10_isRightBehind_16 : dec cX10_isRightBehind 16 1 17 (.iconst 1) := ⟨by decide +kernel, rfl⟩
theorem dX10_isRightBehind_17 : dec cX10_isRightBehind 17 3 20 (.goto 4) := ⟨by decide +kernel, rfl⟩
theorem dX10_isRightBehind_20 : dec cX10_isRightBehind 20 1 21 (.iconst 0) := ⟨by decide +kernel, rfl⟩
theorem dX10_isRightBehind_21 : dec cX10_isRightBehind 21 1 22 (.ireturn) := ⟨by decide +kernel, rfl⟩
set_option maxHeartbeats 4000000 in
set_option maxRecDepth 100000 in
theorem mX10_isRightBehind (Y : Yx) (hF : Y.2.2.2.2 = true) (l : Launch) (a0 : Nat) (x1 : Int) (x2 : Int) (M0 : Mem) (Q : Int → Mem → Prop) (qa0 : 0 < a0 ∧ M0 0 a0 = kO 10) (h : wX10_isRightBehind a0 x1 x2 M0 Q) : CT Y l yX10_isRightBehind cX10_isRightBehind 3 (some .boolean) rmX10_isRightBehind [vR Y.1 a0, vI x1, vI x2] M0 (QI Q) := by
  unfold wX10_isRightBehind at h
  refine ct_intro (by decide) (Nat.le_of_ble_eq_true rfl) ?_
  intro X hXl hC hL0
  have hL := hL0 hF
  change OKX X Y RX10 cX10_isRightBehind 3 (some .boolean) rmX10_isRightBehind at hC
  change WW X Y 3 rmX10_isRightBehind (QI Q) M0 0 0 0 [(0, vR Y.1 a0), (1, vI x1), (2, vI x2)] [] M0
  refine r_iload_n hC 1 dX10_isRightBehind_0 rfl rfl ?_
  refine r_if_le hC 20 rfl dX10_isRightBehind_1 (by decide) (fun cq => ?_) (fun cq => ?_)
  · replace h := h.1 cq
    refine r_iconst hC dX10_isRightBehind_20 ?_
    exact r_zret hC (Or.inl rfl) (Nat.zero_le _) (Nat.zero_le _) dX10_isRightBehind_21 ⟨_, rfl, h⟩
  · replace h := h.2 cq
    refine r_aload_n hC 0 dX10_isRightBehind_4 rfl rfl ?_
    have q_1 : 0 < a0 + 1 ∧ M0 0 (a0 + 1) = kA 0 12 := lay_f0 (a := a0) hL qa0 fm_10_4
    refine r_getR0 (a' := a0 + 1) hC fg_X10_9 rfl hF fm_10_4 qa0.1 qa0.2 rfl dX10_isRightBehind_5 ?_
    refine r_iload_n hC 1 dX10_isRightBehind_8 rfl rfl ?_
    refine r_iconst hC dX10_isRightBehind_9 ?_
    refine r_isub hC dX10_isRightBehind_10 ?_
    obtain ⟨i_2, h⟩ := h
    refine r_iald hC i_2 q_1.1 q_1.2 (by decide) dX10_isRightBehind_11 ?_
    refine r_iload_n hC 2 dX10_isRightBehind_12 rfl rfl ?_
    refine r_icmp_ne hC 20 rfl rfl dX10_isRightBehind_13 (by decide) (fun cq => ?_) (fun cq => ?_)
    · replace h := h.2 cq
      refine r_iconst hC dX10_isRightBehind_20 ?_
      exact r_zret hC (Or.inl rfl) (Nat.zero_le _) (Nat.zero_le _) dX10_isRightBehind_21 ⟨_, rfl, h⟩
    · replace h := h.1 cq
      refine r_iconst hC dX10_isRightBehind_16 ?_
      refine r_goto hC 21 dX10_isRightBehind_17 (by decide) ?_
      exact r_zret hC (Or.inr rfl) (Nat.zero_le _) (Nat.zero_le _) dX10_isRightBehind_21 ⟨_, rfl, h⟩
theorem dX10_isBroken_0 : dec cX10_isBroken 0 1 1 (.aload_n 1) := ⟨by decide +kernel, rfl⟩
theorem dX10_isBroken_1 : dec cX10_isBroken 1 3 4 (.getfield 140) := ⟨by decide +kernel, rfl⟩
theorem dX10_isBroken_4 : dec cX10_isBroken 4 1 5 (.iconst 1) := ⟨by decide +kernel, rfl⟩
theorem dX10_isBroken_5 : dec cX10_isBroken 5 3 8 (.if_icmp .ne 90) := ⟨by decide +kernel, rfl⟩
theorem dX10_isBroken_8 : dec cX10_isBroken 8 1 9 (.iload_n 3) := ⟨by decide +kernel, rfl⟩
theorem dX10_isBroken_9 : dec cX10_isBroken 9 1 10 (.aload_n 1) := ⟨by decide +kernel, rfl⟩
theorem dX10_isBroken_10 : dec cX10_isBroken 10 3 13 (.getfield 145) := ⟨by decide +kernel, rfl⟩
theorem dX10_isBroken_13 : dec cX10_isBroken 13 3 16 (.if_icmp .ne 10) := ⟨by decide +kernel, rfl⟩
theorem dX10_isBroken_16 : dec cX10_isBroken 16 1 17 (.aload_n 1) := ⟨by decide +kernel, rfl⟩
theorem dX10_isBroken_17 : dec cX10_isBroken 17 3 20 (.getfield 148) := ⟨by decide +kernel, rfl⟩
theorem dX10_isBroken_20 : dec cX10_isBroken 20 3 23 (.goto 7) := ⟨by decide +kernel, rfl⟩
theorem dX10_isBroken_23 : dec cX10_isBroken 23 1 24 (.aload_n 1) := ⟨by decide +kernel, rfl⟩
theorem dX10_isBroken_24 : dec cX10_isBroken 24 3 27 (.getfield 145) := ⟨by decide +kernel, rfl⟩
theorem dX10_isBroken_27 : dec cX10_isBroken 27 2 29 (.istore 4) := ⟨by decide +kernel, rfl⟩
theorem dX10_isBroken_29 : dec cX10_isBroken 29 1 30 (.iload_n 3) := ⟨by decide +kernel, rfl⟩
theorem dX10_isBroken_30 : dec cX10_isBroken 30 1 31 (.aload_n 1) := ⟨by decide +kernel, rfl⟩
theorem dX10_isBroken_31 : dec cX10_isBroken 31 3 34 (.getfield 145) := ⟨by decide +kernel, rfl⟩
theorem dX10_isBroken_34 : dec cX10_isBroken 34 3 37 (.if_icmp .eq 11) := ⟨by decide +kernel, rfl⟩
theorem dX10_isBroken_37 : dec cX10_isBroken 37 1 38 (.iload_n 3) := ⟨by decide +kernel, rfl⟩
theorem dX10_isBroken_38 : dec cX10_isBroken 38 1 39 (.aload_n 1) := ⟨by decide +kernel, rfl⟩
theorem dX10_isBroken_39 : dec cX10_isBroken 39 3 42 (.getfield 148) := ⟨by decide +kernel, rfl⟩
theorem dX10_isBroken_42 : dec cX10_isBroken 42 3 45 (.if_icmp .ne 21) := ⟨by decide +kernel, rfl⟩
theorem dX10_isBroken_45 : dec cX10_isBroken 45 1 46 (.aload_n 0) := ⟨by decide +kernel, rfl⟩
theorem dX10_isBroken_46 : dec cX10_isBroken 46 3 49 (.getfield 24) := ⟨by decide +kernel, rfl⟩
theorem dX10_isBroken_49 : dec cX10_isBroken 49 1 50 (.iload_n 2) := ⟨by decide +kernel, rfl⟩
theorem dX10_isBroken_50 : dec cX10_isBroken 50 1 51 (.iaload) := ⟨by decide +kernel, rfl⟩
theorem dX10_isBroken_51 : dec cX10_isBroken 51 2 53 (.iload 4) := ⟨by decide +kernel, rfl⟩
theorem dX10_isBroken_53 : dec cX10_isBroken 53 3 56 (.invokestatic 133) := ⟨by decide +kernel, rfl⟩
theorem dX10_isBroken_56 : dec cX10_isBroken 56 3 59 (.ifCond .eq 7) := ⟨by decide +kernel, rfl⟩
theorem dX10_isBroken_59 : dec cX10_isBroken 59 1 60 (.iconst 1) := ⟨by decide +kernel, rfl⟩
theorem dX10_isBroken_60 : dec cX10_isBroken 60 3 63 (.goto 4) := ⟨by decide +kernel, rfl⟩
theorem dX10_isBroken_63 : dec cX10_isBroken 63 1 64 (.iconst 0) := ⟨by decide +kernel, rfl⟩
theorem dX10_isBroken_64 : dec cX10_isBroken 64 2 66 (.istore 5) := ⟨by decide +kernel, rfl⟩
theorem dX10_isBroken_66 : dec cX10_isBroken 66 2 68 (.iload 5) := ⟨by decide +kernel, rfl⟩
theorem dX10_isBroken_68 : dec cX10_isBroken 68 3 71 (.ifCond .eq 25) := ⟨by decide +kernel, rfl⟩
theorem dX10_isBroken_71 : dec cX10_isBroken 71 1 72 (.iload_n 2) := ⟨by decide +kernel, rfl⟩
theorem dX10_isBroken_72 : dec cX10_isBroken 72 1 73 (.aload_n 0) := ⟨by decide +kernel, rfl⟩
theorem dX10_isBroken_73 : dec cX10_isBroken 73 3 76 (.getfield 62) := ⟨by decide +kernel, rfl⟩
theorem dX10_isBroken_76 : dec cX10_isBroken 76 3 79 (.if_icmp .eq 13) := ⟨by decide +kernel, rfl⟩
theorem dX10_isBroken_79 : dec cX10_isBroken 79 1 80 (.aload_n 0) := ⟨by decide +kernel, rfl⟩
theorem dX10_isBroken_80 : dec cX10_isBroken 80 1 81 (.iload_n 2) := ⟨by decide +kernel, rfl⟩
theorem dX10_isBroken_81 : dec cX10_isBroken 81 2 83 (.iload 4) := ⟨by decide +kernel, rfl⟩
theorem dX10_isBroken_83 : dec cX10_isBroken 83 3 86 (.invokevirtual 151) := ⟨by decide +kernel, rfl⟩
theorem dX10_isBroken_86 : dec cX10_isBroken 86 3 89 (.ifCond .ne 7) := ⟨by decide +kernel, rfl⟩
theorem dX10_isBroken_89 : dec cX10_isBroken 89 1 90 (.iconst 1) := ⟨by decide +kernel, rfl⟩
theorem dX10_isBroken_90 : dec cX10_isBroken 90 3 93 (.goto 4) := ⟨by decide +kernel, rfl⟩
theorem dX10_isBroken_93 : dec cX10_isBroken 93 1 94 (.iconst 0) := ⟨by decide +kernel, rfl⟩
theorem dX10_isBroken_94 : dec cX10_isBroken 94 1 95 (.ireturn) := ⟨by decide +kernel, rfl⟩
theorem dX10_isBroken_95 : dec cX10_isBroken 95 1 96 (.iload_n 3) := ⟨by decide +kernel, rfl⟩
theorem dX10_isBroken_96 : dec cX10_isBroken 96 1 97 (.aload_n 1) := ⟨by decide +kernel, rfl⟩
theorem dX10_isBroken_97 : dec cX10_isBroken 97 3 100 (.getfield 145) := ⟨by decide +kernel, rfl⟩
theorem dX10_isBroken_100 : dec cX10_isBroken 100 3 103 (.if_icmp .eq 5) := ⟨by decide +kernel, rfl⟩
theorem dX10_isBroken_103 : dec cX10_isBroken 103 1 104 (.iconst 0) := ⟨by decide +kernel, rfl⟩
theorem dX10_isBroken_104 : dec cX10_isBroken 104 1 105 (.ireturn) := ⟨by decide +kernel, rfl⟩
theorem dX10_isBroken_105 : dec cX10_isBroken 105 1 106 (.aload_n 1) := ⟨by decide +kernel, rfl⟩
theorem dX10_isBroken_106 : dec cX10_isBroken 106 3 109 (.getfield 140) := ⟨by decide +kernel, rfl⟩
theorem dX10_isBroken_109 : dec cX10_isBroken 109 43 152 (.tableswitch 135 0 6 #[43, 135, 53, 74, 84, 100, 114]) := ⟨by decide +kernel, rfl⟩
theorem dX10_isBroken_152 : dec cX10_isBroken 152 1 153 (.aload_n 0) := ⟨by decide +kernel, rfl⟩
theorem dX10_isBroken_153 : dec cX10_isBroken 153 1 154 (.iload_n 2) := ⟨by decide +kernel, rfl⟩
theorem dX10_isBroken_154 : dec cX10_isBroken 154 1 155 (.aload_n 1) := ⟨by decide +kernel, rfl⟩
theorem dX10_isBroken_155 : dec cX10_isBroken 155 3 158 (.getfield 148) := ⟨by decide +kernel, rfl⟩
theorem dX10_isBroken_158 : dec cX10_isBroken 158 3 161 (.invokevirtual 151) := ⟨by decide +kernel, rfl⟩
theorem dX10_isBroken_161 : dec cX10_isBroken 161 1 162 (.ireturn) := ⟨by decide +kernel, rfl⟩
theorem dX10_isBroken_162 : dec cX10_isBroken 162 1 163 (.aload_n 0) := ⟨by decide +kernel, rfl⟩
theorem dX10_isBroken_163 : dec cX10_isBroken 163 3 166 (.getfield 18) := ⟨by decide +kernel, rfl⟩
theorem dX10_isBroken_166 : dec cX10_isBroken 166 1 167 (.iload_n 2) := ⟨by decide +kernel, rfl⟩
theorem dX10_isBroken_167 : dec cX10_isBroken 167 1 168 (.iconst 1) := ⟨by decide +kernel, rfl⟩
theorem dX10_isBroken_168 : dec cX10_isBroken 168 1 169 (.iadd) := ⟨by decide +kernel, rfl⟩
theorem dX10_isBroken_169 : dec cX10_isBroken 169 1 170 (.iaload) := ⟨by decide +kernel, rfl⟩
theorem dX10_isBroken_170 : dec cX10_isBroken 170 1 171 (.aload_n 1) := ⟨by decide +kernel, rfl⟩
theorem dX10_isBroken_171 : dec cX10_isBroken 171 3 174 (.getfield 154) := ⟨by decide +kernel, rfl⟩
theorem dX10_isBroken_174 : dec cX10_isBroken 174 3 177 (.if_icmp .le 7) := ⟨by decide +kernel, rfl⟩
theorem dX10_isBroken_177 : dec cX10_isBroken 177 1 178 (.iconst 1) := ⟨by decide +kernel, rfl⟩
theorem dX10_isBroken_178 : dec cX10_isBroken 178 3 181 (.goto 4) := ⟨by decide +kernel, rfl⟩
theorem dX10_isBroken_181 : dec cX10_isBroken 181 1 182 (.iconst 0) := ⟨by decide +kernel, rfl⟩
theorem dX10_isBroken_182 : dec cX10_isBroken 182 1 183 (.ireturn) := ⟨by decide +kernel, rfl⟩
theorem dX10_isBroken_183 : dec cX10_isBroken 183 1 184 (.iload_n 2) := ⟨by decide +kernel, rfl⟩
theorem dX10_isBroken_184 : dec cX10_isBroken 184 3 187 (.ifCond .ne 7) := ⟨by decide +kernel, rfl⟩
theorem dX10_isBroken_187 : dec cX10_isBroken 187 1 188 (.iconst 1) := ⟨by decide +kernel, rfl⟩
theorem dX10_isBroken_188 : dec cX10_isBroken 188 3 191 (.goto 4) := ⟨by decide +kernel, rfl⟩
theorem dX10_isBroken_191 : dec cX10_isBroken 191 1 192 (.iconst 0) := ⟨by decide +kernel, rfl⟩
theorem dX10_isBroken_192 : dec cX10_isBroken 192 1 193 (.ireturn) := ⟨by decide +kernel, rfl⟩
theorem dX10_isBroken_193 : dec cX10_isBroken 193 1 194 (.iload_n 2) := ⟨by decide +kernel, rfl⟩
theorem dX10_isBroken_194 : dec cX10_isBroken 194 1 195 (.aload_n 0) := ⟨by decide +kernel, rfl⟩
theorem dX10_isBroken_195 : dec cX10_isBroken 195 3 198 (.getfield 58) := ⟨by decide +kernel, rfl⟩
theorem dX10_isBroken_198 : dec cX10_isBroken 198 1 199 (.iconst 1) := ⟨by decide +kernel, rfl⟩
theorem dX10_isBroken_199 : dec cX10_isBroken 199 1 200 (.isub) := ⟨by decide +kernel, rfl⟩
theorem dX10_isBroken_200 : dec cX10_isBroken 200 3 203 (.if_icmp .ne 7) := ⟨by decide +kernel, rfl⟩
theorem dX10_isBroken_203 : dec cX10_isBroken 203 1 204 (.iconst 1) := ⟨by decide +kernel, rfl⟩
theorem dX10_isBroken_204 : dec cX10_isBroken 204 3 207 (.goto 4) := ⟨by decide +kernel, rfl⟩
theorem dX10_isBroken_207 : dec cX10_isBroken 207 1 208 (.iconst 0) := ⟨by decide +kernel, rfl⟩
theorem dX10_isBroken_208 : dec cX10_isBroken 208 1 209 (.ireturn) := ⟨by decide +kernel, rfl⟩
theorem dX10_isBroken_209 : dec cX10_isBroken 209 1 210 (.aload_n 0) := ⟨by decide +kernel, rfl⟩
theorem dX10_isBroken_210 : dec cX10_isBroken 210 3 213 (.getfield 24) := ⟨by decide +kernel, rfl⟩
theorem dX10_isBroken_213 : dec cX10_isBroken 213 1 214 (.iload_n 2) := ⟨by decide +kernel, rfl⟩
theorem dX10_isBroken_214 : dec cX10_isBroken 214 1 215 (.iaload) := ⟨by decide +kernel, rfl⟩
theorem dX10_isBroken_215 : dec cX10_isBroken 215 1 216 (.aload_n 1) := ⟨by decide +kernel, rfl⟩
theorem dX10_isBroken_216 : dec cX10_isBroken 216 3 219 (.getfield 148) := ⟨by decide +kernel, rfl⟩
theorem dX10_isBroken_219 : dec cX10_isBroken 219 3 222 (.invokestatic 133) := ⟨by decide +kernel, rfl⟩
theorem dX10_isBroken_222 : dec cX10_isBroken 222 1 223 (.ireturn) := ⟨by decide +kernel, rfl⟩
theorem dX10_isBroken_223 : dec cX10_isBroken 223 1 224 (.aload_n 0) := ⟨by decide +kernel, rfl⟩
theorem dX10_isBroken_224 : dec cX10_isBroken 224 3 227 (.getfield 62) := ⟨by decide +kernel, rfl⟩
theorem dX10_isBroken_227 : dec cX10_isBroken 227 3 230 (.ifCond .le 15) := ⟨by decide +kernel, rfl⟩
theorem dX10_isBroken_230 : dec cX10_isBroken 230 1 231 (.iload_n 2) := ⟨by decide +kernel, rfl⟩
theorem dX10_isBroken_231 : dec cX10_isBroken 231 1 232 (.aload_n 0) := ⟨by decide +kernel, rfl⟩
theorem dX10_isBroken_232 : dec cX10_isBroken 232 3 235 (.getfield 62) := ⟨by decide +kernel, rfl⟩
theorem dX10_isBroken_235 : dec cX10_isBroken 235 3 238 (.if_icmp .ne 7) := ⟨by decide +kernel, rfl⟩
theorem dX10_isBroken_238 : dec cX10_isBroken 238 1 239 (.iconst 1) := ⟨by decide +kernel, rfl⟩
theorem dX10_isBroken_239 : dec cX10_isBroken 239 3 242 (.goto 4) := ⟨by decide +kernel, rfl⟩
theorem dX10_isBroken_242 : dec cX10_isBroken 242 1 243 (.iconst 0) := ⟨by decide +kernel, rfl⟩
theorem dX10_isBroken_243 : dec cX10_isBroken 243 1 244 (.ireturn) := ⟨by decide +kernel, rfl⟩
theorem dX10_isBroken_244 : dec cX10_isBroken 244 1 245 (.aload_n 0) := ⟨by decide +kernel, rfl⟩
theorem dX10_isBroken_245 : dec cX10_isBroken 245 3 248 (.getfield 62) := ⟨by decide +kernel, rfl⟩
theorem dX10_isBroken_248 : dec cX10_isBroken 248 3 251 (.ifCond .le 15) := ⟨by decide +kernel, rfl⟩
theorem dX10_isBroken_251 : dec cX10_isBroken 251 1 252 (.iload_n 2) := ⟨by decide +kernel, rfl⟩
theorem dX10_isBroken_252 : dec cX10_isBroken 252 1 253 (.aload_n 0) := ⟨by decide +kernel, rfl⟩
theorem dX10_isBroken_253 : dec cX10_isBroken 253 3 256 (.getfield 62) := ⟨by decide +kernel, rfl⟩
theorem dX10_isBroken_256 : dec cX10_isBroken 256 3 259 (.if_icmp .lt 7) := ⟨by decide +kernel, rfl⟩
theorem dX10_isBroken_259 : dec cX10_isBroken 259 1 260 (.iconst 1) := ⟨by decide +kernel, rfl⟩
theorem dX10_isBroken_260 : dec cX10_isBroken 260 3 263 (.goto 4) := ⟨by decide +kernel, rfl⟩
theorem dX10_isBroken_263 : dec cX10_isBroken 263 1 264 (.iconst 0) := ⟨by decide +kernel, rfl⟩
theorem dX10_isBroken_264 : dec cX10_isBroken 264 1 265 (.ireturn) := ⟨by decide +kernel, rfl⟩
set_option maxHeartbeats 4000000 in
set_option maxRecDepth 100000 in
theorem tX10_isBroken_J244 {X : Cx} {Y : Yx} {M0 : Mem} (hC : OKX X Y RX10 cX10_isBroken 6 (some .boolean) rmX10_isBroken) (hF : Y.2.2.2.2 = true) (hL : Lay M0) (Q : Int → Mem → Prop)   (a0 : Nat) (x2 : Int) (qa0 : 0 < a0 ∧ M0 0 a0 = kO 10)  (M : Mem) (h : wX10_isBroken_J244 Q  a0 x2 M) : WW X Y 6 rmX10_isBroken (QI Q) M0 0 0 244 [(0, vR Y.1 a0), (2, vI x2)] [] M := by
  unfold wX10_isBroken_J244 at h
  refine r_aload_n hC 0 dX10_isBroken_244 rfl rfl ?_
  refine r_getI hC fg_X10_62 rfl qa0.1 qa0.2 dX10_isBroken_245 ?_
  refine r_if_le hC 263 rfl dX10_isBroken_248 (by decide) (fun cq => ?_) (fun cq => ?_)
  · replace h := h.1 cq
    refine r_iconst hC dX10_isBroken_263 ?_
    exact r_zret hC (Or.inl rfl) (Nat.zero_le _) (Nat.zero_le _) dX10_isBroken_264 ⟨_, rfl, h⟩
  · replace h := h.2 cq
    refine r_iload_n hC 1 dX10_isBroken_251 rfl rfl ?_
    refine r_aload_n hC 0 dX10_isBroken_252 rfl rfl ?_
    refine r_getI hC fg_X10_62 rfl qa0.1 qa0.2 dX10_isBroken_253 ?_
    refine r_icmp_lt hC 263 rfl rfl dX10_isBroken_256 (by decide) (fun cq => ?_) (fun cq => ?_)
    · replace h := h.1 cq
      refine r_iconst hC dX10_isBroken_263 ?_
      exact r_zret hC (Or.inl rfl) (Nat.zero_le _) (Nat.zero_le _) dX10_isBroken_264 ⟨_, rfl, h⟩
    · replace h := h.2 cq
      refine r_iconst hC dX10_isBroken_259 ?_
      refine r_goto hC 264 dX10_isBroken_260 (by decide) ?_
      exact r_zret hC (Or.inr rfl) (Nat.zero_le _) (Nat.zero_le _) dX10_isBroken_264 ⟨_, rfl, h⟩
set_option maxHeartbeats 4000000 in
set_option maxRecDepth 100000 in
theorem tX10_isBroken_J64 {X : Cx} {Y : Yx} {M0 : Mem} (hC : OKX X Y RX10 cX10_isBroken 6 (some .boolean) rmX10_isBroken) (hF : Y.2.2.2.2 = true) (hL : Lay M0) (Q : Int → Mem → Prop)   (a0 : Nat) (x2 : Int) (x4 : Int) (xs0 : Int) (qa0 : 0 < a0 ∧ M0 0 a0 = kO 10)  (M : Mem) (h : wX10_isBroken_J64 Q  a0 x2 x4 xs0 M) : WW X Y 6 rmX10_isBroken (QI Q) M0 0 0 64 [(0, vR Y.1 a0), (2, vI x2), (4, vI x4)] [vI xs0] M := by
  unfold wX10_isBroken_J64 at h
  refine r_istore (lv' := [(5, vI xs0), (0, vR Y.1 a0), (2, vI x2), (4, vI x4)]) hC dX10_isBroken_64 (by decide) rfl ?_
  refine r_iload hC 0 dX10_isBroken_66 rfl ?_
  refine r_if_eq hC 93 rfl dX10_isBroken_68 (by decide) (fun cq => ?_) (fun cq => ?_)
  · replace h := h.1 cq
    refine r_iconst hC dX10_isBroken_93 ?_
    exact r_zret hC (Or.inl rfl) (Nat.zero_le _) (Nat.zero_le _) dX10_isBroken_94 ⟨_, rfl, h⟩
  · replace h := h.2 cq
    refine r_iload_n hC 2 dX10_isBroken_71 rfl rfl ?_
    refine r_aload_n hC 1 dX10_isBroken_72 rfl rfl ?_
    refine r_getI hC fg_X10_62 rfl qa0.1 qa0.2 dX10_isBroken_73 ?_
    refine r_icmp_eq hC 89 rfl rfl dX10_isBroken_76 (by decide) (fun cq => ?_) (fun cq => ?_)
    · replace h := h.1 cq
      refine r_iconst hC dX10_isBroken_89 ?_
      refine r_goto hC 94 dX10_isBroken_90 (by decide) ?_
      exact r_zret hC (Or.inr rfl) (Nat.zero_le _) (Nat.zero_le _) dX10_isBroken_94 ⟨_, rfl, h⟩
    · replace h := h.2 cq
      refine r_aload_n hC 1 dX10_isBroken_79 rfl rfl ?_
      refine r_iload_n hC 2 dX10_isBroken_80 rfl rfl ?_
      refine r_iload hC 3 dX10_isBroken_81 rfl ?_
      refine r_callV (As := [vI x2, vI x4]) (st := []) hC cw_X10_151 rfl qa0.1 qa0.2 rfl rfl (Nat.le_of_ble_eq_true rfl) ⟨Nat.le_of_ble_eq_true rfl, Nat.le_of_ble_eq_true rfl⟩ ⟨Nat.le_of_ble_eq_true rfl, Nat.le_of_ble_eq_true rfl⟩ dX10_isBroken_83 (fun hk => mX10_isRightBehind Y hF _ _ _ _ _ _ (kqO hk qa0) h) (fun v M_13 h => ?_)
      obtain ⟨r_14, rfl, h⟩ := h
      refine r_if_ne hC 93 rfl dX10_isBroken_86 (by decide) (fun cq => ?_) (fun cq => ?_)
      · replace h := h.2 cq
        refine r_iconst hC dX10_isBroken_93 ?_
        exact r_zret hC (Or.inl rfl) (Nat.zero_le _) (Nat.zero_le _) dX10_isBroken_94 ⟨_, rfl, h⟩
      · replace h := h.1 cq
        refine r_iconst hC dX10_isBroken_89 ?_
        refine r_goto hC 94 dX10_isBroken_90 (by decide) ?_
        exact r_zret hC (Or.inr rfl) (Nat.zero_le _) (Nat.zero_le _) dX10_isBroken_94 ⟨_, rfl, h⟩
set_option maxHeartbeats 4000000 in
set_option maxRecDepth 100000 in
theorem tX10_isBroken_J63 {X : Cx} {Y : Yx} {M0 : Mem} (hC : OKX X Y RX10 cX10_isBroken 6 (some .boolean) rmX10_isBroken) (hF : Y.2.2.2.2 = true) (hL : Lay M0) (Q : Int → Mem → Prop)   (a0 : Nat) (x2 : Int) (x4 : Int) (qa0 : 0 < a0 ∧ M0 0 a0 = kO 10)  (M : Mem) (h : wX10_isBroken_J63 Q  a0 x2 x4 M) : WW X Y 6 rmX10_isBroken (QI Q) M0 0 0 63 [(0, vR Y.1 a0), (2, vI x2), (4, vI x4)] [] M := by
  unfold wX10_isBroken_J63 at h
  refine r_iconst hC dX10_isBroken_63 ?_
  refine r_sub [0, 1, 2] rfl ?_
  exact tX10_isBroken_J64 hC hF hL Q   _ _ _ _ qa0  _ h
set_option maxHeartbeats 4000000 in
set_option maxRecDepth 100000 in
theorem tX10_isBroken_J45 {X : Cx} {Y : Yx} {M0 : Mem} (hC : OKX X Y RX10 cX10_isBroken 6 (some .boolean) rmX10_isBroken) (hF : Y.2.2.2.2 = true) (hL : Lay M0) (Q : Int → Mem → Prop)   (a0 : Nat) (x2 : Int) (x4 : Int) (qa0 : 0 < a0 ∧ M0 0 a0 = kO 10)  (M : Mem) (h : wX10_isBroken_J45 Q  a0 x2 x4 M) : WW X Y 6 rmX10_isBroken (QI Q) M0 0 0 45 [(0, vR Y.1 a0), (2, vI x2), (4, vI x4)] [] M := by
  unfold wX10_isBroken_J45 at h
  refine r_aload_n hC 0 dX10_isBroken_45 rfl rfl ?_
  have q_9 : 0 < a0 + 5 ∧ M0 0 (a0 + 5) = kA 0 13 := lay_f0 (a := a0) hL qa0 fm_10_8
  refine r_getR0 (a' := a0 + 5) hC fg_X10_24 rfl hF fm_10_8 qa0.1 qa0.2 rfl dX10_isBroken_46 ?_
  refine r_iload_n hC 1 dX10_isBroken_49 rfl rfl ?_
  obtain ⟨i_10, h⟩ := h
  refine r_iald hC i_10 q_9.1 q_9.2 (by decide) dX10_isBroken_50 ?_
  refine r_iload hC 2 dX10_isBroken_51 rfl ?_
  refine r_callN (As := [vI (rd M (a0 + 5) x2), vI x4]) (st := []) hC cw_X10_133 rfl rfl (Nat.le_of_ble_eq_true rfl) ⟨Nat.le_of_ble_eq_true rfl, Nat.le_of_ble_eq_true rfl⟩ ⟨Nat.le_of_ble_eq_true rfl, Nat.le_of_ble_eq_true rfl⟩ dX10_isBroken_53 (fun hk => mX11_isIn Y hF _ _ _ _ _  h) (fun v M_11 h => ?_)
  obtain ⟨r_12, rfl, h⟩ := h
  refine r_if_eq hC 63 rfl dX10_isBroken_56 (by decide) (fun cq => ?_) (fun cq => ?_)
  · replace h := h.1 cq
    refine r_sub [0, 1, 2] rfl ?_
    exact tX10_isBroken_J63 hC hF hL Q   _ _ _ qa0  _ h
  · replace h := h.2 cq
    refine r_iconst hC dX10_isBroken_59 ?_
    refine r_goto hC 64 dX10_isBroken_60 (by decide) ?_
    refine r_sub [0, 1, 2] rfl ?_
    exact tX10_isBroken_J64 hC hF hL Q   _ _ _ _ qa0  _ h
set_option maxHeartbeats 4000000 in
set_option maxRecDepth 100000 in
theorem tX10_isBroken_J27 {X : Cx} {Y : Yx} {M0 : Mem} (hC : OKX X Y RX10 cX10_isBroken 6 (some .boolean) rmX10_isBroken) (hF : Y.2.2.2.2 = true) (hL : Lay M0) (Q : Int → Mem → Prop)   (a0 : Nat) (a1 : Nat) (x2 : Int) (x3 : Int) (xs0 : Int) (qa0 : 0 < a0 ∧ M0 0 a0 = kO 10) (qa1 : 0 < a1 ∧ M0 0 a1 = kO 2)  (M : Mem) (h : wX10_isBroken_J27 Q  a0 a1 x2 x3 xs0 M) : WW X Y 6 rmX10_isBroken (QI Q) M0 0 0 27 [(0, vR Y.1 a0), (1, vR Y.1 a1), (2, vI x2), (3, vI x3)] [vI xs0] M := by
  unfold wX10_isBroken_J27 at h
  refine r_istore (lv' := [(4, vI xs0), (0, vR Y.1 a0), (1, vR Y.1 a1), (2, vI x2), (3, vI x3)]) hC dX10_isBroken_27 (by decide) rfl ?_
  refine r_iload_n hC 4 dX10_isBroken_29 rfl rfl ?_
  refine r_aload_n hC 2 dX10_isBroken_30 rfl rfl ?_
  refine r_getI hC fg_X10_145 rfl qa1.1 qa1.2 dX10_isBroken_31 ?_
  refine r_icmp_eq hC 45 rfl rfl dX10_isBroken_34 (by decide) (fun cq => ?_) (fun cq => ?_)
  · replace h := h.1 cq
    refine r_sub [1, 3, 0] rfl ?_
    exact tX10_isBroken_J45 hC hF hL Q   _ _ _ qa0  _ h
  · replace h := h.2 cq
    refine r_iload_n hC 4 dX10_isBroken_37 rfl rfl ?_
    refine r_aload_n hC 2 dX10_isBroken_38 rfl rfl ?_
    refine r_getI hC fg_X10_148 rfl qa1.1 qa1.2 dX10_isBroken_39 ?_
    refine r_icmp_ne hC 63 rfl rfl dX10_isBroken_42 (by decide) (fun cq => ?_) (fun cq => ?_)
    · replace h := h.2 cq
      refine r_sub [1, 3, 0] rfl ?_
      exact tX10_isBroken_J63 hC hF hL Q   _ _ _ qa0  _ h
    · replace h := h.1 cq
      refine r_sub [1, 3, 0] rfl ?_
      exact tX10_isBroken_J45 hC hF hL Q   _ _ _ qa0  _ h
set_option maxHeartbeats 4000000 in
set_option maxRecDepth 100000 in
theorem mX10_isBroken (Y : Yx) (hF : Y.2.2.2.2 = true) (l : Launch) (a0 : Nat) (a1 : Nat) (x2 : Int) (x3 : Int) (M0 : Mem) (Q : Int → Mem → Prop) (qa0 : 0 < a0 ∧ M0 0 a0 = kO 10) (qa1 : 0 < a1 ∧ M0 0 a1 = kO 2) (h : wX10_isBroken a0 a1 x2 x3 M0 Q) : CT Y l yX10_isBroken cX10_isBroken 6 (some .boolean) rmX10_isBroken [vR Y.1 a0, vR Y.1 a1, vI x2, vI x3] M0 (QI Q) := by
  unfold wX10_isBroken at h
  refine ct_intro (by decide) (Nat.le_of_ble_eq_true rfl) ?_
  intro X hXl hC hL0
  have hL := hL0 hF
  change OKX X Y RX10 cX10_isBroken 6 (some .boolean) rmX10_isBroken at hC
  change WW X Y 6 rmX10_isBroken (QI Q) M0 0 0 0 [(0, vR Y.1 a0), (1, vR Y.1 a1), (2, vI x2), (3, vI x3)] [] M0
  refine r_aload_n hC 1 dX10_isBroken_0 rfl rfl ?_
  refine r_getI hC fg_X10_140 rfl qa1.1 qa1.2 dX10_isBroken_1 ?_
  refine r_iconst hC dX10_isBroken_4 ?_
  refine r_icmp_ne hC 95 rfl bmL_1 dX10_isBroken_5 (by decide) (fun cq => ?_) (fun cq => ?_)
  · replace h := h.2 cq
    refine r_iload_n hC 3 dX10_isBroken_95 rfl rfl ?_
    refine r_aload_n hC 1 dX10_isBroken_96 rfl rfl ?_
    refine r_getI hC fg_X10_145 rfl qa1.1 qa1.2 dX10_isBroken_97 ?_
    refine r_icmp_eq hC 105 rfl rfl dX10_isBroken_100 (by decide) (fun cq => ?_) (fun cq => ?_)
    · replace h := h.1 cq
      refine r_aload_n hC 1 dX10_isBroken_105 rfl rfl ?_
      refine r_getI hC fg_X10_140 rfl qa1.1 qa1.2 dX10_isBroken_106 ?_
      by_cases c0 : bm (M0 a1 0) = 0
      · replace h := h.1 c0
        refine r_tabIn hC 152 0 dX10_isBroken_109 c0 (by decide) (by decide) rfl (by decide) ?_
        refine r_aload_n hC 0 dX10_isBroken_152 rfl rfl ?_
        refine r_iload_n hC 2 dX10_isBroken_153 rfl rfl ?_
        refine r_aload_n hC 1 dX10_isBroken_154 rfl rfl ?_
        refine r_getI hC fg_X10_148 rfl qa1.1 qa1.2 dX10_isBroken_155 ?_
        refine r_callV (As := [vI x2, vI (M0 a1 2)]) (st := []) hC cw_X10_151 rfl qa0.1 qa0.2 rfl rfl (Nat.le_of_ble_eq_true rfl) ⟨Nat.le_of_ble_eq_true rfl, Nat.le_of_ble_eq_true rfl⟩ ⟨Nat.le_of_ble_eq_true rfl, Nat.le_of_ble_eq_true rfl⟩ dX10_isBroken_158 (fun hk => mX10_isRightBehind Y hF _ _ _ _ _ _ (kqO hk qa0) h) (fun v M_1 h => ?_)
        obtain ⟨r_2, rfl, h⟩ := h
        exact r_zret hC h.1 (Nat.zero_le _) (Nat.zero_le _) dX10_isBroken_161 ⟨_, rfl, h.2⟩
      · replace h := h.2 c0
        by_cases c1 : bm (M0 a1 0) = 1
        · replace h := h.1 c1
          refine r_tabIn hC 244 1 dX10_isBroken_109 c1 (by decide) (by decide) rfl (by decide) ?_
          refine r_sub [0, 2] rfl ?_
          exact tX10_isBroken_J244 hC hF hL Q   _ _ qa0  _ h
        · replace h := h.2 c1
          by_cases c2 : bm (M0 a1 0) = 2
          · replace h := h.1 c2
            refine r_tabIn hC 162 2 dX10_isBroken_109 c2 (by decide) (by decide) rfl (by decide) ?_
            refine r_aload_n hC 0 dX10_isBroken_162 rfl rfl ?_
            have q_3 : 0 < a0 + 3 ∧ M0 0 (a0 + 3) = kA 0 13 := lay_f0 (a := a0) hL qa0 fm_10_6
            refine r_getR0 (a' := a0 + 3) hC fg_X10_18 rfl hF fm_10_6 qa0.1 qa0.2 rfl dX10_isBroken_163 ?_
            refine r_iload_n hC 2 dX10_isBroken_166 rfl rfl ?_
            refine r_iconst hC dX10_isBroken_167 ?_
            refine r_iadd hC dX10_isBroken_168 ?_
            obtain ⟨i_4, h⟩ := h
            refine r_iald hC i_4 q_3.1 q_3.2 (by decide) dX10_isBroken_169 ?_
            refine r_aload_n hC 1 dX10_isBroken_170 rfl rfl ?_
            refine r_getI hC fg_X10_154 rfl qa1.1 qa1.2 dX10_isBroken_171 ?_
            refine r_icmp_le hC 181 rfl rfl dX10_isBroken_174 (by decide) (fun cq => ?_) (fun cq => ?_)
            · replace h := h.1 cq
              refine r_iconst hC dX10_isBroken_181 ?_
              exact r_zret hC (Or.inl rfl) (Nat.zero_le _) (Nat.zero_le _) dX10_isBroken_182 ⟨_, rfl, h⟩
            · replace h := h.2 cq
              refine r_iconst hC dX10_isBroken_177 ?_
              refine r_goto hC 182 dX10_isBroken_178 (by decide) ?_
              exact r_zret hC (Or.inr rfl) (Nat.zero_le _) (Nat.zero_le _) dX10_isBroken_182 ⟨_, rfl, h⟩
          · replace h := h.2 c2
            by_cases c3 : bm (M0 a1 0) = 3
            · replace h := h.1 c3
              refine r_tabIn hC 183 3 dX10_isBroken_109 c3 (by decide) (by decide) rfl (by decide) ?_
              refine r_iload_n hC 2 dX10_isBroken_183 rfl rfl ?_
              refine r_if_ne hC 191 rfl dX10_isBroken_184 (by decide) (fun cq => ?_) (fun cq => ?_)
              · replace h := h.2 cq
                refine r_iconst hC dX10_isBroken_191 ?_
                exact r_zret hC (Or.inl rfl) (Nat.zero_le _) (Nat.zero_le _) dX10_isBroken_192 ⟨_, rfl, h⟩
              · replace h := h.1 cq
                refine r_iconst hC dX10_isBroken_187 ?_
                refine r_goto hC 192 dX10_isBroken_188 (by decide) ?_
                exact r_zret hC (Or.inr rfl) (Nat.zero_le _) (Nat.zero_le _) dX10_isBroken_192 ⟨_, rfl, h⟩
            · replace h := h.2 c3
              by_cases c4 : bm (M0 a1 0) = 4
              · replace h := h.1 c4
                refine r_tabIn hC 193 4 dX10_isBroken_109 c4 (by decide) (by decide) rfl (by decide) ?_
                refine r_iload_n hC 2 dX10_isBroken_193 rfl rfl ?_
                refine r_aload_n hC 0 dX10_isBroken_194 rfl rfl ?_
                refine r_getI hC fg_X10_58 rfl qa0.1 qa0.2 dX10_isBroken_195 ?_
                refine r_iconst hC dX10_isBroken_198 ?_
                refine r_isub hC dX10_isBroken_199 ?_
                refine r_icmp_ne hC 207 rfl rfl dX10_isBroken_200 (by decide) (fun cq => ?_) (fun cq => ?_)
                · replace h := h.2 cq
                  refine r_iconst hC dX10_isBroken_207 ?_
                  exact r_zret hC (Or.inl rfl) (Nat.zero_le _) (Nat.zero_le _) dX10_isBroken_208 ⟨_, rfl, h⟩
                · replace h := h.1 cq
                  refine r_iconst hC dX10_isBroken_203 ?_
                  refine r_goto hC 208 dX10_isBroken_204 (by decide) ?_
                  exact r_zret hC (Or.inr rfl) (Nat.zero_le _) (Nat.zero_le _) dX10_isBroken_208 ⟨_, rfl, h⟩
              · replace h := h.2 c4
                by_cases c5 : bm (M0 a1 0) = 5
                · replace h := h.1 c5
                  refine r_tabIn hC 209 5 dX10_isBroken_109 c5 (by decide) (by decide) rfl (by decide) ?_
                  refine r_aload_n hC 0 dX10_isBroken_209 rfl rfl ?_
                  have q_5 : 0 < a0 + 5 ∧ M0 0 (a0 + 5) = kA 0 13 := lay_f0 (a := a0) hL qa0 fm_10_8
                  refine r_getR0 (a' := a0 + 5) hC fg_X10_24 rfl hF fm_10_8 qa0.1 qa0.2 rfl dX10_isBroken_210 ?_
                  refine r_iload_n hC 2 dX10_isBroken_213 rfl rfl ?_
                  obtain ⟨i_6, h⟩ := h
                  refine r_iald hC i_6 q_5.1 q_5.2 (by decide) dX10_isBroken_214 ?_
                  refine r_aload_n hC 1 dX10_isBroken_215 rfl rfl ?_
                  refine r_getI hC fg_X10_148 rfl qa1.1 qa1.2 dX10_isBroken_216 ?_
                  refine r_callN (As := [vI (rd M0 (a0 + 5) x2), vI (M0 a1 2)]) (st := []) hC cw_X10_133 rfl rfl (Nat.le_of_ble_eq_true rfl) ⟨Nat.le_of_ble_eq_true rfl, Nat.le_of_ble_eq_true rfl⟩ ⟨Nat.le_of_ble_eq_true rfl, Nat.le_of_ble_eq_true rfl⟩ dX10_isBroken_219 (fun hk => mX11_isIn Y hF _ _ _ _ _  h) (fun v M_7 h => ?_)
                  obtain ⟨r_8, rfl, h⟩ := h
                  exact r_zret hC h.1 (Nat.zero_le _) (Nat.zero_le _) dX10_isBroken_222 ⟨_, rfl, h.2⟩
                · replace h := h.2 c5
                  by_cases c6 : bm (M0 a1 0) = 6
                  · replace h := h.1 c6
                    refine r_tabIn hC 223 6 dX10_isBroken_109 c6 (by decide) (by decide) rfl (by decide) ?_
                    refine r_aload_n hC 0 dX10_isBroken_223 rfl rfl ?_
                    refine r_getI hC fg_X10_62 rfl qa0.1 qa0.2 dX10_isBroken_224 ?_
                    refine r_if_le hC 242 rfl dX10_isBroken_227 (by decide) (fun cq => ?_) (fun cq => ?_)
                    · replace h := h.1 cq
                      refine r_iconst hC dX10_isBroken_242 ?_
                      exact r_zret hC (Or.inl rfl) (Nat.zero_le _) (Nat.zero_le _) dX10_isBroken_243 ⟨_, rfl, h⟩
                    · replace h := h.2 cq
                      refine r_iload_n hC 2 dX10_isBroken_230 rfl rfl ?_
                      refine r_aload_n hC 0 dX10_isBroken_231 rfl rfl ?_
                      refine r_getI hC fg_X10_62 rfl qa0.1 qa0.2 dX10_isBroken_232 ?_
                      refine r_icmp_ne hC 242 rfl rfl dX10_isBroken_235 (by decide) (fun cq => ?_) (fun cq => ?_)
                      · replace h := h.2 cq
                        refine r_iconst hC dX10_isBroken_242 ?_
                        exact r_zret hC (Or.inl rfl) (Nat.zero_le _) (Nat.zero_le _) dX10_isBroken_243 ⟨_, rfl, h⟩
                      · replace h := h.1 cq
                        refine r_iconst hC dX10_isBroken_238 ?_
                        refine r_goto hC 243 dX10_isBroken_239 (by decide) ?_
                        exact r_zret hC (Or.inr rfl) (Nat.zero_le _) (Nat.zero_le _) dX10_isBroken_243 ⟨_, rfl, h⟩
                  · replace h := h.2 c6
                    refine r_tabOut hC 244 dX10_isBroken_109 (by omega) (by decide) ?_
                    refine r_sub [0, 2] rfl ?_
                    exact tX10_isBroken_J244 hC hF hL Q   _ _ qa0  _ h
    · replace h := h.2 cq
      refine r_iconst hC dX10_isBroken_103 ?_
      exact r_zret hC (Or.inl rfl) (Nat.zero_le _) (Nat.zero_le _) dX10_isBroken_104 ⟨_, rfl, h⟩
  · replace h := h.1 cq
    refine r_iload_n hC 3 dX10_isBroken_8 rfl rfl ?_
    refine r_aload_n hC 1 dX10_isBroken_9 rfl rfl ?_
    refine r_getI hC fg_X10_145 rfl qa1.1 qa1.2 dX10_isBroken_10 ?_
    refine r_icmp_ne hC 23 rfl rfl dX10_isBroken_13 (by decide) (fun cq => ?_) (fun cq => ?_)
    · replace h := h.2 cq
      refine r_aload_n hC 1 dX10_isBroken_23 rfl rfl ?_
      refine r_getI hC fg_X10_145 rfl qa1.1 qa1.2 dX10_isBroken_24 ?_
      refine r_sub [0, 1, 2, 3] rfl ?_
      exact tX10_isBroken_J27 hC hF hL Q   _ _ _ _ _ qa0 qa1  _ h
    · replace h := h.1 cq
      refine r_aload_n hC 1 dX10_isBroken_16 rfl rfl ?_
      refine r_getI hC fg_X10_148 rfl qa1.1 qa1.2 dX10_isBroken_17 ?_
      refine r_goto hC 27 dX10_isBroken_20 (by decide) ?_
      refine r_sub [0, 1, 2, 3] rfl ?_
      exact tX10_isBroken_J27 hC hF hL Q   _ _ _ _ _ qa0 qa1  _ h
theorem dX10_step_0 : dec cX10_step 0 1 1 (.iload_n 1) := ⟨by decide +kernel, rfl⟩
theorem dX10_step_1 : dec cX10_step 1 1 2 (.iconst 0) := ⟨by decide +kernel, rfl⟩
theorem dX10_step_2 : dec cX10_step 2 1 3 (.aload_n 0) := ⟨by decide +kernel, rfl⟩
theorem dX10_step_3 : dec cX10_step 3 3 6 (.getfield 58) := ⟨by decide +kernel, rfl⟩
theorem dX10_step_6 : dec cX10_step 6 1 7 (.iconst 1) := ⟨by decide +kernel, rfl⟩
theorem dX10_step_7 : dec cX10_step 7 1 8 (.isub) := ⟨by decide +kernel, rfl⟩
theorem dX10_step_8 : dec cX10_step 8 3 11 (.invokestatic 91) := ⟨by decide +kernel, rfl⟩
theorem dX10_step_11 : dec cX10_step 11 3 14 (.ifCond .eq 20) := ⟨by decide +kernel, rfl⟩
theorem dX10_step_14 : dec cX10_step 14 1 15 (.iload_n 2) := ⟨by decide +kernel, rfl⟩
theorem dX10_step_15 : dec cX10_step 15 1 16 (.iconst 0) := ⟨by decide +kernel, rfl⟩
theorem dX10_step_16 : dec cX10_step 16 1 17 (.aload_n 0) := ⟨by decide +kernel, rfl⟩
theorem dX10_step_17 : dec cX10_step 17 3 20 (.getfield 45) := ⟨by decide +kernel, rfl⟩
theorem dX10_step_20 : dec cX10_step 20 3 23 (.getfield 95) := ⟨by decide +kernel, rfl⟩
theorem dX10_step_23 : dec cX10_step 23 1 24 (.iconst 1) := ⟨by decide +kernel, rfl⟩
theorem dX10_step_24 : dec cX10_step 24 1 25 (.isub) := ⟨by decide +kernel, rfl⟩
theorem dX10_step_25 : dec cX10_step 25 3 28 (.invokestatic 91) := ⟨by decide +kernel, rfl⟩
theorem dX10_step_28 : dec cX10_step 28 3 31 (.ifCond .ne 4) := ⟨by decide +kernel, rfl⟩
theorem dX10_step_31 : dec cX10_step 31 1 32 (.return_) := ⟨by decide +kernel, rfl⟩
theorem dX10_step_32 : dec cX10_step 32 1 33 (.aload_n 0) := ⟨by decide +kernel, rfl⟩
theorem dX10_step_33 : dec cX10_step 33 3 36 (.getfield 45) := ⟨by decide +kernel, rfl⟩
theorem dX10_step_36 : dec cX10_step 36 3 39 (.getfield 100) := ⟨by decide +kernel, rfl⟩
theorem dX10_step_39 : dec cX10_step 39 1 40 (.iload_n 2) := ⟨by decide +kernel, rfl⟩
theorem dX10_step_40 : dec cX10_step 40 1 41 (.aaload) := ⟨by decide +kernel, rfl⟩
theorem dX10_step_41 : dec cX10_step 41 1 42 (.astore_n 3) := ⟨by decide +kernel, rfl⟩
theorem dX10_step_42 : dec cX10_step 42 1 43 (.iload_n 1) := ⟨by decide +kernel, rfl⟩
theorem dX10_step_43 : dec cX10_step 43 3 46 (.ifCond .ne 7) := ⟨by decide +kernel, rfl⟩
theorem dX10_step_46 : dec cX10_step 46 1 47 (.iconst 0) := ⟨by decide +kernel, rfl⟩
theorem dX10_step_47 : dec cX10_step 47 3 50 (.goto 23) := ⟨by decide +kernel, rfl⟩
theorem dX10_step_50 : dec cX10_step 50 1 51 (.aload_n 0) := ⟨by decide +kernel, rfl⟩
theorem dX10_step_51 : dec cX10_step 51 3 54 (.getfield 45) := ⟨by decide +kernel, rfl⟩
theorem dX10_step_54 : dec cX10_step 54 3 57 (.getfield 100) := ⟨by decide +kernel, rfl⟩
theorem dX10_step_57 : dec cX10_step 57 1 58 (.aload_n 0) := ⟨by decide +kernel, rfl⟩
theorem dX10_step_58 : dec cX10_step 58 3 61 (.getfield 9) := ⟨by decide +kernel, rfl⟩
theorem dX10_step_61 : dec cX10_step 61 1 62 (.iload_n 1) := ⟨by decide +kernel, rfl⟩
theorem dX10_step_62 : dec cX10_step 62 1 63 (.iconst 1) := ⟨by decide +kernel, rfl⟩
theorem dX10_step_63 : dec cX10_step 63 1 64 (.isub) := ⟨by decide +kernel, rfl⟩
theorem dX10_step_64 : dec cX10_step 64 1 65 (.iaload) := ⟨by decide +kernel, rfl⟩
theorem dX10_step_65 : dec cX10_step 65 1 66 (.aaload) := ⟨by decide +kernel, rfl⟩
theorem dX10_step_66 : dec cX10_step 66 1 67 (.aload_n 3) := ⟨by decide +kernel, rfl⟩
theorem dX10_step_67 : dec cX10_step 67 3 70 (.invokevirtual 103) := ⟨by decide +kernel, rfl⟩
theorem dX10_step_70 : dec cX10_step 70 2 72 (.istore 4) := ⟨by decide +kernel, rfl⟩
theorem dX10_step_72 : dec cX10_step 72 1 73 (.iload_n 1) := ⟨by decide +kernel, rfl⟩
theorem dX10_step_73 : dec cX10_step 73 1 74 (.aload_n 0) := ⟨by decide +kernel, rfl⟩
theorem dX10_step_74 : dec cX10_step 74 3 77 (.getfield 62) := ⟨by decide +kernel, rfl⟩
theorem dX10_step_77 : dec cX10_step 77 3 80 (.if_icmp .ne 15) := ⟨by decide +kernel, rfl⟩
theorem dX10_step_80 : dec cX10_step 80 1 81 (.aload_n 0) := ⟨by decide +kernel, rfl⟩
theorem dX10_step_81 : dec cX10_step 81 3 84 (.getfield 45) := ⟨by decide +kernel, rfl⟩
theorem dX10_step_84 : dec cX10_step 84 3 87 (.getfield 109) := ⟨by decide +kernel, rfl⟩
theorem dX10_step_87 : dec cX10_step 87 1 88 (.iconst 2) := ⟨by decide +kernel, rfl⟩
theorem dX10_step_88 : dec cX10_step 88 1 89 (.iaload) := ⟨by decide +kernel, rfl⟩
theorem dX10_step_89 : dec cX10_step 89 3 92 (.goto 15) := ⟨by decide +kernel, rfl⟩
theorem dX10_step_92 : dec cX10_step 92 2 94 (.iload 4) := ⟨by decide +kernel, rfl⟩
theorem dX10_step_94 : dec cX10_step 94 1 95 (.aload_n 0) := ⟨by decide +kernel, rfl⟩
theorem dX10_step_95 : dec cX10_step 95 3 98 (.getfield 45) := ⟨by decide +kernel, rfl⟩
theorem dX10_step_98 : dec cX10_step 98 3 101 (.getfield 109) := ⟨by decide +kernel, rfl⟩
theorem dX10_step_101 : dec cX10_step 101 1 102 (.iconst 0) := ⟨by decide +kernel, rfl⟩
theorem dX10_step_102 : dec cX10_step 102 1 103 (.iaload) := ⟨by decide +kernel, rfl⟩
theorem dX10_step_103 : dec cX10_step 103 1 104 (.imul) := ⟨by decide +kernel, rfl⟩
theorem dX10_step_104 : dec cX10_step 104 2 106 (.istore 5) := ⟨by decide +kernel, rfl⟩
theorem dX10_step_106 : dec cX10_step 106 1 107 (.iload_n 1) := ⟨by decide +kernel, rfl⟩
theorem dX10_step_107 : dec cX10_step 107 3 110 (.ifCond .ne 6) := ⟨by decide +kernel, rfl⟩
theorem dX10_step_110 : dec cX10_step 110 1 111 (.iconst 0) := ⟨by decide +kernel, rfl⟩
theorem dX10_step_111 : dec cX10_step 111 2 113 (.istore 5) := ⟨by decide +kernel, rfl⟩
theorem dX10_step_113 : dec cX10_step 113 1 114 (.aload_n 0) := ⟨by decide +kernel, rfl⟩
theorem dX10_step_114 : dec cX10_step 114 3 117 (.getfield 9) := ⟨by decide +kernel, rfl⟩
theorem dX10_step_117 : dec cX10_step 117 1 118 (.iload_n 1) := ⟨by decide +kernel, rfl⟩
theorem dX10_step_118 : dec cX10_step 118 1 119 (.iload_n 2) := ⟨by decide +kernel, rfl⟩
theorem dX10_step_119 : dec cX10_step 119 1 120 (.iastore) := ⟨by decide +kernel, rfl⟩
theorem dX10_step_120 : dec cX10_step 120 1 121 (.aload_n 0) := ⟨by decide +kernel, rfl⟩
theorem dX10_step_121 : dec cX10_step 121 3 124 (.getfield 24) := ⟨by decide +kernel, rfl⟩
theorem dX10_step_124 : dec cX10_step 124 1 125 (.iload_n 1) := ⟨by decide +kernel, rfl⟩
theorem dX10_step_125 : dec cX10_step 125 1 126 (.iconst 1) := ⟨by decide +kernel, rfl⟩
theorem dX10_step_126 : dec cX10_step 126 1 127 (.iadd) := ⟨by decide +kernel, rfl⟩
theorem dX10_step_127 : dec cX10_step 127 1 128 (.aload_n 0) := ⟨by decide +kernel, rfl⟩
theorem dX10_step_128 : dec cX10_step 128 3 131 (.getfield 24) := ⟨by decide +kernel, rfl⟩
theorem dX10_step_131 : dec cX10_step 131 1 132 (.iload_n 1) := ⟨by decide +kernel, rfl⟩
theorem dX10_step_132 : dec cX10_step 132 1 133 (.iaload) := ⟨by decide +kernel, rfl⟩
theorem dX10_step_133 : dec cX10_step 133 1 134 (.iconst 1) := ⟨by decide +kernel, rfl⟩
theorem dX10_step_134 : dec cX10_step 134 1 135 (.iload_n 2) := ⟨by decide +kernel, rfl⟩
theorem dX10_step_135 : dec cX10_step 135 1 136 (.ishl) := ⟨by decide +kernel, rfl⟩
theorem dX10_step_136 : dec cX10_step 136 1 137 (.ior) := ⟨by decide +kernel, rfl⟩
theorem dX10_step_137 : dec cX10_step 137 1 138 (.iastore) := ⟨by decide +kernel, rfl⟩
theorem dX10_step_138 : dec cX10_step 138 1 139 (.aload_n 0) := ⟨by decide +kernel, rfl⟩
theorem dX10_step_139 : dec cX10_step 139 3 142 (.getfield 21) := ⟨by decide +kernel, rfl⟩
theorem dX10_step_142 : dec cX10_step 142 1 143 (.iload_n 1) := ⟨by decide +kernel, rfl⟩
theorem dX10_step_143 : dec cX10_step 143 1 144 (.iconst 1) := ⟨by decide +kernel, rfl⟩
theorem dX10_step_144 : dec cX10_step 144 1 145 (.iadd) := ⟨by decide +kernel, rfl⟩
theorem dX10_step_145 : dec cX10_step 145 1 146 (.aload_n 0) := ⟨by decide +kernel, rfl⟩
theorem dX10_step_146 : dec cX10_step 146 3 149 (.getfield 21) := ⟨by decide +kernel, rfl⟩
theorem dX10_step_149 : dec cX10_step 149 1 150 (.iload_n 1) := ⟨by decide +kernel, rfl⟩
theorem dX10_step_150 : dec cX10_step 150 1 151 (.iaload) := ⟨by decide +kernel, rfl⟩
theorem dX10_step_151 : dec cX10_step 151 2 153 (.iload 4) := ⟨by decide +kernel, rfl⟩
theorem dX10_step_153 : dec cX10_step 153 1 154 (.iadd) := ⟨by decide +kernel, rfl⟩
theorem dX10_step_154 : dec cX10_step 154 1 155 (.iastore) := ⟨by decide +kernel, rfl⟩
theorem dX10_step_155 : dec cX10_step 155 1 156 (.aload_n 0) := ⟨by decide +kernel, rfl⟩
theorem dX10_step_156 : dec cX10_step 156 3 159 (.getfield 15) := ⟨by decide +kernel, rfl⟩
theorem dX10_step_159 : dec cX10_step 159 1 160 (.iload_n 1) := ⟨by decide +kernel, rfl⟩
theorem dX10_step_160 : dec cX10_step 160 1 161 (.aload_n 0) := ⟨by decide +kernel, rfl⟩
theorem dX10_step_161 : dec cX10_step 161 3 164 (.getfield 18) := ⟨by decide +kernel, rfl⟩
theorem dX10_step_164 : dec cX10_step 164 1 165 (.iload_n 1) := ⟨by decide +kernel, rfl⟩
theorem dX10_step_165 : dec cX10_step 165 1 166 (.iaload) := ⟨by decide +kernel, rfl⟩
theorem dX10_step_166 : dec cX10_step 166 2 168 (.iload 5) := ⟨by decide +kernel, rfl⟩
theorem dX10_step_168 : dec cX10_step 168 1 169 (.iadd) := ⟨by decide +kernel, rfl⟩
theorem dX10_step_169 : dec cX10_step 169 1 170 (.iastore) := ⟨by decide +kernel, rfl⟩
theorem dX10_step_170 : dec cX10_step 170 1 171 (.aload_n 0) := ⟨by decide +kernel, rfl⟩
theorem dX10_step_171 : dec cX10_step 171 3 174 (.getfield 18) := ⟨by decide +kernel, rfl⟩
theorem dX10_step_174 : dec cX10_step 174 1 175 (.iload_n 1) := ⟨by decide +kernel, rfl⟩
theorem dX10_step_175 : dec cX10_step 175 1 176 (.iconst 1) := ⟨by decide +kernel, rfl⟩
theorem dX10_step_176 : dec cX10_step 176 1 177 (.iadd) := ⟨by decide +kernel, rfl⟩
theorem dX10_step_177 : dec cX10_step 177 1 178 (.aload_n 0) := ⟨by decide +kernel, rfl⟩
theorem dX10_step_178 : dec cX10_step 178 3 181 (.getfield 15) := ⟨by decide +kernel, rfl⟩
theorem dX10_step_181 : dec cX10_step 181 1 182 (.iload_n 1) := ⟨by decide +kernel, rfl⟩
theorem dX10_step_182 : dec cX10_step 182 1 183 (.iaload) := ⟨by decide +kernel, rfl⟩
theorem dX10_step_183 : dec cX10_step 183 1 184 (.aload_n 3) := ⟨by decide +kernel, rfl⟩
theorem dX10_step_184 : dec cX10_step 184 3 187 (.getfield 112) := ⟨by decide +kernel, rfl⟩
theorem dX10_step_187 : dec cX10_step 187 1 188 (.iadd) := ⟨by decide +kernel, rfl⟩
theorem dX10_step_188 : dec cX10_step 188 1 189 (.iastore) := ⟨by decide +kernel, rfl⟩
theorem dX10_step_189 : dec cX10_step 189 1 190 (.aload_n 0) := ⟨by decide +kernel, rfl⟩
theorem dX10_step_190 : dec cX10_step 190 1 191 (.iload_n 1) := ⟨by decide +kernel, rfl⟩
theorem dX10_step_191 : dec cX10_step 191 1 192 (.aload_n 3) := ⟨by decide +kernel, rfl⟩
theorem dX10_step_192 : dec cX10_step 192 2 194 (.iload 5) := ⟨by decide +kernel, rfl⟩
theorem dX10_step_194 : dec cX10_step 194 3 197 (.invokevirtual 115) := ⟨by decide +kernel, rfl⟩
theorem dX10_step_197 : dec cX10_step 197 1 198 (.aload_n 0) := ⟨by decide +kernel, rfl⟩
theorem dX10_step_198 : dec cX10_step 198 3 201 (.getfield 27) := ⟨by decide +kernel, rfl⟩
theorem dX10_step_201 : dec cX10_step 201 1 202 (.iload_n 1) := ⟨by decide +kernel, rfl⟩
theorem dX10_step_202 : dec cX10_step 202 1 203 (.iaload) := ⟨by decide +kernel, rfl⟩
theorem dX10_step_203 : dec cX10_step 203 2 205 (.istore 6) := ⟨by decide +kernel, rfl⟩
theorem dX10_step_205 : dec cX10_step 205 1 206 (.iconst 0) := ⟨by decide +kernel, rfl⟩
theorem dX10_step_206 : dec cX10_step 206 2 208 (.istore 7) := ⟨by decide +kernel, rfl⟩
theorem dX10_step_208 : dec cX10_step 208 2 210 (.iload 7) := ⟨by decide +kernel, rfl⟩
theorem dX10_step_210 : dec cX10_step 210 1 211 (.aload_n 0) := ⟨by decide +kernel, rfl⟩
theorem dX10_step_211 : dec cX10_step 211 3 214 (.getfield 45) := ⟨by decide +kernel, rfl⟩
theorem dX10_step_214 : dec cX10_step 214 3 217 (.getfield 119) := ⟨by decide +kernel, rfl⟩
theorem dX10_step_217 : dec cX10_step 217 3 220 (.if_icmp .ge 37) := ⟨by decide +kernel, rfl⟩
theorem dX10_step_220 : dec cX10_step 220 1 221 (.aload_n 0) := ⟨by decide +kernel, rfl⟩
theorem dX10_step_221 : dec cX10_step 221 1 222 (.aload_n 0) := ⟨by decide +kernel, rfl⟩
theorem dX10_step_222 : dec cX10_step 222 3 225 (.getfield 45) := ⟨by decide +kernel, rfl⟩
theorem dX10_step_225 : dec cX10_step 225 3 228 (.getfield 122) := ⟨by decide +kernel, rfl⟩
theorem dX10_step_228 : dec cX10_step 228 2 230 (.iload 7) := ⟨by decide +kernel, rfl⟩
theorem dX10_step_230 : dec cX10_step 230 1 231 (.aaload) := ⟨by decide +kernel, rfl⟩
theorem dX10_step_231 : dec cX10_step 231 1 232 (.iload_n 1) := ⟨by decide +kernel, rfl⟩
theorem dX10_step_232 : dec cX10_step 232 1 233 (.iload_n 2) := ⟨by decide +kernel, rfl⟩
theorem dX10_step_233 : dec cX10_step 233 3 236 (.invokevirtual 126) := ⟨by decide +kernel, rfl⟩
theorem dX10_step_236 : dec cX10_step 236 3 239 (.ifCond .eq 12) := ⟨by decide +kernel, rfl⟩
theorem dX10_step_239 : dec cX10_step 239 2 241 (.iload 6) := ⟨by decide +kernel, rfl⟩
theorem dX10_step_241 : dec cX10_step 241 1 242 (.iconst 1) := ⟨by decide +kernel, rfl⟩
theorem dX10_step_242 : dec cX10_step 242 2 244 (.iload 7) := ⟨by decide +kernel, rfl⟩
theorem dX10_step_244 : dec cX10_step 244 1 245 (.ishl) := ⟨by decide +kernel, rfl⟩
theorem dX10_step_245 : dec cX10_step 245 1 246 (.ior) := ⟨by decide +kernel, rfl⟩
theorem dX10_step_246 : dec cX10_step 246 2 248 (.istore 6) := ⟨by decide +kernel, rfl⟩
theorem dX10_step_248 : dec cX10_step 248 3 251 (.iinc 7 1) := ⟨by decide +kernel, rfl⟩
theorem dX10_step_251 : dec cX10_step 251 3 254 (.goto (-43)) := ⟨by decide +kernel, rfl⟩
theorem dX10_step_254 : dec cX10_step 254 1 255 (.aload_n 0) := ⟨by decide +kernel, rfl⟩
theorem dX10_step_255 : dec cX10_step 255 3 258 (.getfield 27) := ⟨by decide +kernel, rfl⟩
theorem dX10_step_258 : dec cX10_step 258 1 259 (.iload_n 1) := ⟨by decide +kernel, rfl⟩
theorem dX10_step_259 : dec cX10_step 259 1 260 (.iconst 1) := ⟨by decide +kernel, rfl⟩
theorem dX10_step_260 : dec cX10_step 260 1 261 (.iadd) := ⟨by decide +kernel, rfl⟩
theorem dX10_step_261 : dec cX10_step 261 2 263 (.iload 6) := ⟨by decide +kernel, rfl⟩
theorem dX10_step_263 : dec cX10_step 263 1 264 (.iastore) := ⟨by decide +kernel, rfl⟩
theorem dX10_step_264 : dec cX10_step 264 1 265 (.return_) := ⟨by decide +kernel, rfl⟩
set_option maxHeartbeats 4000000 in
set_option maxRecDepth 100000 in
theorem tX10_step_L208 {X : Cx} {Y : Yx} {M0 : Mem} (hC : OKX X Y RX10 cX10_step 8 none rmX10_step) (hF : Y.2.2.2.2 = true) (hL : Lay M0) (Q : Mem → Prop) (E254 : Int → Mem → Prop) (a0 : Nat) (x1 : Int) (x2 : Int) (qa0 : 0 < a0 ∧ M0 0 a0 = kO 10) (hE254 : ∀ (x6 : Int) (M : Mem), E254 x6 M → WW X Y 8 rmX10_step (QV Q) M0 0 0 254 [(0, vR Y.1 a0), (1, vI x1), (6, vI x6)] [] M) : ∀ (N : Nat) (x6 : Int) (x7 : Int) (M : Mem) (_ : wX10_step_L208 Q E254 a0 x1 x2 N x6 x7 M), WW X Y 8 rmX10_step (QV Q) M0 0 0 208 [(0, vR Y.1 a0), (1, vI x1), (2, vI x2), (6, vI x6), (7, vI x7)] [] M := by
  intro N
  induction N with
  | zero =>
    intro x6 x7 M h
    exact h.elim
  | succ N ih =>
    intro x6 x7 M h
    unfold wX10_step_L208 at h
    refine r_iload hC 4 dX10_step_208 rfl ?_
    refine r_aload_n hC 0 dX10_step_210 rfl rfl ?_
    have q_47 : 0 < (a0 - 89) ∧ M0 0 ((a0 - 89)) = kO 0 := lay_fs (a := a0) hL qa0 fm_10_0
    refine r_getRs (a' := (a0 - 89)) hC fg_X10_45 rfl hF fm_10_0 qa0.1 qa0.2 rfl dX10_step_211 ?_
    refine r_getI hC fg_X10_119 rfl q_47.1 q_47.2 dX10_step_214 ?_
    refine r_icmp_ge hC 254 rfl rfl dX10_step_217 (by decide) (fun cq => ?_) (fun cq => ?_)
    · replace h := h.1 cq
      refine r_sub [0, 1, 3] rfl ?_
      exact hE254 _ _ h
    · replace h := h.2 cq
      refine r_aload_n hC 0 dX10_step_220 rfl rfl ?_
      refine r_aload_n hC 0 dX10_step_221 rfl rfl ?_
      have q_48 : 0 < (a0 - 89) ∧ M0 0 ((a0 - 89)) = kO 0 := lay_fs (a := a0) hL qa0 fm_10_0
      refine r_getRs (a' := (a0 - 89)) hC fg_X10_45 rfl hF fm_10_0 qa0.1 qa0.2 rfl dX10_step_222 ?_
      have q_49 : 0 < (a0 - 89) + 4 ∧ M0 0 ((a0 - 89) + 4) = kA 6 10 := lay_f0 (a := (a0 - 89)) hL q_48 fm_0_5
      refine r_getR0 (a' := (a0 - 89) + 4) hC fg_X10_122 rfl hF fm_0_5 q_48.1 q_48.2 rfl dX10_step_225 ?_
      refine r_iload hC 4 dX10_step_228 rfl ?_
      obtain ⟨i_50, h⟩ := h
      have q_51 : 0 < (a0 - 89) + 41 + (bm x7).toNat ∧ M0 0 ((a0 - 89) + 41 + (bm x7).toNat) = kO 2 := lay_a6 (a := (a0 - 89) + 4) hL q_49 (inb_nat i_50)
      refine r_aald6 hC hF i_50 q_49.1 q_49.2 dX10_step_230 ?_
      refine r_iload_n hC 1 dX10_step_231 rfl rfl ?_
      refine r_iload_n hC 2 dX10_step_232 rfl rfl ?_
      refine r_callV (As := [vR Y.1 ((a0 - 89) + 41 + (bm x7).toNat), vI x1, vI x2]) (st := []) hC cw_X10_126 rfl qa0.1 qa0.2 rfl rfl (Nat.le_of_ble_eq_true rfl) ⟨Nat.le_of_ble_eq_true rfl, Nat.le_of_ble_eq_true rfl⟩ ⟨Nat.le_of_ble_eq_true rfl, Nat.le_of_ble_eq_true rfl⟩ dX10_step_233 (fun hk => mX10_isBroken Y hF _ _ _ _ _ _ _ (kqO hk qa0) (kqO hk q_51) h) (fun v M_52 h => ?_)
      obtain ⟨r_53, rfl, h⟩ := h
      refine r_if_eq hC 248 rfl dX10_step_236 (by decide) (fun cq => ?_) (fun cq => ?_)
      · replace h := h.1 cq
        refine let_elim h (fun x7_54 e_55 h => ?_)
        refine r_iinc (lv' := [(7, vI x7_54), (0, vR Y.1 a0), (1, vI x1), (2, vI x2), (6, vI x6)]) hC 4 dX10_step_248 rfl (by decide) e_55 rfl ?_
        refine r_goto hC 208 dX10_step_251 (by decide) ?_
        refine r_sub [1, 2, 3, 4, 0] rfl ?_
        exact ih _ _ _ h
      · replace h := h.2 cq
        refine r_iload hC 3 dX10_step_239 rfl ?_
        refine r_iconst hC dX10_step_241 ?_
        refine r_iload hC 4 dX10_step_242 rfl ?_
        refine r_ishl hC dX10_step_244 ?_
        refine r_ior hC dX10_step_245 ?_
        refine r_nameI h (fun x6_56 h => ?_)
        refine r_istore (lv' := [(6, vI x6_56), (0, vR Y.1 a0), (1, vI x1), (2, vI x2), (7, vI x7)]) hC dX10_step_246 (by decide) rfl ?_
        refine let_elim h (fun x7_57 e_58 h => ?_)
        refine r_iinc (lv' := [(7, vI x7_57), (6, vI x6_56), (0, vR Y.1 a0), (1, vI x1), (2, vI x2)]) hC 4 dX10_step_248 rfl (by decide) e_58 rfl ?_
        refine r_goto hC 208 dX10_step_251 (by decide) ?_
        refine r_sub [2, 3, 4, 1, 0] rfl ?_
        exact ih _ _ _ h
set_option maxHeartbeats 4000000 in
set_option maxRecDepth 100000 in
theorem tX10_step_J113 {X : Cx} {Y : Yx} {M0 : Mem} (hC : OKX X Y RX10 cX10_step 8 none rmX10_step) (hF : Y.2.2.2.2 = true) (hL : Lay M0) (Q : Mem → Prop)   (a0 : Nat) (x1 : Int) (x2 : Int) (a3 : Nat) (x4 : Int) (x5 : Int) (qa0 : 0 < a0 ∧ M0 0 a0 = kO 10) (qa3 : 0 < a3 ∧ M0 0 a3 = kO 3)  (M : Mem) (h : wX10_step_J113 Q  a0 x1 x2 a3 x4 x5 M) : WW X Y 8 rmX10_step (QV Q) M0 0 0 113 [(0, vR Y.1 a0), (1, vI x1), (2, vI x2), (3, vR Y.1 a3), (4, vI x4), (5, vI x5)] [] M := by
  unfold wX10_step_J113 at h
  refine r_aload_n hC 0 dX10_step_113 rfl rfl ?_
  have q_20 : 0 < a0 + 1 ∧ M0 0 (a0 + 1) = kA 0 12 := lay_f0 (a := a0) hL qa0 fm_10_4
  refine r_getR0 (a' := a0 + 1) hC fg_X10_9 rfl hF fm_10_4 qa0.1 qa0.2 rfl dX10_step_114 ?_
  refine r_iload_n hC 1 dX10_step_117 rfl rfl ?_
  refine r_iload_n hC 2 dX10_step_118 rfl rfl ?_
  obtain ⟨i_21, h⟩ := h
  refine r_iast hC i_21 q_20.1 q_20.2 (by decide) dX10_step_119 ?_
  refine r_nameM h (fun M_22 h => ?_)
  refine r_aload_n hC 0 dX10_step_120 rfl rfl ?_
  have q_23 : 0 < a0 + 5 ∧ M0 0 (a0 + 5) = kA 0 13 := lay_f0 (a := a0) hL qa0 fm_10_8
  refine r_getR0 (a' := a0 + 5) hC fg_X10_24 rfl hF fm_10_8 qa0.1 qa0.2 rfl dX10_step_121 ?_
  refine r_iload_n hC 1 dX10_step_124 rfl rfl ?_
  refine r_iconst hC dX10_step_125 ?_
  refine r_iadd hC dX10_step_126 ?_
  refine r_aload_n hC 0 dX10_step_127 rfl rfl ?_
  have q_24 : 0 < a0 + 5 ∧ M0 0 (a0 + 5) = kA 0 13 := lay_f0 (a := a0) hL qa0 fm_10_8
  refine r_getR0 (a' := a0 + 5) hC fg_X10_24 rfl hF fm_10_8 qa0.1 qa0.2 rfl dX10_step_128 ?_
  refine r_iload_n hC 1 dX10_step_131 rfl rfl ?_
  obtain ⟨i_25, h⟩ := h
  refine r_iald hC i_25 q_24.1 q_24.2 (by decide) dX10_step_132 ?_
  refine r_iconst hC dX10_step_133 ?_
  refine r_iload_n hC 2 dX10_step_134 rfl rfl ?_
  refine r_ishl hC dX10_step_135 ?_
  refine r_ior hC dX10_step_136 ?_
  obtain ⟨i_26, h⟩ := h
  refine r_iast hC i_26 q_23.1 q_23.2 (by decide) dX10_step_137 ?_
  refine r_nameM h (fun M_27 h => ?_)
  refine r_aload_n hC 0 dX10_step_138 rfl rfl ?_
  have q_28 : 0 < a0 + 4 ∧ M0 0 (a0 + 4) = kA 0 13 := lay_f0 (a := a0) hL qa0 fm_10_7
  refine r_getR0 (a' := a0 + 4) hC fg_X10_21 rfl hF fm_10_7 qa0.1 qa0.2 rfl dX10_step_139 ?_
  refine r_iload_n hC 1 dX10_step_142 rfl rfl ?_
  refine r_iconst hC dX10_step_143 ?_
  refine r_iadd hC dX10_step_144 ?_
  refine r_aload_n hC 0 dX10_step_145 rfl rfl ?_
  have q_29 : 0 < a0 + 4 ∧ M0 0 (a0 + 4) = kA 0 13 := lay_f0 (a := a0) hL qa0 fm_10_7
  refine r_getR0 (a' := a0 + 4) hC fg_X10_21 rfl hF fm_10_7 qa0.1 qa0.2 rfl dX10_step_146 ?_
  refine r_iload_n hC 1 dX10_step_149 rfl rfl ?_
  obtain ⟨i_30, h⟩ := h
  refine r_iald hC i_30 q_29.1 q_29.2 (by decide) dX10_step_150 ?_
  refine r_iload hC 4 dX10_step_151 rfl ?_
  refine r_iadd hC dX10_step_153 ?_
  obtain ⟨i_31, h⟩ := h
  refine r_iast hC i_31 q_28.1 q_28.2 (by decide) dX10_step_154 ?_
  refine r_nameM h (fun M_32 h => ?_)
  refine r_aload_n hC 0 dX10_step_155 rfl rfl ?_
  have q_33 : 0 < a0 + 2 ∧ M0 0 (a0 + 2) = kA 0 12 := lay_f0 (a := a0) hL qa0 fm_10_5
  refine r_getR0 (a' := a0 + 2) hC fg_X10_15 rfl hF fm_10_5 qa0.1 qa0.2 rfl dX10_step_156 ?_
  refine r_iload_n hC 1 dX10_step_159 rfl rfl ?_
  refine r_aload_n hC 0 dX10_step_160 rfl rfl ?_
  have q_34 : 0 < a0 + 3 ∧ M0 0 (a0 + 3) = kA 0 13 := lay_f0 (a := a0) hL qa0 fm_10_6
  refine r_getR0 (a' := a0 + 3) hC fg_X10_18 rfl hF fm_10_6 qa0.1 qa0.2 rfl dX10_step_161 ?_
  refine r_iload_n hC 1 dX10_step_164 rfl rfl ?_
  obtain ⟨i_35, h⟩ := h
  refine r_iald hC i_35 q_34.1 q_34.2 (by decide) dX10_step_165 ?_
  refine r_iload hC 5 dX10_step_166 rfl ?_
  refine r_iadd hC dX10_step_168 ?_
  obtain ⟨i_36, h⟩ := h
  refine r_iast hC i_36 q_33.1 q_33.2 (by decide) dX10_step_169 ?_
  refine r_nameM h (fun M_37 h => ?_)
  refine r_aload_n hC 0 dX10_step_170 rfl rfl ?_
  have q_38 : 0 < a0 + 3 ∧ M0 0 (a0 + 3) = kA 0 13 := lay_f0 (a := a0) hL qa0 fm_10_6
  refine r_getR0 (a' := a0 + 3) hC fg_X10_18 rfl hF fm_10_6 qa0.1 qa0.2 rfl dX10_step_171 ?_
  refine r_iload_n hC 1 dX10_step_174 rfl rfl ?_
  refine r_iconst hC dX10_step_175 ?_
  refine r_iadd hC dX10_step_176 ?_
  refine r_aload_n hC 0 dX10_step_177 rfl rfl ?_
  have q_39 : 0 < a0 + 2 ∧ M0 0 (a0 + 2) = kA 0 12 := lay_f0 (a := a0) hL qa0 fm_10_5
  refine r_getR0 (a' := a0 + 2) hC fg_X10_15 rfl hF fm_10_5 qa0.1 qa0.2 rfl dX10_step_178 ?_
  refine r_iload_n hC 1 dX10_step_181 rfl rfl ?_
  obtain ⟨i_40, h⟩ := h
  refine r_iald hC i_40 q_39.1 q_39.2 (by decide) dX10_step_182 ?_
  refine r_aload_n hC 3 dX10_step_183 rfl rfl ?_
  refine r_getI hC fg_X10_112 rfl qa3.1 qa3.2 dX10_step_184 ?_
  refine r_iadd hC dX10_step_187 ?_
  obtain ⟨i_41, h⟩ := h
  refine r_iast hC i_41 q_38.1 q_38.2 (by decide) dX10_step_188 ?_
  refine r_nameM h (fun M_42 h => ?_)
  refine r_aload_n hC 0 dX10_step_189 rfl rfl ?_
  refine r_iload_n hC 1 dX10_step_190 rfl rfl ?_
  refine r_aload_n hC 3 dX10_step_191 rfl rfl ?_
  refine r_iload hC 5 dX10_step_192 rfl ?_
  refine r_callV (As := [vI x1, vR Y.1 a3, vI x5]) (st := []) hC cw_X10_115 rfl qa0.1 qa0.2 rfl rfl (Nat.le_of_ble_eq_true rfl) ⟨Nat.le_of_ble_eq_true rfl, Nat.le_of_ble_eq_true rfl⟩ ⟨Nat.le_of_ble_eq_true rfl, Nat.le_of_ble_eq_true rfl⟩ dX10_step_194 (fun hk => mX10_tire Y hF _ _ _ _ _ _ _ (kqO hk qa0) (kqO hk qa3) h) (fun v M_43 h => ?_)
  obtain ⟨rfl, h⟩ := h
  refine r_aload_n hC 0 dX10_step_197 rfl rfl ?_
  have q_44 : 0 < a0 + 6 ∧ M0 0 (a0 + 6) = kA 0 13 := lay_f0 (a := a0) hL qa0 fm_10_9
  refine r_getR0 (a' := a0 + 6) hC fg_X10_27 rfl hF fm_10_9 qa0.1 qa0.2 rfl dX10_step_198 ?_
  refine r_iload_n hC 1 dX10_step_201 rfl rfl ?_
  obtain ⟨i_45, h⟩ := h
  refine r_iald hC i_45 q_44.1 q_44.2 (by decide) dX10_step_202 ?_
  refine r_nameI h (fun x6_46 h => ?_)
  refine r_istore (lv' := [(6, vI x6_46), (0, vR Y.1 a0), (1, vI x1), (2, vI x2), (3, vR Y.1 a3), (4, vI x4), (5, vI x5)]) hC dX10_step_203 (by decide) rfl ?_
  refine r_iconst hC dX10_step_205 ?_
  refine r_istore (lv' := [(7, vI 0), (6, vI x6_46), (0, vR Y.1 a0), (1, vI x1), (2, vI x2), (3, vR Y.1 a3), (4, vI x4), (5, vI x5)]) hC dX10_step_206 (by decide) rfl ?_
  refine r_sub [2, 3, 4, 1, 0] rfl ?_
  obtain ⟨N_64, h⟩ := h
  refine tX10_step_L208 hC hF hL Q _ _ _ _ qa0 ?_ N_64 _ _ _ h
  · intro x6_59 M_60 h
    refine r_aload_n hC 0 dX10_step_254 rfl rfl ?_
    have q_61 : 0 < a0 + 6 ∧ M0 0 (a0 + 6) = kA 0 13 := lay_f0 (a := a0) hL qa0 fm_10_9
    refine r_getR0 (a' := a0 + 6) hC fg_X10_27 rfl hF fm_10_9 qa0.1 qa0.2 rfl dX10_step_255 ?_
    refine r_iload_n hC 1 dX10_step_258 rfl rfl ?_
    refine r_iconst hC dX10_step_259 ?_
    refine r_iadd hC dX10_step_260 ?_
    refine r_iload hC 2 dX10_step_261 rfl ?_
    obtain ⟨i_62, h⟩ := h
    refine r_iast hC i_62 q_61.1 q_61.2 (by decide) dX10_step_263 ?_
    refine r_nameM h (fun M_63 h => ?_)
    exact r_vret hC (Nat.zero_le _) (Nat.zero_le _) dX10_step_264 ⟨rfl, h⟩
set_option maxHeartbeats 4000000 in
set_option maxRecDepth 100000 in
theorem tX10_step_J104 {X : Cx} {Y : Yx} {M0 : Mem} (hC : OKX X Y RX10 cX10_step 8 none rmX10_step) (hF : Y.2.2.2.2 = true) (hL : Lay M0) (Q : Mem → Prop)   (a0 : Nat) (x1 : Int) (x2 : Int) (a3 : Nat) (x4 : Int) (xs0 : Int) (qa0 : 0 < a0 ∧ M0 0 a0 = kO 10) (qa3 : 0 < a3 ∧ M0 0 a3 = kO 3)  (M : Mem) (h : wX10_step_J104 Q  a0 x1 x2 a3 x4 xs0 M) : WW X Y 8 rmX10_step (QV Q) M0 0 0 104 [(0, vR Y.1 a0), (1, vI x1), (2, vI x2), (3, vR Y.1 a3), (4, vI x4)] [vI xs0] M := by
  unfold wX10_step_J104 at h
  refine r_istore (lv' := [(5, vI xs0), (0, vR Y.1 a0), (1, vI x1), (2, vI x2), (3, vR Y.1 a3), (4, vI x4)]) hC dX10_step_104 (by decide) rfl ?_
  refine r_iload_n hC 2 dX10_step_106 rfl rfl ?_
  refine r_if_ne hC 113 rfl dX10_step_107 (by decide) (fun cq => ?_) (fun cq => ?_)
  · replace h := h.2 cq
    refine r_sub [1, 2, 3, 4, 5, 0] rfl ?_
    exact tX10_step_J113 hC hF hL Q   _ _ _ _ _ _ qa0 qa3  _ h
  · replace h := h.1 cq
    refine r_iconst hC dX10_step_110 ?_
    refine r_istore (lv' := [(5, vI 0), (0, vR Y.1 a0), (1, vI x1), (2, vI x2), (3, vR Y.1 a3), (4, vI x4)]) hC dX10_step_111 (by decide) rfl ?_
    refine r_sub [1, 2, 3, 4, 5, 0] rfl ?_
    exact tX10_step_J113 hC hF hL Q   _ _ _ _ _ _ qa0 qa3  _ h
set_option maxHeartbeats 4000000 in
set_option maxRecDepth 100000 in
theorem tX10_step_J70 {X : Cx} {Y : Yx} {M0 : Mem} (hC : OKX X Y RX10 cX10_step 8 none rmX10_step) (hF : Y.2.2.2.2 = true) (hL : Lay M0) (Q : Mem → Prop)   (a0 : Nat) (x1 : Int) (x2 : Int) (a3 : Nat) (xs0 : Int) (qa0 : 0 < a0 ∧ M0 0 a0 = kO 10) (qa3 : 0 < a3 ∧ M0 0 a3 = kO 3)  (M : Mem) (h : wX10_step_J70 Q  a0 x1 x2 a3 xs0 M) : WW X Y 8 rmX10_step (QV Q) M0 0 0 70 [(0, vR Y.1 a0), (1, vI x1), (2, vI x2), (3, vR Y.1 a3)] [vI xs0] M := by
  unfold wX10_step_J70 at h
  refine r_istore (lv' := [(4, vI xs0), (0, vR Y.1 a0), (1, vI x1), (2, vI x2), (3, vR Y.1 a3)]) hC dX10_step_70 (by decide) rfl ?_
  refine r_iload_n hC 2 dX10_step_72 rfl rfl ?_
  refine r_aload_n hC 1 dX10_step_73 rfl rfl ?_
  refine r_getI hC fg_X10_62 rfl qa0.1 qa0.2 dX10_step_74 ?_
  refine r_icmp_ne hC 92 rfl rfl dX10_step_77 (by decide) (fun cq => ?_) (fun cq => ?_)
  · replace h := h.2 cq
    refine r_iload hC 0 dX10_step_92 rfl ?_
    refine r_aload_n hC 1 dX10_step_94 rfl rfl ?_
    have q_18 : 0 < (a0 - 89) ∧ M0 0 ((a0 - 89)) = kO 0 := lay_fs (a := a0) hL qa0 fm_10_0
    refine r_getRs (a' := (a0 - 89)) hC fg_X10_45 rfl hF fm_10_0 qa0.1 qa0.2 rfl dX10_step_95 ?_
    have q_19 : 0 < (a0 - 89) + 2 ∧ M0 0 ((a0 - 89) + 2) = kA 0 4 := lay_f0 (a := (a0 - 89)) hL q_18 fm_0_2
    refine r_getR0 (a' := (a0 - 89) + 2) hC fg_X10_109 rfl hF fm_0_2 q_18.1 q_18.2 rfl dX10_step_98 ?_
    refine r_iconst hC dX10_step_101 ?_
    refine r_iald hC ⟨by decide +kernel, by decide +kernel⟩ q_19.1 q_19.2 (by decide) dX10_step_102 ?_
    refine r_imul hC dX10_step_103 ?_
    refine r_sub [1, 2, 3, 4, 0] rfl ?_
    exact tX10_step_J104 hC hF hL Q   _ _ _ _ _ _ qa0 qa3  _ h
  · replace h := h.1 cq
    refine r_aload_n hC 1 dX10_step_80 rfl rfl ?_
    have q_65 : 0 < (a0 - 89) ∧ M0 0 ((a0 - 89)) = kO 0 := lay_fs (a := a0) hL qa0 fm_10_0
    refine r_getRs (a' := (a0 - 89)) hC fg_X10_45 rfl hF fm_10_0 qa0.1 qa0.2 rfl dX10_step_81 ?_
    have q_66 : 0 < (a0 - 89) + 2 ∧ M0 0 ((a0 - 89) + 2) = kA 0 4 := lay_f0 (a := (a0 - 89)) hL q_65 fm_0_2
    refine r_getR0 (a' := (a0 - 89) + 2) hC fg_X10_109 rfl hF fm_0_2 q_65.1 q_65.2 rfl dX10_step_84 ?_
    refine r_iconst hC dX10_step_87 ?_
    refine r_iald hC ⟨by decide +kernel, by decide +kernel⟩ q_66.1 q_66.2 (by decide) dX10_step_88 ?_
    refine r_goto hC 104 dX10_step_89 (by decide) ?_
    refine r_sub [1, 2, 3, 4, 0] rfl ?_
    exact tX10_step_J104 hC hF hL Q   _ _ _ _ _ _ qa0 qa3  _ h
set_option maxHeartbeats 4000000 in
set_option maxRecDepth 100000 in
theorem mX10_step (Y : Yx) (hF : Y.2.2.2.2 = true) (l : Launch) (a0 : Nat) (x1 : Int) (x2 : Int) (M0 : Mem) (Q : Mem → Prop) (qa0 : 0 < a0 ∧ M0 0 a0 = kO 10) (h : wX10_step a0 x1 x2 M0 Q) : CT Y l yX10_step cX10_step 8 none rmX10_step [vR Y.1 a0, vI x1, vI x2] M0 (QV Q) := by
  unfold wX10_step at h
  refine ct_intro (by decide) (Nat.le_of_ble_eq_true rfl) ?_
  intro X hXl hC hL0
  have hL := hL0 hF
  change OKX X Y RX10 cX10_step 8 none rmX10_step at hC
  change WW X Y 8 rmX10_step (QV Q) M0 0 0 0 [(0, vR Y.1 a0), (1, vI x1), (2, vI x2)] [] M0
  refine r_iload_n hC 1 dX10_step_0 rfl rfl ?_
  refine r_iconst hC dX10_step_1 ?_
  refine r_aload_n hC 0 dX10_step_2 rfl rfl ?_
  refine r_getI hC fg_X10_58 rfl qa0.1 qa0.2 dX10_step_3 ?_
  refine r_iconst hC dX10_step_6 ?_
  refine r_isub hC dX10_step_7 ?_
  refine r_callN (As := [vI x1, vI 0, vI ((M0 a0 1) - 1)]) (st := []) hC cw_X10_91 rfl rfl (Nat.le_of_ble_eq_true rfl) ⟨Nat.le_of_ble_eq_true rfl, Nat.le_of_ble_eq_true rfl⟩ ⟨Nat.le_of_ble_eq_true rfl, Nat.le_of_ble_eq_true rfl⟩ dX10_step_8 (fun hk => mX11_within Y hF _ _ _ _ _ _  h) (fun v M_1 h => ?_)
  obtain ⟨r_2, rfl, h⟩ := h
  refine r_if_eq hC 31 rfl dX10_step_11 (by decide) (fun cq => ?_) (fun cq => ?_)
  · replace h := h.1 cq
    exact r_vret hC (Nat.zero_le _) (Nat.zero_le _) dX10_step_31 ⟨rfl, h⟩
  · replace h := h.2 cq
    refine r_iload_n hC 2 dX10_step_14 rfl rfl ?_
    refine r_iconst hC dX10_step_15 ?_
    refine r_aload_n hC 0 dX10_step_16 rfl rfl ?_
    have q_3 : 0 < (a0 - 89) ∧ M0 0 ((a0 - 89)) = kO 0 := lay_fs (a := a0) hL qa0 fm_10_0
    refine r_getRs (a' := (a0 - 89)) hC fg_X10_45 rfl hF fm_10_0 qa0.1 qa0.2 rfl dX10_step_17 ?_
    refine r_getI hC fg_X10_95 rfl q_3.1 q_3.2 dX10_step_20 ?_
    refine r_iconst hC dX10_step_23 ?_
    refine r_isub hC dX10_step_24 ?_
    refine r_callN (As := [vI x2, vI 0, vI ((M_1 ((a0 - 89)) 1) - 1)]) (st := []) hC cw_X10_91 rfl rfl (Nat.le_of_ble_eq_true rfl) ⟨Nat.le_of_ble_eq_true rfl, Nat.le_of_ble_eq_true rfl⟩ ⟨Nat.le_of_ble_eq_true rfl, Nat.le_of_ble_eq_true rfl⟩ dX10_step_25 (fun hk => mX11_within Y hF _ _ _ _ _ _  h) (fun v M_4 h => ?_)
    obtain ⟨r_5, rfl, h⟩ := h
    refine r_if_ne hC 32 rfl dX10_step_28 (by decide) (fun cq => ?_) (fun cq => ?_)
    · replace h := h.2 cq
      refine r_aload_n hC 0 dX10_step_32 rfl rfl ?_
      have q_6 : 0 < (a0 - 89) ∧ M0 0 ((a0 - 89)) = kO 0 := lay_fs (a := a0) hL qa0 fm_10_0
      refine r_getRs (a' := (a0 - 89)) hC fg_X10_45 rfl hF fm_10_0 qa0.1 qa0.2 rfl dX10_step_33 ?_
      have q_7 : 0 < (a0 - 89) + 1 ∧ M0 0 ((a0 - 89) + 1) = kA 4 12 := lay_f0 (a := (a0 - 89)) hL q_6 fm_0_0
      refine r_getR0 (a' := (a0 - 89) + 1) hC fg_X10_100 rfl hF fm_0_0 q_6.1 q_6.2 rfl dX10_step_36 ?_
      refine r_iload_n hC 2 dX10_step_39 rfl rfl ?_
      obtain ⟨i_8, h⟩ := h
      have q_9 : 0 < (a0 - 89) + 9 + (bm x2).toNat ∧ M0 0 ((a0 - 89) + 9 + (bm x2).toNat) = kO 3 := lay_a4 (a := (a0 - 89) + 1) hL q_7 (inb_nat i_8)
      refine r_aald4 hC hF i_8 q_7.1 q_7.2 dX10_step_40 ?_
      refine r_astore_n (lv' := [(3, vR Y.1 ((a0 - 89) + 9 + (bm x2).toNat)), (0, vR Y.1 a0), (1, vI x1), (2, vI x2)]) hC dX10_step_41 rfl (by decide) rfl ?_
      refine r_iload_n hC 2 dX10_step_42 rfl rfl ?_
      refine r_if_ne hC 50 rfl dX10_step_43 (by decide) (fun cq => ?_) (fun cq => ?_)
      · replace h := h.2 cq
        refine r_aload_n hC 1 dX10_step_50 rfl rfl ?_
        have q_10 : 0 < (a0 - 89) ∧ M0 0 ((a0 - 89)) = kO 0 := lay_fs (a := a0) hL qa0 fm_10_0
        refine r_getRs (a' := (a0 - 89)) hC fg_X10_45 rfl hF fm_10_0 qa0.1 qa0.2 rfl dX10_step_51 ?_
        have q_11 : 0 < (a0 - 89) + 1 ∧ M0 0 ((a0 - 89) + 1) = kA 4 12 := lay_f0 (a := (a0 - 89)) hL q_10 fm_0_0
        refine r_getR0 (a' := (a0 - 89) + 1) hC fg_X10_100 rfl hF fm_0_0 q_10.1 q_10.2 rfl dX10_step_54 ?_
        refine r_aload_n hC 1 dX10_step_57 rfl rfl ?_
        have q_12 : 0 < a0 + 1 ∧ M0 0 (a0 + 1) = kA 0 12 := lay_f0 (a := a0) hL qa0 fm_10_4
        refine r_getR0 (a' := a0 + 1) hC fg_X10_9 rfl hF fm_10_4 qa0.1 qa0.2 rfl dX10_step_58 ?_
        refine r_iload_n hC 2 dX10_step_61 rfl rfl ?_
        refine r_iconst hC dX10_step_62 ?_
        refine r_isub hC dX10_step_63 ?_
        obtain ⟨i_13, h⟩ := h
        refine r_iald hC i_13 q_12.1 q_12.2 (by decide) dX10_step_64 ?_
        obtain ⟨i_14, h⟩ := h
        have q_15 : 0 < (a0 - 89) + 9 + (bm (rd M_4 (a0 + 1) (x1 - 1))).toNat ∧ M0 0 ((a0 - 89) + 9 + (bm (rd M_4 (a0 + 1) (x1 - 1))).toNat) = kO 3 := lay_a4 (a := (a0 - 89) + 1) hL q_11 (inb_nat i_14)
        refine r_aald4 hC hF i_14 q_11.1 q_11.2 dX10_step_65 ?_
        refine r_aload_n hC 0 dX10_step_66 rfl rfl ?_
        refine r_callV (As := [vR Y.1 ((a0 - 89) + 9 + (bm x2).toNat)]) (st := []) hC cw_X10_103 rfl q_15.1 q_15.2 rfl rfl (Nat.le_of_ble_eq_true rfl) ⟨Nat.le_of_ble_eq_true rfl, Nat.le_of_ble_eq_true rfl⟩ ⟨Nat.le_of_ble_eq_true rfl, Nat.le_of_ble_eq_true rfl⟩ dX10_step_67 (fun hk => mX3_carriedTo Y hF _ _ _ _ _ (kqO hk q_15) (kqO hk q_9) h) (fun v M_16 h => ?_)
        obtain ⟨r_17, rfl, h⟩ := h
        refine r_sub [1, 2, 3, 0] rfl ?_
        exact tX10_step_J70 hC hF hL Q   _ _ _ _ _ qa0 q_9  _ h
      · replace h := h.1 cq
        refine r_iconst hC dX10_step_46 ?_
        refine r_goto hC 70 dX10_step_47 (by decide) ?_
        refine r_sub [1, 2, 3, 0] rfl ?_
        exact tX10_step_J70 hC hF hL Q   _ _ _ _ _ qa0 q_9  _ h
    · replace h := h.1 cq
      exact r_vret hC (Nat.zero_le _) (Nat.zero_le _) dX10_step_31 ⟨rfl, h⟩
theorem dX10_isNoneTooTired_0 : dec cX10_isNoneTooTired 0 1 1 (.iload_n 1) := ⟨by decide +kernel, rfl⟩
theorem dX10_isNoneTooTired_1 : dec cX10_isNoneTooTired 1 1 2 (.iconst 0) := ⟨by decide +kernel, rfl⟩
theorem dX10_isNoneTooTired_2 : dec cX10_isNoneTooTired 2 1 3 (.aload_n 0) := ⟨by decide +kernel, rfl⟩
theorem dX10_isNoneTooTired_3 : dec cX10_isNoneTooTired 3 3 6 (.getfield 58) := ⟨by decide +kernel, rfl⟩
theorem dX10_isNoneTooTired_6 : dec cX10_isNoneTooTired 6 3 9 (.invokestatic 91) := ⟨by decide +kernel, rfl⟩
theorem dX10_isNoneTooTired_9 : dec cX10_isNoneTooTired 9 3 12 (.ifCond .eq 25) := ⟨by decide +kernel, rfl⟩
theorem dX10_isNoneTooTired_12 : dec cX10_isNoneTooTired 12 1 13 (.aload_n 0) := ⟨by decide +kernel, rfl⟩
theorem dX10_isNoneTooTired_13 : dec cX10_isNoneTooTired 13 3 16 (.getfield 30) := ⟨by decide +kernel, rfl⟩
theorem dX10_isNoneTooTired_16 : dec cX10_isNoneTooTired 16 1 17 (.iload_n 1) := ⟨by decide +kernel, rfl⟩
theorem dX10_isNoneTooTired_17 : dec cX10_isNoneTooTired 17 1 18 (.iaload) := ⟨by decide +kernel, rfl⟩
theorem dX10_isNoneTooTired_18 : dec cX10_isNoneTooTired 18 1 19 (.aload_n 0) := ⟨by decide +kernel, rfl⟩
theorem dX10_isNoneTooTired_19 : dec cX10_isNoneTooTired 19 3 22 (.getfield 45) := ⟨by decide +kernel, rfl⟩
theorem dX10_isNoneTooTired_22 : dec cX10_isNoneTooTired 22 3 25 (.getfield 109) := ⟨by decide +kernel, rfl⟩
theorem dX10_isNoneTooTired_25 : dec cX10_isNoneTooTired 25 1 26 (.iconst 3) := ⟨by decide +kernel, rfl⟩
theorem dX10_isNoneTooTired_26 : dec cX10_isNoneTooTired 26 1 27 (.iaload) := ⟨by decide +kernel, rfl⟩
theorem dX10_isNoneTooTired_27 : dec cX10_isNoneTooTired 27 3 30 (.if_icmp .gt 7) := ⟨by decide +kernel, rfl⟩
theorem dX10_isNoneTooTired_30 : dec cX10_isNoneTooTired 30 1 31 (.iconst 1) := ⟨by decide +kernel, rfl⟩
theorem dX10_isNoneTooTired_31 : dec cX10_isNoneTooTired 31 3 34 (.goto 4) := ⟨by decide +kernel, rfl⟩
theorem dX10_isNoneTooTired_34 : dec cX10_isNoneTooTired 34 1 35 (.iconst 0) := ⟨by decide +kernel, rfl⟩
theorem dX10_isNoneTooTired_35 : dec cX10_isNoneTooTired 35 1 36 (.ireturn) := ⟨by decide +kernel, rfl⟩
set_option maxHeartbeats 4000000 in
set_option maxRecDepth 100000 in
theorem mX10_isNoneTooTired (Y : Yx) (hF : Y.2.2.2.2 = true) (l : Launch) (a0 : Nat) (x1 : Int) (M0 : Mem) (Q : Int → Mem → Prop) (qa0 : 0 < a0 ∧ M0 0 a0 = kO 10) (h : wX10_isNoneTooTired a0 x1 M0 Q) : CT Y l yX10_isNoneTooTired cX10_isNoneTooTired 2 (some .boolean) rmX10_isNoneTooTired [vR Y.1 a0, vI x1] M0 (QI Q) := by
  unfold wX10_isNoneTooTired at h
  refine ct_intro (by decide) (Nat.le_of_ble_eq_true rfl) ?_
  intro X hXl hC hL0
  have hL := hL0 hF
  change OKX X Y RX10 cX10_isNoneTooTired 2 (some .boolean) rmX10_isNoneTooTired at hC
  change WW X Y 2 rmX10_isNoneTooTired (QI Q) M0 0 0 0 [(0, vR Y.1 a0), (1, vI x1)] [] M0
  refine r_iload_n hC 1 dX10_isNoneTooTired_0 rfl rfl ?_
  refine r_iconst hC dX10_isNoneTooTired_1 ?_
  refine r_aload_n hC 0 dX10_isNoneTooTired_2 rfl rfl ?_
  refine r_getI hC fg_X10_58 rfl qa0.1 qa0.2 dX10_isNoneTooTired_3 ?_
  refine r_callN (As := [vI x1, vI 0, vI (M0 a0 1)]) (st := []) hC cw_X10_91 rfl rfl (Nat.le_of_ble_eq_true rfl) ⟨Nat.le_of_ble_eq_true rfl, Nat.le_of_ble_eq_true rfl⟩ ⟨Nat.le_of_ble_eq_true rfl, Nat.le_of_ble_eq_true rfl⟩ dX10_isNoneTooTired_6 (fun hk => mX11_within Y hF _ _ _ _ _ _  h) (fun v M_1 h => ?_)
  obtain ⟨r_2, rfl, h⟩ := h
  refine r_if_eq hC 34 rfl dX10_isNoneTooTired_9 (by decide) (fun cq => ?_) (fun cq => ?_)
  · replace h := h.1 cq
    refine r_iconst hC dX10_isNoneTooTired_34 ?_
    exact r_zret hC (Or.inl rfl) (Nat.zero_le _) (Nat.zero_le _) dX10_isNoneTooTired_35 ⟨_, rfl, h⟩
  · replace h := h.2 cq
    refine r_aload_n hC 0 dX10_isNoneTooTired_12 rfl rfl ?_
    have q_3 : 0 < a0 + 7 ∧ M0 0 (a0 + 7) = kA 0 13 := lay_f0 (a := a0) hL qa0 fm_10_10
    refine r_getR0 (a' := a0 + 7) hC fg_X10_30 rfl hF fm_10_10 qa0.1 qa0.2 rfl dX10_isNoneTooTired_13 ?_
    refine r_iload_n hC 1 dX10_isNoneTooTired_16 rfl rfl ?_
    obtain ⟨i_4, h⟩ := h
    refine r_iald hC i_4 q_3.1 q_3.2 (by decide) dX10_isNoneTooTired_17 ?_
    refine r_aload_n hC 0 dX10_isNoneTooTired_18 rfl rfl ?_
    have q_5 : 0 < (a0 - 89) ∧ M0 0 ((a0 - 89)) = kO 0 := lay_fs (a := a0) hL qa0 fm_10_0
    refine r_getRs (a' := (a0 - 89)) hC fg_X10_45 rfl hF fm_10_0 qa0.1 qa0.2 rfl dX10_isNoneTooTired_19 ?_
    have q_6 : 0 < (a0 - 89) + 2 ∧ M0 0 ((a0 - 89) + 2) = kA 0 4 := lay_f0 (a := (a0 - 89)) hL q_5 fm_0_2
    refine r_getR0 (a' := (a0 - 89) + 2) hC fg_X10_109 rfl hF fm_0_2 q_5.1 q_5.2 rfl dX10_isNoneTooTired_22 ?_
    refine r_iconst hC dX10_isNoneTooTired_25 ?_
    refine r_iald hC ⟨by decide +kernel, by decide +kernel⟩ q_6.1 q_6.2 (by decide) dX10_isNoneTooTired_26 ?_
    refine r_icmp_gt hC 34 rfl rfl dX10_isNoneTooTired_27 (by decide) (fun cq => ?_) (fun cq => ?_)
    · replace h := h.1 cq
      refine r_iconst hC dX10_isNoneTooTired_34 ?_
      exact r_zret hC (Or.inl rfl) (Nat.zero_le _) (Nat.zero_le _) dX10_isNoneTooTired_35 ⟨_, rfl, h⟩
    · replace h := h.2 cq
      refine r_iconst hC dX10_isNoneTooTired_30 ?_
      refine r_goto hC 35 dX10_isNoneTooTired_31 (by decide) ?_
      exact r_zret hC (Or.inr rfl) (Nat.zero_le _) (Nat.zero_le _) dX10_isNoneTooTired_35 ⟨_, rfl, h⟩
theorem dX10_isGood_0 : dec cX10_isGood 0 1 1 (.aload_n 0) := ⟨by decide +kernel, rfl⟩
theorem dX10_isGood_1 : dec cX10_isGood 1 1 2 (.iload_n 1) := ⟨by decide +kernel, rfl⟩
theorem dX10_isGood_2 : dec cX10_isGood 2 3 5 (.invokevirtual 157) := ⟨by decide +kernel, rfl⟩
theorem dX10_isGood_5 : dec cX10_isGood 5 3 8 (.ifCond .eq 16) := ⟨by decide +kernel, rfl⟩
theorem dX10_isGood_8 : dec cX10_isGood 8 1 9 (.aload_n 0) := ⟨by decide +kernel, rfl⟩
theorem dX10_isGood_9 : dec cX10_isGood 9 3 12 (.getfield 27) := ⟨by decide +kernel, rfl⟩
theorem dX10_isGood_12 : dec cX10_isGood 12 1 13 (.iload_n 1) := ⟨by decide +kernel, rfl⟩
theorem dX10_isGood_13 : dec cX10_isGood 13 1 14 (.iaload) := ⟨by decide +kernel, rfl⟩
theorem dX10_isGood_14 : dec cX10_isGood 14 3 17 (.ifCond .ne 7) := ⟨by decide +kernel, rfl⟩
theorem dX10_isGood_17 : dec cX10_isGood 17 1 18 (.iconst 1) := ⟨by decide +kernel, rfl⟩
theorem dX10_isGood_18 : dec cX10_isGood 18 3 21 (.goto 4) := ⟨by decide +kernel, rfl⟩
theorem dX10_isGood_21 : dec cX10_isGood 21 1 22 (.iconst 0) := ⟨by decide +kernel, rfl⟩
theorem dX10_isGood_22 : dec cX10_isGood 22 1 23 (.ireturn) := ⟨by decide +kernel, rfl⟩
set_option maxHeartbeats 4000000 in
set_option maxRecDepth 100000 in
theorem mX10_isGood (Y : Yx) (hF : Y.2.2.2.2 = true) (l : Launch) (a0 : Nat) (x1 : Int) (M0 : Mem) (Q : Int → Mem → Prop) (qa0 : 0 < a0 ∧ M0 0 a0 = kO 10) (h : wX10_isGood a0 x1 M0 Q) : CT Y l yX10_isGood cX10_isGood 2 (some .boolean) rmX10_isGood [vR Y.1 a0, vI x1] M0 (QI Q) := by
  unfold wX10_isGood at h
  refine ct_intro (by decide) (Nat.le_of_ble_eq_true rfl) ?_
  intro X hXl hC hL0
  have hL := hL0 hF
  change OKX X Y RX10 cX10_isGood 2 (some .boolean) rmX10_isGood at hC
  change WW X Y 2 rmX10_isGood (QI Q) M0 0 0 0 [(0, vR Y.1 a0), (1, vI x1)] [] M0
  refine r_aload_n hC 0 dX10_isGood_0 rfl rfl ?_
  refine r_iload_n hC 1 dX10_isGood_1 rfl rfl ?_
  refine r_callV (As := [vI x1]) (st := []) hC cw_X10_157 rfl qa0.1 qa0.2 rfl rfl (Nat.le_of_ble_eq_true rfl) ⟨Nat.le_of_ble_eq_true rfl, Nat.le_of_ble_eq_true rfl⟩ ⟨Nat.le_of_ble_eq_true rfl, Nat.le_of_ble_eq_true rfl⟩ dX10_isGood_2 (fun hk => mX10_isNoneTooTired Y hF _ _ _ _ _ (kqO hk qa0) h) (fun v M_1 h => ?_)
  obtain ⟨r_2, rfl, h⟩ := h
  refine r_if_eq hC 21 rfl dX10_isGood_5 (by decide) (fun cq => ?_) (fun cq => ?_)
  · replace h := h.1 cq
    refine r_iconst hC dX10_isGood_21 ?_
    exact r_zret hC (Or.inl rfl) (Nat.zero_le _) (Nat.zero_le _) dX10_isGood_22 ⟨_, rfl, h⟩
  · replace h := h.2 cq
    refine r_aload_n hC 0 dX10_isGood_8 rfl rfl ?_
    have q_3 : 0 < a0 + 6 ∧ M0 0 (a0 + 6) = kA 0 13 := lay_f0 (a := a0) hL qa0 fm_10_9
    refine r_getR0 (a' := a0 + 6) hC fg_X10_27 rfl hF fm_10_9 qa0.1 qa0.2 rfl dX10_isGood_9 ?_
    refine r_iload_n hC 1 dX10_isGood_12 rfl rfl ?_
    obtain ⟨i_4, h⟩ := h
    refine r_iald hC i_4 q_3.1 q_3.2 (by decide) dX10_isGood_13 ?_
    refine r_if_ne hC 21 rfl dX10_isGood_14 (by decide) (fun cq => ?_) (fun cq => ?_)
    · replace h := h.2 cq
      refine r_iconst hC dX10_isGood_21 ?_
      exact r_zret hC (Or.inl rfl) (Nat.zero_le _) (Nat.zero_le _) dX10_isGood_22 ⟨_, rfl, h⟩
    · replace h := h.1 cq
      refine r_iconst hC dX10_isGood_17 ?_
      refine r_goto hC 22 dX10_isGood_18 (by decide) ?_
      exact r_zret hC (Or.inr rfl) (Nat.zero_le _) (Nat.zero_le _) dX10_isGood_22 ⟨_, rfl, h⟩
theorem dX11_wayRound_0 : dec cX11_wayRound 0 1 1 (.iload_n 0) := ⟨by decide +kernel, rfl⟩
theorem dX11_wayRound_1 : dec cX11_wayRound 1 1 2 (.iload_n 1) := ⟨by decide +kernel, rfl⟩
theorem dX11_wayRound_2 : dec cX11_wayRound 2 3 5 (.if_icmp .ge 9) := ⟨by decide +kernel, rfl⟩
theorem dX11_wayRound_5 : dec cX11_wayRound 5 1 6 (.iload_n 1) := ⟨by decide +kernel, rfl⟩
theorem dX11_wayRound_6 : dec cX11_wayRound 6 1 7 (.iload_n 0) := ⟨by decide +kernel, rfl⟩
theorem dX11_wayRound_7 : dec cX11_wayRound 7 1 8 (.isub) := ⟨by decide +kernel, rfl⟩
theorem dX11_wayRound_8 : dec cX11_wayRound 8 3 11 (.goto 6) := ⟨by decide +kernel, rfl⟩
theorem dX11_wayRound_11 : dec cX11_wayRound 11 1 12 (.iload_n 0) := ⟨by decide +kernel, rfl⟩
theorem dX11_wayRound_12 : dec cX11_wayRound 12 1 13 (.iload_n 1) := ⟨by decide +kernel, rfl⟩
theorem dX11_wayRound_13 : dec cX11_wayRound 13 1 14 (.isub) := ⟨by decide +kernel, rfl⟩
theorem dX11_wayRound_14 : dec cX11_wayRound 14 1 15 (.istore_n 2) := ⟨by decide +kernel, rfl⟩
theorem dX11_wayRound_15 : dec cX11_wayRound 15 1 16 (.iload_n 2) := ⟨by decide +kernel, rfl⟩
theorem dX11_wayRound_16 : dec cX11_wayRound 16 2 18 (.bipush 6) := ⟨by decide +kernel, rfl⟩
theorem dX11_wayRound_18 : dec cX11_wayRound 18 3 21 (.if_icmp .gt 7) := ⟨by decide +kernel, rfl⟩
theorem dX11_wayRound_21 : dec cX11_wayRound 21 1 22 (.iload_n 2) := ⟨by decide +kernel, rfl⟩
theorem dX11_wayRound_22 : dec cX11_wayRound 22 3 25 (.goto 7) := ⟨by decide +kernel, rfl⟩
theorem dX11_wayRound_25 : dec cX11_wayRound 25 2 27 (.bipush 12) := ⟨by decide +kernel, rfl⟩
theorem dX11_wayRound_27 : dec cX11_wayRound 27 1 28 (.iload_n 2) := ⟨by decide +kernel, rfl⟩
theorem dX11_wayRound_28 : dec cX11_wayRound 28 1 29 (.isub) := ⟨by decide +kernel, rfl⟩
theorem dX11_wayRound_29 : dec cX11_wayRound 29 1 30 (.ireturn) := ⟨by decide +kernel, rfl⟩
set_option maxHeartbeats 4000000 in
set_option maxRecDepth 100000 in
theorem tX11_wayRound_J14 {X : Cx} {Y : Yx} {M0 : Mem} (hC : OKX X Y RX11 cX11_wayRound 3 (some .int) rmX11_wayRound) (hF : Y.2.2.2.2 = true) (hL : Lay M0) (Q : Int → Mem → Prop)   (xs0 : Int)   (M : Mem) (h : wX11_wayRound_J14 Q  xs0 M) : WW X Y 3 rmX11_wayRound (QI Q) M0 0 0 14 [] [vI xs0] M := by
  unfold wX11_wayRound_J14 at h
  refine r_istore_n (lv' := [(2, vI xs0)]) hC dX11_wayRound_14 rfl (by decide) rfl ?_
  refine r_iload_n hC 0 dX11_wayRound_15 rfl rfl ?_
  refine r_bipush hC (by decide +kernel) dX11_wayRound_16 ?_
  refine r_icmp_gt hC 25 rfl bmL_6 dX11_wayRound_18 (by decide) (fun cq => ?_) (fun cq => ?_)
  · replace h := h.1 cq
    refine r_bipush hC (by decide +kernel) dX11_wayRound_25 ?_
    refine r_iload_n hC 0 dX11_wayRound_27 rfl rfl ?_
    refine r_isub hC dX11_wayRound_28 ?_
    exact r_iret hC (Nat.zero_le _) (Nat.zero_le _) dX11_wayRound_29 ⟨_, rfl, h⟩
  · replace h := h.2 cq
    refine r_iload_n hC 0 dX11_wayRound_21 rfl rfl ?_
    refine r_goto hC 29 dX11_wayRound_22 (by decide) ?_
    exact r_iret hC (Nat.zero_le _) (Nat.zero_le _) dX11_wayRound_29 ⟨_, rfl, h⟩
set_option maxHeartbeats 4000000 in
set_option maxRecDepth 100000 in
theorem mX11_wayRound (Y : Yx) (hF : Y.2.2.2.2 = true) (l : Launch) (x0 : Int) (x1 : Int) (M0 : Mem) (Q : Int → Mem → Prop)  (h : wX11_wayRound x0 x1 M0 Q) : CT Y l yX11_wayRound cX11_wayRound 3 (some .int) rmX11_wayRound [vI x0, vI x1] M0 (QI Q) := by
  unfold wX11_wayRound at h
  refine ct_intro (by decide) (Nat.le_of_ble_eq_true rfl) ?_
  intro X hXl hC hL0
  have hL := hL0 hF
  change OKX X Y RX11 cX11_wayRound 3 (some .int) rmX11_wayRound at hC
  change WW X Y 3 rmX11_wayRound (QI Q) M0 0 0 0 [(0, vI x0), (1, vI x1)] [] M0
  refine r_iload_n hC 0 dX11_wayRound_0 rfl rfl ?_
  refine r_iload_n hC 1 dX11_wayRound_1 rfl rfl ?_
  refine r_icmp_ge hC 11 rfl rfl dX11_wayRound_2 (by decide) (fun cq => ?_) (fun cq => ?_)
  · replace h := h.1 cq
    refine r_iload_n hC 0 dX11_wayRound_11 rfl rfl ?_
    refine r_iload_n hC 1 dX11_wayRound_12 rfl rfl ?_
    refine r_isub hC dX11_wayRound_13 ?_
    refine r_sub [] rfl ?_
    exact tX11_wayRound_J14 hC hF hL Q   _   _ h
  · replace h := h.2 cq
    refine r_iload_n hC 1 dX11_wayRound_5 rfl rfl ?_
    refine r_iload_n hC 0 dX11_wayRound_6 rfl rfl ?_
    refine r_isub hC dX11_wayRound_7 ?_
    refine r_goto hC 14 dX11_wayRound_8 (by decide) ?_
    refine r_sub [] rfl ?_
    exact tX11_wayRound_J14 hC hF hL Q   _   _ h
theorem dX10_namesPair_0 : dec cX10_namesPair 0 1 1 (.iload_n 1) := ⟨by decide +kernel, rfl⟩
theorem dX10_namesPair_1 : dec cX10_namesPair 1 3 4 (.ifCond .eq 11) := ⟨by decide +kernel, rfl⟩
theorem dX10_namesPair_4 : dec cX10_namesPair 4 1 5 (.iload_n 1) := ⟨by decide +kernel, rfl⟩
theorem dX10_namesPair_5 : dec cX10_namesPair 5 1 6 (.aload_n 0) := ⟨by decide +kernel, rfl⟩
theorem dX10_namesPair_6 : dec cX10_namesPair 6 3 9 (.getfield 62) := ⟨by decide +kernel, rfl⟩
theorem dX10_namesPair_9 : dec cX10_namesPair 9 3 12 (.if_icmp .ne 5) := ⟨by decide +kernel, rfl⟩
theorem dX10_namesPair_12 : dec cX10_namesPair 12 1 13 (.iconst 0) := ⟨by decide +kernel, rfl⟩
theorem dX10_namesPair_13 : dec cX10_namesPair 13 1 14 (.ireturn) := ⟨by decide +kernel, rfl⟩
theorem dX10_namesPair_14 : dec cX10_namesPair 14 1 15 (.aload_n 0) := ⟨by decide +kernel, rfl⟩
theorem dX10_namesPair_15 : dec cX10_namesPair 15 3 18 (.getfield 45) := ⟨by decide +kernel, rfl⟩
theorem dX10_namesPair_18 : dec cX10_namesPair 18 3 21 (.getfield 100) := ⟨by decide +kernel, rfl⟩
theorem dX10_namesPair_21 : dec cX10_namesPair 21 1 22 (.aload_n 0) := ⟨by decide +kernel, rfl⟩
theorem dX10_namesPair_22 : dec cX10_namesPair 22 3 25 (.getfield 9) := ⟨by decide +kernel, rfl⟩
theorem dX10_namesPair_25 : dec cX10_namesPair 25 1 26 (.iload_n 1) := ⟨by decide +kernel, rfl⟩
theorem dX10_namesPair_26 : dec cX10_namesPair 26 1 27 (.iconst 1) := ⟨by decide +kernel, rfl⟩
theorem dX10_namesPair_27 : dec cX10_namesPair 27 1 28 (.isub) := ⟨by decide +kernel, rfl⟩
theorem dX10_namesPair_28 : dec cX10_namesPair 28 1 29 (.iaload) := ⟨by decide +kernel, rfl⟩
theorem dX10_namesPair_29 : dec cX10_namesPair 29 1 30 (.aaload) := ⟨by decide +kernel, rfl⟩
theorem dX10_namesPair_30 : dec cX10_namesPair 30 1 31 (.astore_n 2) := ⟨by decide +kernel, rfl⟩
theorem dX10_namesPair_31 : dec cX10_namesPair 31 1 32 (.aload_n 0) := ⟨by decide +kernel, rfl⟩
theorem dX10_namesPair_32 : dec cX10_namesPair 32 3 35 (.getfield 45) := ⟨by decide +kernel, rfl⟩
theorem dX10_namesPair_35 : dec cX10_namesPair 35 3 38 (.getfield 100) := ⟨by decide +kernel, rfl⟩
theorem dX10_namesPair_38 : dec cX10_namesPair 38 1 39 (.aload_n 0) := ⟨by decide +kernel, rfl⟩
theorem dX10_namesPair_39 : dec cX10_namesPair 39 3 42 (.getfield 9) := ⟨by decide +kernel, rfl⟩
theorem dX10_namesPair_42 : dec cX10_namesPair 42 1 43 (.iload_n 1) := ⟨by decide +kernel, rfl⟩
theorem dX10_namesPair_43 : dec cX10_namesPair 43 1 44 (.iaload) := ⟨by decide +kernel, rfl⟩
theorem dX10_namesPair_44 : dec cX10_namesPair 44 1 45 (.aaload) := ⟨by decide +kernel, rfl⟩
theorem dX10_namesPair_45 : dec cX10_namesPair 45 1 46 (.astore_n 3) := ⟨by decide +kernel, rfl⟩
theorem dX10_namesPair_46 : dec cX10_namesPair 46 1 47 (.aload_n 0) := ⟨by decide +kernel, rfl⟩
theorem dX10_namesPair_47 : dec cX10_namesPair 47 3 50 (.getfield 39) := ⟨by decide +kernel, rfl⟩
theorem dX10_namesPair_50 : dec cX10_namesPair 50 1 51 (.iconst 0) := ⟨by decide +kernel, rfl⟩
theorem dX10_namesPair_51 : dec cX10_namesPair 51 1 52 (.aload_n 2) := ⟨by decide +kernel, rfl⟩
theorem dX10_namesPair_52 : dec cX10_namesPair 52 3 55 (.getfield 196) := ⟨by decide +kernel, rfl⟩
theorem dX10_namesPair_55 : dec cX10_namesPair 55 1 56 (.iastore) := ⟨by decide +kernel, rfl⟩
theorem dX10_namesPair_56 : dec cX10_namesPair 56 1 57 (.aload_n 0) := ⟨by decide +kernel, rfl⟩
theorem dX10_namesPair_57 : dec cX10_namesPair 57 3 60 (.getfield 39) := ⟨by decide +kernel, rfl⟩
theorem dX10_namesPair_60 : dec cX10_namesPair 60 1 61 (.iconst 1) := ⟨by decide +kernel, rfl⟩
theorem dX10_namesPair_61 : dec cX10_namesPair 61 1 62 (.aload_n 3) := ⟨by decide +kernel, rfl⟩
theorem dX10_namesPair_62 : dec cX10_namesPair 62 3 65 (.getfield 196) := ⟨by decide +kernel, rfl⟩
theorem dX10_namesPair_65 : dec cX10_namesPair 65 1 66 (.iastore) := ⟨by decide +kernel, rfl⟩
theorem dX10_namesPair_66 : dec cX10_namesPair 66 1 67 (.aload_n 0) := ⟨by decide +kernel, rfl⟩
theorem dX10_namesPair_67 : dec cX10_namesPair 67 3 70 (.getfield 39) := ⟨by decide +kernel, rfl⟩
theorem dX10_namesPair_70 : dec cX10_namesPair 70 1 71 (.iconst 2) := ⟨by decide +kernel, rfl⟩
theorem dX10_namesPair_71 : dec cX10_namesPair 71 1 72 (.aload_n 2) := ⟨by decide +kernel, rfl⟩
theorem dX10_namesPair_72 : dec cX10_namesPair 72 3 75 (.getfield 199) := ⟨by decide +kernel, rfl⟩
theorem dX10_namesPair_75 : dec cX10_namesPair 75 1 76 (.aload_n 3) := ⟨by decide +kernel, rfl⟩
theorem dX10_namesPair_76 : dec cX10_namesPair 76 3 79 (.getfield 199) := ⟨by decide +kernel, rfl⟩
theorem dX10_namesPair_79 : dec cX10_namesPair 79 3 82 (.invokestatic 202) := ⟨by decide +kernel, rfl⟩
theorem dX10_namesPair_82 : dec cX10_namesPair 82 1 83 (.iastore) := ⟨by decide +kernel, rfl⟩
theorem dX10_namesPair_83 : dec cX10_namesPair 83 1 84 (.aload_n 0) := ⟨by decide +kernel, rfl⟩
theorem dX10_namesPair_84 : dec cX10_namesPair 84 3 87 (.getfield 39) := ⟨by decide +kernel, rfl⟩
theorem dX10_namesPair_87 : dec cX10_namesPair 87 1 88 (.iconst 3) := ⟨by decide +kernel, rfl⟩
theorem dX10_namesPair_88 : dec cX10_namesPair 88 1 89 (.aload_n 0) := ⟨by decide +kernel, rfl⟩
theorem dX10_namesPair_89 : dec cX10_namesPair 89 3 92 (.getfield 21) := ⟨by decide +kernel, rfl⟩
theorem dX10_namesPair_92 : dec cX10_namesPair 92 1 93 (.iload_n 1) := ⟨by decide +kernel, rfl⟩
theorem dX10_namesPair_93 : dec cX10_namesPair 93 1 94 (.iconst 1) := ⟨by decide +kernel, rfl⟩
theorem dX10_namesPair_94 : dec cX10_namesPair 94 1 95 (.iadd) := ⟨by decide +kernel, rfl⟩
theorem dX10_namesPair_95 : dec cX10_namesPair 95 1 96 (.iaload) := ⟨by decide +kernel, rfl⟩
theorem dX10_namesPair_96 : dec cX10_namesPair 96 1 97 (.aload_n 0) := ⟨by decide +kernel, rfl⟩
theorem dX10_namesPair_97 : dec cX10_namesPair 97 3 100 (.getfield 21) := ⟨by decide +kernel, rfl⟩
theorem dX10_namesPair_100 : dec cX10_namesPair 100 1 101 (.iload_n 1) := ⟨by decide +kernel, rfl⟩
theorem dX10_namesPair_101 : dec cX10_namesPair 101 1 102 (.iaload) := ⟨by decide +kernel, rfl⟩
theorem dX10_namesPair_102 : dec cX10_namesPair 102 1 103 (.isub) := ⟨by decide +kernel, rfl⟩
theorem dX10_namesPair_103 : dec cX10_namesPair 103 1 104 (.iastore) := ⟨by decide +kernel, rfl⟩
theorem dX10_namesPair_104 : dec cX10_namesPair 104 1 105 (.iconst 1) := ⟨by decide +kernel, rfl⟩
theorem dX10_namesPair_105 : dec cX10_namesPair 105 1 106 (.ireturn) := ⟨by decide +kernel, rfl⟩
set_option maxHeartbeats 4000000 in
set_option maxRecDepth 100000 in
theorem mX10_namesPair (Y : Yx) (hF : Y.2.2.2.2 = true) (l : Launch) (a0 : Nat) (x1 : Int) (M0 : Mem) (Q : Int → Mem → Prop) (qa0 : 0 < a0 ∧ M0 0 a0 = kO 10) (h : wX10_namesPair a0 x1 M0 Q) : CT Y l yX10_namesPair cX10_namesPair 4 (some .boolean) rmX10_namesPair [vR Y.1 a0, vI x1] M0 (QI Q) := by
  unfold wX10_namesPair at h
  refine ct_intro (by decide) (Nat.le_of_ble_eq_true rfl) ?_
  intro X hXl hC hL0
  have hL := hL0 hF
  change OKX X Y RX10 cX10_namesPair 4 (some .boolean) rmX10_namesPair at hC
  change WW X Y 4 rmX10_namesPair (QI Q) M0 0 0 0 [(0, vR Y.1 a0), (1, vI x1)] [] M0
  refine r_iload_n hC 1 dX10_namesPair_0 rfl rfl ?_
  refine r_if_eq hC 12 rfl dX10_namesPair_1 (by decide) (fun cq => ?_) (fun cq => ?_)
  · replace h := h.1 cq
    refine r_iconst hC dX10_namesPair_12 ?_
    exact r_zret hC (Or.inl rfl) (Nat.zero_le _) (Nat.zero_le _) dX10_namesPair_13 ⟨_, rfl, h⟩
  · replace h := h.2 cq
    refine r_iload_n hC 1 dX10_namesPair_4 rfl rfl ?_
    refine r_aload_n hC 0 dX10_namesPair_5 rfl rfl ?_
    refine r_getI hC fg_X10_62 rfl qa0.1 qa0.2 dX10_namesPair_6 ?_
    refine r_icmp_ne hC 14 rfl rfl dX10_namesPair_9 (by decide) (fun cq => ?_) (fun cq => ?_)
    · replace h := h.2 cq
      refine r_aload_n hC 0 dX10_namesPair_14 rfl rfl ?_
      have q_1 : 0 < (a0 - 89) ∧ M0 0 ((a0 - 89)) = kO 0 := lay_fs (a := a0) hL qa0 fm_10_0
      refine r_getRs (a' := (a0 - 89)) hC fg_X10_45 rfl hF fm_10_0 qa0.1 qa0.2 rfl dX10_namesPair_15 ?_
      have q_2 : 0 < (a0 - 89) + 1 ∧ M0 0 ((a0 - 89) + 1) = kA 4 12 := lay_f0 (a := (a0 - 89)) hL q_1 fm_0_0
      refine r_getR0 (a' := (a0 - 89) + 1) hC fg_X10_100 rfl hF fm_0_0 q_1.1 q_1.2 rfl dX10_namesPair_18 ?_
      refine r_aload_n hC 0 dX10_namesPair_21 rfl rfl ?_
      have q_3 : 0 < a0 + 1 ∧ M0 0 (a0 + 1) = kA 0 12 := lay_f0 (a := a0) hL qa0 fm_10_4
      refine r_getR0 (a' := a0 + 1) hC fg_X10_9 rfl hF fm_10_4 qa0.1 qa0.2 rfl dX10_namesPair_22 ?_
      refine r_iload_n hC 1 dX10_namesPair_25 rfl rfl ?_
      refine r_iconst hC dX10_namesPair_26 ?_
      refine r_isub hC dX10_namesPair_27 ?_
      obtain ⟨i_4, h⟩ := h
      refine r_iald hC i_4 q_3.1 q_3.2 (by decide) dX10_namesPair_28 ?_
      obtain ⟨i_5, h⟩ := h
      have q_6 : 0 < (a0 - 89) + 9 + (bm (rd M0 (a0 + 1) (x1 - 1))).toNat ∧ M0 0 ((a0 - 89) + 9 + (bm (rd M0 (a0 + 1) (x1 - 1))).toNat) = kO 3 := lay_a4 (a := (a0 - 89) + 1) hL q_2 (inb_nat i_5)
      refine r_aald4 hC hF i_5 q_2.1 q_2.2 dX10_namesPair_29 ?_
      refine r_astore_n (lv' := [(2, vR Y.1 ((a0 - 89) + 9 + (bm (rd M0 (a0 + 1) (x1 - 1))).toNat)), (0, vR Y.1 a0), (1, vI x1)]) hC dX10_namesPair_30 rfl (by decide) rfl ?_
      refine r_aload_n hC 1 dX10_namesPair_31 rfl rfl ?_
      have q_7 : 0 < (a0 - 89) ∧ M0 0 ((a0 - 89)) = kO 0 := lay_fs (a := a0) hL qa0 fm_10_0
      refine r_getRs (a' := (a0 - 89)) hC fg_X10_45 rfl hF fm_10_0 qa0.1 qa0.2 rfl dX10_namesPair_32 ?_
      have q_8 : 0 < (a0 - 89) + 1 ∧ M0 0 ((a0 - 89) + 1) = kA 4 12 := lay_f0 (a := (a0 - 89)) hL q_7 fm_0_0
      refine r_getR0 (a' := (a0 - 89) + 1) hC fg_X10_100 rfl hF fm_0_0 q_7.1 q_7.2 rfl dX10_namesPair_35 ?_
      refine r_aload_n hC 1 dX10_namesPair_38 rfl rfl ?_
      have q_9 : 0 < a0 + 1 ∧ M0 0 (a0 + 1) = kA 0 12 := lay_f0 (a := a0) hL qa0 fm_10_4
      refine r_getR0 (a' := a0 + 1) hC fg_X10_9 rfl hF fm_10_4 qa0.1 qa0.2 rfl dX10_namesPair_39 ?_
      refine r_iload_n hC 2 dX10_namesPair_42 rfl rfl ?_
      obtain ⟨i_10, h⟩ := h
      refine r_iald hC i_10 q_9.1 q_9.2 (by decide) dX10_namesPair_43 ?_
      obtain ⟨i_11, h⟩ := h
      have q_12 : 0 < (a0 - 89) + 9 + (bm (rd M0 (a0 + 1) x1)).toNat ∧ M0 0 ((a0 - 89) + 9 + (bm (rd M0 (a0 + 1) x1)).toNat) = kO 3 := lay_a4 (a := (a0 - 89) + 1) hL q_8 (inb_nat i_11)
      refine r_aald4 hC hF i_11 q_8.1 q_8.2 dX10_namesPair_44 ?_
      refine r_astore_n (lv' := [(3, vR Y.1 ((a0 - 89) + 9 + (bm (rd M0 (a0 + 1) x1)).toNat)), (2, vR Y.1 ((a0 - 89) + 9 + (bm (rd M0 (a0 + 1) (x1 - 1))).toNat)), (0, vR Y.1 a0), (1, vI x1)]) hC dX10_namesPair_45 rfl (by decide) rfl ?_
      refine r_aload_n hC 2 dX10_namesPair_46 rfl rfl ?_
      have q_13 : 0 < a0 + 10 ∧ M0 0 (a0 + 10) = kA 0 5 := lay_f0 (a := a0) hL qa0 fm_10_13
      refine r_getR0 (a' := a0 + 10) hC fg_X10_39 rfl hF fm_10_13 qa0.1 qa0.2 rfl dX10_namesPair_47 ?_
      refine r_iconst hC dX10_namesPair_50 ?_
      refine r_aload_n hC 1 dX10_namesPair_51 rfl rfl ?_
      refine r_getI hC fg_X10_196 rfl q_6.1 q_6.2 dX10_namesPair_52 ?_
      refine r_iast hC ⟨by decide +kernel, by decide +kernel⟩ q_13.1 q_13.2 (by decide) dX10_namesPair_55 ?_
      refine r_nameM h (fun M_14 h => ?_)
      refine r_aload_n hC 2 dX10_namesPair_56 rfl rfl ?_
      have q_15 : 0 < a0 + 10 ∧ M0 0 (a0 + 10) = kA 0 5 := lay_f0 (a := a0) hL qa0 fm_10_13
      refine r_getR0 (a' := a0 + 10) hC fg_X10_39 rfl hF fm_10_13 qa0.1 qa0.2 rfl dX10_namesPair_57 ?_
      refine r_iconst hC dX10_namesPair_60 ?_
      refine r_aload_n hC 0 dX10_namesPair_61 rfl rfl ?_
      refine r_getI hC fg_X10_196 rfl q_12.1 q_12.2 dX10_namesPair_62 ?_
      refine r_iast hC ⟨by decide +kernel, by decide +kernel⟩ q_15.1 q_15.2 (by decide) dX10_namesPair_65 ?_
      refine r_nameM h (fun M_16 h => ?_)
      refine r_aload_n hC 2 dX10_namesPair_66 rfl rfl ?_
      have q_17 : 0 < a0 + 10 ∧ M0 0 (a0 + 10) = kA 0 5 := lay_f0 (a := a0) hL qa0 fm_10_13
      refine r_getR0 (a' := a0 + 10) hC fg_X10_39 rfl hF fm_10_13 qa0.1 qa0.2 rfl dX10_namesPair_67 ?_
      refine r_iconst hC dX10_namesPair_70 ?_
      refine r_aload_n hC 1 dX10_namesPair_71 rfl rfl ?_
      refine r_getI hC fg_X10_199 rfl q_6.1 q_6.2 dX10_namesPair_72 ?_
      refine r_aload_n hC 0 dX10_namesPair_75 rfl rfl ?_
      refine r_getI hC fg_X10_199 rfl q_12.1 q_12.2 dX10_namesPair_76 ?_
      refine r_callN (As := [vI (M_16 ((a0 - 89) + 9 + (bm (rd M0 (a0 + 1) (x1 - 1))).toNat) 1), vI (M_16 ((a0 - 89) + 9 + (bm (rd M0 (a0 + 1) x1)).toNat) 1)]) (st := [vI 2, vR Y.1 (a0 + 10)]) hC cw_X10_202 rfl rfl (Nat.le_of_ble_eq_true rfl) ⟨Nat.le_of_ble_eq_true rfl, Nat.le_of_ble_eq_true rfl⟩ ⟨Nat.le_of_ble_eq_true rfl, Nat.le_of_ble_eq_true rfl⟩ dX10_namesPair_79 (fun hk => mX11_wayRound Y hF _ _ _ _ _  h) (fun v M_18 h => ?_)
      obtain ⟨r_19, rfl, h⟩ := h
      refine r_iast hC ⟨by decide +kernel, by decide +kernel⟩ q_17.1 q_17.2 (by decide) dX10_namesPair_82 ?_
      refine r_nameM h (fun M_20 h => ?_)
      refine r_aload_n hC 2 dX10_namesPair_83 rfl rfl ?_
      have q_21 : 0 < a0 + 10 ∧ M0 0 (a0 + 10) = kA 0 5 := lay_f0 (a := a0) hL qa0 fm_10_13
      refine r_getR0 (a' := a0 + 10) hC fg_X10_39 rfl hF fm_10_13 qa0.1 qa0.2 rfl dX10_namesPair_84 ?_
      refine r_iconst hC dX10_namesPair_87 ?_
      refine r_aload_n hC 2 dX10_namesPair_88 rfl rfl ?_
      have q_22 : 0 < a0 + 4 ∧ M0 0 (a0 + 4) = kA 0 13 := lay_f0 (a := a0) hL qa0 fm_10_7
      refine r_getR0 (a' := a0 + 4) hC fg_X10_21 rfl hF fm_10_7 qa0.1 qa0.2 rfl dX10_namesPair_89 ?_
      refine r_iload_n hC 3 dX10_namesPair_92 rfl rfl ?_
      refine r_iconst hC dX10_namesPair_93 ?_
      refine r_iadd hC dX10_namesPair_94 ?_
      obtain ⟨i_23, h⟩ := h
      refine r_iald hC i_23 q_22.1 q_22.2 (by decide) dX10_namesPair_95 ?_
      refine r_aload_n hC 2 dX10_namesPair_96 rfl rfl ?_
      have q_24 : 0 < a0 + 4 ∧ M0 0 (a0 + 4) = kA 0 13 := lay_f0 (a := a0) hL qa0 fm_10_7
      refine r_getR0 (a' := a0 + 4) hC fg_X10_21 rfl hF fm_10_7 qa0.1 qa0.2 rfl dX10_namesPair_97 ?_
      refine r_iload_n hC 3 dX10_namesPair_100 rfl rfl ?_
      obtain ⟨i_25, h⟩ := h
      refine r_iald hC i_25 q_24.1 q_24.2 (by decide) dX10_namesPair_101 ?_
      refine r_isub hC dX10_namesPair_102 ?_
      refine r_iast hC ⟨by decide +kernel, by decide +kernel⟩ q_21.1 q_21.2 (by decide) dX10_namesPair_103 ?_
      refine r_nameM h (fun M_26 h => ?_)
      refine r_iconst hC dX10_namesPair_104 ?_
      exact r_zret hC (Or.inr rfl) (Nat.zero_le _) (Nat.zero_le _) dX10_namesPair_105 ⟨_, rfl, h⟩
    · replace h := h.1 cq
      refine r_iconst hC dX10_namesPair_12 ?_
      exact r_zret hC (Or.inl rfl) (Nat.zero_le _) (Nat.zero_le _) dX10_namesPair_13 ⟨_, rfl, h⟩
theorem dX10_namesSince_0 : dec cX10_namesSince 0 1 1 (.aload_n 0) := ⟨by decide +kernel, rfl⟩
theorem dX10_namesSince_1 : dec cX10_namesSince 1 3 4 (.getfield 45) := ⟨by decide +kernel, rfl⟩
theorem dX10_namesSince_4 : dec cX10_namesSince 4 3 7 (.getfield 100) := ⟨by decide +kernel, rfl⟩
theorem dX10_namesSince_7 : dec cX10_namesSince 7 1 8 (.aload_n 0) := ⟨by decide +kernel, rfl⟩
theorem dX10_namesSince_8 : dec cX10_namesSince 8 3 11 (.getfield 9) := ⟨by decide +kernel, rfl⟩
theorem dX10_namesSince_11 : dec cX10_namesSince 11 1 12 (.iload_n 1) := ⟨by decide +kernel, rfl⟩
theorem dX10_namesSince_12 : dec cX10_namesSince 12 1 13 (.iaload) := ⟨by decide +kernel, rfl⟩
theorem dX10_namesSince_13 : dec cX10_namesSince 13 1 14 (.aaload) := ⟨by decide +kernel, rfl⟩
theorem dX10_namesSince_14 : dec cX10_namesSince 14 3 17 (.getfield 199) := ⟨by decide +kernel, rfl⟩
theorem dX10_namesSince_17 : dec cX10_namesSince 17 1 18 (.istore_n 2) := ⟨by decide +kernel, rfl⟩
theorem dX10_namesSince_18 : dec cX10_namesSince 18 1 19 (.iload_n 1) := ⟨by decide +kernel, rfl⟩
theorem dX10_namesSince_19 : dec cX10_namesSince 19 1 20 (.iconst 1) := ⟨by decide +kernel, rfl⟩
theorem dX10_namesSince_20 : dec cX10_namesSince 20 1 21 (.isub) := ⟨by decide +kernel, rfl⟩
theorem dX10_namesSince_21 : dec cX10_namesSince 21 1 22 (.istore_n 3) := ⟨by decide +kernel, rfl⟩
theorem dX10_namesSince_22 : dec cX10_namesSince 22 1 23 (.iload_n 3) := ⟨by decide +kernel, rfl⟩
theorem dX10_namesSince_23 : dec cX10_namesSince 23 3 26 (.ifCond .lt 53) := ⟨by decide +kernel, rfl⟩
theorem dX10_namesSince_26 : dec cX10_namesSince 26 1 27 (.aload_n 0) := ⟨by decide +kernel, rfl⟩
theorem dX10_namesSince_27 : dec cX10_namesSince 27 3 30 (.getfield 45) := ⟨by decide +kernel, rfl⟩
theorem dX10_namesSince_30 : dec cX10_namesSince 30 3 33 (.getfield 100) := ⟨by decide +kernel, rfl⟩
theorem dX10_namesSince_33 : dec cX10_namesSince 33 1 34 (.aload_n 0) := ⟨by decide +kernel, rfl⟩
theorem dX10_namesSince_34 : dec cX10_namesSince 34 3 37 (.getfield 9) := ⟨by decide +kernel, rfl⟩
theorem dX10_namesSince_37 : dec cX10_namesSince 37 1 38 (.iload_n 3) := ⟨by decide +kernel, rfl⟩
theorem dX10_namesSince_38 : dec cX10_namesSince 38 1 39 (.iaload) := ⟨by decide +kernel, rfl⟩
theorem dX10_namesSince_39 : dec cX10_namesSince 39 1 40 (.aaload) := ⟨by decide +kernel, rfl⟩
theorem dX10_namesSince_40 : dec cX10_namesSince 40 3 43 (.getfield 199) := ⟨by decide +kernel, rfl⟩
theorem dX10_namesSince_43 : dec cX10_namesSince 43 1 44 (.iload_n 2) := ⟨by decide +kernel, rfl⟩
theorem dX10_namesSince_44 : dec cX10_namesSince 44 3 47 (.if_icmp .ne 26) := ⟨by decide +kernel, rfl⟩
theorem dX10_namesSince_47 : dec cX10_namesSince 47 1 48 (.aload_n 0) := ⟨by decide +kernel, rfl⟩
theorem dX10_namesSince_48 : dec cX10_namesSince 48 3 51 (.getfield 39) := ⟨by decide +kernel, rfl⟩
theorem dX10_namesSince_51 : dec cX10_namesSince 51 1 52 (.iconst 0) := ⟨by decide +kernel, rfl⟩
theorem dX10_namesSince_52 : dec cX10_namesSince 52 1 53 (.aload_n 0) := ⟨by decide +kernel, rfl⟩
theorem dX10_namesSince_53 : dec cX10_namesSince 53 3 56 (.getfield 15) := ⟨by decide +kernel, rfl⟩
theorem dX10_namesSince_56 : dec cX10_namesSince 56 1 57 (.iload_n 1) := ⟨by decide +kernel, rfl⟩
theorem dX10_namesSince_57 : dec cX10_namesSince 57 1 58 (.iaload) := ⟨by decide +kernel, rfl⟩
theorem dX10_namesSince_58 : dec cX10_namesSince 58 1 59 (.aload_n 0) := ⟨by decide +kernel, rfl⟩
theorem dX10_namesSince_59 : dec cX10_namesSince 59 3 62 (.getfield 18) := ⟨by decide +kernel, rfl⟩
theorem dX10_namesSince_62 : dec cX10_namesSince 62 1 63 (.iload_n 3) := ⟨by decide +kernel, rfl⟩
theorem dX10_namesSince_63 : dec cX10_namesSince 63 1 64 (.iconst 1) := ⟨by decide +kernel, rfl⟩
theorem dX10_namesSince_64 : dec cX10_namesSince 64 1 65 (.iadd) := ⟨by decide +kernel, rfl⟩
theorem dX10_namesSince_65 : dec cX10_namesSince 65 1 66 (.iaload) := ⟨by decide +kernel, rfl⟩
theorem dX10_namesSince_66 : dec cX10_namesSince 66 1 67 (.isub) := ⟨by decide +kernel, rfl⟩
theorem dX10_namesSince_67 : dec cX10_namesSince 67 1 68 (.iastore) := ⟨by decide +kernel, rfl⟩
theorem dX10_namesSince_68 : dec cX10_namesSince 68 1 69 (.iconst 1) := ⟨by decide +kernel, rfl⟩
theorem dX10_namesSince_69 : dec cX10_namesSince 69 1 70 (.ireturn) := ⟨by decide +kernel, rfl⟩
theorem dX10_namesSince_70 : dec cX10_namesSince 70 3 73 (.iinc 3 (-1)) := ⟨by decide +kernel, rfl⟩
theorem dX10_namesSince_73 : dec cX10_namesSince 73 3 76 (.goto (-51)) := ⟨by decide +kernel, rfl⟩
theorem dX10_namesSince_76 : dec cX10_namesSince 76 1 77 (.iconst 0) := ⟨by decide +kernel, rfl⟩
theorem dX10_namesSince_77 : dec cX10_namesSince 77 1 78 (.ireturn) := ⟨by decide +kernel, rfl⟩
set_option maxHeartbeats 4000000 in
set_option maxRecDepth 100000 in
theorem tX10_namesSince_L22 {X : Cx} {Y : Yx} {M0 : Mem} (hC : OKX X Y RX10 cX10_namesSince 4 (some .boolean) rmX10_namesSince) (hF : Y.2.2.2.2 = true) (hL : Lay M0) (Q : Int → Mem → Prop) (E47 : Int → Mem → Prop) (a0 : Nat) (x1 : Int) (x2 : Int) (qa0 : 0 < a0 ∧ M0 0 a0 = kO 10) (hE47 : ∀ (x3 : Int) (M : Mem), E47 x3 M → WW X Y 4 rmX10_namesSince (QI Q) M0 0 0 47 [(0, vR Y.1 a0), (1, vI x1), (3, vI x3)] [] M) : ∀ (N : Nat) (x3 : Int) (M : Mem) (_ : wX10_namesSince_L22 Q E47 a0 x1 x2 N x3 M), WW X Y 4 rmX10_namesSince (QI Q) M0 0 0 22 [(0, vR Y.1 a0), (1, vI x1), (2, vI x2), (3, vI x3)] [] M := by
  intro N
  induction N with
  | zero =>
    intro x3 M h
    exact h.elim
  | succ N ih =>
    intro x3 M h
    unfold wX10_namesSince_L22 at h
    refine r_iload_n hC 3 dX10_namesSince_22 rfl rfl ?_
    refine r_if_lt hC 76 rfl dX10_namesSince_23 (by decide) (fun cq => ?_) (fun cq => ?_)
    · replace h := h.1 cq
      refine r_iconst hC dX10_namesSince_76 ?_
      exact r_zret hC (Or.inl rfl) (Nat.zero_le _) (Nat.zero_le _) dX10_namesSince_77 ⟨_, rfl, h⟩
    · replace h := h.2 cq
      refine r_aload_n hC 0 dX10_namesSince_26 rfl rfl ?_
      have q_9 : 0 < (a0 - 89) ∧ M0 0 ((a0 - 89)) = kO 0 := lay_fs (a := a0) hL qa0 fm_10_0
      refine r_getRs (a' := (a0 - 89)) hC fg_X10_45 rfl hF fm_10_0 qa0.1 qa0.2 rfl dX10_namesSince_27 ?_
      have q_10 : 0 < (a0 - 89) + 1 ∧ M0 0 ((a0 - 89) + 1) = kA 4 12 := lay_f0 (a := (a0 - 89)) hL q_9 fm_0_0
      refine r_getR0 (a' := (a0 - 89) + 1) hC fg_X10_100 rfl hF fm_0_0 q_9.1 q_9.2 rfl dX10_namesSince_30 ?_
      refine r_aload_n hC 0 dX10_namesSince_33 rfl rfl ?_
      have q_11 : 0 < a0 + 1 ∧ M0 0 (a0 + 1) = kA 0 12 := lay_f0 (a := a0) hL qa0 fm_10_4
      refine r_getR0 (a' := a0 + 1) hC fg_X10_9 rfl hF fm_10_4 qa0.1 qa0.2 rfl dX10_namesSince_34 ?_
      refine r_iload_n hC 3 dX10_namesSince_37 rfl rfl ?_
      obtain ⟨i_12, h⟩ := h
      refine r_iald hC i_12 q_11.1 q_11.2 (by decide) dX10_namesSince_38 ?_
      obtain ⟨i_13, h⟩ := h
      have q_14 : 0 < (a0 - 89) + 9 + (bm (rd M (a0 + 1) x3)).toNat ∧ M0 0 ((a0 - 89) + 9 + (bm (rd M (a0 + 1) x3)).toNat) = kO 3 := lay_a4 (a := (a0 - 89) + 1) hL q_10 (inb_nat i_13)
      refine r_aald4 hC hF i_13 q_10.1 q_10.2 dX10_namesSince_39 ?_
      refine r_getI hC fg_X10_199 rfl q_14.1 q_14.2 dX10_namesSince_40 ?_
      refine r_iload_n hC 2 dX10_namesSince_43 rfl rfl ?_
      refine r_icmp_ne hC 70 rfl rfl dX10_namesSince_44 (by decide) (fun cq => ?_) (fun cq => ?_)
      · replace h := h.2 cq
        refine let_elim h (fun x3_15 e_16 h => ?_)
        refine r_iinc (lv' := [(3, vI x3_15), (0, vR Y.1 a0), (1, vI x1), (2, vI x2)]) hC 3 dX10_namesSince_70 rfl (by decide) e_16 rfl ?_
        refine r_goto hC 22 dX10_namesSince_73 (by decide) ?_
        refine r_sub [1, 2, 3, 0] rfl ?_
        exact ih _ _ h
      · replace h := h.1 cq
        refine r_sub [0, 1, 3] rfl ?_
        exact hE47 _ _ h
set_option maxHeartbeats 4000000 in
set_option maxRecDepth 100000 in
theorem mX10_namesSince (Y : Yx) (hF : Y.2.2.2.2 = true) (l : Launch) (a0 : Nat) (x1 : Int) (M0 : Mem) (Q : Int → Mem → Prop) (qa0 : 0 < a0 ∧ M0 0 a0 = kO 10) (h : wX10_namesSince a0 x1 M0 Q) : CT Y l yX10_namesSince cX10_namesSince 4 (some .boolean) rmX10_namesSince [vR Y.1 a0, vI x1] M0 (QI Q) := by
  unfold wX10_namesSince at h
  refine ct_intro (by decide) (Nat.le_of_ble_eq_true rfl) ?_
  intro X hXl hC hL0
  have hL := hL0 hF
  change OKX X Y RX10 cX10_namesSince 4 (some .boolean) rmX10_namesSince at hC
  change WW X Y 4 rmX10_namesSince (QI Q) M0 0 0 0 [(0, vR Y.1 a0), (1, vI x1)] [] M0
  refine r_aload_n hC 0 dX10_namesSince_0 rfl rfl ?_
  have q_1 : 0 < (a0 - 89) ∧ M0 0 ((a0 - 89)) = kO 0 := lay_fs (a := a0) hL qa0 fm_10_0
  refine r_getRs (a' := (a0 - 89)) hC fg_X10_45 rfl hF fm_10_0 qa0.1 qa0.2 rfl dX10_namesSince_1 ?_
  have q_2 : 0 < (a0 - 89) + 1 ∧ M0 0 ((a0 - 89) + 1) = kA 4 12 := lay_f0 (a := (a0 - 89)) hL q_1 fm_0_0
  refine r_getR0 (a' := (a0 - 89) + 1) hC fg_X10_100 rfl hF fm_0_0 q_1.1 q_1.2 rfl dX10_namesSince_4 ?_
  refine r_aload_n hC 0 dX10_namesSince_7 rfl rfl ?_
  have q_3 : 0 < a0 + 1 ∧ M0 0 (a0 + 1) = kA 0 12 := lay_f0 (a := a0) hL qa0 fm_10_4
  refine r_getR0 (a' := a0 + 1) hC fg_X10_9 rfl hF fm_10_4 qa0.1 qa0.2 rfl dX10_namesSince_8 ?_
  refine r_iload_n hC 1 dX10_namesSince_11 rfl rfl ?_
  obtain ⟨i_4, h⟩ := h
  refine r_iald hC i_4 q_3.1 q_3.2 (by decide) dX10_namesSince_12 ?_
  obtain ⟨i_5, h⟩ := h
  have q_6 : 0 < (a0 - 89) + 9 + (bm (rd M0 (a0 + 1) x1)).toNat ∧ M0 0 ((a0 - 89) + 9 + (bm (rd M0 (a0 + 1) x1)).toNat) = kO 3 := lay_a4 (a := (a0 - 89) + 1) hL q_2 (inb_nat i_5)
  refine r_aald4 hC hF i_5 q_2.1 q_2.2 dX10_namesSince_13 ?_
  refine r_getI hC fg_X10_199 rfl q_6.1 q_6.2 dX10_namesSince_14 ?_
  refine r_nameI h (fun x2_7 h => ?_)
  refine r_istore_n (lv' := [(2, vI x2_7), (0, vR Y.1 a0), (1, vI x1)]) hC dX10_namesSince_17 rfl (by decide) rfl ?_
  refine r_iload_n hC 2 dX10_namesSince_18 rfl rfl ?_
  refine r_iconst hC dX10_namesSince_19 ?_
  refine r_isub hC dX10_namesSince_20 ?_
  refine r_nameI h (fun x3_8 h => ?_)
  refine r_istore_n (lv' := [(3, vI x3_8), (2, vI x2_7), (0, vR Y.1 a0), (1, vI x1)]) hC dX10_namesSince_21 rfl (by decide) rfl ?_
  refine r_sub [2, 3, 1, 0] rfl ?_
  obtain ⟨N_25, h⟩ := h
  refine tX10_namesSince_L22 hC hF hL Q _ _ _ _ qa0 ?_ N_25 _ _ h
  · intro x3_17 M_18 h
    refine r_aload_n hC 0 dX10_namesSince_47 rfl rfl ?_
    have q_19 : 0 < a0 + 10 ∧ M0 0 (a0 + 10) = kA 0 5 := lay_f0 (a := a0) hL qa0 fm_10_13
    refine r_getR0 (a' := a0 + 10) hC fg_X10_39 rfl hF fm_10_13 qa0.1 qa0.2 rfl dX10_namesSince_48 ?_
    refine r_iconst hC dX10_namesSince_51 ?_
    refine r_aload_n hC 0 dX10_namesSince_52 rfl rfl ?_
    have q_20 : 0 < a0 + 2 ∧ M0 0 (a0 + 2) = kA 0 12 := lay_f0 (a := a0) hL qa0 fm_10_5
    refine r_getR0 (a' := a0 + 2) hC fg_X10_15 rfl hF fm_10_5 qa0.1 qa0.2 rfl dX10_namesSince_53 ?_
    refine r_iload_n hC 1 dX10_namesSince_56 rfl rfl ?_
    obtain ⟨i_21, h⟩ := h
    refine r_iald hC i_21 q_20.1 q_20.2 (by decide) dX10_namesSince_57 ?_
    refine r_aload_n hC 0 dX10_namesSince_58 rfl rfl ?_
    have q_22 : 0 < a0 + 3 ∧ M0 0 (a0 + 3) = kA 0 13 := lay_f0 (a := a0) hL qa0 fm_10_6
    refine r_getR0 (a' := a0 + 3) hC fg_X10_18 rfl hF fm_10_6 qa0.1 qa0.2 rfl dX10_namesSince_59 ?_
    refine r_iload_n hC 2 dX10_namesSince_62 rfl rfl ?_
    refine r_iconst hC dX10_namesSince_63 ?_
    refine r_iadd hC dX10_namesSince_64 ?_
    obtain ⟨i_23, h⟩ := h
    refine r_iald hC i_23 q_22.1 q_22.2 (by decide) dX10_namesSince_65 ?_
    refine r_isub hC dX10_namesSince_66 ?_
    refine r_iast hC ⟨by decide +kernel, by decide +kernel⟩ q_19.1 q_19.2 (by decide) dX10_namesSince_67 ?_
    refine r_nameM h (fun M_24 h => ?_)
    refine r_iconst hC dX10_namesSince_68 ?_
    exact r_zret hC (Or.inr rfl) (Nat.zero_le _) (Nat.zero_le _) dX10_namesSince_69 ⟨_, rfl, h⟩
