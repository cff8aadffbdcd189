theorem dX12_byNext_0 : dec cX12_byNext 0 1 1 (.iconst 0) := ⟨by decide +kernel, rfl⟩
theorem dX12_byNext_1 : dec cX12_byNext 1 1 2 (.istore_n 3) := ⟨by decide +kernel, rfl⟩
theorem dX12_byNext_2 : dec cX12_byNext 2 1 3 (.iconst 1) := ⟨by decide +kernel, rfl⟩
theorem dX12_byNext_3 : dec cX12_byNext 3 2 5 (.istore 4) := ⟨by decide +kernel, rfl⟩
theorem dX12_byNext_5 : dec cX12_byNext 5 2 7 (.iload 4) := ⟨by decide +kernel, rfl⟩
theorem dX12_byNext_7 : dec cX12_byNext 7 1 8 (.aload_n 0) := ⟨by decide +kernel, rfl⟩
theorem dX12_byNext_8 : dec cX12_byNext 8 3 11 (.getfield 162) := ⟨by decide +kernel, rfl⟩
theorem dX12_byNext_11 : dec cX12_byNext 11 3 14 (.if_icmp .ge 194) := ⟨by decide +kernel, rfl⟩
theorem dX12_byNext_14 : dec cX12_byNext 14 1 15 (.aload_n 0) := ⟨by decide +kernel, rfl⟩
theorem dX12_byNext_15 : dec cX12_byNext 15 2 17 (.iload 4) := ⟨by decide +kernel, rfl⟩
theorem dX12_byNext_17 : dec cX12_byNext 17 3 20 (.invokevirtual 165) := ⟨by decide +kernel, rfl⟩
theorem dX12_byNext_20 : dec cX12_byNext 20 3 23 (.ifCond .eq 6) := ⟨by decide +kernel, rfl⟩
theorem dX12_byNext_23 : dec cX12_byNext 23 3 26 (.goto 176) := ⟨by decide +kernel, rfl⟩
theorem dX12_byNext_26 : dec cX12_byNext 26 1 27 (.aload_n 0) := ⟨by decide +kernel, rfl⟩
theorem dX12_byNext_27 : dec cX12_byNext 27 1 28 (.aload_n 0) := ⟨by decide +kernel, rfl⟩
theorem dX12_byNext_28 : dec cX12_byNext 28 3 31 (.getfield 28) := ⟨by decide +kernel, rfl⟩
theorem dX12_byNext_31 : dec cX12_byNext 31 2 33 (.iload 4) := ⟨by decide +kernel, rfl⟩
theorem dX12_byNext_33 : dec cX12_byNext 33 1 34 (.iconst 1) := ⟨by decide +kernel, rfl⟩
theorem dX12_byNext_34 : dec cX12_byNext 34 1 35 (.isub) := ⟨by decide +kernel, rfl⟩
theorem dX12_byNext_35 : dec cX12_byNext 35 1 36 (.iaload) := ⟨by decide +kernel, rfl⟩
theorem dX12_byNext_36 : dec cX12_byNext 36 1 37 (.iconst 1) := ⟨by decide +kernel, rfl⟩
theorem dX12_byNext_37 : dec cX12_byNext 37 3 40 (.invokevirtual 91) := ⟨by decide +kernel, rfl⟩
theorem dX12_byNext_40 : dec cX12_byNext 40 1 41 (.aload_n 0) := ⟨by decide +kernel, rfl⟩
theorem dX12_byNext_41 : dec cX12_byNext 41 1 42 (.aload_n 0) := ⟨by decide +kernel, rfl⟩
theorem dX12_byNext_42 : dec cX12_byNext 42 3 45 (.getfield 28) := ⟨by decide +kernel, rfl⟩
theorem dX12_byNext_45 : dec cX12_byNext 45 2 47 (.iload 4) := ⟨by decide +kernel, rfl⟩
theorem dX12_byNext_47 : dec cX12_byNext 47 1 48 (.iaload) := ⟨by decide +kernel, rfl⟩
theorem dX12_byNext_48 : dec cX12_byNext 48 1 49 (.iconst 1) := ⟨by decide +kernel, rfl⟩
theorem dX12_byNext_49 : dec cX12_byNext 49 3 52 (.invokevirtual 91) := ⟨by decide +kernel, rfl⟩
theorem dX12_byNext_52 : dec cX12_byNext 52 1 53 (.isub) := ⟨by decide +kernel, rfl⟩
theorem dX12_byNext_53 : dec cX12_byNext 53 2 55 (.istore 5) := ⟨by decide +kernel, rfl⟩
theorem dX12_byNext_55 : dec cX12_byNext 55 2 57 (.iload 5) := ⟨by decide +kernel, rfl⟩
theorem dX12_byNext_57 : dec cX12_byNext 57 3 60 (.ifCond .ge 9) := ⟨by decide +kernel, rfl⟩
theorem dX12_byNext_60 : dec cX12_byNext 60 2 62 (.iload 5) := ⟨by decide +kernel, rfl⟩
theorem dX12_byNext_62 : dec cX12_byNext 62 1 63 (.ineg) := ⟨by decide +kernel, rfl⟩
theorem dX12_byNext_63 : dec cX12_byNext 63 3 66 (.goto 5) := ⟨by decide +kernel, rfl⟩
theorem dX12_byNext_66 : dec cX12_byNext 66 2 68 (.iload 5) := ⟨by decide +kernel, rfl⟩
theorem dX12_byNext_68 : dec cX12_byNext 68 2 70 (.istore 5) := ⟨by decide +kernel, rfl⟩
theorem dX12_byNext_70 : dec cX12_byNext 70 1 71 (.aload_n 0) := ⟨by decide +kernel, rfl⟩
theorem dX12_byNext_71 : dec cX12_byNext 71 3 74 (.getfield 22) := ⟨by decide +kernel, rfl⟩
theorem dX12_byNext_74 : dec cX12_byNext 74 2 76 (.bipush 97) := ⟨by decide +kernel, rfl⟩
theorem dX12_byNext_76 : dec cX12_byNext 76 1 77 (.aload_n 0) := ⟨by decide +kernel, rfl⟩
theorem dX12_byNext_77 : dec cX12_byNext 77 1 78 (.aload_n 0) := ⟨by decide +kernel, rfl⟩
theorem dX12_byNext_78 : dec cX12_byNext 78 3 81 (.getfield 28) := ⟨by decide +kernel, rfl⟩
theorem dX12_byNext_81 : dec cX12_byNext 81 2 83 (.iload 4) := ⟨by decide +kernel, rfl⟩
theorem dX12_byNext_83 : dec cX12_byNext 83 1 84 (.iconst 1) := ⟨by decide +kernel, rfl⟩
theorem dX12_byNext_84 : dec cX12_byNext 84 1 85 (.isub) := ⟨by decide +kernel, rfl⟩
theorem dX12_byNext_85 : dec cX12_byNext 85 1 86 (.iaload) := ⟨by decide +kernel, rfl⟩
theorem dX12_byNext_86 : dec cX12_byNext 86 1 87 (.iconst 2) := ⟨by decide +kernel, rfl⟩
theorem dX12_byNext_87 : dec cX12_byNext 87 3 90 (.invokevirtual 91) := ⟨by decide +kernel, rfl⟩
theorem dX12_byNext_90 : dec cX12_byNext 90 1 91 (.iastore) := ⟨by decide +kernel, rfl⟩
theorem dX12_byNext_91 : dec cX12_byNext 91 1 92 (.aload_n 0) := ⟨by decide +kernel, rfl⟩
theorem dX12_byNext_92 : dec cX12_byNext 92 3 95 (.getfield 22) := ⟨by decide +kernel, rfl⟩
theorem dX12_byNext_95 : dec cX12_byNext 95 2 97 (.bipush 98) := ⟨by decide +kernel, rfl⟩
theorem dX12_byNext_97 : dec cX12_byNext 97 1 98 (.aload_n 0) := ⟨by decide +kernel, rfl⟩
theorem dX12_byNext_98 : dec cX12_byNext 98 1 99 (.aload_n 0) := ⟨by decide +kernel, rfl⟩
theorem dX12_byNext_99 : dec cX12_byNext 99 3 102 (.getfield 28) := ⟨by decide +kernel, rfl⟩
theorem dX12_byNext_102 : dec cX12_byNext 102 2 104 (.iload 4) := ⟨by decide +kernel, rfl⟩
theorem dX12_byNext_104 : dec cX12_byNext 104 1 105 (.iaload) := ⟨by decide +kernel, rfl⟩
theorem dX12_byNext_105 : dec cX12_byNext 105 1 106 (.iconst 2) := ⟨by decide +kernel, rfl⟩
theorem dX12_byNext_106 : dec cX12_byNext 106 3 109 (.invokevirtual 91) := ⟨by decide +kernel, rfl⟩
theorem dX12_byNext_109 : dec cX12_byNext 109 1 110 (.iastore) := ⟨by decide +kernel, rfl⟩
theorem dX12_byNext_110 : dec cX12_byNext 110 1 111 (.aload_n 0) := ⟨by decide +kernel, rfl⟩
theorem dX12_byNext_111 : dec cX12_byNext 111 3 114 (.getfield 22) := ⟨by decide +kernel, rfl⟩
theorem dX12_byNext_114 : dec cX12_byNext 114 2 116 (.bipush 107) := ⟨by decide +kernel, rfl⟩
theorem dX12_byNext_116 : dec cX12_byNext 116 2 118 (.iload 5) := ⟨by decide +kernel, rfl⟩
theorem dX12_byNext_118 : dec cX12_byNext 118 2 120 (.bipush 6) := ⟨by decide +kernel, rfl⟩
theorem dX12_byNext_120 : dec cX12_byNext 120 3 123 (.if_icmp .le 11) := ⟨by decide +kernel, rfl⟩
theorem dX12_byNext_123 : dec cX12_byNext 123 2 125 (.bipush 12) := ⟨by decide +kernel, rfl⟩
theorem dX12_byNext_125 : dec cX12_byNext 125 2 127 (.iload 5) := ⟨by decide +kernel, rfl⟩
theorem dX12_byNext_127 : dec cX12_byNext 127 1 128 (.isub) := ⟨by decide +kernel, rfl⟩
theorem dX12_byNext_128 : dec cX12_byNext 128 3 131 (.goto 5) := ⟨by decide +kernel, rfl⟩
theorem dX12_byNext_131 : dec cX12_byNext 131 2 133 (.iload 5) := ⟨by decide +kernel, rfl⟩
theorem dX12_byNext_133 : dec cX12_byNext 133 1 134 (.iastore) := ⟨by decide +kernel, rfl⟩
theorem dX12_byNext_134 : dec cX12_byNext 134 1 135 (.aload_n 0) := ⟨by decide +kernel, rfl⟩
theorem dX12_byNext_135 : dec cX12_byNext 135 3 138 (.getfield 22) := ⟨by decide +kernel, rfl⟩
theorem dX12_byNext_138 : dec cX12_byNext 138 2 140 (.bipush 115) := ⟨by decide +kernel, rfl⟩
theorem dX12_byNext_140 : dec cX12_byNext 140 1 141 (.aload_n 0) := ⟨by decide +kernel, rfl⟩
theorem dX12_byNext_141 : dec cX12_byNext 141 1 142 (.aload_n 0) := ⟨by decide +kernel, rfl⟩
theorem dX12_byNext_142 : dec cX12_byNext 142 3 145 (.getfield 28) := ⟨by decide +kernel, rfl⟩
theorem dX12_byNext_145 : dec cX12_byNext 145 2 147 (.iload 4) := ⟨by decide +kernel, rfl⟩
theorem dX12_byNext_147 : dec cX12_byNext 147 1 148 (.iconst 1) := ⟨by decide +kernel, rfl⟩
theorem dX12_byNext_148 : dec cX12_byNext 148 1 149 (.isub) := ⟨by decide +kernel, rfl⟩
theorem dX12_byNext_149 : dec cX12_byNext 149 1 150 (.iaload) := ⟨by decide +kernel, rfl⟩
theorem dX12_byNext_150 : dec cX12_byNext 150 1 151 (.aload_n 0) := ⟨by decide +kernel, rfl⟩
theorem dX12_byNext_151 : dec cX12_byNext 151 3 154 (.getfield 28) := ⟨by decide +kernel, rfl⟩
theorem dX12_byNext_154 : dec cX12_byNext 154 2 156 (.iload 4) := ⟨by decide +kernel, rfl⟩
theorem dX12_byNext_156 : dec cX12_byNext 156 1 157 (.iaload) := ⟨by decide +kernel, rfl⟩
theorem dX12_byNext_157 : dec cX12_byNext 157 3 160 (.invokevirtual 168) := ⟨by decide +kernel, rfl⟩
theorem dX12_byNext_160 : dec cX12_byNext 160 1 161 (.iastore) := ⟨by decide +kernel, rfl⟩
theorem dX12_byNext_161 : dec cX12_byNext 161 1 162 (.iload_n 3) := ⟨by decide +kernel, rfl⟩
theorem dX12_byNext_162 : dec cX12_byNext 162 1 163 (.aload_n 0) := ⟨by decide +kernel, rfl⟩
theorem dX12_byNext_163 : dec cX12_byNext 163 1 164 (.iload_n 1) := ⟨by decide +kernel, rfl⟩
theorem dX12_byNext_164 : dec cX12_byNext 164 1 165 (.iconst 0) := ⟨by decide +kernel, rfl⟩
theorem dX12_byNext_165 : dec cX12_byNext 165 3 168 (.invokevirtual 186) := ⟨by decide +kernel, rfl⟩
theorem dX12_byNext_168 : dec cX12_byNext 168 1 169 (.iload_n 2) := ⟨by decide +kernel, rfl⟩
theorem dX12_byNext_169 : dec cX12_byNext 169 3 172 (.ifCond .eq 26) := ⟨by decide +kernel, rfl⟩
theorem dX12_byNext_172 : dec cX12_byNext 172 1 173 (.aload_n 0) := ⟨by decide +kernel, rfl⟩
theorem dX12_byNext_173 : dec cX12_byNext 173 1 174 (.aload_n 0) := ⟨by decide +kernel, rfl⟩
theorem dX12_byNext_174 : dec cX12_byNext 174 3 177 (.getfield 28) := ⟨by decide +kernel, rfl⟩
theorem dX12_byNext_177 : dec cX12_byNext 177 2 179 (.iload 4) := ⟨by decide +kernel, rfl⟩
theorem dX12_byNext_179 : dec cX12_byNext 179 1 180 (.iconst 1) := ⟨by decide +kernel, rfl⟩
theorem dX12_byNext_180 : dec cX12_byNext 180 1 181 (.isub) := ⟨by decide +kernel, rfl⟩
theorem dX12_byNext_181 : dec cX12_byNext 181 1 182 (.iaload) := ⟨by decide +kernel, rfl⟩
theorem dX12_byNext_182 : dec cX12_byNext 182 1 183 (.aload_n 0) := ⟨by decide +kernel, rfl⟩
theorem dX12_byNext_183 : dec cX12_byNext 183 3 186 (.getfield 28) := ⟨by decide +kernel, rfl⟩
theorem dX12_byNext_186 : dec cX12_byNext 186 2 188 (.iload 4) := ⟨by decide +kernel, rfl⟩
theorem dX12_byNext_188 : dec cX12_byNext 188 1 189 (.iaload) := ⟨by decide +kernel, rfl⟩
theorem dX12_byNext_189 : dec cX12_byNext 189 3 192 (.invokevirtual 168) := ⟨by decide +kernel, rfl⟩
theorem dX12_byNext_192 : dec cX12_byNext 192 3 195 (.goto 4) := ⟨by decide +kernel, rfl⟩
theorem dX12_byNext_195 : dec cX12_byNext 195 1 196 (.iconst 0) := ⟨by decide +kernel, rfl⟩
theorem dX12_byNext_196 : dec cX12_byNext 196 1 197 (.isub) := ⟨by decide +kernel, rfl⟩
theorem dX12_byNext_197 : dec cX12_byNext 197 1 198 (.iadd) := ⟨by decide +kernel, rfl⟩
theorem dX12_byNext_198 : dec cX12_byNext 198 1 199 (.istore_n 3) := ⟨by decide +kernel, rfl⟩
theorem dX12_byNext_199 : dec cX12_byNext 199 3 202 (.iinc 4 1) := ⟨by decide +kernel, rfl⟩
theorem dX12_byNext_202 : dec cX12_byNext 202 3 205 (.goto (-197)) := ⟨by decide +kernel, rfl⟩
theorem dX12_byNext_205 : dec cX12_byNext 205 1 206 (.iload_n 3) := ⟨by decide +kernel, rfl⟩
theorem dX12_byNext_206 : dec cX12_byNext 206 1 207 (.ireturn) := ⟨by decide +kernel, rfl⟩
set_option maxHeartbeats 4000000 in
set_option maxRecDepth 100000 in
theorem tX12_byNext_J196 {X : Cx} {Y : Yx} {M0 : Mem} (hC : OKX X Y RX12 cX12_byNext 6 (some .int) rmX12_byNext) (hF : Y.2.2.2.2 = true) (hL : Lay M0) (Q : Int → Mem → Prop) (C5 : Int → Int → Mem → Prop)  (a0 : Nat) (x1 : Int) (x2 : Int) (x4 : Int) (xs0 : Int) (xs1 : Int) (xs2 : Int) (qa0 : 0 < a0 ∧ M0 0 a0 = kO 12) (hC5 : ∀ (x3 : Int) (x4 : Int) (M : Mem), C5 x3 x4 M → WW X Y 6 rmX12_byNext (QI Q) M0 0 0 5 [(0, vR Y.1 a0), (1, vI x1), (2, vI x2), (3, vI x3), (4, vI x4)] [] M) (M : Mem) (h : wX12_byNext_J196 Q C5 a0 x1 x2 x4 xs0 xs1 xs2 M) : WW X Y 6 rmX12_byNext (QI Q) M0 0 0 196 [(0, vR Y.1 a0), (1, vI x1), (2, vI x2), (4, vI x4)] [vI xs0, vI xs1, vI xs2] M := by
  unfold wX12_byNext_J196 at h
  refine r_isub hC dX12_byNext_196 ?_
  refine r_iadd hC dX12_byNext_197 ?_
  refine r_nameI h (fun x3_37 h => ?_)
  refine r_istore_n (lv' := [(3, vI x3_37), (0, vR Y.1 a0), (1, vI x1), (2, vI x2), (4, vI x4)]) hC dX12_byNext_198 rfl (by decide) rfl ?_
  refine let_elim h (fun x4_38 e_39 h => ?_)
  refine r_iinc (lv' := [(4, vI x4_38), (3, vI x3_37), (0, vR Y.1 a0), (1, vI x1), (2, vI x2)]) hC 4 dX12_byNext_199 rfl (by decide) e_39 rfl ?_
  refine r_goto hC 5 dX12_byNext_202 (by decide) ?_
  refine r_sub [2, 3, 4, 1, 0] rfl ?_
  exact hC5 _ _ _ h
set_option maxHeartbeats 4000000 in
set_option maxRecDepth 100000 in
theorem tX12_byNext_J133 {X : Cx} {Y : Yx} {M0 : Mem} (hC : OKX X Y RX12 cX12_byNext 6 (some .int) rmX12_byNext) (hF : Y.2.2.2.2 = true) (hL : Lay M0) (Q : Int → Mem → Prop) (C5 : Int → Int → Mem → Prop)  (a0 : Nat) (x1 : Int) (x2 : Int) (x3 : Int) (x4 : Int) (xs0 : Int) (xs1 : Int) (as2 : Nat) (qa0 : 0 < a0 ∧ M0 0 a0 = kO 12) (qas2 : 0 < as2 ∧ M0 0 as2 = kA 0 128) (hC5 : ∀ (x3 : Int) (x4 : Int) (M : Mem), C5 x3 x4 M → WW X Y 6 rmX12_byNext (QI Q) M0 0 0 5 [(0, vR Y.1 a0), (1, vI x1), (2, vI x2), (3, vI x3), (4, vI x4)] [] M) (M : Mem) (h : wX12_byNext_J133 Q C5 a0 x1 x2 x3 x4 xs0 xs1 as2 M) : WW X Y 6 rmX12_byNext (QI Q) M0 0 0 133 [(0, vR Y.1 a0), (1, vI x1), (2, vI x2), (3, vI x3), (4, vI x4)] [vI xs0, vI xs1, vR Y.1 as2] M := by
  unfold wX12_byNext_J133 at h
  obtain ⟨i_25, h⟩ := h
  refine r_iast hC i_25 qas2.1 qas2.2 (by decide) dX12_byNext_133 ?_
  refine r_nameM h (fun M_26 h => ?_)
  refine r_aload_n hC 0 dX12_byNext_134 rfl rfl ?_
  have q_27 : 0 < a0 + 5 ∧ M0 0 (a0 + 5) = kA 0 128 := lay_f0 (a := a0) hL qa0 fm_12_10
  refine r_getR0 (a' := a0 + 5) hC fg_X12_22 rfl hF fm_12_10 qa0.1 qa0.2 rfl dX12_byNext_135 ?_
  refine r_bipush hC (by decide +kernel) dX12_byNext_138 ?_
  refine r_aload_n hC 0 dX12_byNext_140 rfl rfl ?_
  refine r_aload_n hC 0 dX12_byNext_141 rfl rfl ?_
  have q_28 : 0 < a0 + 7 ∧ M0 0 (a0 + 7) = kA 0 12 := lay_f0 (a := a0) hL qa0 fm_12_12
  refine r_getR0 (a' := a0 + 7) hC fg_X12_28 rfl hF fm_12_12 qa0.1 qa0.2 rfl dX12_byNext_142 ?_
  refine r_iload hC 4 dX12_byNext_145 rfl ?_
  refine r_iconst hC dX12_byNext_147 ?_
  refine r_isub hC dX12_byNext_148 ?_
  obtain ⟨i_29, h⟩ := h
  refine r_iald hC i_29 q_28.1 q_28.2 (by decide) dX12_byNext_149 ?_
  refine r_aload_n hC 0 dX12_byNext_150 rfl rfl ?_
  have q_30 : 0 < a0 + 7 ∧ M0 0 (a0 + 7) = kA 0 12 := lay_f0 (a := a0) hL qa0 fm_12_12
  refine r_getR0 (a' := a0 + 7) hC fg_X12_28 rfl hF fm_12_12 qa0.1 qa0.2 rfl dX12_byNext_151 ?_
  refine r_iload hC 4 dX12_byNext_154 rfl ?_
  obtain ⟨i_31, h⟩ := h
  refine r_iald hC i_31 q_30.1 q_30.2 (by decide) dX12_byNext_156 ?_
  refine r_callV (As := [vI (rd M_26 (a0 + 7) (x4 - 1)), vI (rd M_26 (a0 + 7) x4)]) (st := [vI 115, vR Y.1 (a0 + 5)]) hC cw_X12_168 rfl qa0.1 qa0.2 rfl rfl (Nat.le_of_ble_eq_true rfl) ⟨Nat.le_of_ble_eq_true rfl, Nat.le_of_ble_eq_true rfl⟩ ⟨Nat.le_of_ble_eq_true rfl, Nat.le_of_ble_eq_true rfl⟩ dX12_byNext_157 (fun hk => mX12_carried Y hF _ _ _ _ _ _ (kqO hk qa0) h) (fun v M_32 h => ?_)
  obtain ⟨r_33, rfl, h⟩ := h
  refine r_iast hC ⟨by decide +kernel, by decide +kernel⟩ q_27.1 q_27.2 (by decide) dX12_byNext_160 ?_
  refine r_nameM h (fun M_34 h => ?_)
  refine r_iload_n hC 3 dX12_byNext_161 rfl rfl ?_
  refine r_aload_n hC 0 dX12_byNext_162 rfl rfl ?_
  refine r_iload_n hC 1 dX12_byNext_163 rfl rfl ?_
  refine r_iconst hC dX12_byNext_164 ?_
  refine r_callV (As := [vI x1, vI 0]) (st := [vI x3]) hC cw_X12_186 rfl qa0.1 qa0.2 rfl rfl (Nat.le_of_ble_eq_true rfl) ⟨Nat.le_of_ble_eq_true rfl, Nat.le_of_ble_eq_true rfl⟩ ⟨Nat.le_of_ble_eq_true rfl, Nat.le_of_ble_eq_true rfl⟩ dX12_byNext_165 (fun hk => mX12_worked Y hF _ _ _ _ _ _ (kqO hk qa0) h) (fun v M_35 h => ?_)
  obtain ⟨r_36, rfl, h⟩ := h
  refine r_iload_n hC 2 dX12_byNext_168 rfl rfl ?_
  refine r_if_eq hC 195 rfl dX12_byNext_169 (by decide) (fun cq => ?_) (fun cq => ?_)
  · replace h := h.1 cq
    refine r_iconst hC dX12_byNext_195 ?_
    refine r_sub [0, 1, 2, 4] rfl ?_
    exact tX12_byNext_J196 hC hF hL Q _  _ _ _ _ _ _ _ qa0 hC5 _ h
  · replace h := h.2 cq
    refine r_aload_n hC 0 dX12_byNext_172 rfl rfl ?_
    refine r_aload_n hC 0 dX12_byNext_173 rfl rfl ?_
    have q_40 : 0 < a0 + 7 ∧ M0 0 (a0 + 7) = kA 0 12 := lay_f0 (a := a0) hL qa0 fm_12_12
    refine r_getR0 (a' := a0 + 7) hC fg_X12_28 rfl hF fm_12_12 qa0.1 qa0.2 rfl dX12_byNext_174 ?_
    refine r_iload hC 4 dX12_byNext_177 rfl ?_
    refine r_iconst hC dX12_byNext_179 ?_
    refine r_isub hC dX12_byNext_180 ?_
    obtain ⟨i_41, h⟩ := h
    refine r_iald hC i_41 q_40.1 q_40.2 (by decide) dX12_byNext_181 ?_
    refine r_aload_n hC 0 dX12_byNext_182 rfl rfl ?_
    have q_42 : 0 < a0 + 7 ∧ M0 0 (a0 + 7) = kA 0 12 := lay_f0 (a := a0) hL qa0 fm_12_12
    refine r_getR0 (a' := a0 + 7) hC fg_X12_28 rfl hF fm_12_12 qa0.1 qa0.2 rfl dX12_byNext_183 ?_
    refine r_iload hC 4 dX12_byNext_186 rfl ?_
    obtain ⟨i_43, h⟩ := h
    refine r_iald hC i_43 q_42.1 q_42.2 (by decide) dX12_byNext_188 ?_
    refine r_callV (As := [vI (rd M_35 (a0 + 7) (x4 - 1)), vI (rd M_35 (a0 + 7) x4)]) (st := [vI r_36, vI x3]) hC cw_X12_168 rfl qa0.1 qa0.2 rfl rfl (Nat.le_of_ble_eq_true rfl) ⟨Nat.le_of_ble_eq_true rfl, Nat.le_of_ble_eq_true rfl⟩ ⟨Nat.le_of_ble_eq_true rfl, Nat.le_of_ble_eq_true rfl⟩ dX12_byNext_189 (fun hk => mX12_carried Y hF _ _ _ _ _ _ (kqO hk qa0) h) (fun v M_44 h => ?_)
    obtain ⟨r_45, rfl, h⟩ := h
    refine r_goto hC 196 dX12_byNext_192 (by decide) ?_
    refine r_sub [0, 1, 2, 4] rfl ?_
    exact tX12_byNext_J196 hC hF hL Q _  _ _ _ _ _ _ _ qa0 hC5 _ h
set_option maxHeartbeats 4000000 in
set_option maxRecDepth 100000 in
theorem tX12_byNext_J68 {X : Cx} {Y : Yx} {M0 : Mem} (hC : OKX X Y RX12 cX12_byNext 6 (some .int) rmX12_byNext) (hF : Y.2.2.2.2 = true) (hL : Lay M0) (Q : Int → Mem → Prop) (C5 : Int → Int → Mem → Prop)  (a0 : Nat) (x1 : Int) (x2 : Int) (x3 : Int) (x4 : Int) (xs0 : Int) (qa0 : 0 < a0 ∧ M0 0 a0 = kO 12) (hC5 : ∀ (x3 : Int) (x4 : Int) (M : Mem), C5 x3 x4 M → WW X Y 6 rmX12_byNext (QI Q) M0 0 0 5 [(0, vR Y.1 a0), (1, vI x1), (2, vI x2), (3, vI x3), (4, vI x4)] [] M) (M : Mem) (h : wX12_byNext_J68 Q C5 a0 x1 x2 x3 x4 xs0 M) : WW X Y 6 rmX12_byNext (QI Q) M0 0 0 68 [(0, vR Y.1 a0), (1, vI x1), (2, vI x2), (3, vI x3), (4, vI x4)] [vI xs0] M := by
  unfold wX12_byNext_J68 at h
  refine r_istore (lv' := [(5, vI xs0), (0, vR Y.1 a0), (1, vI x1), (2, vI x2), (3, vI x3), (4, vI x4)]) hC dX12_byNext_68 (by decide) rfl ?_
  refine r_aload_n hC 1 dX12_byNext_70 rfl rfl ?_
  have q_12 : 0 < a0 + 5 ∧ M0 0 (a0 + 5) = kA 0 128 := lay_f0 (a := a0) hL qa0 fm_12_10
  refine r_getR0 (a' := a0 + 5) hC fg_X12_22 rfl hF fm_12_10 qa0.1 qa0.2 rfl dX12_byNext_71 ?_
  refine r_bipush hC (by decide +kernel) dX12_byNext_74 ?_
  refine r_aload_n hC 1 dX12_byNext_76 rfl rfl ?_
  refine r_aload_n hC 1 dX12_byNext_77 rfl rfl ?_
  have q_13 : 0 < a0 + 7 ∧ M0 0 (a0 + 7) = kA 0 12 := lay_f0 (a := a0) hL qa0 fm_12_12
  refine r_getR0 (a' := a0 + 7) hC fg_X12_28 rfl hF fm_12_12 qa0.1 qa0.2 rfl dX12_byNext_78 ?_
  refine r_iload hC 5 dX12_byNext_81 rfl ?_
  refine r_iconst hC dX12_byNext_83 ?_
  refine r_isub hC dX12_byNext_84 ?_
  obtain ⟨i_14, h⟩ := h
  refine r_iald hC i_14 q_13.1 q_13.2 (by decide) dX12_byNext_85 ?_
  refine r_iconst hC dX12_byNext_86 ?_
  refine r_callV (As := [vI (rd M (a0 + 7) (x4 - 1)), vI 2]) (st := [vI 97, vR Y.1 (a0 + 5)]) hC cw_X12_91 rfl qa0.1 qa0.2 rfl rfl (Nat.le_of_ble_eq_true rfl) ⟨Nat.le_of_ble_eq_true rfl, Nat.le_of_ble_eq_true rfl⟩ ⟨Nat.le_of_ble_eq_true rfl, Nat.le_of_ble_eq_true rfl⟩ dX12_byNext_87 (fun hk => mX12_of Y hF _ _ _ _ _ _ (kqO hk qa0) h) (fun v M_15 h => ?_)
  obtain ⟨r_16, rfl, h⟩ := h
  refine r_iast hC ⟨by decide +kernel, by decide +kernel⟩ q_12.1 q_12.2 (by decide) dX12_byNext_90 ?_
  refine r_nameM h (fun M_17 h => ?_)
  refine r_aload_n hC 1 dX12_byNext_91 rfl rfl ?_
  have q_18 : 0 < a0 + 5 ∧ M0 0 (a0 + 5) = kA 0 128 := lay_f0 (a := a0) hL qa0 fm_12_10
  refine r_getR0 (a' := a0 + 5) hC fg_X12_22 rfl hF fm_12_10 qa0.1 qa0.2 rfl dX12_byNext_92 ?_
  refine r_bipush hC (by decide +kernel) dX12_byNext_95 ?_
  refine r_aload_n hC 1 dX12_byNext_97 rfl rfl ?_
  refine r_aload_n hC 1 dX12_byNext_98 rfl rfl ?_
  have q_19 : 0 < a0 + 7 ∧ M0 0 (a0 + 7) = kA 0 12 := lay_f0 (a := a0) hL qa0 fm_12_12
  refine r_getR0 (a' := a0 + 7) hC fg_X12_28 rfl hF fm_12_12 qa0.1 qa0.2 rfl dX12_byNext_99 ?_
  refine r_iload hC 5 dX12_byNext_102 rfl ?_
  obtain ⟨i_20, h⟩ := h
  refine r_iald hC i_20 q_19.1 q_19.2 (by decide) dX12_byNext_104 ?_
  refine r_iconst hC dX12_byNext_105 ?_
  refine r_callV (As := [vI (rd M_17 (a0 + 7) x4), vI 2]) (st := [vI 98, vR Y.1 (a0 + 5)]) hC cw_X12_91 rfl qa0.1 qa0.2 rfl rfl (Nat.le_of_ble_eq_true rfl) ⟨Nat.le_of_ble_eq_true rfl, Nat.le_of_ble_eq_true rfl⟩ ⟨Nat.le_of_ble_eq_true rfl, Nat.le_of_ble_eq_true rfl⟩ dX12_byNext_106 (fun hk => mX12_of Y hF _ _ _ _ _ _ (kqO hk qa0) h) (fun v M_21 h => ?_)
  obtain ⟨r_22, rfl, h⟩ := h
  refine r_iast hC ⟨by decide +kernel, by decide +kernel⟩ q_18.1 q_18.2 (by decide) dX12_byNext_109 ?_
  refine r_nameM h (fun M_23 h => ?_)
  refine r_aload_n hC 1 dX12_byNext_110 rfl rfl ?_
  have q_24 : 0 < a0 + 5 ∧ M0 0 (a0 + 5) = kA 0 128 := lay_f0 (a := a0) hL qa0 fm_12_10
  refine r_getR0 (a' := a0 + 5) hC fg_X12_22 rfl hF fm_12_10 qa0.1 qa0.2 rfl dX12_byNext_111 ?_
  refine r_bipush hC (by decide +kernel) dX12_byNext_114 ?_
  refine r_iload hC 0 dX12_byNext_116 rfl ?_
  refine r_bipush hC (by decide +kernel) dX12_byNext_118 ?_
  refine r_icmp_le hC 131 rfl bmL_6 dX12_byNext_120 (by decide) (fun cq => ?_) (fun cq => ?_)
  · replace h := h.1 cq
    refine r_iload hC 0 dX12_byNext_131 rfl ?_
    refine r_sub [1, 2, 3, 4, 5] rfl ?_
    exact tX12_byNext_J133 hC hF hL Q _  _ _ _ _ _ _ _ _ qa0 q_24 hC5 _ h
  · replace h := h.2 cq
    refine r_bipush hC (by decide +kernel) dX12_byNext_123 ?_
    refine r_iload hC 0 dX12_byNext_125 rfl ?_
    refine r_isub hC dX12_byNext_127 ?_
    refine r_goto hC 133 dX12_byNext_128 (by decide) ?_
    refine r_sub [1, 2, 3, 4, 5] rfl ?_
    exact tX12_byNext_J133 hC hF hL Q _  _ _ _ _ _ _ _ _ qa0 q_24 hC5 _ h
set_option maxHeartbeats 4000000 in
set_option maxRecDepth 100000 in
theorem tX12_byNext_L5 {X : Cx} {Y : Yx} {M0 : Mem} (hC : OKX X Y RX12 cX12_byNext 6 (some .int) rmX12_byNext) (hF : Y.2.2.2.2 = true) (hL : Lay M0) (Q : Int → Mem → Prop)  (a0 : Nat) (x1 : Int) (x2 : Int) (qa0 : 0 < a0 ∧ M0 0 a0 = kO 12)  : ∀ (N : Nat) (x3 : Int) (x4 : Int) (M : Mem) (_ : wX12_byNext_L5 Q  a0 x1 x2 N x3 x4 M), WW X Y 6 rmX12_byNext (QI Q) M0 0 0 5 [(0, vR Y.1 a0), (1, vI x1), (2, vI x2), (3, vI x3), (4, vI x4)] [] M := by
  intro N
  induction N with
  | zero =>
    intro x3 x4 M h
    exact h.elim
  | succ N ih =>
    intro x3 x4 M h
    unfold wX12_byNext_L5 at h
    refine r_iload hC 4 dX12_byNext_5 rfl ?_
    refine r_aload_n hC 0 dX12_byNext_7 rfl rfl ?_
    refine r_getI hC fg_X12_162 rfl qa0.1 qa0.2 dX12_byNext_8 ?_
    refine r_icmp_ge hC 205 rfl rfl dX12_byNext_11 (by decide) (fun cq => ?_) (fun cq => ?_)
    · replace h := h.1 cq
      refine r_iload_n hC 3 dX12_byNext_205 rfl rfl ?_
      exact r_iret hC (Nat.zero_le _) (Nat.zero_le _) dX12_byNext_206 ⟨_, rfl, h⟩
    · replace h := h.2 cq
      refine r_aload_n hC 0 dX12_byNext_14 rfl rfl ?_
      refine r_iload hC 4 dX12_byNext_15 rfl ?_
      refine r_callV (As := [vI x4]) (st := []) hC cw_X12_165 rfl qa0.1 qa0.2 rfl rfl (Nat.le_of_ble_eq_true rfl) ⟨Nat.le_of_ble_eq_true rfl, Nat.le_of_ble_eq_true rfl⟩ ⟨Nat.le_of_ble_eq_true rfl, Nat.le_of_ble_eq_true rfl⟩ dX12_byNext_17 (fun hk => mX12_isApart Y hF _ _ _ _ _ (kqO hk qa0) h) (fun v M_1 h => ?_)
      obtain ⟨r_2, rfl, h⟩ := h
      refine r_if_eq hC 26 rfl dX12_byNext_20 (by decide) (fun cq => ?_) (fun cq => ?_)
      · replace h := h.1 cq
        refine r_aload_n hC 0 dX12_byNext_26 rfl rfl ?_
        refine r_aload_n hC 0 dX12_byNext_27 rfl rfl ?_
        have q_3 : 0 < a0 + 7 ∧ M0 0 (a0 + 7) = kA 0 12 := lay_f0 (a := a0) hL qa0 fm_12_12
        refine r_getR0 (a' := a0 + 7) hC fg_X12_28 rfl hF fm_12_12 qa0.1 qa0.2 rfl dX12_byNext_28 ?_
        refine r_iload hC 4 dX12_byNext_31 rfl ?_
        refine r_iconst hC dX12_byNext_33 ?_
        refine r_isub hC dX12_byNext_34 ?_
        obtain ⟨i_4, h⟩ := h
        refine r_iald hC i_4 q_3.1 q_3.2 (by decide) dX12_byNext_35 ?_
        refine r_iconst hC dX12_byNext_36 ?_
        refine r_callV (As := [vI (rd M_1 (a0 + 7) (x4 - 1)), vI 1]) (st := []) hC cw_X12_91 rfl qa0.1 qa0.2 rfl rfl (Nat.le_of_ble_eq_true rfl) ⟨Nat.le_of_ble_eq_true rfl, Nat.le_of_ble_eq_true rfl⟩ ⟨Nat.le_of_ble_eq_true rfl, Nat.le_of_ble_eq_true rfl⟩ dX12_byNext_37 (fun hk => mX12_of Y hF _ _ _ _ _ _ (kqO hk qa0) h) (fun v M_5 h => ?_)
        obtain ⟨r_6, rfl, h⟩ := h
        refine r_aload_n hC 0 dX12_byNext_40 rfl rfl ?_
        refine r_aload_n hC 0 dX12_byNext_41 rfl rfl ?_
        have q_7 : 0 < a0 + 7 ∧ M0 0 (a0 + 7) = kA 0 12 := lay_f0 (a := a0) hL qa0 fm_12_12
        refine r_getR0 (a' := a0 + 7) hC fg_X12_28 rfl hF fm_12_12 qa0.1 qa0.2 rfl dX12_byNext_42 ?_
        refine r_iload hC 4 dX12_byNext_45 rfl ?_
        obtain ⟨i_8, h⟩ := h
        refine r_iald hC i_8 q_7.1 q_7.2 (by decide) dX12_byNext_47 ?_
        refine r_iconst hC dX12_byNext_48 ?_
        refine r_callV (As := [vI (rd M_5 (a0 + 7) x4), vI 1]) (st := [vI r_6]) hC cw_X12_91 rfl qa0.1 qa0.2 rfl rfl (Nat.le_of_ble_eq_true rfl) ⟨Nat.le_of_ble_eq_true rfl, Nat.le_of_ble_eq_true rfl⟩ ⟨Nat.le_of_ble_eq_true rfl, Nat.le_of_ble_eq_true rfl⟩ dX12_byNext_49 (fun hk => mX12_of Y hF _ _ _ _ _ _ (kqO hk qa0) h) (fun v M_9 h => ?_)
        obtain ⟨r_10, rfl, h⟩ := h
        refine r_isub hC dX12_byNext_52 ?_
        refine r_nameI h (fun x5_11 h => ?_)
        refine r_istore (lv' := [(5, vI x5_11), (0, vR Y.1 a0), (1, vI x1), (2, vI x2), (3, vI x3), (4, vI x4)]) hC dX12_byNext_53 (by decide) rfl ?_
        refine r_iload hC 0 dX12_byNext_55 rfl ?_
        refine r_if_ge hC 66 rfl dX12_byNext_57 (by decide) (fun cq => ?_) (fun cq => ?_)
        · replace h := h.1 cq
          refine r_iload hC 0 dX12_byNext_66 rfl ?_
          refine r_sub [1, 2, 3, 4, 5] rfl ?_
          exact tX12_byNext_J68 hC hF hL Q _  _ _ _ _ _ _ qa0 ih _ h
        · replace h := h.2 cq
          refine r_iload hC 0 dX12_byNext_60 rfl ?_
          refine r_ineg hC dX12_byNext_62 ?_
          refine r_goto hC 68 dX12_byNext_63 (by decide) ?_
          refine r_sub [1, 2, 3, 4, 5] rfl ?_
          exact tX12_byNext_J68 hC hF hL Q _  _ _ _ _ _ _ qa0 ih _ h
      · replace h := h.2 cq
        refine r_goto hC 199 dX12_byNext_23 (by decide) ?_
        refine let_elim h (fun x4_46 e_47 h => ?_)
        refine r_iinc (lv' := [(4, vI x4_46), (0, vR Y.1 a0), (1, vI x1), (2, vI x2), (3, vI x3)]) hC 4 dX12_byNext_199 rfl (by decide) e_47 rfl ?_
        refine r_goto hC 5 dX12_byNext_202 (by decide) ?_
        refine r_sub [1, 2, 3, 4, 0] rfl ?_
        exact ih _ _ _ h
set_option maxHeartbeats 4000000 in
set_option maxRecDepth 100000 in
theorem mX12_byNext (Y : Yx) (hF : Y.2.2.2.2 = true) (l : Launch) (a0 : Nat) (x1 : Int) (x2 : Int) (M0 : Mem) (Q : Int → Mem → Prop) (qa0 : 0 < a0 ∧ M0 0 a0 = kO 12) (h : wX12_byNext a0 x1 x2 M0 Q) : CT Y l yX12_byNext cX12_byNext 6 (some .int) rmX12_byNext [vR Y.1 a0, vI x1, vI x2] M0 (QI Q) := by
  unfold wX12_byNext at h
  refine ct_intro (by decide) (Nat.le_of_ble_eq_true rfl) ?_
  intro X hXl hC hL0
  have hL := hL0 hF
  change OKX X Y RX12 cX12_byNext 6 (some .int) rmX12_byNext at hC
  change WW X Y 6 rmX12_byNext (QI Q) M0 0 0 0 [(0, vR Y.1 a0), (1, vI x1), (2, vI x2)] [] M0
  refine r_iconst hC dX12_byNext_0 ?_
  refine r_istore_n (lv' := [(3, vI 0), (0, vR Y.1 a0), (1, vI x1), (2, vI x2)]) hC dX12_byNext_1 rfl (by decide) rfl ?_
  refine r_iconst hC dX12_byNext_2 ?_
  refine r_istore (lv' := [(4, vI 1), (3, vI 0), (0, vR Y.1 a0), (1, vI x1), (2, vI x2)]) hC dX12_byNext_3 (by decide) rfl ?_
  refine r_sub [2, 3, 4, 1, 0] rfl ?_
  obtain ⟨N_48, h⟩ := h
  refine tX12_byNext_L5 hC hF hL Q  _ _ _ qa0  N_48 _ _ _ h
theorem dX12_bySince_0 : dec cX12_bySince 0 1 1 (.iconst 0) := ⟨by decide +kernel, rfl⟩
theorem dX12_bySince_1 : dec cX12_bySince 1 1 2 (.istore_n 2) := ⟨by decide +kernel, rfl⟩
theorem dX12_bySince_2 : dec cX12_bySince 2 1 3 (.iconst 1) := ⟨by decide +kernel, rfl⟩
theorem dX12_bySince_3 : dec cX12_bySince 3 1 4 (.istore_n 3) := ⟨by decide +kernel, rfl⟩
theorem dX12_bySince_4 : dec cX12_bySince 4 1 5 (.iload_n 3) := ⟨by decide +kernel, rfl⟩
theorem dX12_bySince_5 : dec cX12_bySince 5 1 6 (.aload_n 0) := ⟨by decide +kernel, rfl⟩
theorem dX12_bySince_6 : dec cX12_bySince 6 3 9 (.getfield 162) := ⟨by decide +kernel, rfl⟩
theorem dX12_bySince_9 : dec cX12_bySince 9 3 12 (.if_icmp .ge 99) := ⟨by decide +kernel, rfl⟩
theorem dX12_bySince_12 : dec cX12_bySince 12 1 13 (.iload_n 3) := ⟨by decide +kernel, rfl⟩
theorem dX12_bySince_13 : dec cX12_bySince 13 1 14 (.iconst 1) := ⟨by decide +kernel, rfl⟩
theorem dX12_bySince_14 : dec cX12_bySince 14 1 15 (.isub) := ⟨by decide +kernel, rfl⟩
theorem dX12_bySince_15 : dec cX12_bySince 15 2 17 (.istore 4) := ⟨by decide +kernel, rfl⟩
theorem dX12_bySince_17 : dec cX12_bySince 17 2 19 (.iload 4) := ⟨by decide +kernel, rfl⟩
theorem dX12_bySince_19 : dec cX12_bySince 19 3 22 (.ifCond .lt 35) := ⟨by decide +kernel, rfl⟩
theorem dX12_bySince_22 : dec cX12_bySince 22 1 23 (.aload_n 0) := ⟨by decide +kernel, rfl⟩
theorem dX12_bySince_23 : dec cX12_bySince 23 1 24 (.aload_n 0) := ⟨by decide +kernel, rfl⟩
theorem dX12_bySince_24 : dec cX12_bySince 24 3 27 (.getfield 28) := ⟨by decide +kernel, rfl⟩
theorem dX12_bySince_27 : dec cX12_bySince 27 2 29 (.iload 4) := ⟨by decide +kernel, rfl⟩
theorem dX12_bySince_29 : dec cX12_bySince 29 1 30 (.iaload) := ⟨by decide +kernel, rfl⟩
theorem dX12_bySince_30 : dec cX12_bySince 30 1 31 (.iconst 1) := ⟨by decide +kernel, rfl⟩
theorem dX12_bySince_31 : dec cX12_bySince 31 3 34 (.invokevirtual 91) := ⟨by decide +kernel, rfl⟩
theorem dX12_bySince_34 : dec cX12_bySince 34 1 35 (.aload_n 0) := ⟨by decide +kernel, rfl⟩
theorem dX12_bySince_35 : dec cX12_bySince 35 1 36 (.aload_n 0) := ⟨by decide +kernel, rfl⟩
theorem dX12_bySince_36 : dec cX12_bySince 36 3 39 (.getfield 28) := ⟨by decide +kernel, rfl⟩
theorem dX12_bySince_39 : dec cX12_bySince 39 1 40 (.iload_n 3) := ⟨by decide +kernel, rfl⟩
theorem dX12_bySince_40 : dec cX12_bySince 40 1 41 (.iaload) := ⟨by decide +kernel, rfl⟩
theorem dX12_bySince_41 : dec cX12_bySince 41 1 42 (.iconst 1) := ⟨by decide +kernel, rfl⟩
theorem dX12_bySince_42 : dec cX12_bySince 42 3 45 (.invokevirtual 91) := ⟨by decide +kernel, rfl⟩
theorem dX12_bySince_45 : dec cX12_bySince 45 3 48 (.if_icmp .eq 9) := ⟨by decide +kernel, rfl⟩
theorem dX12_bySince_48 : dec cX12_bySince 48 3 51 (.iinc 4 (-1)) := ⟨by decide +kernel, rfl⟩
theorem dX12_bySince_51 : dec cX12_bySince 51 3 54 (.goto (-34)) := ⟨by decide +kernel, rfl⟩
theorem dX12_bySince_54 : dec cX12_bySince 54 2 56 (.iload 4) := ⟨by decide +kernel, rfl⟩
theorem dX12_bySince_56 : dec cX12_bySince 56 3 59 (.ifCond .lt 46) := ⟨by decide +kernel, rfl⟩
theorem dX12_bySince_59 : dec cX12_bySince 59 1 60 (.aload_n 0) := ⟨by decide +kernel, rfl⟩
theorem dX12_bySince_60 : dec cX12_bySince 60 3 63 (.getfield 22) := ⟨by decide +kernel, rfl⟩
theorem dX12_bySince_63 : dec cX12_bySince 63 2 65 (.bipush 109) := ⟨by decide +kernel, rfl⟩
theorem dX12_bySince_65 : dec cX12_bySince 65 1 66 (.aload_n 0) := ⟨by decide +kernel, rfl⟩
theorem dX12_bySince_66 : dec cX12_bySince 66 3 69 (.getfield 31) := ⟨by decide +kernel, rfl⟩
theorem dX12_bySince_69 : dec cX12_bySince 69 1 70 (.iload_n 3) := ⟨by decide +kernel, rfl⟩
theorem dX12_bySince_70 : dec cX12_bySince 70 1 71 (.iaload) := ⟨by decide +kernel, rfl⟩
theorem dX12_bySince_71 : dec cX12_bySince 71 1 72 (.aload_n 0) := ⟨by decide +kernel, rfl⟩
theorem dX12_bySince_72 : dec cX12_bySince 72 3 75 (.getfield 34) := ⟨by decide +kernel, rfl⟩
theorem dX12_bySince_75 : dec cX12_bySince 75 2 77 (.iload 4) := ⟨by decide +kernel, rfl⟩
theorem dX12_bySince_77 : dec cX12_bySince 77 1 78 (.iaload) := ⟨by decide +kernel, rfl⟩
theorem dX12_bySince_78 : dec cX12_bySince 78 1 79 (.isub) := ⟨by decide +kernel, rfl⟩
theorem dX12_bySince_79 : dec cX12_bySince 79 1 80 (.iastore) := ⟨by decide +kernel, rfl⟩
theorem dX12_bySince_80 : dec cX12_bySince 80 1 81 (.iload_n 2) := ⟨by decide +kernel, rfl⟩
theorem dX12_bySince_81 : dec cX12_bySince 81 1 82 (.aload_n 0) := ⟨by decide +kernel, rfl⟩
theorem dX12_bySince_82 : dec cX12_bySince 82 1 83 (.iload_n 1) := ⟨by decide +kernel, rfl⟩
theorem dX12_bySince_83 : dec cX12_bySince 83 1 84 (.aload_n 0) := ⟨by decide +kernel, rfl⟩
theorem dX12_bySince_84 : dec cX12_bySince 84 3 87 (.getfield 31) := ⟨by decide +kernel, rfl⟩
theorem dX12_bySince_87 : dec cX12_bySince 87 1 88 (.iload_n 3) := ⟨by decide +kernel, rfl⟩
theorem dX12_bySince_88 : dec cX12_bySince 88 1 89 (.iaload) := ⟨by decide +kernel, rfl⟩
theorem dX12_bySince_89 : dec cX12_bySince 89 1 90 (.aload_n 0) := ⟨by decide +kernel, rfl⟩
theorem dX12_bySince_90 : dec cX12_bySince 90 3 93 (.getfield 34) := ⟨by decide +kernel, rfl⟩
theorem dX12_bySince_93 : dec cX12_bySince 93 2 95 (.iload 4) := ⟨by decide +kernel, rfl⟩
theorem dX12_bySince_95 : dec cX12_bySince 95 1 96 (.iaload) := ⟨by decide +kernel, rfl⟩
theorem dX12_bySince_96 : dec cX12_bySince 96 1 97 (.isub) := ⟨by decide +kernel, rfl⟩
theorem dX12_bySince_97 : dec cX12_bySince 97 3 100 (.invokevirtual 186) := ⟨by decide +kernel, rfl⟩
theorem dX12_bySince_100 : dec cX12_bySince 100 1 101 (.iadd) := ⟨by decide +kernel, rfl⟩
theorem dX12_bySince_101 : dec cX12_bySince 101 1 102 (.istore_n 2) := ⟨by decide +kernel, rfl⟩
theorem dX12_bySince_102 : dec cX12_bySince 102 3 105 (.iinc 3 1) := ⟨by decide +kernel, rfl⟩
theorem dX12_bySince_105 : dec cX12_bySince 105 3 108 (.goto (-101)) := ⟨by decide +kernel, rfl⟩
theorem dX12_bySince_108 : dec cX12_bySince 108 1 109 (.iload_n 2) := ⟨by decide +kernel, rfl⟩
theorem dX12_bySince_109 : dec cX12_bySince 109 1 110 (.ireturn) := ⟨by decide +kernel, rfl⟩
set_option maxHeartbeats 4000000 in
set_option maxRecDepth 100000 in
theorem tX12_bySince_L17 {X : Cx} {Y : Yx} {M0 : Mem} (hC : OKX X Y RX12 cX12_bySince 5 (some .int) rmX12_bySince) (hF : Y.2.2.2.2 = true) (hL : Lay M0) (Q : Int → Mem → Prop) (E54 : Int → Mem → Prop) (a0 : Nat) (x1 : Int) (x2 : Int) (x3 : Int) (qa0 : 0 < a0 ∧ M0 0 a0 = kO 12) (hE54 : ∀ (x4 : Int) (M : Mem), E54 x4 M → WW X Y 5 rmX12_bySince (QI Q) M0 0 0 54 [(0, vR Y.1 a0), (1, vI x1), (2, vI x2), (3, vI x3), (4, vI x4)] [] M) : ∀ (N : Nat) (x4 : Int) (M : Mem) (_ : wX12_bySince_L17 Q E54 a0 x1 x2 x3 N x4 M), WW X Y 5 rmX12_bySince (QI Q) M0 0 0 17 [(0, vR Y.1 a0), (1, vI x1), (2, vI x2), (3, vI x3), (4, vI x4)] [] M := by
  intro N
  induction N with
  | zero =>
    intro x4 M h
    exact h.elim
  | succ N ih =>
    intro x4 M h
    unfold wX12_bySince_L17 at h
    refine r_iload hC 4 dX12_bySince_17 rfl ?_
    refine r_if_lt hC 54 rfl dX12_bySince_19 (by decide) (fun cq => ?_) (fun cq => ?_)
    · replace h := h.1 cq
      refine r_sub [0, 1, 2, 3, 4] rfl ?_
      exact hE54 _ _ h
    · replace h := h.2 cq
      refine r_aload_n hC 0 dX12_bySince_22 rfl rfl ?_
      refine r_aload_n hC 0 dX12_bySince_23 rfl rfl ?_
      have q_2 : 0 < a0 + 7 ∧ M0 0 (a0 + 7) = kA 0 12 := lay_f0 (a := a0) hL qa0 fm_12_12
      refine r_getR0 (a' := a0 + 7) hC fg_X12_28 rfl hF fm_12_12 qa0.1 qa0.2 rfl dX12_bySince_24 ?_
      refine r_iload hC 4 dX12_bySince_27 rfl ?_
      obtain ⟨i_3, h⟩ := h
      refine r_iald hC i_3 q_2.1 q_2.2 (by decide) dX12_bySince_29 ?_
      refine r_iconst hC dX12_bySince_30 ?_
      refine r_callV (As := [vI (rd M (a0 + 7) x4), vI 1]) (st := []) hC cw_X12_91 rfl qa0.1 qa0.2 rfl rfl (Nat.le_of_ble_eq_true rfl) ⟨Nat.le_of_ble_eq_true rfl, Nat.le_of_ble_eq_true rfl⟩ ⟨Nat.le_of_ble_eq_true rfl, Nat.le_of_ble_eq_true rfl⟩ dX12_bySince_31 (fun hk => mX12_of Y hF _ _ _ _ _ _ (kqO hk qa0) h) (fun v M_4 h => ?_)
      obtain ⟨r_5, rfl, h⟩ := h
      refine r_aload_n hC 0 dX12_bySince_34 rfl rfl ?_
      refine r_aload_n hC 0 dX12_bySince_35 rfl rfl ?_
      have q_6 : 0 < a0 + 7 ∧ M0 0 (a0 + 7) = kA 0 12 := lay_f0 (a := a0) hL qa0 fm_12_12
      refine r_getR0 (a' := a0 + 7) hC fg_X12_28 rfl hF fm_12_12 qa0.1 qa0.2 rfl dX12_bySince_36 ?_
      refine r_iload_n hC 3 dX12_bySince_39 rfl rfl ?_
      obtain ⟨i_7, h⟩ := h
      refine r_iald hC i_7 q_6.1 q_6.2 (by decide) dX12_bySince_40 ?_
      refine r_iconst hC dX12_bySince_41 ?_
      refine r_callV (As := [vI (rd M_4 (a0 + 7) x3), vI 1]) (st := [vI r_5]) hC cw_X12_91 rfl qa0.1 qa0.2 rfl rfl (Nat.le_of_ble_eq_true rfl) ⟨Nat.le_of_ble_eq_true rfl, Nat.le_of_ble_eq_true rfl⟩ ⟨Nat.le_of_ble_eq_true rfl, Nat.le_of_ble_eq_true rfl⟩ dX12_bySince_42 (fun hk => mX12_of Y hF _ _ _ _ _ _ (kqO hk qa0) h) (fun v M_8 h => ?_)
      obtain ⟨r_9, rfl, h⟩ := h
      refine r_icmp_eq hC 54 rfl rfl dX12_bySince_45 (by decide) (fun cq => ?_) (fun cq => ?_)
      · replace h := h.1 cq
        refine r_sub [0, 1, 2, 3, 4] rfl ?_
        exact hE54 _ _ h
      · replace h := h.2 cq
        refine let_elim h (fun x4_10 e_11 h => ?_)
        refine r_iinc (lv' := [(4, vI x4_10), (0, vR Y.1 a0), (1, vI x1), (2, vI x2), (3, vI x3)]) hC 4 dX12_bySince_48 rfl (by decide) e_11 rfl ?_
        refine r_goto hC 17 dX12_bySince_51 (by decide) ?_
        refine r_sub [1, 2, 3, 4, 0] rfl ?_
        exact ih _ _ h
set_option maxHeartbeats 4000000 in
set_option maxRecDepth 100000 in
theorem tX12_bySince_J54 {X : Cx} {Y : Yx} {M0 : Mem} (hC : OKX X Y RX12 cX12_bySince 5 (some .int) rmX12_bySince) (hF : Y.2.2.2.2 = true) (hL : Lay M0) (Q : Int → Mem → Prop) (C4 : Int → Int → Mem → Prop)  (a0 : Nat) (x1 : Int) (x2 : Int) (x3 : Int) (x4 : Int) (qa0 : 0 < a0 ∧ M0 0 a0 = kO 12) (hC4 : ∀ (x2 : Int) (x3 : Int) (M : Mem), C4 x2 x3 M → WW X Y 5 rmX12_bySince (QI Q) M0 0 0 4 [(0, vR Y.1 a0), (1, vI x1), (2, vI x2), (3, vI x3)] [] M) (M : Mem) (h : wX12_bySince_J54 Q C4 a0 x1 x2 x3 x4 M) : WW X Y 5 rmX12_bySince (QI Q) M0 0 0 54 [(0, vR Y.1 a0), (1, vI x1), (2, vI x2), (3, vI x3), (4, vI x4)] [] M := by
  unfold wX12_bySince_J54 at h
  refine r_iload hC 4 dX12_bySince_54 rfl ?_
  refine r_if_lt hC 102 rfl dX12_bySince_56 (by decide) (fun cq => ?_) (fun cq => ?_)
  · replace h := h.1 cq
    refine let_elim h (fun x3_14 e_15 h => ?_)
    refine r_iinc (lv' := [(3, vI x3_14), (0, vR Y.1 a0), (1, vI x1), (2, vI x2), (4, vI x4)]) hC 3 dX12_bySince_102 rfl (by decide) e_15 rfl ?_
    refine r_goto hC 4 dX12_bySince_105 (by decide) ?_
    refine r_sub [1, 2, 3, 0] rfl ?_
    exact hC4 _ _ _ h
  · replace h := h.2 cq
    refine r_aload_n hC 0 dX12_bySince_59 rfl rfl ?_
    have q_16 : 0 < a0 + 5 ∧ M0 0 (a0 + 5) = kA 0 128 := lay_f0 (a := a0) hL qa0 fm_12_10
    refine r_getR0 (a' := a0 + 5) hC fg_X12_22 rfl hF fm_12_10 qa0.1 qa0.2 rfl dX12_bySince_60 ?_
    refine r_bipush hC (by decide +kernel) dX12_bySince_63 ?_
    refine r_aload_n hC 0 dX12_bySince_65 rfl rfl ?_
    have q_17 : 0 < a0 + 8 ∧ M0 0 (a0 + 8) = kA 0 12 := lay_f0 (a := a0) hL qa0 fm_12_15
    refine r_getR0 (a' := a0 + 8) hC fg_X12_31 rfl hF fm_12_15 qa0.1 qa0.2 rfl dX12_bySince_66 ?_
    refine r_iload_n hC 3 dX12_bySince_69 rfl rfl ?_
    obtain ⟨i_18, h⟩ := h
    refine r_iald hC i_18 q_17.1 q_17.2 (by decide) dX12_bySince_70 ?_
    refine r_aload_n hC 0 dX12_bySince_71 rfl rfl ?_
    have q_19 : 0 < a0 + 9 ∧ M0 0 (a0 + 9) = kA 0 12 := lay_f0 (a := a0) hL qa0 fm_12_16
    refine r_getR0 (a' := a0 + 9) hC fg_X12_34 rfl hF fm_12_16 qa0.1 qa0.2 rfl dX12_bySince_72 ?_
    refine r_iload hC 4 dX12_bySince_75 rfl ?_
    obtain ⟨i_20, h⟩ := h
    refine r_iald hC i_20 q_19.1 q_19.2 (by decide) dX12_bySince_77 ?_
    refine r_isub hC dX12_bySince_78 ?_
    refine r_iast hC ⟨by decide +kernel, by decide +kernel⟩ q_16.1 q_16.2 (by decide) dX12_bySince_79 ?_
    refine r_nameM h (fun M_21 h => ?_)
    refine r_iload_n hC 2 dX12_bySince_80 rfl rfl ?_
    refine r_aload_n hC 0 dX12_bySince_81 rfl rfl ?_
    refine r_iload_n hC 1 dX12_bySince_82 rfl rfl ?_
    refine r_aload_n hC 0 dX12_bySince_83 rfl rfl ?_
    have q_22 : 0 < a0 + 8 ∧ M0 0 (a0 + 8) = kA 0 12 := lay_f0 (a := a0) hL qa0 fm_12_15
    refine r_getR0 (a' := a0 + 8) hC fg_X12_31 rfl hF fm_12_15 qa0.1 qa0.2 rfl dX12_bySince_84 ?_
    refine r_iload_n hC 3 dX12_bySince_87 rfl rfl ?_
    obtain ⟨i_23, h⟩ := h
    refine r_iald hC i_23 q_22.1 q_22.2 (by decide) dX12_bySince_88 ?_
    refine r_aload_n hC 0 dX12_bySince_89 rfl rfl ?_
    have q_24 : 0 < a0 + 9 ∧ M0 0 (a0 + 9) = kA 0 12 := lay_f0 (a := a0) hL qa0 fm_12_16
    refine r_getR0 (a' := a0 + 9) hC fg_X12_34 rfl hF fm_12_16 qa0.1 qa0.2 rfl dX12_bySince_90 ?_
    refine r_iload hC 4 dX12_bySince_93 rfl ?_
    obtain ⟨i_25, h⟩ := h
    refine r_iald hC i_25 q_24.1 q_24.2 (by decide) dX12_bySince_95 ?_
    refine r_isub hC dX12_bySince_96 ?_
    refine r_callV (As := [vI x1, vI ((rd M_21 (a0 + 8) x3) - (rd M_21 (a0 + 9) x4))]) (st := [vI x2]) hC cw_X12_186 rfl qa0.1 qa0.2 rfl rfl (Nat.le_of_ble_eq_true rfl) ⟨Nat.le_of_ble_eq_true rfl, Nat.le_of_ble_eq_true rfl⟩ ⟨Nat.le_of_ble_eq_true rfl, Nat.le_of_ble_eq_true rfl⟩ dX12_bySince_97 (fun hk => mX12_worked Y hF _ _ _ _ _ _ (kqO hk qa0) h) (fun v M_26 h => ?_)
    obtain ⟨r_27, rfl, h⟩ := h
    refine r_iadd hC dX12_bySince_100 ?_
    refine r_nameI h (fun x2_28 h => ?_)
    refine r_istore_n (lv' := [(2, vI x2_28), (0, vR Y.1 a0), (1, vI x1), (3, vI x3), (4, vI x4)]) hC dX12_bySince_101 rfl (by decide) rfl ?_
    refine let_elim h (fun x3_29 e_30 h => ?_)
    refine r_iinc (lv' := [(3, vI x3_29), (2, vI x2_28), (0, vR Y.1 a0), (1, vI x1), (4, vI x4)]) hC 3 dX12_bySince_102 rfl (by decide) e_30 rfl ?_
    refine r_goto hC 4 dX12_bySince_105 (by decide) ?_
    refine r_sub [2, 3, 1, 0] rfl ?_
    exact hC4 _ _ _ h
set_option maxHeartbeats 4000000 in
set_option maxRecDepth 100000 in
theorem tX12_bySince_L4 {X : Cx} {Y : Yx} {M0 : Mem} (hC : OKX X Y RX12 cX12_bySince 5 (some .int) rmX12_bySince) (hF : Y.2.2.2.2 = true) (hL : Lay M0) (Q : Int → Mem → Prop)  (a0 : Nat) (x1 : Int) (qa0 : 0 < a0 ∧ M0 0 a0 = kO 12)  : ∀ (N : Nat) (x2 : Int) (x3 : Int) (M : Mem) (_ : wX12_bySince_L4 Q  a0 x1 N x2 x3 M), WW X Y 5 rmX12_bySince (QI Q) M0 0 0 4 [(0, vR Y.1 a0), (1, vI x1), (2, vI x2), (3, vI x3)] [] M := by
  intro N
  induction N with
  | zero =>
    intro x2 x3 M h
    exact h.elim
  | succ N ih =>
    intro x2 x3 M h
    unfold wX12_bySince_L4 at h
    refine r_iload_n hC 3 dX12_bySince_4 rfl rfl ?_
    refine r_aload_n hC 0 dX12_bySince_5 rfl rfl ?_
    refine r_getI hC fg_X12_162 rfl qa0.1 qa0.2 dX12_bySince_6 ?_
    refine r_icmp_ge hC 108 rfl rfl dX12_bySince_9 (by decide) (fun cq => ?_) (fun cq => ?_)
    · replace h := h.1 cq
      refine r_iload_n hC 2 dX12_bySince_108 rfl rfl ?_
      exact r_iret hC (Nat.zero_le _) (Nat.zero_le _) dX12_bySince_109 ⟨_, rfl, h⟩
    · replace h := h.2 cq
      refine r_iload_n hC 3 dX12_bySince_12 rfl rfl ?_
      refine r_iconst hC dX12_bySince_13 ?_
      refine r_isub hC dX12_bySince_14 ?_
      refine r_nameI h (fun x4_1 h => ?_)
      refine r_istore (lv' := [(4, vI x4_1), (0, vR Y.1 a0), (1, vI x1), (2, vI x2), (3, vI x3)]) hC dX12_bySince_15 (by decide) rfl ?_
      refine r_sub [1, 2, 3, 4, 0] rfl ?_
      obtain ⟨N_31, h⟩ := h
      refine tX12_bySince_L17 hC hF hL Q _ _ _ _ _ qa0 ?_ N_31 _ _ h
      · intro x4_12 M_13 h
        refine r_sub [0, 1, 2, 3, 4] rfl ?_
        exact tX12_bySince_J54 hC hF hL Q _  _ _ _ _ _ qa0 ih _ h
set_option maxHeartbeats 4000000 in
set_option maxRecDepth 100000 in
theorem mX12_bySince (Y : Yx) (hF : Y.2.2.2.2 = true) (l : Launch) (a0 : Nat) (x1 : Int) (M0 : Mem) (Q : Int → Mem → Prop) (qa0 : 0 < a0 ∧ M0 0 a0 = kO 12) (h : wX12_bySince a0 x1 M0 Q) : CT Y l yX12_bySince cX12_bySince 5 (some .int) rmX12_bySince [vR Y.1 a0, vI x1] M0 (QI Q) := by
  unfold wX12_bySince at h
  refine ct_intro (by decide) (Nat.le_of_ble_eq_true rfl) ?_
  intro X hXl hC hL0
  have hL := hL0 hF
  change OKX X Y RX12 cX12_bySince 5 (some .int) rmX12_bySince at hC
  change WW X Y 5 rmX12_bySince (QI Q) M0 0 0 0 [(0, vR Y.1 a0), (1, vI x1)] [] M0
  refine r_iconst hC dX12_bySince_0 ?_
  refine r_istore_n (lv' := [(2, vI 0), (0, vR Y.1 a0), (1, vI x1)]) hC dX12_bySince_1 rfl (by decide) rfl ?_
  refine r_iconst hC dX12_bySince_2 ?_
  refine r_istore_n (lv' := [(3, vI 1), (2, vI 0), (0, vR Y.1 a0), (1, vI x1)]) hC dX12_bySince_3 rfl (by decide) rfl ?_
  refine r_sub [2, 3, 1, 0] rfl ?_
  obtain ⟨N_32, h⟩ := h
  refine tX12_bySince_L4 hC hF hL Q  _ _ qa0  N_32 _ _ _ h
theorem dX12_byPlace_0 : dec cX12_byPlace 0 1 1 (.iconst 0) := ⟨by decide +kernel, rfl⟩
theorem dX12_byPlace_1 : dec cX12_byPlace 1 1 2 (.istore_n 2) := ⟨by decide +kernel, rfl⟩
theorem dX12_byPlace_2 : dec cX12_byPlace 2 1 3 (.iconst 0) := ⟨by decide +kernel, rfl⟩
theorem dX12_byPlace_3 : dec cX12_byPlace 3 1 4 (.istore_n 3) := ⟨by decide +kernel, rfl⟩
theorem dX12_byPlace_4 : dec cX12_byPlace 4 1 5 (.iload_n 3) := ⟨by decide +kernel, rfl⟩
theorem dX12_byPlace_5 : dec cX12_byPlace 5 1 6 (.aload_n 0) := ⟨by decide +kernel, rfl⟩
theorem dX12_byPlace_6 : dec cX12_byPlace 6 3 9 (.getfield 162) := ⟨by decide +kernel, rfl⟩
theorem dX12_byPlace_9 : dec cX12_byPlace 9 3 12 (.if_icmp .ge 111) := ⟨by decide +kernel, rfl⟩
theorem dX12_byPlace_12 : dec cX12_byPlace 12 1 13 (.aload_n 0) := ⟨by decide +kernel, rfl⟩
theorem dX12_byPlace_13 : dec cX12_byPlace 13 3 16 (.getfield 22) := ⟨by decide +kernel, rfl⟩
theorem dX12_byPlace_16 : dec cX12_byPlace 16 2 18 (.bipush 112) := ⟨by decide +kernel, rfl⟩
theorem dX12_byPlace_18 : dec cX12_byPlace 18 1 19 (.iload_n 3) := ⟨by decide +kernel, rfl⟩
theorem dX12_byPlace_19 : dec cX12_byPlace 19 1 20 (.iastore) := ⟨by decide +kernel, rfl⟩
theorem dX12_byPlace_20 : dec cX12_byPlace 20 1 21 (.aload_n 0) := ⟨by decide +kernel, rfl⟩
theorem dX12_byPlace_21 : dec cX12_byPlace 21 3 24 (.getfield 22) := ⟨by decide +kernel, rfl⟩
theorem dX12_byPlace_24 : dec cX12_byPlace 24 2 26 (.bipush 110) := ⟨by decide +kernel, rfl⟩
theorem dX12_byPlace_26 : dec cX12_byPlace 26 1 27 (.aload_n 0) := ⟨by decide +kernel, rfl⟩
theorem dX12_byPlace_27 : dec cX12_byPlace 27 3 30 (.getfield 162) := ⟨by decide +kernel, rfl⟩
theorem dX12_byPlace_30 : dec cX12_byPlace 30 1 31 (.iastore) := ⟨by decide +kernel, rfl⟩
theorem dX12_byPlace_31 : dec cX12_byPlace 31 1 32 (.aload_n 0) := ⟨by decide +kernel, rfl⟩
theorem dX12_byPlace_32 : dec cX12_byPlace 32 3 35 (.getfield 22) := ⟨by decide +kernel, rfl⟩
theorem dX12_byPlace_35 : dec cX12_byPlace 35 2 37 (.bipush 108) := ⟨by decide +kernel, rfl⟩
theorem dX12_byPlace_37 : dec cX12_byPlace 37 1 38 (.aload_n 0) := ⟨by decide +kernel, rfl⟩
theorem dX12_byPlace_38 : dec cX12_byPlace 38 1 39 (.aload_n 0) := ⟨by decide +kernel, rfl⟩
theorem dX12_byPlace_39 : dec cX12_byPlace 39 3 42 (.getfield 28) := ⟨by decide +kernel, rfl⟩
theorem dX12_byPlace_42 : dec cX12_byPlace 42 1 43 (.iload_n 3) := ⟨by decide +kernel, rfl⟩
theorem dX12_byPlace_43 : dec cX12_byPlace 43 1 44 (.iaload) := ⟨by decide +kernel, rfl⟩
theorem dX12_byPlace_44 : dec cX12_byPlace 44 1 45 (.iconst 2) := ⟨by decide +kernel, rfl⟩
theorem dX12_byPlace_45 : dec cX12_byPlace 45 3 48 (.invokevirtual 91) := ⟨by decide +kernel, rfl⟩
theorem dX12_byPlace_48 : dec cX12_byPlace 48 1 49 (.iastore) := ⟨by decide +kernel, rfl⟩
theorem dX12_byPlace_49 : dec cX12_byPlace 49 1 50 (.aload_n 0) := ⟨by decide +kernel, rfl⟩
theorem dX12_byPlace_50 : dec cX12_byPlace 50 3 53 (.getfield 22) := ⟨by decide +kernel, rfl⟩
theorem dX12_byPlace_53 : dec cX12_byPlace 53 2 55 (.bipush 105) := ⟨by decide +kernel, rfl⟩
theorem dX12_byPlace_55 : dec cX12_byPlace 55 1 56 (.iload_n 3) := ⟨by decide +kernel, rfl⟩
theorem dX12_byPlace_56 : dec cX12_byPlace 56 1 57 (.aload_n 0) := ⟨by decide +kernel, rfl⟩
theorem dX12_byPlace_57 : dec cX12_byPlace 57 3 60 (.getfield 162) := ⟨by decide +kernel, rfl⟩
theorem dX12_byPlace_60 : dec cX12_byPlace 60 1 61 (.iconst 1) := ⟨by decide +kernel, rfl⟩
theorem dX12_byPlace_61 : dec cX12_byPlace 61 1 62 (.isub) := ⟨by decide +kernel, rfl⟩
theorem dX12_byPlace_62 : dec cX12_byPlace 62 3 65 (.if_icmp .eq 13) := ⟨by decide +kernel, rfl⟩
theorem dX12_byPlace_65 : dec cX12_byPlace 65 1 66 (.aload_n 0) := ⟨by decide +kernel, rfl⟩
theorem dX12_byPlace_66 : dec cX12_byPlace 66 1 67 (.iload_n 3) := ⟨by decide +kernel, rfl⟩
theorem dX12_byPlace_67 : dec cX12_byPlace 67 1 68 (.iconst 1) := ⟨by decide +kernel, rfl⟩
theorem dX12_byPlace_68 : dec cX12_byPlace 68 1 69 (.iadd) := ⟨by decide +kernel, rfl⟩
theorem dX12_byPlace_69 : dec cX12_byPlace 69 3 72 (.invokevirtual 165) := ⟨by decide +kernel, rfl⟩
theorem dX12_byPlace_72 : dec cX12_byPlace 72 3 75 (.ifCond .eq 7) := ⟨by decide +kernel, rfl⟩
theorem dX12_byPlace_75 : dec cX12_byPlace 75 1 76 (.iconst 1) := ⟨by decide +kernel, rfl⟩
theorem dX12_byPlace_76 : dec cX12_byPlace 76 3 79 (.goto 4) := ⟨by decide +kernel, rfl⟩
theorem dX12_byPlace_79 : dec cX12_byPlace 79 1 80 (.iconst 0) := ⟨by decide +kernel, rfl⟩
theorem dX12_byPlace_80 : dec cX12_byPlace 80 1 81 (.iastore) := ⟨by decide +kernel, rfl⟩
theorem dX12_byPlace_81 : dec cX12_byPlace 81 1 82 (.aload_n 0) := ⟨by decide +kernel, rfl⟩
theorem dX12_byPlace_82 : dec cX12_byPlace 82 3 85 (.getfield 22) := ⟨by decide +kernel, rfl⟩
theorem dX12_byPlace_85 : dec cX12_byPlace 85 2 87 (.bipush 106) := ⟨by decide +kernel, rfl⟩
theorem dX12_byPlace_87 : dec cX12_byPlace 87 1 88 (.iload_n 3) := ⟨by decide +kernel, rfl⟩
theorem dX12_byPlace_88 : dec cX12_byPlace 88 3 91 (.ifCond .eq 11) := ⟨by decide +kernel, rfl⟩
theorem dX12_byPlace_91 : dec cX12_byPlace 91 1 92 (.aload_n 0) := ⟨by decide +kernel, rfl⟩
theorem dX12_byPlace_92 : dec cX12_byPlace 92 1 93 (.iload_n 3) := ⟨by decide +kernel, rfl⟩
theorem dX12_byPlace_93 : dec cX12_byPlace 93 3 96 (.invokevirtual 165) := ⟨by decide +kernel, rfl⟩
theorem dX12_byPlace_96 : dec cX12_byPlace 96 3 99 (.ifCond .eq 7) := ⟨by decide +kernel, rfl⟩
theorem dX12_byPlace_99 : dec cX12_byPlace 99 1 100 (.iconst 1) := ⟨by decide +kernel, rfl⟩
theorem dX12_byPlace_100 : dec cX12_byPlace 100 3 103 (.goto 4) := ⟨by decide +kernel, rfl⟩
theorem dX12_byPlace_103 : dec cX12_byPlace 103 1 104 (.iconst 0) := ⟨by decide +kernel, rfl⟩
theorem dX12_byPlace_104 : dec cX12_byPlace 104 1 105 (.iastore) := ⟨by decide +kernel, rfl⟩
theorem dX12_byPlace_105 : dec cX12_byPlace 105 1 106 (.iload_n 2) := ⟨by decide +kernel, rfl⟩
theorem dX12_byPlace_106 : dec cX12_byPlace 106 1 107 (.aload_n 0) := ⟨by decide +kernel, rfl⟩
theorem dX12_byPlace_107 : dec cX12_byPlace 107 1 108 (.iload_n 1) := ⟨by decide +kernel, rfl⟩
theorem dX12_byPlace_108 : dec cX12_byPlace 108 1 109 (.iconst 0) := ⟨by decide +kernel, rfl⟩
theorem dX12_byPlace_109 : dec cX12_byPlace 109 3 112 (.invokevirtual 186) := ⟨by decide +kernel, rfl⟩
theorem dX12_byPlace_112 : dec cX12_byPlace 112 1 113 (.iadd) := ⟨by decide +kernel, rfl⟩
theorem dX12_byPlace_113 : dec cX12_byPlace 113 1 114 (.istore_n 2) := ⟨by decide +kernel, rfl⟩
theorem dX12_byPlace_114 : dec cX12_byPlace 114 3 117 (.iinc 3 1) := ⟨by decide +kernel, rfl⟩
theorem dX12_byPlace_117 : dec cX12_byPlace 117 3 120 (.goto (-113)) := ⟨by decide +kernel, rfl⟩
theorem dX12_byPlace_120 : dec cX12_byPlace 120 1 121 (.iload_n 2) := ⟨by decide +kernel, rfl⟩
theorem dX12_byPlace_121 : dec cX12_byPlace 121 1 122 (.ireturn) := ⟨by decide +kernel, rfl⟩
set_option maxHeartbeats 4000000 in
set_option maxRecDepth 100000 in
theorem tX12_byPlace_J104 {X : Cx} {Y : Yx} {M0 : Mem} (hC : OKX X Y RX12 cX12_byPlace 4 (some .int) rmX12_byPlace) (hF : Y.2.2.2.2 = true) (hL : Lay M0) (Q : Int → Mem → Prop) (C4 : Int → Int → Mem → Prop)  (a0 : Nat) (x1 : Int) (x2 : Int) (x3 : Int) (xs0 : Int) (xs1 : Int) (as2 : Nat) (qa0 : 0 < a0 ∧ M0 0 a0 = kO 12) (qas2 : 0 < as2 ∧ M0 0 as2 = kA 0 128) (hC4 : ∀ (x2 : Int) (x3 : Int) (M : Mem), C4 x2 x3 M → WW X Y 4 rmX12_byPlace (QI Q) M0 0 0 4 [(0, vR Y.1 a0), (1, vI x1), (2, vI x2), (3, vI x3)] [] M) (M : Mem) (h : wX12_byPlace_J104 Q C4 a0 x1 x2 x3 xs0 xs1 as2 M) : WW X Y 4 rmX12_byPlace (QI Q) M0 0 0 104 [(0, vR Y.1 a0), (1, vI x1), (2, vI x2), (3, vI x3)] [vI xs0, vI xs1, vR Y.1 as2] M := by
  unfold wX12_byPlace_J104 at h
  obtain ⟨i_15, h⟩ := h
  refine r_iast hC i_15 qas2.1 qas2.2 (by decide) dX12_byPlace_104 ?_
  refine r_nameM h (fun M_16 h => ?_)
  refine r_iload_n hC 2 dX12_byPlace_105 rfl rfl ?_
  refine r_aload_n hC 0 dX12_byPlace_106 rfl rfl ?_
  refine r_iload_n hC 1 dX12_byPlace_107 rfl rfl ?_
  refine r_iconst hC dX12_byPlace_108 ?_
  refine r_callV (As := [vI x1, vI 0]) (st := [vI x2]) hC cw_X12_186 rfl qa0.1 qa0.2 rfl rfl (Nat.le_of_ble_eq_true rfl) ⟨Nat.le_of_ble_eq_true rfl, Nat.le_of_ble_eq_true rfl⟩ ⟨Nat.le_of_ble_eq_true rfl, Nat.le_of_ble_eq_true rfl⟩ dX12_byPlace_109 (fun hk => mX12_worked Y hF _ _ _ _ _ _ (kqO hk qa0) h) (fun v M_17 h => ?_)
  obtain ⟨r_18, rfl, h⟩ := h
  refine r_iadd hC dX12_byPlace_112 ?_
  refine r_nameI h (fun x2_19 h => ?_)
  refine r_istore_n (lv' := [(2, vI x2_19), (0, vR Y.1 a0), (1, vI x1), (3, vI x3)]) hC dX12_byPlace_113 rfl (by decide) rfl ?_
  refine let_elim h (fun x3_20 e_21 h => ?_)
  refine r_iinc (lv' := [(3, vI x3_20), (2, vI x2_19), (0, vR Y.1 a0), (1, vI x1)]) hC 3 dX12_byPlace_114 rfl (by decide) e_21 rfl ?_
  refine r_goto hC 4 dX12_byPlace_117 (by decide) ?_
  refine r_sub [2, 3, 1, 0] rfl ?_
  exact hC4 _ _ _ h
set_option maxHeartbeats 4000000 in
set_option maxRecDepth 100000 in
theorem tX12_byPlace_J99 {X : Cx} {Y : Yx} {M0 : Mem} (hC : OKX X Y RX12 cX12_byPlace 4 (some .int) rmX12_byPlace) (hF : Y.2.2.2.2 = true) (hL : Lay M0) (Q : Int → Mem → Prop) (C4 : Int → Int → Mem → Prop)  (a0 : Nat) (x1 : Int) (x2 : Int) (x3 : Int) (xs0 : Int) (as1 : Nat) (qa0 : 0 < a0 ∧ M0 0 a0 = kO 12) (qas1 : 0 < as1 ∧ M0 0 as1 = kA 0 128) (hC4 : ∀ (x2 : Int) (x3 : Int) (M : Mem), C4 x2 x3 M → WW X Y 4 rmX12_byPlace (QI Q) M0 0 0 4 [(0, vR Y.1 a0), (1, vI x1), (2, vI x2), (3, vI x3)] [] M) (M : Mem) (h : wX12_byPlace_J99 Q C4 a0 x1 x2 x3 xs0 as1 M) : WW X Y 4 rmX12_byPlace (QI Q) M0 0 0 99 [(0, vR Y.1 a0), (1, vI x1), (2, vI x2), (3, vI x3)] [vI xs0, vR Y.1 as1] M := by
  unfold wX12_byPlace_J99 at h
  refine r_iconst hC dX12_byPlace_99 ?_
  refine r_goto hC 104 dX12_byPlace_100 (by decide) ?_
  refine r_sub [0, 1, 2, 3] rfl ?_
  exact tX12_byPlace_J104 hC hF hL Q _  _ _ _ _ _ _ _ qa0 qas1 hC4 _ h
set_option maxHeartbeats 4000000 in
set_option maxRecDepth 100000 in
theorem tX12_byPlace_J80 {X : Cx} {Y : Yx} {M0 : Mem} (hC : OKX X Y RX12 cX12_byPlace 4 (some .int) rmX12_byPlace) (hF : Y.2.2.2.2 = true) (hL : Lay M0) (Q : Int → Mem → Prop) (C4 : Int → Int → Mem → Prop)  (a0 : Nat) (x1 : Int) (x2 : Int) (x3 : Int) (xs0 : Int) (xs1 : Int) (as2 : Nat) (qa0 : 0 < a0 ∧ M0 0 a0 = kO 12) (qas2 : 0 < as2 ∧ M0 0 as2 = kA 0 128) (hC4 : ∀ (x2 : Int) (x3 : Int) (M : Mem), C4 x2 x3 M → WW X Y 4 rmX12_byPlace (QI Q) M0 0 0 4 [(0, vR Y.1 a0), (1, vI x1), (2, vI x2), (3, vI x3)] [] M) (M : Mem) (h : wX12_byPlace_J80 Q C4 a0 x1 x2 x3 xs0 xs1 as2 M) : WW X Y 4 rmX12_byPlace (QI Q) M0 0 0 80 [(0, vR Y.1 a0), (1, vI x1), (2, vI x2), (3, vI x3)] [vI xs0, vI xs1, vR Y.1 as2] M := by
  unfold wX12_byPlace_J80 at h
  obtain ⟨i_12, h⟩ := h
  refine r_iast hC i_12 qas2.1 qas2.2 (by decide) dX12_byPlace_80 ?_
  refine r_nameM h (fun M_13 h => ?_)
  refine r_aload_n hC 0 dX12_byPlace_81 rfl rfl ?_
  have q_14 : 0 < a0 + 5 ∧ M0 0 (a0 + 5) = kA 0 128 := lay_f0 (a := a0) hL qa0 fm_12_10
  refine r_getR0 (a' := a0 + 5) hC fg_X12_22 rfl hF fm_12_10 qa0.1 qa0.2 rfl dX12_byPlace_82 ?_
  refine r_bipush hC (by decide +kernel) dX12_byPlace_85 ?_
  refine r_iload_n hC 3 dX12_byPlace_87 rfl rfl ?_
  refine r_if_eq hC 99 rfl dX12_byPlace_88 (by decide) (fun cq => ?_) (fun cq => ?_)
  · replace h := h.1 cq
    refine r_sub [0, 1, 2, 3] rfl ?_
    exact tX12_byPlace_J99 hC hF hL Q _  _ _ _ _ _ _ qa0 q_14 hC4 _ h
  · replace h := h.2 cq
    refine r_aload_n hC 0 dX12_byPlace_91 rfl rfl ?_
    refine r_iload_n hC 3 dX12_byPlace_92 rfl rfl ?_
    refine r_callV (As := [vI x3]) (st := [vI 106, vR Y.1 (a0 + 5)]) hC cw_X12_165 rfl qa0.1 qa0.2 rfl rfl (Nat.le_of_ble_eq_true rfl) ⟨Nat.le_of_ble_eq_true rfl, Nat.le_of_ble_eq_true rfl⟩ ⟨Nat.le_of_ble_eq_true rfl, Nat.le_of_ble_eq_true rfl⟩ dX12_byPlace_93 (fun hk => mX12_isApart Y hF _ _ _ _ _ (kqO hk qa0) h) (fun v M_22 h => ?_)
    obtain ⟨r_23, rfl, h⟩ := h
    refine r_if_eq hC 103 rfl dX12_byPlace_96 (by decide) (fun cq => ?_) (fun cq => ?_)
    · replace h := h.1 cq
      refine r_iconst hC dX12_byPlace_103 ?_
      refine r_sub [0, 1, 2, 3] rfl ?_
      exact tX12_byPlace_J104 hC hF hL Q _  _ _ _ _ _ _ _ qa0 q_14 hC4 _ h
    · replace h := h.2 cq
      refine r_sub [0, 1, 2, 3] rfl ?_
      exact tX12_byPlace_J99 hC hF hL Q _  _ _ _ _ _ _ qa0 q_14 hC4 _ h
set_option maxHeartbeats 4000000 in
set_option maxRecDepth 100000 in
theorem tX12_byPlace_J75 {X : Cx} {Y : Yx} {M0 : Mem} (hC : OKX X Y RX12 cX12_byPlace 4 (some .int) rmX12_byPlace) (hF : Y.2.2.2.2 = true) (hL : Lay M0) (Q : Int → Mem → Prop) (C4 : Int → Int → Mem → Prop)  (a0 : Nat) (x1 : Int) (x2 : Int) (x3 : Int) (xs0 : Int) (as1 : Nat) (qa0 : 0 < a0 ∧ M0 0 a0 = kO 12) (qas1 : 0 < as1 ∧ M0 0 as1 = kA 0 128) (hC4 : ∀ (x2 : Int) (x3 : Int) (M : Mem), C4 x2 x3 M → WW X Y 4 rmX12_byPlace (QI Q) M0 0 0 4 [(0, vR Y.1 a0), (1, vI x1), (2, vI x2), (3, vI x3)] [] M) (M : Mem) (h : wX12_byPlace_J75 Q C4 a0 x1 x2 x3 xs0 as1 M) : WW X Y 4 rmX12_byPlace (QI Q) M0 0 0 75 [(0, vR Y.1 a0), (1, vI x1), (2, vI x2), (3, vI x3)] [vI xs0, vR Y.1 as1] M := by
  unfold wX12_byPlace_J75 at h
  refine r_iconst hC dX12_byPlace_75 ?_
  refine r_goto hC 80 dX12_byPlace_76 (by decide) ?_
  refine r_sub [0, 1, 2, 3] rfl ?_
  exact tX12_byPlace_J80 hC hF hL Q _  _ _ _ _ _ _ _ qa0 qas1 hC4 _ h
set_option maxHeartbeats 4000000 in
set_option maxRecDepth 100000 in
theorem tX12_byPlace_L4 {X : Cx} {Y : Yx} {M0 : Mem} (hC : OKX X Y RX12 cX12_byPlace 4 (some .int) rmX12_byPlace) (hF : Y.2.2.2.2 = true) (hL : Lay M0) (Q : Int → Mem → Prop)  (a0 : Nat) (x1 : Int) (qa0 : 0 < a0 ∧ M0 0 a0 = kO 12)  : ∀ (N : Nat) (x2 : Int) (x3 : Int) (M : Mem) (_ : wX12_byPlace_L4 Q  a0 x1 N x2 x3 M), WW X Y 4 rmX12_byPlace (QI Q) M0 0 0 4 [(0, vR Y.1 a0), (1, vI x1), (2, vI x2), (3, vI x3)] [] M := by
  intro N
  induction N with
  | zero =>
    intro x2 x3 M h
    exact h.elim
  | succ N ih =>
    intro x2 x3 M h
    unfold wX12_byPlace_L4 at h
    refine r_iload_n hC 3 dX12_byPlace_4 rfl rfl ?_
    refine r_aload_n hC 0 dX12_byPlace_5 rfl rfl ?_
    refine r_getI hC fg_X12_162 rfl qa0.1 qa0.2 dX12_byPlace_6 ?_
    refine r_icmp_ge hC 120 rfl rfl dX12_byPlace_9 (by decide) (fun cq => ?_) (fun cq => ?_)
    · replace h := h.1 cq
      refine r_iload_n hC 2 dX12_byPlace_120 rfl rfl ?_
      exact r_iret hC (Nat.zero_le _) (Nat.zero_le _) dX12_byPlace_121 ⟨_, rfl, h⟩
    · replace h := h.2 cq
      refine r_aload_n hC 0 dX12_byPlace_12 rfl rfl ?_
      have q_1 : 0 < a0 + 5 ∧ M0 0 (a0 + 5) = kA 0 128 := lay_f0 (a := a0) hL qa0 fm_12_10
      refine r_getR0 (a' := a0 + 5) hC fg_X12_22 rfl hF fm_12_10 qa0.1 qa0.2 rfl dX12_byPlace_13 ?_
      refine r_bipush hC (by decide +kernel) dX12_byPlace_16 ?_
      refine r_iload_n hC 3 dX12_byPlace_18 rfl rfl ?_
      refine r_iast hC ⟨by decide +kernel, by decide +kernel⟩ q_1.1 q_1.2 (by decide) dX12_byPlace_19 ?_
      refine r_nameM h (fun M_2 h => ?_)
      refine r_aload_n hC 0 dX12_byPlace_20 rfl rfl ?_
      have q_3 : 0 < a0 + 5 ∧ M0 0 (a0 + 5) = kA 0 128 := lay_f0 (a := a0) hL qa0 fm_12_10
      refine r_getR0 (a' := a0 + 5) hC fg_X12_22 rfl hF fm_12_10 qa0.1 qa0.2 rfl dX12_byPlace_21 ?_
      refine r_bipush hC (by decide +kernel) dX12_byPlace_24 ?_
      refine r_aload_n hC 0 dX12_byPlace_26 rfl rfl ?_
      refine r_getI hC fg_X12_162 rfl qa0.1 qa0.2 dX12_byPlace_27 ?_
      refine r_iast hC ⟨by decide +kernel, by decide +kernel⟩ q_3.1 q_3.2 (by decide) dX12_byPlace_30 ?_
      refine r_nameM h (fun M_4 h => ?_)
      refine r_aload_n hC 0 dX12_byPlace_31 rfl rfl ?_
      have q_5 : 0 < a0 + 5 ∧ M0 0 (a0 + 5) = kA 0 128 := lay_f0 (a := a0) hL qa0 fm_12_10
      refine r_getR0 (a' := a0 + 5) hC fg_X12_22 rfl hF fm_12_10 qa0.1 qa0.2 rfl dX12_byPlace_32 ?_
      refine r_bipush hC (by decide +kernel) dX12_byPlace_35 ?_
      refine r_aload_n hC 0 dX12_byPlace_37 rfl rfl ?_
      refine r_aload_n hC 0 dX12_byPlace_38 rfl rfl ?_
      have q_6 : 0 < a0 + 7 ∧ M0 0 (a0 + 7) = kA 0 12 := lay_f0 (a := a0) hL qa0 fm_12_12
      refine r_getR0 (a' := a0 + 7) hC fg_X12_28 rfl hF fm_12_12 qa0.1 qa0.2 rfl dX12_byPlace_39 ?_
      refine r_iload_n hC 3 dX12_byPlace_42 rfl rfl ?_
      obtain ⟨i_7, h⟩ := h
      refine r_iald hC i_7 q_6.1 q_6.2 (by decide) dX12_byPlace_43 ?_
      refine r_iconst hC dX12_byPlace_44 ?_
      refine r_callV (As := [vI (rd M_4 (a0 + 7) x3), vI 2]) (st := [vI 108, vR Y.1 (a0 + 5)]) hC cw_X12_91 rfl qa0.1 qa0.2 rfl rfl (Nat.le_of_ble_eq_true rfl) ⟨Nat.le_of_ble_eq_true rfl, Nat.le_of_ble_eq_true rfl⟩ ⟨Nat.le_of_ble_eq_true rfl, Nat.le_of_ble_eq_true rfl⟩ dX12_byPlace_45 (fun hk => mX12_of Y hF _ _ _ _ _ _ (kqO hk qa0) h) (fun v M_8 h => ?_)
      obtain ⟨r_9, rfl, h⟩ := h
      refine r_iast hC ⟨by decide +kernel, by decide +kernel⟩ q_5.1 q_5.2 (by decide) dX12_byPlace_48 ?_
      refine r_nameM h (fun M_10 h => ?_)
      refine r_aload_n hC 0 dX12_byPlace_49 rfl rfl ?_
      have q_11 : 0 < a0 + 5 ∧ M0 0 (a0 + 5) = kA 0 128 := lay_f0 (a := a0) hL qa0 fm_12_10
      refine r_getR0 (a' := a0 + 5) hC fg_X12_22 rfl hF fm_12_10 qa0.1 qa0.2 rfl dX12_byPlace_50 ?_
      refine r_bipush hC (by decide +kernel) dX12_byPlace_53 ?_
      refine r_iload_n hC 3 dX12_byPlace_55 rfl rfl ?_
      refine r_aload_n hC 0 dX12_byPlace_56 rfl rfl ?_
      refine r_getI hC fg_X12_162 rfl qa0.1 qa0.2 dX12_byPlace_57 ?_
      refine r_iconst hC dX12_byPlace_60 ?_
      refine r_isub hC dX12_byPlace_61 ?_
      refine r_icmp_eq hC 75 rfl rfl dX12_byPlace_62 (by decide) (fun cq => ?_) (fun cq => ?_)
      · replace h := h.1 cq
        refine r_sub [0, 1, 2, 3] rfl ?_
        exact tX12_byPlace_J75 hC hF hL Q _  _ _ _ _ _ _ qa0 q_11 ih _ h
      · replace h := h.2 cq
        refine r_aload_n hC 0 dX12_byPlace_65 rfl rfl ?_
        refine r_iload_n hC 3 dX12_byPlace_66 rfl rfl ?_
        refine r_iconst hC dX12_byPlace_67 ?_
        refine r_iadd hC dX12_byPlace_68 ?_
        refine r_callV (As := [vI (x3 + 1)]) (st := [vI 105, vR Y.1 (a0 + 5)]) hC cw_X12_165 rfl qa0.1 qa0.2 rfl rfl (Nat.le_of_ble_eq_true rfl) ⟨Nat.le_of_ble_eq_true rfl, Nat.le_of_ble_eq_true rfl⟩ ⟨Nat.le_of_ble_eq_true rfl, Nat.le_of_ble_eq_true rfl⟩ dX12_byPlace_69 (fun hk => mX12_isApart Y hF _ _ _ _ _ (kqO hk qa0) h) (fun v M_24 h => ?_)
        obtain ⟨r_25, rfl, h⟩ := h
        refine r_if_eq hC 79 rfl dX12_byPlace_72 (by decide) (fun cq => ?_) (fun cq => ?_)
        · replace h := h.1 cq
          refine r_iconst hC dX12_byPlace_79 ?_
          refine r_sub [0, 1, 2, 3] rfl ?_
          exact tX12_byPlace_J80 hC hF hL Q _  _ _ _ _ _ _ _ qa0 q_11 ih _ h
        · replace h := h.2 cq
          refine r_sub [0, 1, 2, 3] rfl ?_
          exact tX12_byPlace_J75 hC hF hL Q _  _ _ _ _ _ _ qa0 q_11 ih _ h
set_option maxHeartbeats 4000000 in
set_option maxRecDepth 100000 in
theorem mX12_byPlace (Y : Yx) (hF : Y.2.2.2.2 = true) (l : Launch) (a0 : Nat) (x1 : Int) (M0 : Mem) (Q : Int → Mem → Prop) (qa0 : 0 < a0 ∧ M0 0 a0 = kO 12) (h : wX12_byPlace a0 x1 M0 Q) : CT Y l yX12_byPlace cX12_byPlace 4 (some .int) rmX12_byPlace [vR Y.1 a0, vI x1] M0 (QI Q) := by
  unfold wX12_byPlace at h
  refine ct_intro (by decide) (Nat.le_of_ble_eq_true rfl) ?_
  intro X hXl hC hL0
  have hL := hL0 hF
  change OKX X Y RX12 cX12_byPlace 4 (some .int) rmX12_byPlace at hC
  change WW X Y 4 rmX12_byPlace (QI Q) M0 0 0 0 [(0, vR Y.1 a0), (1, vI x1)] [] M0
  refine r_iconst hC dX12_byPlace_0 ?_
  refine r_istore_n (lv' := [(2, vI 0), (0, vR Y.1 a0), (1, vI x1)]) hC dX12_byPlace_1 rfl (by decide) rfl ?_
  refine r_iconst hC dX12_byPlace_2 ?_
  refine r_istore_n (lv' := [(3, vI 0), (2, vI 0), (0, vR Y.1 a0), (1, vI x1)]) hC dX12_byPlace_3 rfl (by decide) rfl ?_
  refine r_sub [2, 3, 1, 0] rfl ?_
  obtain ⟨N_26, h⟩ := h
  refine tX12_byPlace_L4 hC hF hL Q  _ _ qa0  N_26 _ _ _ h
theorem dX12_byTired_0 : dec cX12_byTired 0 1 1 (.iconst 0) := ⟨by decide +kernel, rfl⟩
theorem dX12_byTired_1 : dec cX12_byTired 1 1 2 (.istore_n 2) := ⟨by decide +kernel, rfl⟩
theorem dX12_byTired_2 : dec cX12_byTired 2 1 3 (.iconst 0) := ⟨by decide +kernel, rfl⟩
theorem dX12_byTired_3 : dec cX12_byTired 3 1 4 (.istore_n 3) := ⟨by decide +kernel, rfl⟩
theorem dX12_byTired_4 : dec cX12_byTired 4 1 5 (.iload_n 3) := ⟨by decide +kernel, rfl⟩
theorem dX12_byTired_5 : dec cX12_byTired 5 1 6 (.aload_n 0) := ⟨by decide +kernel, rfl⟩
theorem dX12_byTired_6 : dec cX12_byTired 6 3 9 (.getfield 162) := ⟨by decide +kernel, rfl⟩
theorem dX12_byTired_9 : dec cX12_byTired 9 3 12 (.if_icmp .ge 115) := ⟨by decide +kernel, rfl⟩
theorem dX12_byTired_12 : dec cX12_byTired 12 1 13 (.iconst 0) := ⟨by decide +kernel, rfl⟩
theorem dX12_byTired_13 : dec cX12_byTired 13 2 15 (.istore 4) := ⟨by decide +kernel, rfl⟩
theorem dX12_byTired_15 : dec cX12_byTired 15 1 16 (.iconst 0) := ⟨by decide +kernel, rfl⟩
theorem dX12_byTired_16 : dec cX12_byTired 16 2 18 (.istore 5) := ⟨by decide +kernel, rfl⟩
theorem dX12_byTired_18 : dec cX12_byTired 18 2 20 (.iload 5) := ⟨by decide +kernel, rfl⟩
theorem dX12_byTired_20 : dec cX12_byTired 20 2 22 (.bipush 8) := ⟨by decide +kernel, rfl⟩
theorem dX12_byTired_22 : dec cX12_byTired 22 3 25 (.if_icmp .ge 77) := ⟨by decide +kernel, rfl⟩
theorem dX12_byTired_25 : dec cX12_byTired 25 1 26 (.aload_n 0) := ⟨by decide +kernel, rfl⟩
theorem dX12_byTired_26 : dec cX12_byTired 26 1 27 (.aload_n 0) := ⟨by decide +kernel, rfl⟩
theorem dX12_byTired_27 : dec cX12_byTired 27 3 30 (.getfield 28) := ⟨by decide +kernel, rfl⟩
theorem dX12_byTired_30 : dec cX12_byTired 30 1 31 (.iload_n 3) := ⟨by decide +kernel, rfl⟩
theorem dX12_byTired_31 : dec cX12_byTired 31 1 32 (.iaload) := ⟨by decide +kernel, rfl⟩
theorem dX12_byTired_32 : dec cX12_byTired 32 1 33 (.iconst 3) := ⟨by decide +kernel, rfl⟩
theorem dX12_byTired_33 : dec cX12_byTired 33 3 36 (.invokevirtual 91) := ⟨by decide +kernel, rfl⟩
theorem dX12_byTired_36 : dec cX12_byTired 36 2 38 (.iload 5) := ⟨by decide +kernel, rfl⟩
theorem dX12_byTired_38 : dec cX12_byTired 38 1 39 (.ishr) := ⟨by decide +kernel, rfl⟩
theorem dX12_byTired_39 : dec cX12_byTired 39 1 40 (.iconst 1) := ⟨by decide +kernel, rfl⟩
theorem dX12_byTired_40 : dec cX12_byTired 40 1 41 (.iand) := ⟨by decide +kernel, rfl⟩
theorem dX12_byTired_41 : dec cX12_byTired 41 1 42 (.iconst 1) := ⟨by decide +kernel, rfl⟩
theorem dX12_byTired_42 : dec cX12_byTired 42 3 45 (.if_icmp .ne 7) := ⟨by decide +kernel, rfl⟩
theorem dX12_byTired_45 : dec cX12_byTired 45 1 46 (.iconst 1) := ⟨by decide +kernel, rfl⟩
theorem dX12_byTired_46 : dec cX12_byTired 46 3 49 (.goto 4) := ⟨by decide +kernel, rfl⟩
theorem dX12_byTired_49 : dec cX12_byTired 49 1 50 (.iconst 0) := ⟨by decide +kernel, rfl⟩
theorem dX12_byTired_50 : dec cX12_byTired 50 2 52 (.istore 6) := ⟨by decide +kernel, rfl⟩
theorem dX12_byTired_52 : dec cX12_byTired 52 2 54 (.iload 6) := ⟨by decide +kernel, rfl⟩
theorem dX12_byTired_54 : dec cX12_byTired 54 3 57 (.ifCond .eq 35) := ⟨by decide +kernel, rfl⟩
theorem dX12_byTired_57 : dec cX12_byTired 57 1 58 (.aload_n 0) := ⟨by decide +kernel, rfl⟩
theorem dX12_byTired_58 : dec cX12_byTired 58 3 61 (.getfield 37) := ⟨by decide +kernel, rfl⟩
theorem dX12_byTired_61 : dec cX12_byTired 61 2 63 (.bipush 8) := ⟨by decide +kernel, rfl⟩
theorem dX12_byTired_63 : dec cX12_byTired 63 1 64 (.iload_n 3) := ⟨by decide +kernel, rfl⟩
theorem dX12_byTired_64 : dec cX12_byTired 64 1 65 (.imul) := ⟨by decide +kernel, rfl⟩
theorem dX12_byTired_65 : dec cX12_byTired 65 2 67 (.iload 5) := ⟨by decide +kernel, rfl⟩
theorem dX12_byTired_67 : dec cX12_byTired 67 1 68 (.iadd) := ⟨by decide +kernel, rfl⟩
theorem dX12_byTired_68 : dec cX12_byTired 68 1 69 (.iaload) := ⟨by decide +kernel, rfl⟩
theorem dX12_byTired_69 : dec cX12_byTired 69 2 71 (.iload 4) := ⟨by decide +kernel, rfl⟩
theorem dX12_byTired_71 : dec cX12_byTired 71 3 74 (.if_icmp .le 18) := ⟨by decide +kernel, rfl⟩
theorem dX12_byTired_74 : dec cX12_byTired 74 1 75 (.aload_n 0) := ⟨by decide +kernel, rfl⟩
theorem dX12_byTired_75 : dec cX12_byTired 75 3 78 (.getfield 37) := ⟨by decide +kernel, rfl⟩
theorem dX12_byTired_78 : dec cX12_byTired 78 2 80 (.bipush 8) := ⟨by decide +kernel, rfl⟩
theorem dX12_byTired_80 : dec cX12_byTired 80 1 81 (.iload_n 3) := ⟨by decide +kernel, rfl⟩
theorem dX12_byTired_81 : dec cX12_byTired 81 1 82 (.imul) := ⟨by decide +kernel, rfl⟩
theorem dX12_byTired_82 : dec cX12_byTired 82 2 84 (.iload 5) := ⟨by decide +kernel, rfl⟩
theorem dX12_byTired_84 : dec cX12_byTired 84 1 85 (.iadd) := ⟨by decide +kernel, rfl⟩
theorem dX12_byTired_85 : dec cX12_byTired 85 1 86 (.iaload) := ⟨by decide +kernel, rfl⟩
theorem dX12_byTired_86 : dec cX12_byTired 86 3 89 (.goto 5) := ⟨by decide +kernel, rfl⟩
theorem dX12_byTired_89 : dec cX12_byTired 89 2 91 (.iload 4) := ⟨by decide +kernel, rfl⟩
theorem dX12_byTired_91 : dec cX12_byTired 91 2 93 (.istore 4) := ⟨by decide +kernel, rfl⟩
theorem dX12_byTired_93 : dec cX12_byTired 93 3 96 (.iinc 5 1) := ⟨by decide +kernel, rfl⟩
theorem dX12_byTired_96 : dec cX12_byTired 96 3 99 (.goto (-78)) := ⟨by decide +kernel, rfl⟩
theorem dX12_byTired_99 : dec cX12_byTired 99 1 100 (.aload_n 0) := ⟨by decide +kernel, rfl⟩
theorem dX12_byTired_100 : dec cX12_byTired 100 3 103 (.getfield 22) := ⟨by decide +kernel, rfl⟩
theorem dX12_byTired_103 : dec cX12_byTired 103 2 105 (.bipush 116) := ⟨by decide +kernel, rfl⟩
theorem dX12_byTired_105 : dec cX12_byTired 105 2 107 (.iload 4) := ⟨by decide +kernel, rfl⟩
theorem dX12_byTired_107 : dec cX12_byTired 107 1 108 (.iastore) := ⟨by decide +kernel, rfl⟩
theorem dX12_byTired_108 : dec cX12_byTired 108 1 109 (.iload_n 2) := ⟨by decide +kernel, rfl⟩
theorem dX12_byTired_109 : dec cX12_byTired 109 1 110 (.aload_n 0) := ⟨by decide +kernel, rfl⟩
theorem dX12_byTired_110 : dec cX12_byTired 110 1 111 (.iload_n 1) := ⟨by decide +kernel, rfl⟩
theorem dX12_byTired_111 : dec cX12_byTired 111 2 113 (.iload 4) := ⟨by decide +kernel, rfl⟩
theorem dX12_byTired_113 : dec cX12_byTired 113 3 116 (.invokevirtual 186) := ⟨by decide +kernel, rfl⟩
theorem dX12_byTired_116 : dec cX12_byTired 116 1 117 (.iadd) := ⟨by decide +kernel, rfl⟩
theorem dX12_byTired_117 : dec cX12_byTired 117 1 118 (.istore_n 2) := ⟨by decide +kernel, rfl⟩
theorem dX12_byTired_118 : dec cX12_byTired 118 3 121 (.iinc 3 1) := ⟨by decide +kernel, rfl⟩
theorem dX12_byTired_121 : dec cX12_byTired 121 3 124 (.goto (-117)) := ⟨by decide +kernel, rfl⟩
theorem dX12_byTired_124 : dec cX12_byTired 124 1 125 (.iload_n 2) := ⟨by decide +kernel, rfl⟩
theorem dX12_byTired_125 : dec cX12_byTired 125 1 126 (.ireturn) := ⟨by decide +kernel, rfl⟩
set_option maxHeartbeats 4000000 in
set_option maxRecDepth 100000 in
theorem tX12_byTired_J91 {X : Cx} {Y : Yx} {M0 : Mem} (hC : OKX X Y RX12 cX12_byTired 7 (some .int) rmX12_byTired) (hF : Y.2.2.2.2 = true) (hL : Lay M0) (Q : Int → Mem → Prop) (C18 : Int → Int → Mem → Prop)  (a0 : Nat) (x1 : Int) (x2 : Int) (x3 : Int) (x5 : Int) (xs0 : Int) (qa0 : 0 < a0 ∧ M0 0 a0 = kO 12) (hC18 : ∀ (x4 : Int) (x5 : Int) (M : Mem), C18 x4 x5 M → WW X Y 7 rmX12_byTired (QI Q) M0 0 0 18 [(0, vR Y.1 a0), (1, vI x1), (2, vI x2), (3, vI x3), (4, vI x4), (5, vI x5)] [] M) (M : Mem) (h : wX12_byTired_J91 Q C18 a0 x1 x2 x3 x5 xs0 M) : WW X Y 7 rmX12_byTired (QI Q) M0 0 0 91 [(0, vR Y.1 a0), (1, vI x1), (2, vI x2), (3, vI x3), (5, vI x5)] [vI xs0] M := by
  unfold wX12_byTired_J91 at h
  refine r_istore (lv' := [(4, vI xs0), (0, vR Y.1 a0), (1, vI x1), (2, vI x2), (3, vI x3), (5, vI x5)]) hC dX12_byTired_91 (by decide) rfl ?_
  refine let_elim h (fun x5_5 e_6 h => ?_)
  refine r_iinc (lv' := [(5, vI x5_5), (4, vI xs0), (0, vR Y.1 a0), (1, vI x1), (2, vI x2), (3, vI x3)]) hC 5 dX12_byTired_93 rfl (by decide) e_6 rfl ?_
  refine r_goto hC 18 dX12_byTired_96 (by decide) ?_
  refine r_sub [2, 3, 4, 5, 1, 0] rfl ?_
  exact hC18 _ _ _ h
set_option maxHeartbeats 4000000 in
set_option maxRecDepth 100000 in
theorem tX12_byTired_J89 {X : Cx} {Y : Yx} {M0 : Mem} (hC : OKX X Y RX12 cX12_byTired 7 (some .int) rmX12_byTired) (hF : Y.2.2.2.2 = true) (hL : Lay M0) (Q : Int → Mem → Prop) (C18 : Int → Int → Mem → Prop)  (a0 : Nat) (x1 : Int) (x2 : Int) (x3 : Int) (x4 : Int) (x5 : Int) (qa0 : 0 < a0 ∧ M0 0 a0 = kO 12) (hC18 : ∀ (x4 : Int) (x5 : Int) (M : Mem), C18 x4 x5 M → WW X Y 7 rmX12_byTired (QI Q) M0 0 0 18 [(0, vR Y.1 a0), (1, vI x1), (2, vI x2), (3, vI x3), (4, vI x4), (5, vI x5)] [] M) (M : Mem) (h : wX12_byTired_J89 Q C18 a0 x1 x2 x3 x4 x5 M) : WW X Y 7 rmX12_byTired (QI Q) M0 0 0 89 [(0, vR Y.1 a0), (1, vI x1), (2, vI x2), (3, vI x3), (4, vI x4), (5, vI x5)] [] M := by
  unfold wX12_byTired_J89 at h
  refine r_iload hC 4 dX12_byTired_89 rfl ?_
  refine r_sub [0, 1, 2, 3, 5] rfl ?_
  exact tX12_byTired_J91 hC hF hL Q _  _ _ _ _ _ _ qa0 hC18 _ h
set_option maxHeartbeats 4000000 in
set_option maxRecDepth 100000 in
theorem tX12_byTired_J50 {X : Cx} {Y : Yx} {M0 : Mem} (hC : OKX X Y RX12 cX12_byTired 7 (some .int) rmX12_byTired) (hF : Y.2.2.2.2 = true) (hL : Lay M0) (Q : Int → Mem → Prop) (C18 : Int → Int → Mem → Prop)  (a0 : Nat) (x1 : Int) (x2 : Int) (x3 : Int) (x4 : Int) (x5 : Int) (xs0 : Int) (qa0 : 0 < a0 ∧ M0 0 a0 = kO 12) (hC18 : ∀ (x4 : Int) (x5 : Int) (M : Mem), C18 x4 x5 M → WW X Y 7 rmX12_byTired (QI Q) M0 0 0 18 [(0, vR Y.1 a0), (1, vI x1), (2, vI x2), (3, vI x3), (4, vI x4), (5, vI x5)] [] M) (M : Mem) (h : wX12_byTired_J50 Q C18 a0 x1 x2 x3 x4 x5 xs0 M) : WW X Y 7 rmX12_byTired (QI Q) M0 0 0 50 [(0, vR Y.1 a0), (1, vI x1), (2, vI x2), (3, vI x3), (4, vI x4), (5, vI x5)] [vI xs0] M := by
  unfold wX12_byTired_J50 at h
  refine r_istore (lv' := [(6, vI xs0), (0, vR Y.1 a0), (1, vI x1), (2, vI x2), (3, vI x3), (4, vI x4), (5, vI x5)]) hC dX12_byTired_50 (by decide) rfl ?_
  refine r_iload hC 0 dX12_byTired_52 rfl ?_
  refine r_if_eq hC 89 rfl dX12_byTired_54 (by decide) (fun cq => ?_) (fun cq => ?_)
  · replace h := h.1 cq
    refine r_sub [1, 2, 3, 4, 5, 6] rfl ?_
    exact tX12_byTired_J89 hC hF hL Q _  _ _ _ _ _ _ qa0 hC18 _ h
  · replace h := h.2 cq
    refine r_aload_n hC 1 dX12_byTired_57 rfl rfl ?_
    have q_7 : 0 < a0 + 10 ∧ M0 0 (a0 + 10) = kA 0 96 := lay_f0 (a := a0) hL qa0 fm_12_17
    refine r_getR0 (a' := a0 + 10) hC fg_X12_37 rfl hF fm_12_17 qa0.1 qa0.2 rfl dX12_byTired_58 ?_
    refine r_bipush hC (by decide +kernel) dX12_byTired_61 ?_
    refine r_iload_n hC 4 dX12_byTired_63 rfl rfl ?_
    refine r_imul hC dX12_byTired_64 ?_
    refine r_iload hC 6 dX12_byTired_65 rfl ?_
    refine r_iadd hC dX12_byTired_67 ?_
    obtain ⟨i_8, h⟩ := h
    refine r_iald hC i_8 q_7.1 q_7.2 (by decide) dX12_byTired_68 ?_
    refine r_iload hC 5 dX12_byTired_69 rfl ?_
    refine r_icmp_le hC 89 rfl rfl dX12_byTired_71 (by decide) (fun cq => ?_) (fun cq => ?_)
    · replace h := h.1 cq
      refine r_sub [1, 2, 3, 4, 5, 6] rfl ?_
      exact tX12_byTired_J89 hC hF hL Q _  _ _ _ _ _ _ qa0 hC18 _ h
    · replace h := h.2 cq
      refine r_aload_n hC 1 dX12_byTired_74 rfl rfl ?_
      have q_9 : 0 < a0 + 10 ∧ M0 0 (a0 + 10) = kA 0 96 := lay_f0 (a := a0) hL qa0 fm_12_17
      refine r_getR0 (a' := a0 + 10) hC fg_X12_37 rfl hF fm_12_17 qa0.1 qa0.2 rfl dX12_byTired_75 ?_
      refine r_bipush hC (by decide +kernel) dX12_byTired_78 ?_
      refine r_iload_n hC 4 dX12_byTired_80 rfl rfl ?_
      refine r_imul hC dX12_byTired_81 ?_
      refine r_iload hC 6 dX12_byTired_82 rfl ?_
      refine r_iadd hC dX12_byTired_84 ?_
      obtain ⟨i_10, h⟩ := h
      refine r_iald hC i_10 q_9.1 q_9.2 (by decide) dX12_byTired_85 ?_
      refine r_goto hC 91 dX12_byTired_86 (by decide) ?_
      refine r_sub [1, 2, 3, 4, 6] rfl ?_
      exact tX12_byTired_J91 hC hF hL Q _  _ _ _ _ _ _ qa0 hC18 _ h
set_option maxHeartbeats 4000000 in
set_option maxRecDepth 100000 in
theorem tX12_byTired_L18 {X : Cx} {Y : Yx} {M0 : Mem} (hC : OKX X Y RX12 cX12_byTired 7 (some .int) rmX12_byTired) (hF : Y.2.2.2.2 = true) (hL : Lay M0) (Q : Int → Mem → Prop) (E99 : Int → Mem → Prop) (a0 : Nat) (x1 : Int) (x2 : Int) (x3 : Int) (qa0 : 0 < a0 ∧ M0 0 a0 = kO 12) (hE99 : ∀ (x4 : Int) (M : Mem), E99 x4 M → WW X Y 7 rmX12_byTired (QI Q) M0 0 0 99 [(0, vR Y.1 a0), (1, vI x1), (2, vI x2), (3, vI x3), (4, vI x4)] [] M) : ∀ (N : Nat) (x4 : Int) (x5 : Int) (M : Mem) (_ : wX12_byTired_L18 Q E99 a0 x1 x2 x3 N x4 x5 M), WW X Y 7 rmX12_byTired (QI Q) M0 0 0 18 [(0, vR Y.1 a0), (1, vI x1), (2, vI x2), (3, vI x3), (4, vI x4), (5, vI x5)] [] M := by
  intro N
  induction N with
  | zero =>
    intro x4 x5 M h
    exact h.elim
  | succ N ih =>
    intro x4 x5 M h
    unfold wX12_byTired_L18 at h
    refine r_iload hC 5 dX12_byTired_18 rfl ?_
    refine r_bipush hC (by decide +kernel) dX12_byTired_20 ?_
    refine r_icmp_ge hC 99 rfl bmL_8 dX12_byTired_22 (by decide) (fun cq => ?_) (fun cq => ?_)
    · replace h := h.1 cq
      refine r_sub [0, 1, 2, 3, 4] rfl ?_
      exact hE99 _ _ h
    · replace h := h.2 cq
      refine r_aload_n hC 0 dX12_byTired_25 rfl rfl ?_
      refine r_aload_n hC 0 dX12_byTired_26 rfl rfl ?_
      have q_1 : 0 < a0 + 7 ∧ M0 0 (a0 + 7) = kA 0 12 := lay_f0 (a := a0) hL qa0 fm_12_12
      refine r_getR0 (a' := a0 + 7) hC fg_X12_28 rfl hF fm_12_12 qa0.1 qa0.2 rfl dX12_byTired_27 ?_
      refine r_iload_n hC 3 dX12_byTired_30 rfl rfl ?_
      obtain ⟨i_2, h⟩ := h
      refine r_iald hC i_2 q_1.1 q_1.2 (by decide) dX12_byTired_31 ?_
      refine r_iconst hC dX12_byTired_32 ?_
      refine r_callV (As := [vI (rd M (a0 + 7) x3), vI 3]) (st := []) hC cw_X12_91 rfl qa0.1 qa0.2 rfl rfl (Nat.le_of_ble_eq_true rfl) ⟨Nat.le_of_ble_eq_true rfl, Nat.le_of_ble_eq_true rfl⟩ ⟨Nat.le_of_ble_eq_true rfl, Nat.le_of_ble_eq_true rfl⟩ dX12_byTired_33 (fun hk => mX12_of Y hF _ _ _ _ _ _ (kqO hk qa0) h) (fun v M_3 h => ?_)
      obtain ⟨r_4, rfl, h⟩ := h
      refine r_iload hC 5 dX12_byTired_36 rfl ?_
      refine r_ishr hC dX12_byTired_38 ?_
      refine r_iconst hC dX12_byTired_39 ?_
      refine r_iand hC dX12_byTired_40 ?_
      refine r_iconst hC dX12_byTired_41 ?_
      refine r_icmp_ne hC 49 rfl bmL_1 dX12_byTired_42 (by decide) (fun cq => ?_) (fun cq => ?_)
      · replace h := h.2 cq
        refine r_iconst hC dX12_byTired_49 ?_
        refine r_sub [0, 1, 2, 3, 4, 5] rfl ?_
        exact tX12_byTired_J50 hC hF hL Q _  _ _ _ _ _ _ _ qa0 ih _ h
      · replace h := h.1 cq
        refine r_iconst hC dX12_byTired_45 ?_
        refine r_goto hC 50 dX12_byTired_46 (by decide) ?_
        refine r_sub [0, 1, 2, 3, 4, 5] rfl ?_
        exact tX12_byTired_J50 hC hF hL Q _  _ _ _ _ _ _ _ qa0 ih _ h
set_option maxHeartbeats 4000000 in
set_option maxRecDepth 100000 in
theorem tX12_byTired_L4 {X : Cx} {Y : Yx} {M0 : Mem} (hC : OKX X Y RX12 cX12_byTired 7 (some .int) rmX12_byTired) (hF : Y.2.2.2.2 = true) (hL : Lay M0) (Q : Int → Mem → Prop)  (a0 : Nat) (x1 : Int) (qa0 : 0 < a0 ∧ M0 0 a0 = kO 12)  : ∀ (N : Nat) (x2 : Int) (x3 : Int) (M : Mem) (_ : wX12_byTired_L4 Q  a0 x1 N x2 x3 M), WW X Y 7 rmX12_byTired (QI Q) M0 0 0 4 [(0, vR Y.1 a0), (1, vI x1), (2, vI x2), (3, vI x3)] [] M := by
  intro N
  induction N with
  | zero =>
    intro x2 x3 M h
    exact h.elim
  | succ N ih =>
    intro x2 x3 M h
    unfold wX12_byTired_L4 at h
    refine r_iload_n hC 3 dX12_byTired_4 rfl rfl ?_
    refine r_aload_n hC 0 dX12_byTired_5 rfl rfl ?_
    refine r_getI hC fg_X12_162 rfl qa0.1 qa0.2 dX12_byTired_6 ?_
    refine r_icmp_ge hC 124 rfl rfl dX12_byTired_9 (by decide) (fun cq => ?_) (fun cq => ?_)
    · replace h := h.1 cq
      refine r_iload_n hC 2 dX12_byTired_124 rfl rfl ?_
      exact r_iret hC (Nat.zero_le _) (Nat.zero_le _) dX12_byTired_125 ⟨_, rfl, h⟩
    · replace h := h.2 cq
      refine r_iconst hC dX12_byTired_12 ?_
      refine r_istore (lv' := [(4, vI 0), (0, vR Y.1 a0), (1, vI x1), (2, vI x2), (3, vI x3)]) hC dX12_byTired_13 (by decide) rfl ?_
      refine r_iconst hC dX12_byTired_15 ?_
      refine r_istore (lv' := [(5, vI 0), (4, vI 0), (0, vR Y.1 a0), (1, vI x1), (2, vI x2), (3, vI x3)]) hC dX12_byTired_16 (by decide) rfl ?_
      refine r_sub [2, 3, 4, 5, 1, 0] rfl ?_
      obtain ⟨N_20, h⟩ := h
      refine tX12_byTired_L18 hC hF hL Q _ _ _ _ _ qa0 ?_ N_20 _ _ _ h
      · intro x4_11 M_12 h
        refine r_aload_n hC 0 dX12_byTired_99 rfl rfl ?_
        have q_13 : 0 < a0 + 5 ∧ M0 0 (a0 + 5) = kA 0 128 := lay_f0 (a := a0) hL qa0 fm_12_10
        refine r_getR0 (a' := a0 + 5) hC fg_X12_22 rfl hF fm_12_10 qa0.1 qa0.2 rfl dX12_byTired_100 ?_
        refine r_bipush hC (by decide +kernel) dX12_byTired_103 ?_
        refine r_iload hC 4 dX12_byTired_105 rfl ?_
        refine r_iast hC ⟨by decide +kernel, by decide +kernel⟩ q_13.1 q_13.2 (by decide) dX12_byTired_107 ?_
        refine r_nameM h (fun M_14 h => ?_)
        refine r_iload_n hC 2 dX12_byTired_108 rfl rfl ?_
        refine r_aload_n hC 0 dX12_byTired_109 rfl rfl ?_
        refine r_iload_n hC 1 dX12_byTired_110 rfl rfl ?_
        refine r_iload hC 4 dX12_byTired_111 rfl ?_
        refine r_callV (As := [vI x1, vI x4_11]) (st := [vI x2]) hC cw_X12_186 rfl qa0.1 qa0.2 rfl rfl (Nat.le_of_ble_eq_true rfl) ⟨Nat.le_of_ble_eq_true rfl, Nat.le_of_ble_eq_true rfl⟩ ⟨Nat.le_of_ble_eq_true rfl, Nat.le_of_ble_eq_true rfl⟩ dX12_byTired_113 (fun hk => mX12_worked Y hF _ _ _ _ _ _ (kqO hk qa0) h) (fun v M_15 h => ?_)
        obtain ⟨r_16, rfl, h⟩ := h
        refine r_iadd hC dX12_byTired_116 ?_
        refine r_nameI h (fun x2_17 h => ?_)
        refine r_istore_n (lv' := [(2, vI x2_17), (0, vR Y.1 a0), (1, vI x1), (3, vI x3), (4, vI x4_11)]) hC dX12_byTired_117 rfl (by decide) rfl ?_
        refine let_elim h (fun x3_18 e_19 h => ?_)
        refine r_iinc (lv' := [(3, vI x3_18), (2, vI x2_17), (0, vR Y.1 a0), (1, vI x1), (4, vI x4_11)]) hC 3 dX12_byTired_118 rfl (by decide) e_19 rfl ?_
        refine r_goto hC 4 dX12_byTired_121 (by decide) ?_
        refine r_sub [2, 3, 1, 0] rfl ?_
        exact ih _ _ _ h
set_option maxHeartbeats 4000000 in
set_option maxRecDepth 100000 in
theorem mX12_byTired (Y : Yx) (hF : Y.2.2.2.2 = true) (l : Launch) (a0 : Nat) (x1 : Int) (M0 : Mem) (Q : Int → Mem → Prop) (qa0 : 0 < a0 ∧ M0 0 a0 = kO 12) (h : wX12_byTired a0 x1 M0 Q) : CT Y l yX12_byTired cX12_byTired 7 (some .int) rmX12_byTired [vR Y.1 a0, vI x1] M0 (QI Q) := by
  unfold wX12_byTired at h
  refine ct_intro (by decide) (Nat.le_of_ble_eq_true rfl) ?_
  intro X hXl hC hL0
  have hL := hL0 hF
  change OKX X Y RX12 cX12_byTired 7 (some .int) rmX12_byTired at hC
  change WW X Y 7 rmX12_byTired (QI Q) M0 0 0 0 [(0, vR Y.1 a0), (1, vI x1)] [] M0
  refine r_iconst hC dX12_byTired_0 ?_
  refine r_istore_n (lv' := [(2, vI 0), (0, vR Y.1 a0), (1, vI x1)]) hC dX12_byTired_1 rfl (by decide) rfl ?_
  refine r_iconst hC dX12_byTired_2 ?_
  refine r_istore_n (lv' := [(3, vI 0), (2, vI 0), (0, vR Y.1 a0), (1, vI x1)]) hC dX12_byTired_3 rfl (by decide) rfl ?_
  refine r_sub [2, 3, 1, 0] rfl ?_
  obtain ⟨N_21, h⟩ := h
  refine tX12_byTired_L4 hC hF hL Q  _ _ qa0  N_21 _ _ _ h
theorem dX12_by_0 : dec cX12_by 0 1 1 (.aload_n 0) := ⟨by decide +kernel, rfl⟩
theorem dX12_by_1 : dec cX12_by 1 1 2 (.iload_n 1) := ⟨by decide +kernel, rfl⟩
theorem dX12_by_2 : dec cX12_by 2 1 3 (.iconst 0) := ⟨by decide +kernel, rfl⟩
theorem dX12_by_3 : dec cX12_by 3 3 6 (.invokevirtual 101) := ⟨by decide +kernel, rfl⟩
theorem dX12_by_6 : dec cX12_by 6 38 44 (.tableswitch 79 1 6 #[38, 52, 58, 64, 45, 70]) := ⟨by decide +kernel, rfl⟩
theorem dX12_by_44 : dec cX12_by 44 1 45 (.aload_n 0) := ⟨by decide +kernel, rfl⟩
theorem dX12_by_45 : dec cX12_by 45 1 46 (.iload_n 1) := ⟨by decide +kernel, rfl⟩
theorem dX12_by_46 : dec cX12_by 46 1 47 (.iconst 0) := ⟨by decide +kernel, rfl⟩
theorem dX12_by_47 : dec cX12_by 47 3 50 (.invokevirtual 189) := ⟨by decide +kernel, rfl⟩
theorem dX12_by_50 : dec cX12_by 50 1 51 (.ireturn) := ⟨by decide +kernel, rfl⟩
theorem dX12_by_51 : dec cX12_by 51 1 52 (.aload_n 0) := ⟨by decide +kernel, rfl⟩
theorem dX12_by_52 : dec cX12_by 52 1 53 (.iload_n 1) := ⟨by decide +kernel, rfl⟩
theorem dX12_by_53 : dec cX12_by 53 1 54 (.iconst 1) := ⟨by decide +kernel, rfl⟩
theorem dX12_by_54 : dec cX12_by 54 3 57 (.invokevirtual 189) := ⟨by decide +kernel, rfl⟩
theorem dX12_by_57 : dec cX12_by 57 1 58 (.ireturn) := ⟨by decide +kernel, rfl⟩
theorem dX12_by_58 : dec cX12_by 58 1 59 (.aload_n 0) := ⟨by decide +kernel, rfl⟩
theorem dX12_by_59 : dec cX12_by 59 1 60 (.iload_n 1) := ⟨by decide +kernel, rfl⟩
theorem dX12_by_60 : dec cX12_by 60 3 63 (.invokevirtual 193) := ⟨by decide +kernel, rfl⟩
theorem dX12_by_63 : dec cX12_by 63 1 64 (.ireturn) := ⟨by decide +kernel, rfl⟩
theorem dX12_by_64 : dec cX12_by 64 1 65 (.aload_n 0) := ⟨by decide +kernel, rfl⟩
theorem dX12_by_65 : dec cX12_by 65 1 66 (.iload_n 1) := ⟨by decide +kernel, rfl⟩
theorem dX12_by_66 : dec cX12_by 66 3 69 (.invokevirtual 196) := ⟨by decide +kernel, rfl⟩
theorem dX12_by_69 : dec cX12_by 69 1 70 (.ireturn) := ⟨by decide +kernel, rfl⟩
theorem dX12_by_70 : dec cX12_by 70 1 71 (.aload_n 0) := ⟨by decide +kernel, rfl⟩
theorem dX12_by_71 : dec cX12_by 71 1 72 (.iload_n 1) := ⟨by decide +kernel, rfl⟩
theorem dX12_by_72 : dec cX12_by 72 3 75 (.invokevirtual 199) := ⟨by decide +kernel, rfl⟩
theorem dX12_by_75 : dec cX12_by 75 1 76 (.ireturn) := ⟨by decide +kernel, rfl⟩
theorem dX12_by_76 : dec cX12_by 76 1 77 (.aload_n 0) := ⟨by decide +kernel, rfl⟩
theorem dX12_by_77 : dec cX12_by 77 3 80 (.invokevirtual 183) := ⟨by decide +kernel, rfl⟩
theorem dX12_by_80 : dec cX12_by 80 3 83 (.invokestatic 156) := ⟨by decide +kernel, rfl⟩
theorem dX12_by_83 : dec cX12_by 83 1 84 (.ineg) := ⟨by decide +kernel, rfl⟩
theorem dX12_by_84 : dec cX12_by 84 1 85 (.ireturn) := ⟨by decide +kernel, rfl⟩
theorem dX12_by_85 : dec cX12_by 85 1 86 (.iconst 0) := ⟨by decide +kernel, rfl⟩
theorem dX12_by_86 : dec cX12_by 86 1 87 (.ireturn) := ⟨by decide +kernel, rfl⟩
set_option maxHeartbeats 4000000 in
set_option maxRecDepth 100000 in
theorem mX12_by (Y : Yx) (hF : Y.2.2.2.2 = true) (l : Launch) (a0 : Nat) (x1 : Int) (M0 : Mem) (Q : Int → Mem → Prop) (qa0 : 0 < a0 ∧ M0 0 a0 = kO 12) (h : wX12_by a0 x1 M0 Q) : CT Y l yX12_by cX12_by 2 (some .int) rmX12_by [vR Y.1 a0, vI x1] M0 (QI Q) := by
  unfold wX12_by at h
  refine ct_intro (by decide) (Nat.le_of_ble_eq_true rfl) ?_
  intro X hXl hC hL0
  have hL := hL0 hF
  change OKX X Y RX12 cX12_by 2 (some .int) rmX12_by at hC
  change WW X Y 2 rmX12_by (QI Q) M0 0 0 0 [(0, vR Y.1 a0), (1, vI x1)] [] M0
  refine r_aload_n hC 0 dX12_by_0 rfl rfl ?_
  refine r_iload_n hC 1 dX12_by_1 rfl rfl ?_
  refine r_iconst hC dX12_by_2 ?_
  refine r_callV (As := [vI x1, vI 0]) (st := []) hC cw_X12_101 rfl qa0.1 qa0.2 rfl rfl (Nat.le_of_ble_eq_true rfl) ⟨Nat.le_of_ble_eq_true rfl, Nat.le_of_ble_eq_true rfl⟩ ⟨Nat.le_of_ble_eq_true rfl, Nat.le_of_ble_eq_true rfl⟩ dX12_by_3 (fun hk => mX12_likingIs Y hF _ _ _ _ _ _ (kqO hk qa0) h) (fun v M_1 h => ?_)
  obtain ⟨r_2, rfl, h⟩ := h
  by_cases c0 : bm r_2 = 1
  · replace h := h.1 c0
    refine r_tabIn hC 44 1 dX12_by_6 c0 (by decide) (by decide) rfl (by decide) ?_
    refine r_aload_n hC 0 dX12_by_44 rfl rfl ?_
    refine r_iload_n hC 1 dX12_by_45 rfl rfl ?_
    refine r_iconst hC dX12_by_46 ?_
    refine r_callV (As := [vI x1, vI 0]) (st := []) hC cw_X12_189 rfl qa0.1 qa0.2 rfl rfl (Nat.le_of_ble_eq_true rfl) ⟨Nat.le_of_ble_eq_true rfl, Nat.le_of_ble_eq_true rfl⟩ ⟨Nat.le_of_ble_eq_true rfl, Nat.le_of_ble_eq_true rfl⟩ dX12_by_47 (fun hk => mX12_byNext Y hF _ _ _ _ _ _ (kqO hk qa0) h) (fun v M_3 h => ?_)
    obtain ⟨r_4, rfl, h⟩ := h
    exact r_iret hC (Nat.zero_le _) (Nat.zero_le _) dX12_by_50 ⟨_, rfl, h⟩
  · replace h := h.2 c0
    by_cases c1 : bm r_2 = 2
    · replace h := h.1 c1
      refine r_tabIn hC 58 2 dX12_by_6 c1 (by decide) (by decide) rfl (by decide) ?_
      refine r_aload_n hC 0 dX12_by_58 rfl rfl ?_
      refine r_iload_n hC 1 dX12_by_59 rfl rfl ?_
      refine r_callV (As := [vI x1]) (st := []) hC cw_X12_193 rfl qa0.1 qa0.2 rfl rfl (Nat.le_of_ble_eq_true rfl) ⟨Nat.le_of_ble_eq_true rfl, Nat.le_of_ble_eq_true rfl⟩ ⟨Nat.le_of_ble_eq_true rfl, Nat.le_of_ble_eq_true rfl⟩ dX12_by_60 (fun hk => mX12_bySince Y hF _ _ _ _ _ (kqO hk qa0) h) (fun v M_5 h => ?_)
      obtain ⟨r_6, rfl, h⟩ := h
      exact r_iret hC (Nat.zero_le _) (Nat.zero_le _) dX12_by_63 ⟨_, rfl, h⟩
    · replace h := h.2 c1
      by_cases c2 : bm r_2 = 3
      · replace h := h.1 c2
        refine r_tabIn hC 64 3 dX12_by_6 c2 (by decide) (by decide) rfl (by decide) ?_
        refine r_aload_n hC 0 dX12_by_64 rfl rfl ?_
        refine r_iload_n hC 1 dX12_by_65 rfl rfl ?_
        refine r_callV (As := [vI x1]) (st := []) hC cw_X12_196 rfl qa0.1 qa0.2 rfl rfl (Nat.le_of_ble_eq_true rfl) ⟨Nat.le_of_ble_eq_true rfl, Nat.le_of_ble_eq_true rfl⟩ ⟨Nat.le_of_ble_eq_true rfl, Nat.le_of_ble_eq_true rfl⟩ dX12_by_66 (fun hk => mX12_byPlace Y hF _ _ _ _ _ (kqO hk qa0) h) (fun v M_7 h => ?_)
        obtain ⟨r_8, rfl, h⟩ := h
        exact r_iret hC (Nat.zero_le _) (Nat.zero_le _) dX12_by_69 ⟨_, rfl, h⟩
      · replace h := h.2 c2
        by_cases c3 : bm r_2 = 4
        · replace h := h.1 c3
          refine r_tabIn hC 70 4 dX12_by_6 c3 (by decide) (by decide) rfl (by decide) ?_
          refine r_aload_n hC 0 dX12_by_70 rfl rfl ?_
          refine r_iload_n hC 1 dX12_by_71 rfl rfl ?_
          refine r_callV (As := [vI x1]) (st := []) hC cw_X12_199 rfl qa0.1 qa0.2 rfl rfl (Nat.le_of_ble_eq_true rfl) ⟨Nat.le_of_ble_eq_true rfl, Nat.le_of_ble_eq_true rfl⟩ ⟨Nat.le_of_ble_eq_true rfl, Nat.le_of_ble_eq_true rfl⟩ dX12_by_72 (fun hk => mX12_byTired Y hF _ _ _ _ _ (kqO hk qa0) h) (fun v M_9 h => ?_)
          obtain ⟨r_10, rfl, h⟩ := h
          exact r_iret hC (Nat.zero_le _) (Nat.zero_le _) dX12_by_75 ⟨_, rfl, h⟩
        · replace h := h.2 c3
          by_cases c4 : bm r_2 = 5
          · replace h := h.1 c4
            refine r_tabIn hC 51 5 dX12_by_6 c4 (by decide) (by decide) rfl (by decide) ?_
            refine r_aload_n hC 0 dX12_by_51 rfl rfl ?_
            refine r_iload_n hC 1 dX12_by_52 rfl rfl ?_
            refine r_iconst hC dX12_by_53 ?_
            refine r_callV (As := [vI x1, vI 1]) (st := []) hC cw_X12_189 rfl qa0.1 qa0.2 rfl rfl (Nat.le_of_ble_eq_true rfl) ⟨Nat.le_of_ble_eq_true rfl, Nat.le_of_ble_eq_true rfl⟩ ⟨Nat.le_of_ble_eq_true rfl, Nat.le_of_ble_eq_true rfl⟩ dX12_by_54 (fun hk => mX12_byNext Y hF _ _ _ _ _ _ (kqO hk qa0) h) (fun v M_11 h => ?_)
            obtain ⟨r_12, rfl, h⟩ := h
            exact r_iret hC (Nat.zero_le _) (Nat.zero_le _) dX12_by_57 ⟨_, rfl, h⟩
          · replace h := h.2 c4
            by_cases c5 : bm r_2 = 6
            · replace h := h.1 c5
              refine r_tabIn hC 76 6 dX12_by_6 c5 (by decide) (by decide) rfl (by decide) ?_
              refine r_aload_n hC 0 dX12_by_76 rfl rfl ?_
              refine r_callV (As := []) (st := []) hC cw_X12_183 rfl qa0.1 qa0.2 rfl rfl (Nat.le_of_ble_eq_true rfl) ⟨Nat.le_of_ble_eq_true rfl, Nat.le_of_ble_eq_true rfl⟩ ⟨Nat.le_of_ble_eq_true rfl, Nat.le_of_ble_eq_true rfl⟩ dX12_by_77 (fun hk => mX12_broken Y hF _ _ _ _ (kqO hk qa0) h) (fun v M_13 h => ?_)
              obtain ⟨r_14, rfl, h⟩ := h
              refine r_callS (As := [vI r_14]) (st := []) hC cw_X12_156 rfl rfl (Nat.le_of_ble_eq_true rfl) ⟨Nat.le_of_ble_eq_true rfl, Nat.le_of_ble_eq_true rfl⟩ ⟨Nat.le_of_ble_eq_true rfl, Nat.le_of_ble_eq_true rfl⟩ dX12_by_80 (fun hk => mX12_ones Y hF _ _ _ _  h) (fun v M_15 h => ?_)
              obtain ⟨r_16, rfl, h⟩ := h
              refine r_ineg hC dX12_by_83 ?_
              exact r_iret hC (Nat.zero_le _) (Nat.zero_le _) dX12_by_84 ⟨_, rfl, h⟩
            · replace h := h.2 c5
              refine r_tabOut hC 85 dX12_by_6 (by omega) (by decide) ?_
              refine r_iconst hC dX12_by_85 ?_
              exact r_iret hC (Nat.zero_le _) (Nat.zero_le _) dX12_by_86 ⟨_, rfl, h⟩
theorem dX12_share_0 : dec cX12_share 0 1 1 (.aload_n 0) := ⟨by decide +kernel, rfl⟩
theorem dX12_share_1 : dec cX12_share 1 1 2 (.iload_n 1) := ⟨by decide +kernel, rfl⟩
theorem dX12_share_2 : dec cX12_share 2 3 5 (.invokevirtual 202) := ⟨by decide +kernel, rfl⟩
theorem dX12_share_5 : dec cX12_share 5 1 6 (.i2l) := ⟨by decide +kernel, rfl⟩
theorem dX12_share_6 : dec cX12_share 6 1 7 (.aload_n 0) := ⟨by decide +kernel, rfl⟩
theorem dX12_share_7 : dec cX12_share 7 1 8 (.iload_n 1) := ⟨by decide +kernel, rfl⟩
theorem dX12_share_8 : dec cX12_share 8 1 9 (.iconst 1) := ⟨by decide +kernel, rfl⟩
theorem dX12_share_9 : dec cX12_share 9 3 12 (.invokevirtual 101) := ⟨by decide +kernel, rfl⟩
theorem dX12_share_12 : dec cX12_share 12 1 13 (.i2l) := ⟨by decide +kernel, rfl⟩
theorem dX12_share_13 : dec cX12_share 13 1 14 (.lmul) := ⟨by decide +kernel, rfl⟩
theorem dX12_share_14 : dec cX12_share 14 3 17 (.sipush 2520) := ⟨by decide +kernel, rfl⟩
theorem dX12_share_17 : dec cX12_share 17 1 18 (.aload_n 0) := ⟨by decide +kernel, rfl⟩
theorem dX12_share_18 : dec cX12_share 18 1 19 (.iload_n 1) := ⟨by decide +kernel, rfl⟩
theorem dX12_share_19 : dec cX12_share 19 1 20 (.iconst 2) := ⟨by decide +kernel, rfl⟩
theorem dX12_share_20 : dec cX12_share 20 3 23 (.invokevirtual 101) := ⟨by decide +kernel, rfl⟩
theorem dX12_share_23 : dec cX12_share 23 1 24 (.idiv) := ⟨by decide +kernel, rfl⟩
theorem dX12_share_24 : dec cX12_share 24 1 25 (.i2l) := ⟨by decide +kernel, rfl⟩
theorem dX12_share_25 : dec cX12_share 25 1 26 (.lmul) := ⟨by decide +kernel, rfl⟩
theorem dX12_share_26 : dec cX12_share 26 1 27 (.lreturn) := ⟨by decide +kernel, rfl⟩
set_option maxHeartbeats 4000000 in
set_option maxRecDepth 100000 in
theorem mX12_share (Y : Yx) (hF : Y.2.2.2.2 = true) (l : Launch) (a0 : Nat) (x1 : Int) (M0 : Mem) (Q : Int → Mem → Prop) (qa0 : 0 < a0 ∧ M0 0 a0 = kO 12) (h : wX12_share a0 x1 M0 Q) : CT Y l yX12_share cX12_share 2 (some .long) rmX12_share [vR Y.1 a0, vI x1] M0 (QL Q) := by
  unfold wX12_share at h
  refine ct_intro (by decide) (Nat.le_of_ble_eq_true rfl) ?_
  intro X hXl hC hL0
  have hL := hL0 hF
  change OKX X Y RX12 cX12_share 2 (some .long) rmX12_share at hC
  change WW X Y 2 rmX12_share (QL Q) M0 0 0 0 [(0, vR Y.1 a0), (1, vI x1)] [] M0
  refine r_aload_n hC 0 dX12_share_0 rfl rfl ?_
  refine r_iload_n hC 1 dX12_share_1 rfl rfl ?_
  refine r_callV (As := [vI x1]) (st := []) hC cw_X12_202 rfl qa0.1 qa0.2 rfl rfl (Nat.le_of_ble_eq_true rfl) ⟨Nat.le_of_ble_eq_true rfl, Nat.le_of_ble_eq_true rfl⟩ ⟨Nat.le_of_ble_eq_true rfl, Nat.le_of_ble_eq_true rfl⟩ dX12_share_2 (fun hk => mX12_by Y hF _ _ _ _ _ (kqO hk qa0) h) (fun v M_1 h => ?_)
  obtain ⟨r_2, rfl, h⟩ := h
  refine r_i2l hC dX12_share_5 ?_
  refine r_aload_n hC 0 dX12_share_6 rfl rfl ?_
  refine r_iload_n hC 1 dX12_share_7 rfl rfl ?_
  refine r_iconst hC dX12_share_8 ?_
  refine r_callV (As := [vI x1, vI 1]) (st := [vL (bm r_2)]) hC cw_X12_101 rfl qa0.1 qa0.2 rfl rfl (Nat.le_of_ble_eq_true rfl) ⟨Nat.le_of_ble_eq_true rfl, Nat.le_of_ble_eq_true rfl⟩ ⟨Nat.le_of_ble_eq_true rfl, Nat.le_of_ble_eq_true rfl⟩ dX12_share_9 (fun hk => mX12_likingIs Y hF _ _ _ _ _ _ (kqO hk qa0) h) (fun v M_3 h => ?_)
  obtain ⟨r_4, rfl, h⟩ := h
  refine r_i2l hC dX12_share_12 ?_
  refine r_lmul hC dX12_share_13 ?_
  refine r_sipush hC (by decide +kernel) dX12_share_14 ?_
  refine r_aload_n hC 0 dX12_share_17 rfl rfl ?_
  refine r_iload_n hC 1 dX12_share_18 rfl rfl ?_
  refine r_iconst hC dX12_share_19 ?_
  refine r_callV (As := [vI x1, vI 2]) (st := [vI 2520, vL ((bm r_2) * (bm r_4))]) hC cw_X12_101 rfl qa0.1 qa0.2 rfl rfl (Nat.le_of_ble_eq_true rfl) ⟨Nat.le_of_ble_eq_true rfl, Nat.le_of_ble_eq_true rfl⟩ ⟨Nat.le_of_ble_eq_true rfl, Nat.le_of_ble_eq_true rfl⟩ dX12_share_20 (fun hk => mX12_likingIs Y hF _ _ _ _ _ _ (kqO hk qa0) h) (fun v M_5 h => ?_)
  obtain ⟨r_6, rfl, h⟩ := h
  obtain ⟨z_7, h⟩ := h
  refine r_idiv hC z_7 dX12_share_23 ?_
  refine r_i2l hC dX12_share_24 ?_
  refine r_lmul hC dX12_share_25 ?_
  exact r_lret hC (Nat.zero_le _) (Nat.zero_le _) dX12_share_26 ⟨_, rfl, h⟩
theorem dX12_worthNow_0 : dec cX12_worthNow 0 1 1 (.lconst 0) := ⟨by decide +kernel, rfl⟩
theorem dX12_worthNow_1 : dec cX12_worthNow 1 1 2 (.lstore_n 1) := ⟨by decide +kernel, rfl⟩
theorem dX12_worthNow_2 : dec cX12_worthNow 2 1 3 (.iconst 0) := ⟨by decide +kernel, rfl⟩
theorem dX12_worthNow_3 : dec cX12_worthNow 3 1 4 (.istore_n 3) := ⟨by decide +kernel, rfl⟩
theorem dX12_worthNow_4 : dec cX12_worthNow 4 1 5 (.iload_n 3) := ⟨by decide +kernel, rfl⟩
theorem dX12_worthNow_5 : dec cX12_worthNow 5 1 6 (.aload_n 0) := ⟨by decide +kernel, rfl⟩
theorem dX12_worthNow_6 : dec cX12_worthNow 6 3 9 (.getfield 7) := ⟨by decide +kernel, rfl⟩
theorem dX12_worthNow_9 : dec cX12_worthNow 9 1 10 (.iconst 1) := ⟨by decide +kernel, rfl⟩
theorem dX12_worthNow_10 : dec cX12_worthNow 10 1 11 (.iaload) := ⟨by decide +kernel, rfl⟩
theorem dX12_worthNow_11 : dec cX12_worthNow 11 3 14 (.if_icmp .ge 31) := ⟨by decide +kernel, rfl⟩
theorem dX12_worthNow_14 : dec cX12_worthNow 14 1 15 (.lload_n 1) := ⟨by decide +kernel, rfl⟩
theorem dX12_worthNow_15 : dec cX12_worthNow 15 1 16 (.aload_n 0) := ⟨by decide +kernel, rfl⟩
theorem dX12_worthNow_16 : dec cX12_worthNow 16 1 17 (.iload_n 3) := ⟨by decide +kernel, rfl⟩
theorem dX12_worthNow_17 : dec cX12_worthNow 17 1 18 (.iconst 3) := ⟨by decide +kernel, rfl⟩
theorem dX12_worthNow_18 : dec cX12_worthNow 18 3 21 (.invokevirtual 101) := ⟨by decide +kernel, rfl⟩
theorem dX12_worthNow_21 : dec cX12_worthNow 21 1 22 (.iconst 1) := ⟨by decide +kernel, rfl⟩
theorem dX12_worthNow_22 : dec cX12_worthNow 22 3 25 (.if_icmp .ne 11) := ⟨by decide +kernel, rfl⟩
theorem dX12_worthNow_25 : dec cX12_worthNow 25 1 26 (.aload_n 0) := ⟨by decide +kernel, rfl⟩
theorem dX12_worthNow_26 : dec cX12_worthNow 26 1 27 (.iload_n 3) := ⟨by decide +kernel, rfl⟩
theorem dX12_worthNow_27 : dec cX12_worthNow 27 3 30 (.invokevirtual 205) := ⟨by decide +kernel, rfl⟩
theorem dX12_worthNow_30 : dec cX12_worthNow 30 3 33 (.goto 4) := ⟨by decide +kernel, rfl⟩
theorem dX12_worthNow_33 : dec cX12_worthNow 33 1 34 (.lconst 0) := ⟨by decide +kernel, rfl⟩
theorem dX12_worthNow_34 : dec cX12_worthNow 34 1 35 (.ladd) := ⟨by decide +kernel, rfl⟩
theorem dX12_worthNow_35 : dec cX12_worthNow 35 1 36 (.lstore_n 1) := ⟨by decide +kernel, rfl⟩
theorem dX12_worthNow_36 : dec cX12_worthNow 36 3 39 (.iinc 3 1) := ⟨by decide +kernel, rfl⟩
theorem dX12_worthNow_39 : dec cX12_worthNow 39 3 42 (.goto (-35)) := ⟨by decide +kernel, rfl⟩
theorem dX12_worthNow_42 : dec cX12_worthNow 42 1 43 (.lload_n 1) := ⟨by decide +kernel, rfl⟩
theorem dX12_worthNow_43 : dec cX12_worthNow 43 1 44 (.lreturn) := ⟨by decide +kernel, rfl⟩
set_option maxHeartbeats 4000000 in
set_option maxRecDepth 100000 in
theorem tX12_worthNow_J34 {X : Cx} {Y : Yx} {M0 : Mem} (hC : OKX X Y RX12 cX12_worthNow 4 (some .long) rmX12_worthNow) (hF : Y.2.2.2.2 = true) (hL : Lay M0) (Q : Int → Mem → Prop) (C4 : Int → Int → Mem → Prop)  (a0 : Nat) (x3 : Int) (ls0 : Int) (ls1 : Int) (qa0 : 0 < a0 ∧ M0 0 a0 = kO 12) (hC4 : ∀ (l1 : Int) (x3 : Int) (M : Mem), C4 l1 x3 M → WW X Y 4 rmX12_worthNow (QL Q) M0 0 0 4 [(0, vR Y.1 a0), (1, vL l1), (3, vI x3)] [] M) (M : Mem) (h : wX12_worthNow_J34 Q C4 a0 x3 ls0 ls1 M) : WW X Y 4 rmX12_worthNow (QL Q) M0 0 0 34 [(0, vR Y.1 a0), (3, vI x3)] [vL ls0, vL ls1] M := by
  unfold wX12_worthNow_J34 at h
  refine r_ladd hC dX12_worthNow_34 ?_
  refine r_nameL h (fun x1_4 h => ?_)
  refine r_lstore_n (lv' := [(1, vL x1_4), (0, vR Y.1 a0), (3, vI x3)]) hC dX12_worthNow_35 rfl (by decide) rfl ?_
  refine let_elim h (fun x3_5 e_6 h => ?_)
  refine r_iinc (lv' := [(3, vI x3_5), (1, vL x1_4), (0, vR Y.1 a0)]) hC 2 dX12_worthNow_36 rfl (by decide) e_6 rfl ?_
  refine r_goto hC 4 dX12_worthNow_39 (by decide) ?_
  refine r_sub [2, 1, 0] rfl ?_
  exact hC4 _ _ _ h
set_option maxHeartbeats 4000000 in
set_option maxRecDepth 100000 in
theorem tX12_worthNow_L4 {X : Cx} {Y : Yx} {M0 : Mem} (hC : OKX X Y RX12 cX12_worthNow 4 (some .long) rmX12_worthNow) (hF : Y.2.2.2.2 = true) (hL : Lay M0) (Q : Int → Mem → Prop)  (a0 : Nat) (qa0 : 0 < a0 ∧ M0 0 a0 = kO 12)  : ∀ (N : Nat) (l1 : Int) (x3 : Int) (M : Mem) (_ : wX12_worthNow_L4 Q  a0 N l1 x3 M), WW X Y 4 rmX12_worthNow (QL Q) M0 0 0 4 [(0, vR Y.1 a0), (1, vL l1), (3, vI x3)] [] M := by
  intro N
  induction N with
  | zero =>
    intro l1 x3 M h
    exact h.elim
  | succ N ih =>
    intro l1 x3 M h
    unfold wX12_worthNow_L4 at h
    refine r_iload_n hC 2 dX12_worthNow_4 rfl rfl ?_
    refine r_aload_n hC 0 dX12_worthNow_5 rfl rfl ?_
    have q_1 : 0 < a0 + 1 ∧ M0 0 (a0 + 1) = kA 0 1522 := lay_f0 (a := a0) hL qa0 fm_12_0
    refine r_getR0 (a' := a0 + 1) hC fg_X12_7 rfl hF fm_12_0 qa0.1 qa0.2 rfl dX12_worthNow_6 ?_
    refine r_iconst hC dX12_worthNow_9 ?_
    refine r_iald hC ⟨by decide +kernel, by decide +kernel⟩ q_1.1 q_1.2 (by decide) dX12_worthNow_10 ?_
    refine r_icmp_ge hC 42 rfl rfl dX12_worthNow_11 (by decide) (fun cq => ?_) (fun cq => ?_)
    · replace h := h.1 cq
      refine r_lload_n hC 1 dX12_worthNow_42 rfl rfl ?_
      exact r_lret hC (Nat.zero_le _) (Nat.zero_le _) dX12_worthNow_43 ⟨_, rfl, h⟩
    · replace h := h.2 cq
      refine r_lload_n hC 1 dX12_worthNow_14 rfl rfl ?_
      refine r_aload_n hC 0 dX12_worthNow_15 rfl rfl ?_
      refine r_iload_n hC 2 dX12_worthNow_16 rfl rfl ?_
      refine r_iconst hC dX12_worthNow_17 ?_
      refine r_callV (As := [vI x3, vI 3]) (st := [vL l1]) hC cw_X12_101 rfl qa0.1 qa0.2 rfl rfl (Nat.le_of_ble_eq_true rfl) ⟨Nat.le_of_ble_eq_true rfl, Nat.le_of_ble_eq_true rfl⟩ ⟨Nat.le_of_ble_eq_true rfl, Nat.le_of_ble_eq_true rfl⟩ dX12_worthNow_18 (fun hk => mX12_likingIs Y hF _ _ _ _ _ _ (kqO hk qa0) h) (fun v M_2 h => ?_)
      obtain ⟨r_3, rfl, h⟩ := h
      refine r_iconst hC dX12_worthNow_21 ?_
      refine r_icmp_ne hC 33 rfl bmL_1 dX12_worthNow_22 (by decide) (fun cq => ?_) (fun cq => ?_)
      · replace h := h.2 cq
        refine r_lconst (a := 0) hC (by decide +kernel) dX12_worthNow_33 ?_
        refine r_sub [0, 2] rfl ?_
        exact tX12_worthNow_J34 hC hF hL Q _  _ _ _ _ qa0 ih _ h
      · replace h := h.1 cq
        refine r_aload_n hC 0 dX12_worthNow_25 rfl rfl ?_
        refine r_iload_n hC 2 dX12_worthNow_26 rfl rfl ?_
        refine r_callV (As := [vI x3]) (st := [vL l1]) hC cw_X12_205 rfl qa0.1 qa0.2 rfl rfl (Nat.le_of_ble_eq_true rfl) ⟨Nat.le_of_ble_eq_true rfl, Nat.le_of_ble_eq_true rfl⟩ ⟨Nat.le_of_ble_eq_true rfl, Nat.le_of_ble_eq_true rfl⟩ dX12_worthNow_27 (fun hk => mX12_share Y hF _ _ _ _ _ (kqO hk qa0) h) (fun v M_7 h => ?_)
        obtain ⟨r_8, rfl, h⟩ := h
        refine r_goto hC 34 dX12_worthNow_30 (by decide) ?_
        refine r_sub [0, 2] rfl ?_
        exact tX12_worthNow_J34 hC hF hL Q _  _ _ _ _ qa0 ih _ h
set_option maxHeartbeats 4000000 in
set_option maxRecDepth 100000 in
theorem mX12_worthNow (Y : Yx) (hF : Y.2.2.2.2 = true) (l : Launch) (a0 : Nat) (M0 : Mem) (Q : Int → Mem → Prop) (qa0 : 0 < a0 ∧ M0 0 a0 = kO 12) (h : wX12_worthNow a0 M0 Q) : CT Y l yX12_worthNow cX12_worthNow 4 (some .long) rmX12_worthNow [vR Y.1 a0] M0 (QL Q) := by
  unfold wX12_worthNow at h
  refine ct_intro (by decide) (Nat.le_of_ble_eq_true rfl) ?_
  intro X hXl hC hL0
  have hL := hL0 hF
  change OKX X Y RX12 cX12_worthNow 4 (some .long) rmX12_worthNow at hC
  change WW X Y 4 rmX12_worthNow (QL Q) M0 0 0 0 [(0, vR Y.1 a0)] [] M0
  refine r_lconst (a := 0) hC (by decide +kernel) dX12_worthNow_0 ?_
  refine r_lstore_n (lv' := [(1, vL 0), (0, vR Y.1 a0)]) hC dX12_worthNow_1 rfl (by decide) rfl ?_
  refine r_iconst hC dX12_worthNow_2 ?_
  refine r_istore_n (lv' := [(3, vI 0), (1, vL 0), (0, vR Y.1 a0)]) hC dX12_worthNow_3 rfl (by decide) rfl ?_
  refine r_sub [2, 1, 0] rfl ?_
  obtain ⟨N_9, h⟩ := h
  refine tX12_worthNow_L4 hC hF hL Q  _ qa0  N_9 _ _ _ h
