theorem dX12_move_0 : dec cX12_move 0 1 1 (.iload_n 1) := ⟨by decide +kernel, rfl⟩
theorem dX12_move_1 : dec cX12_move 1 3 4 (.invokestatic 214) := ⟨by decide +kernel, rfl⟩
theorem dX12_move_4 : dec cX12_move 4 3 7 (.ifCond .eq 10) := ⟨by decide +kernel, rfl⟩
theorem dX12_move_7 : dec cX12_move 7 1 8 (.iload_n 3) := ⟨by decide +kernel, rfl⟩
theorem dX12_move_8 : dec cX12_move 8 3 11 (.invokestatic 214) := ⟨by decide +kernel, rfl⟩
theorem dX12_move_11 : dec cX12_move 11 3 14 (.ifCond .ne 9) := ⟨by decide +kernel, rfl⟩
theorem dX12_move_14 : dec cX12_move 14 1 15 (.aload_n 0) := ⟨by decide +kernel, rfl⟩
theorem dX12_move_15 : dec cX12_move 15 1 16 (.iconst 1) := ⟨by decide +kernel, rfl⟩
theorem dX12_move_16 : dec cX12_move 16 3 19 (.invokevirtual 83) := ⟨by decide +kernel, rfl⟩
theorem dX12_move_19 : dec cX12_move 19 1 20 (.ireturn) := ⟨by decide +kernel, rfl⟩
theorem dX12_move_20 : dec cX12_move 20 1 21 (.aload_n 0) := ⟨by decide +kernel, rfl⟩
theorem dX12_move_21 : dec cX12_move 21 3 24 (.getfield 66) := ⟨by decide +kernel, rfl⟩
theorem dX12_move_24 : dec cX12_move 24 1 25 (.iload_n 1) := ⟨by decide +kernel, rfl⟩
theorem dX12_move_25 : dec cX12_move 25 1 26 (.iaload) := ⟨by decide +kernel, rfl⟩
theorem dX12_move_26 : dec cX12_move 26 3 29 (.ifCond .eq 12) := ⟨by decide +kernel, rfl⟩
theorem dX12_move_29 : dec cX12_move 29 1 30 (.aload_n 0) := ⟨by decide +kernel, rfl⟩
theorem dX12_move_30 : dec cX12_move 30 3 33 (.getfield 66) := ⟨by decide +kernel, rfl⟩
theorem dX12_move_33 : dec cX12_move 33 1 34 (.iload_n 3) := ⟨by decide +kernel, rfl⟩
theorem dX12_move_34 : dec cX12_move 34 1 35 (.iaload) := ⟨by decide +kernel, rfl⟩
theorem dX12_move_35 : dec cX12_move 35 3 38 (.ifCond .ne 9) := ⟨by decide +kernel, rfl⟩
theorem dX12_move_38 : dec cX12_move 38 1 39 (.aload_n 0) := ⟨by decide +kernel, rfl⟩
theorem dX12_move_39 : dec cX12_move 39 1 40 (.iconst 2) := ⟨by decide +kernel, rfl⟩
theorem dX12_move_40 : dec cX12_move 40 3 43 (.invokevirtual 83) := ⟨by decide +kernel, rfl⟩
theorem dX12_move_43 : dec cX12_move 43 1 44 (.ireturn) := ⟨by decide +kernel, rfl⟩
theorem dX12_move_44 : dec cX12_move 44 1 45 (.aload_n 0) := ⟨by decide +kernel, rfl⟩
theorem dX12_move_45 : dec cX12_move 45 3 48 (.getfield 66) := ⟨by decide +kernel, rfl⟩
theorem dX12_move_48 : dec cX12_move 48 1 49 (.iload_n 1) := ⟨by decide +kernel, rfl⟩
theorem dX12_move_49 : dec cX12_move 49 1 50 (.iaload) := ⟨by decide +kernel, rfl⟩
theorem dX12_move_50 : dec cX12_move 50 1 51 (.aload_n 0) := ⟨by decide +kernel, rfl⟩
theorem dX12_move_51 : dec cX12_move 51 3 54 (.getfield 66) := ⟨by decide +kernel, rfl⟩
theorem dX12_move_54 : dec cX12_move 54 1 55 (.iload_n 3) := ⟨by decide +kernel, rfl⟩
theorem dX12_move_55 : dec cX12_move 55 1 56 (.iaload) := ⟨by decide +kernel, rfl⟩
theorem dX12_move_56 : dec cX12_move 56 3 59 (.if_icmp .eq 9) := ⟨by decide +kernel, rfl⟩
theorem dX12_move_59 : dec cX12_move 59 1 60 (.aload_n 0) := ⟨by decide +kernel, rfl⟩
theorem dX12_move_60 : dec cX12_move 60 1 61 (.iconst 5) := ⟨by decide +kernel, rfl⟩
theorem dX12_move_61 : dec cX12_move 61 3 64 (.invokevirtual 83) := ⟨by decide +kernel, rfl⟩
theorem dX12_move_64 : dec cX12_move 64 1 65 (.ireturn) := ⟨by decide +kernel, rfl⟩
theorem dX12_move_65 : dec cX12_move 65 2 67 (.iload 5) := ⟨by decide +kernel, rfl⟩
theorem dX12_move_67 : dec cX12_move 67 3 70 (.ifCond .lt 39) := ⟨by decide +kernel, rfl⟩
theorem dX12_move_70 : dec cX12_move 70 1 71 (.iload_n 2) := ⟨by decide +kernel, rfl⟩
theorem dX12_move_71 : dec cX12_move 71 3 74 (.ifCond .lt 35) := ⟨by decide +kernel, rfl⟩
theorem dX12_move_74 : dec cX12_move 74 2 76 (.iload 4) := ⟨by decide +kernel, rfl⟩
theorem dX12_move_76 : dec cX12_move 76 3 79 (.ifCond .lt 30) := ⟨by decide +kernel, rfl⟩
theorem dX12_move_79 : dec cX12_move 79 1 80 (.iload_n 2) := ⟨by decide +kernel, rfl⟩
theorem dX12_move_80 : dec cX12_move 80 1 81 (.aload_n 0) := ⟨by decide +kernel, rfl⟩
theorem dX12_move_81 : dec cX12_move 81 3 84 (.getfield 69) := ⟨by decide +kernel, rfl⟩
theorem dX12_move_84 : dec cX12_move 84 1 85 (.iload_n 1) := ⟨by decide +kernel, rfl⟩
theorem dX12_move_85 : dec cX12_move 85 1 86 (.iaload) := ⟨by decide +kernel, rfl⟩
theorem dX12_move_86 : dec cX12_move 86 2 88 (.iload 5) := ⟨by decide +kernel, rfl⟩
theorem dX12_move_88 : dec cX12_move 88 1 89 (.isub) := ⟨by decide +kernel, rfl⟩
theorem dX12_move_89 : dec cX12_move 89 3 92 (.if_icmp .gt 17) := ⟨by decide +kernel, rfl⟩
theorem dX12_move_92 : dec cX12_move 92 2 94 (.iload 4) := ⟨by decide +kernel, rfl⟩
theorem dX12_move_94 : dec cX12_move 94 1 95 (.aload_n 0) := ⟨by decide +kernel, rfl⟩
theorem dX12_move_95 : dec cX12_move 95 3 98 (.getfield 69) := ⟨by decide +kernel, rfl⟩
theorem dX12_move_98 : dec cX12_move 98 1 99 (.iload_n 3) := ⟨by decide +kernel, rfl⟩
theorem dX12_move_99 : dec cX12_move 99 1 100 (.iaload) := ⟨by decide +kernel, rfl⟩
theorem dX12_move_100 : dec cX12_move 100 2 102 (.iload 5) := ⟨by decide +kernel, rfl⟩
theorem dX12_move_102 : dec cX12_move 102 1 103 (.isub) := ⟨by decide +kernel, rfl⟩
theorem dX12_move_103 : dec cX12_move 103 3 106 (.if_icmp .le 9) := ⟨by decide +kernel, rfl⟩
theorem dX12_move_106 : dec cX12_move 106 1 107 (.aload_n 0) := ⟨by decide +kernel, rfl⟩
theorem dX12_move_107 : dec cX12_move 107 1 108 (.iconst 1) := ⟨by decide +kernel, rfl⟩
theorem dX12_move_108 : dec cX12_move 108 3 111 (.invokevirtual 83) := ⟨by decide +kernel, rfl⟩
theorem dX12_move_111 : dec cX12_move 111 1 112 (.ireturn) := ⟨by decide +kernel, rfl⟩
theorem dX12_move_112 : dec cX12_move 112 1 113 (.iconst 0) := ⟨by decide +kernel, rfl⟩
theorem dX12_move_113 : dec cX12_move 113 2 115 (.istore 6) := ⟨by decide +kernel, rfl⟩
theorem dX12_move_115 : dec cX12_move 115 2 117 (.iload 6) := ⟨by decide +kernel, rfl⟩
theorem dX12_move_117 : dec cX12_move 117 2 119 (.iload 5) := ⟨by decide +kernel, rfl⟩
theorem dX12_move_119 : dec cX12_move 119 3 122 (.if_icmp .ge 30) := ⟨by decide +kernel, rfl⟩
theorem dX12_move_122 : dec cX12_move 122 1 123 (.aload_n 0) := ⟨by decide +kernel, rfl⟩
theorem dX12_move_123 : dec cX12_move 123 3 126 (.getfield 75) := ⟨by decide +kernel, rfl⟩
theorem dX12_move_126 : dec cX12_move 126 2 128 (.iload 6) := ⟨by decide +kernel, rfl⟩
theorem dX12_move_128 : dec cX12_move 128 1 129 (.aload_n 0) := ⟨by decide +kernel, rfl⟩
theorem dX12_move_129 : dec cX12_move 129 3 132 (.getfield 72) := ⟨by decide +kernel, rfl⟩
theorem dX12_move_132 : dec cX12_move 132 2 134 (.bipush 24) := ⟨by decide +kernel, rfl⟩
theorem dX12_move_134 : dec cX12_move 134 1 135 (.iload_n 1) := ⟨by decide +kernel, rfl⟩
theorem dX12_move_135 : dec cX12_move 135 1 136 (.imul) := ⟨by decide +kernel, rfl⟩
theorem dX12_move_136 : dec cX12_move 136 1 137 (.iload_n 2) := ⟨by decide +kernel, rfl⟩
theorem dX12_move_137 : dec cX12_move 137 1 138 (.iadd) := ⟨by decide +kernel, rfl⟩
theorem dX12_move_138 : dec cX12_move 138 2 140 (.iload 6) := ⟨by decide +kernel, rfl⟩
theorem dX12_move_140 : dec cX12_move 140 1 141 (.iadd) := ⟨by decide +kernel, rfl⟩
theorem dX12_move_141 : dec cX12_move 141 1 142 (.iaload) := ⟨by decide +kernel, rfl⟩
theorem dX12_move_142 : dec cX12_move 142 1 143 (.iastore) := ⟨by decide +kernel, rfl⟩
theorem dX12_move_143 : dec cX12_move 143 3 146 (.iinc 6 1) := ⟨by decide +kernel, rfl⟩
theorem dX12_move_146 : dec cX12_move 146 3 149 (.goto (-31)) := ⟨by decide +kernel, rfl⟩
theorem dX12_move_149 : dec cX12_move 149 1 150 (.iconst 0) := ⟨by decide +kernel, rfl⟩
theorem dX12_move_150 : dec cX12_move 150 2 152 (.istore 6) := ⟨by decide +kernel, rfl⟩
theorem dX12_move_152 : dec cX12_move 152 2 154 (.iload 6) := ⟨by decide +kernel, rfl⟩
theorem dX12_move_154 : dec cX12_move 154 2 156 (.iload 5) := ⟨by decide +kernel, rfl⟩
theorem dX12_move_156 : dec cX12_move 156 3 159 (.if_icmp .ge 31) := ⟨by decide +kernel, rfl⟩
theorem dX12_move_159 : dec cX12_move 159 1 160 (.aload_n 0) := ⟨by decide +kernel, rfl⟩
theorem dX12_move_160 : dec cX12_move 160 3 163 (.getfield 72) := ⟨by decide +kernel, rfl⟩
theorem dX12_move_163 : dec cX12_move 163 2 165 (.bipush 24) := ⟨by decide +kernel, rfl⟩
theorem dX12_move_165 : dec cX12_move 165 1 166 (.iload_n 3) := ⟨by decide +kernel, rfl⟩
theorem dX12_move_166 : dec cX12_move 166 1 167 (.imul) := ⟨by decide +kernel, rfl⟩
theorem dX12_move_167 : dec cX12_move 167 2 169 (.iload 4) := ⟨by decide +kernel, rfl⟩
theorem dX12_move_169 : dec cX12_move 169 1 170 (.iadd) := ⟨by decide +kernel, rfl⟩
theorem dX12_move_170 : dec cX12_move 170 2 172 (.iload 6) := ⟨by decide +kernel, rfl⟩
theorem dX12_move_172 : dec cX12_move 172 1 173 (.iadd) := ⟨by decide +kernel, rfl⟩
theorem dX12_move_173 : dec cX12_move 173 1 174 (.aload_n 0) := ⟨by decide +kernel, rfl⟩
theorem dX12_move_174 : dec cX12_move 174 3 177 (.getfield 75) := ⟨by decide +kernel, rfl⟩
theorem dX12_move_177 : dec cX12_move 177 2 179 (.iload 6) := ⟨by decide +kernel, rfl⟩
theorem dX12_move_179 : dec cX12_move 179 1 180 (.iaload) := ⟨by decide +kernel, rfl⟩
theorem dX12_move_180 : dec cX12_move 180 1 181 (.iastore) := ⟨by decide +kernel, rfl⟩
theorem dX12_move_181 : dec cX12_move 181 3 184 (.iinc 6 1) := ⟨by decide +kernel, rfl⟩
theorem dX12_move_184 : dec cX12_move 184 3 187 (.goto (-32)) := ⟨by decide +kernel, rfl⟩
theorem dX12_move_187 : dec cX12_move 187 2 189 (.iload 5) := ⟨by decide +kernel, rfl⟩
theorem dX12_move_189 : dec cX12_move 189 1 190 (.ireturn) := ⟨by decide +kernel, rfl⟩
set_option maxHeartbeats 4000000 in
set_option maxRecDepth 100000 in
theorem tX12_move_J14 {X : Cx} {Y : Yx} {M0 : Mem} (hC : OKX X Y RX12 cX12_move 7 (some .int) rmX12_move) (hF : Y.2.2.2.2 = true) (hL : Lay M0) (Q : Int → Mem → Prop)   (a0 : Nat) (qa0 : 0 < a0 ∧ M0 0 a0 = kO 12)  (M : Mem) (h : wX12_move_J14 Q  a0 M) : WW X Y 7 rmX12_move (QI Q) M0 0 0 14 [(0, vR Y.1 a0)] [] M := by
  unfold wX12_move_J14 at h
  refine r_aload_n hC 0 dX12_move_14 rfl rfl ?_
  refine r_iconst hC dX12_move_15 ?_
  refine r_callV (As := [vI 1]) (st := []) hC cw_X12_83 rfl qa0.1 qa0.2 rfl rfl (Nat.le_of_ble_eq_true rfl) ⟨Nat.le_of_ble_eq_true rfl, Nat.le_of_ble_eq_true rfl⟩ ⟨Nat.le_of_ble_eq_true rfl, Nat.le_of_ble_eq_true rfl⟩ dX12_move_16 (fun hk => mX12_error Y hF _ _ _ _ _ (kqO hk qa0) h) (fun v M_3 h => ?_)
  obtain ⟨r_4, rfl, h⟩ := h
  exact r_iret hC (Nat.zero_le _) (Nat.zero_le _) dX12_move_19 ⟨_, rfl, h⟩
set_option maxHeartbeats 4000000 in
set_option maxRecDepth 100000 in
theorem tX12_move_J38 {X : Cx} {Y : Yx} {M0 : Mem} (hC : OKX X Y RX12 cX12_move 7 (some .int) rmX12_move) (hF : Y.2.2.2.2 = true) (hL : Lay M0) (Q : Int → Mem → Prop)   (a0 : Nat) (qa0 : 0 < a0 ∧ M0 0 a0 = kO 12)  (M : Mem) (h : wX12_move_J38 Q  a0 M) : WW X Y 7 rmX12_move (QI Q) M0 0 0 38 [(0, vR Y.1 a0)] [] M := by
  unfold wX12_move_J38 at h
  refine r_aload_n hC 0 dX12_move_38 rfl rfl ?_
  refine r_iconst hC dX12_move_39 ?_
  refine r_callV (As := [vI 2]) (st := []) hC cw_X12_83 rfl qa0.1 qa0.2 rfl rfl (Nat.le_of_ble_eq_true rfl) ⟨Nat.le_of_ble_eq_true rfl, Nat.le_of_ble_eq_true rfl⟩ ⟨Nat.le_of_ble_eq_true rfl, Nat.le_of_ble_eq_true rfl⟩ dX12_move_40 (fun hk => mX12_error Y hF _ _ _ _ _ (kqO hk qa0) h) (fun v M_9 h => ?_)
  obtain ⟨r_10, rfl, h⟩ := h
  exact r_iret hC (Nat.zero_le _) (Nat.zero_le _) dX12_move_43 ⟨_, rfl, h⟩
set_option maxHeartbeats 4000000 in
set_option maxRecDepth 100000 in
theorem tX12_move_J106 {X : Cx} {Y : Yx} {M0 : Mem} (hC : OKX X Y RX12 cX12_move 7 (some .int) rmX12_move) (hF : Y.2.2.2.2 = true) (hL : Lay M0) (Q : Int → Mem → Prop)   (a0 : Nat) (qa0 : 0 < a0 ∧ M0 0 a0 = kO 12)  (M : Mem) (h : wX12_move_J106 Q  a0 M) : WW X Y 7 rmX12_move (QI Q) M0 0 0 106 [(0, vR Y.1 a0)] [] M := by
  unfold wX12_move_J106 at h
  refine r_aload_n hC 0 dX12_move_106 rfl rfl ?_
  refine r_iconst hC dX12_move_107 ?_
  refine r_callV (As := [vI 1]) (st := []) hC cw_X12_83 rfl qa0.1 qa0.2 rfl rfl (Nat.le_of_ble_eq_true rfl) ⟨Nat.le_of_ble_eq_true rfl, Nat.le_of_ble_eq_true rfl⟩ ⟨Nat.le_of_ble_eq_true rfl, Nat.le_of_ble_eq_true rfl⟩ dX12_move_108 (fun hk => mX12_error Y hF _ _ _ _ _ (kqO hk qa0) h) (fun v M_17 h => ?_)
  obtain ⟨r_18, rfl, h⟩ := h
  exact r_iret hC (Nat.zero_le _) (Nat.zero_le _) dX12_move_111 ⟨_, rfl, h⟩
set_option maxHeartbeats 4000000 in
set_option maxRecDepth 100000 in
theorem tX12_move_L115 {X : Cx} {Y : Yx} {M0 : Mem} (hC : OKX X Y RX12 cX12_move 7 (some .int) rmX12_move) (hF : Y.2.2.2.2 = true) (hL : Lay M0) (Q : Int → Mem → Prop) (E149 : Mem → Prop) (a0 : Nat) (x1 : Int) (x2 : Int) (x3 : Int) (x4 : Int) (x5 : Int) (qa0 : 0 < a0 ∧ M0 0 a0 = kO 12) (hE149 : ∀  (M : Mem), E149  M → WW X Y 7 rmX12_move (QI Q) M0 0 0 149 [(0, vR Y.1 a0), (3, vI x3), (4, vI x4), (5, vI x5)] [] M) : ∀ (N : Nat) (x6 : Int) (M : Mem) (_ : wX12_move_L115 Q E149 a0 x1 x2 x3 x4 x5 N x6 M), WW X Y 7 rmX12_move (QI Q) M0 0 0 115 [(0, vR Y.1 a0), (1, vI x1), (2, vI x2), (3, vI x3), (4, vI x4), (5, vI x5), (6, vI x6)] [] M := by
  intro N
  induction N with
  | zero =>
    intro x6 M h
    exact h.elim
  | succ N ih =>
    intro x6 M h
    unfold wX12_move_L115 at h
    refine r_iload hC 6 dX12_move_115 rfl ?_
    refine r_iload hC 5 dX12_move_117 rfl ?_
    refine r_icmp_ge hC 149 rfl rfl dX12_move_119 (by decide) (fun cq => ?_) (fun cq => ?_)
    · replace h := h.1 cq
      refine r_sub [0, 3, 4, 5] rfl ?_
      exact hE149  _ h
    · replace h := h.2 cq
      refine r_aload_n hC 0 dX12_move_122 rfl rfl ?_
      have q_23 : 0 < a0 + 22 ∧ M0 0 (a0 + 22) = kA 0 24 := lay_f0 (a := a0) hL qa0 fm_12_39
      refine r_getR0 (a' := a0 + 22) hC fg_X12_75 rfl hF fm_12_39 qa0.1 qa0.2 rfl dX12_move_123 ?_
      refine r_iload hC 6 dX12_move_126 rfl ?_
      refine r_aload_n hC 0 dX12_move_128 rfl rfl ?_
      have q_24 : 0 < a0 + 21 ∧ M0 0 (a0 + 21) = kA 0 96 := lay_f0 (a := a0) hL qa0 fm_12_38
      refine r_getR0 (a' := a0 + 21) hC fg_X12_72 rfl hF fm_12_38 qa0.1 qa0.2 rfl dX12_move_129 ?_
      refine r_bipush hC (by decide +kernel) dX12_move_132 ?_
      refine r_iload_n hC 1 dX12_move_134 rfl rfl ?_
      refine r_imul hC dX12_move_135 ?_
      refine r_iload_n hC 2 dX12_move_136 rfl rfl ?_
      refine r_iadd hC dX12_move_137 ?_
      refine r_iload hC 6 dX12_move_138 rfl ?_
      refine r_iadd hC dX12_move_140 ?_
      obtain ⟨i_25, h⟩ := h
      refine r_iald hC i_25 q_24.1 q_24.2 (by decide) dX12_move_141 ?_
      obtain ⟨i_26, h⟩ := h
      refine r_iast hC i_26 q_23.1 q_23.2 (by decide) dX12_move_142 ?_
      refine r_nameM h (fun M_27 h => ?_)
      refine let_elim h (fun x6_28 e_29 h => ?_)
      refine r_iinc (lv' := [(6, vI x6_28), (0, vR Y.1 a0), (1, vI x1), (2, vI x2), (3, vI x3), (4, vI x4), (5, vI x5)]) hC 6 dX12_move_143 rfl (by decide) e_29 rfl ?_
      refine r_goto hC 115 dX12_move_146 (by decide) ?_
      refine r_sub [1, 2, 3, 4, 5, 6, 0] rfl ?_
      exact ih _ _ h
set_option maxHeartbeats 4000000 in
set_option maxRecDepth 100000 in
theorem tX12_move_L152 {X : Cx} {Y : Yx} {M0 : Mem} (hC : OKX X Y RX12 cX12_move 7 (some .int) rmX12_move) (hF : Y.2.2.2.2 = true) (hL : Lay M0) (Q : Int → Mem → Prop)  (a0 : Nat) (x3 : Int) (x4 : Int) (x5 : Int) (qa0 : 0 < a0 ∧ M0 0 a0 = kO 12)  : ∀ (N : Nat) (x6 : Int) (M : Mem) (_ : wX12_move_L152 Q  a0 x3 x4 x5 N x6 M), WW X Y 7 rmX12_move (QI Q) M0 0 0 152 [(0, vR Y.1 a0), (3, vI x3), (4, vI x4), (5, vI x5), (6, vI x6)] [] M := by
  intro N
  induction N with
  | zero =>
    intro x6 M h
    exact h.elim
  | succ N ih =>
    intro x6 M h
    unfold wX12_move_L152 at h
    refine r_iload hC 4 dX12_move_152 rfl ?_
    refine r_iload hC 3 dX12_move_154 rfl ?_
    refine r_icmp_ge hC 187 rfl rfl dX12_move_156 (by decide) (fun cq => ?_) (fun cq => ?_)
    · replace h := h.1 cq
      refine r_iload hC 3 dX12_move_187 rfl ?_
      exact r_iret hC (Nat.zero_le _) (Nat.zero_le _) dX12_move_189 ⟨_, rfl, h⟩
    · replace h := h.2 cq
      refine r_aload_n hC 0 dX12_move_159 rfl rfl ?_
      have q_31 : 0 < a0 + 21 ∧ M0 0 (a0 + 21) = kA 0 96 := lay_f0 (a := a0) hL qa0 fm_12_38
      refine r_getR0 (a' := a0 + 21) hC fg_X12_72 rfl hF fm_12_38 qa0.1 qa0.2 rfl dX12_move_160 ?_
      refine r_bipush hC (by decide +kernel) dX12_move_163 ?_
      refine r_iload_n hC 1 dX12_move_165 rfl rfl ?_
      refine r_imul hC dX12_move_166 ?_
      refine r_iload hC 2 dX12_move_167 rfl ?_
      refine r_iadd hC dX12_move_169 ?_
      refine r_iload hC 4 dX12_move_170 rfl ?_
      refine r_iadd hC dX12_move_172 ?_
      refine r_aload_n hC 0 dX12_move_173 rfl rfl ?_
      have q_32 : 0 < a0 + 22 ∧ M0 0 (a0 + 22) = kA 0 24 := lay_f0 (a := a0) hL qa0 fm_12_39
      refine r_getR0 (a' := a0 + 22) hC fg_X12_75 rfl hF fm_12_39 qa0.1 qa0.2 rfl dX12_move_174 ?_
      refine r_iload hC 4 dX12_move_177 rfl ?_
      obtain ⟨i_33, h⟩ := h
      refine r_iald hC i_33 q_32.1 q_32.2 (by decide) dX12_move_179 ?_
      obtain ⟨i_34, h⟩ := h
      refine r_iast hC i_34 q_31.1 q_31.2 (by decide) dX12_move_180 ?_
      refine r_nameM h (fun M_35 h => ?_)
      refine let_elim h (fun x6_36 e_37 h => ?_)
      refine r_iinc (lv' := [(6, vI x6_36), (0, vR Y.1 a0), (3, vI x3), (4, vI x4), (5, vI x5)]) hC 4 dX12_move_181 rfl (by decide) e_37 rfl ?_
      refine r_goto hC 152 dX12_move_184 (by decide) ?_
      refine r_sub [1, 2, 3, 4, 0] rfl ?_
      exact ih _ _ h
set_option maxHeartbeats 4000000 in
set_option maxRecDepth 100000 in
theorem mX12_move (Y : Yx) (hF : Y.2.2.2.2 = true) (l : Launch) (a0 : Nat) (x1 : Int) (x2 : Int) (x3 : Int) (x4 : Int) (x5 : Int) (M0 : Mem) (Q : Int → Mem → Prop) (qa0 : 0 < a0 ∧ M0 0 a0 = kO 12) (h : wX12_move a0 x1 x2 x3 x4 x5 M0 Q) : CT Y l yX12_move cX12_move 7 (some .int) rmX12_move [vR Y.1 a0, vI x1, vI x2, vI x3, vI x4, vI x5] M0 (QI Q) := by
  unfold wX12_move at h
  refine ct_intro (by decide) (Nat.le_of_ble_eq_true rfl) ?_
  intro X hXl hC hL0
  have hL := hL0 hF
  change OKX X Y RX12 cX12_move 7 (some .int) rmX12_move at hC
  change WW X Y 7 rmX12_move (QI Q) M0 0 0 0 [(0, vR Y.1 a0), (1, vI x1), (2, vI x2), (3, vI x3), (4, vI x4), (5, vI x5)] [] M0
  refine r_iload_n hC 1 dX12_move_0 rfl rfl ?_
  refine r_callS (As := [vI x1]) (st := []) hC cw_X12_214 rfl rfl (Nat.le_of_ble_eq_true rfl) ⟨Nat.le_of_ble_eq_true rfl, Nat.le_of_ble_eq_true rfl⟩ ⟨Nat.le_of_ble_eq_true rfl, Nat.le_of_ble_eq_true rfl⟩ dX12_move_1 (fun hk => mX12_isSheet Y hF _ _ _ _  h) (fun v M_1 h => ?_)
  obtain ⟨r_2, rfl, h⟩ := h
  refine r_if_eq hC 14 rfl dX12_move_4 (by decide) (fun cq => ?_) (fun cq => ?_)
  · replace h := h.1 cq
    refine r_sub [0] rfl ?_
    exact tX12_move_J14 hC hF hL Q   _ qa0  _ h
  · replace h := h.2 cq
    refine r_iload_n hC 3 dX12_move_7 rfl rfl ?_
    refine r_callS (As := [vI x3]) (st := []) hC cw_X12_214 rfl rfl (Nat.le_of_ble_eq_true rfl) ⟨Nat.le_of_ble_eq_true rfl, Nat.le_of_ble_eq_true rfl⟩ ⟨Nat.le_of_ble_eq_true rfl, Nat.le_of_ble_eq_true rfl⟩ dX12_move_8 (fun hk => mX12_isSheet Y hF _ _ _ _  h) (fun v M_5 h => ?_)
    obtain ⟨r_6, rfl, h⟩ := h
    refine r_if_ne hC 20 rfl dX12_move_11 (by decide) (fun cq => ?_) (fun cq => ?_)
    · replace h := h.2 cq
      refine r_aload_n hC 0 dX12_move_20 rfl rfl ?_
      have q_7 : 0 < a0 + 19 ∧ M0 0 (a0 + 19) = kA 0 4 := lay_f0 (a := a0) hL qa0 fm_12_36
      refine r_getR0 (a' := a0 + 19) hC fg_X12_66 rfl hF fm_12_36 qa0.1 qa0.2 rfl dX12_move_21 ?_
      refine r_iload_n hC 1 dX12_move_24 rfl rfl ?_
      obtain ⟨i_8, h⟩ := h
      refine r_iald hC i_8 q_7.1 q_7.2 (by decide) dX12_move_25 ?_
      refine r_if_eq hC 38 rfl dX12_move_26 (by decide) (fun cq => ?_) (fun cq => ?_)
      · replace h := h.1 cq
        refine r_sub [0] rfl ?_
        exact tX12_move_J38 hC hF hL Q   _ qa0  _ h
      · replace h := h.2 cq
        refine r_aload_n hC 0 dX12_move_29 rfl rfl ?_
        have q_11 : 0 < a0 + 19 ∧ M0 0 (a0 + 19) = kA 0 4 := lay_f0 (a := a0) hL qa0 fm_12_36
        refine r_getR0 (a' := a0 + 19) hC fg_X12_66 rfl hF fm_12_36 qa0.1 qa0.2 rfl dX12_move_30 ?_
        refine r_iload_n hC 3 dX12_move_33 rfl rfl ?_
        obtain ⟨i_12, h⟩ := h
        refine r_iald hC i_12 q_11.1 q_11.2 (by decide) dX12_move_34 ?_
        refine r_if_ne hC 44 rfl dX12_move_35 (by decide) (fun cq => ?_) (fun cq => ?_)
        · replace h := h.2 cq
          refine r_aload_n hC 0 dX12_move_44 rfl rfl ?_
          have q_13 : 0 < a0 + 19 ∧ M0 0 (a0 + 19) = kA 0 4 := lay_f0 (a := a0) hL qa0 fm_12_36
          refine r_getR0 (a' := a0 + 19) hC fg_X12_66 rfl hF fm_12_36 qa0.1 qa0.2 rfl dX12_move_45 ?_
          refine r_iload_n hC 1 dX12_move_48 rfl rfl ?_
          obtain ⟨i_14, h⟩ := h
          refine r_iald hC i_14 q_13.1 q_13.2 (by decide) dX12_move_49 ?_
          refine r_aload_n hC 0 dX12_move_50 rfl rfl ?_
          have q_15 : 0 < a0 + 19 ∧ M0 0 (a0 + 19) = kA 0 4 := lay_f0 (a := a0) hL qa0 fm_12_36
          refine r_getR0 (a' := a0 + 19) hC fg_X12_66 rfl hF fm_12_36 qa0.1 qa0.2 rfl dX12_move_51 ?_
          refine r_iload_n hC 3 dX12_move_54 rfl rfl ?_
          obtain ⟨i_16, h⟩ := h
          refine r_iald hC i_16 q_15.1 q_15.2 (by decide) dX12_move_55 ?_
          refine r_icmp_eq hC 65 rfl rfl dX12_move_56 (by decide) (fun cq => ?_) (fun cq => ?_)
          · replace h := h.1 cq
            refine r_iload hC 5 dX12_move_65 rfl ?_
            refine r_if_lt hC 106 rfl dX12_move_67 (by decide) (fun cq => ?_) (fun cq => ?_)
            · replace h := h.1 cq
              refine r_sub [0] rfl ?_
              exact tX12_move_J106 hC hF hL Q   _ qa0  _ h
            · replace h := h.2 cq
              refine r_iload_n hC 2 dX12_move_70 rfl rfl ?_
              refine r_if_lt hC 106 rfl dX12_move_71 (by decide) (fun cq => ?_) (fun cq => ?_)
              · replace h := h.1 cq
                refine r_sub [0] rfl ?_
                exact tX12_move_J106 hC hF hL Q   _ qa0  _ h
              · replace h := h.2 cq
                refine r_iload hC 4 dX12_move_74 rfl ?_
                refine r_if_lt hC 106 rfl dX12_move_76 (by decide) (fun cq => ?_) (fun cq => ?_)
                · replace h := h.1 cq
                  refine r_sub [0] rfl ?_
                  exact tX12_move_J106 hC hF hL Q   _ qa0  _ h
                · replace h := h.2 cq
                  refine r_iload_n hC 2 dX12_move_79 rfl rfl ?_
                  refine r_aload_n hC 0 dX12_move_80 rfl rfl ?_
                  have q_19 : 0 < a0 + 20 ∧ M0 0 (a0 + 20) = kA 0 4 := lay_f0 (a := a0) hL qa0 fm_12_37
                  refine r_getR0 (a' := a0 + 20) hC fg_X12_69 rfl hF fm_12_37 qa0.1 qa0.2 rfl dX12_move_81 ?_
                  refine r_iload_n hC 1 dX12_move_84 rfl rfl ?_
                  obtain ⟨i_20, h⟩ := h
                  refine r_iald hC i_20 q_19.1 q_19.2 (by decide) dX12_move_85 ?_
                  refine r_iload hC 5 dX12_move_86 rfl ?_
                  refine r_isub hC dX12_move_88 ?_
                  refine r_icmp_gt hC 106 rfl rfl dX12_move_89 (by decide) (fun cq => ?_) (fun cq => ?_)
                  · replace h := h.1 cq
                    refine r_sub [0] rfl ?_
                    exact tX12_move_J106 hC hF hL Q   _ qa0  _ h
                  · replace h := h.2 cq
                    refine r_iload hC 4 dX12_move_92 rfl ?_
                    refine r_aload_n hC 0 dX12_move_94 rfl rfl ?_
                    have q_21 : 0 < a0 + 20 ∧ M0 0 (a0 + 20) = kA 0 4 := lay_f0 (a := a0) hL qa0 fm_12_37
                    refine r_getR0 (a' := a0 + 20) hC fg_X12_69 rfl hF fm_12_37 qa0.1 qa0.2 rfl dX12_move_95 ?_
                    refine r_iload_n hC 3 dX12_move_98 rfl rfl ?_
                    obtain ⟨i_22, h⟩ := h
                    refine r_iald hC i_22 q_21.1 q_21.2 (by decide) dX12_move_99 ?_
                    refine r_iload hC 5 dX12_move_100 rfl ?_
                    refine r_isub hC dX12_move_102 ?_
                    refine r_icmp_le hC 112 rfl rfl dX12_move_103 (by decide) (fun cq => ?_) (fun cq => ?_)
                    · replace h := h.1 cq
                      refine r_iconst hC dX12_move_112 ?_
                      refine r_istore (lv' := [(6, vI 0), (0, vR Y.1 a0), (1, vI x1), (2, vI x2), (3, vI x3), (4, vI x4), (5, vI x5)]) hC dX12_move_113 (by decide) rfl ?_
                      refine r_sub [1, 2, 3, 4, 5, 6, 0] rfl ?_
                      obtain ⟨N_39, h⟩ := h
                      refine tX12_move_L115 hC hF hL Q _ _ _ _ _ _ _ qa0 ?_ N_39 _ _ h
                      · intro M_30 h
                        refine r_iconst hC dX12_move_149 ?_
                        refine r_istore (lv' := [(6, vI 0), (0, vR Y.1 a0), (3, vI x3), (4, vI x4), (5, vI x5)]) hC dX12_move_150 (by decide) rfl ?_
                        refine r_sub [1, 2, 3, 4, 0] rfl ?_
                        obtain ⟨N_38, h⟩ := h
                        refine tX12_move_L152 hC hF hL Q  _ _ _ _ qa0  N_38 _ _ h
                    · replace h := h.2 cq
                      refine r_sub [0] rfl ?_
                      exact tX12_move_J106 hC hF hL Q   _ qa0  _ h
          · replace h := h.2 cq
            refine r_aload_n hC 0 dX12_move_59 rfl rfl ?_
            refine r_iconst hC dX12_move_60 ?_
            refine r_callV (As := [vI 5]) (st := []) hC cw_X12_83 rfl qa0.1 qa0.2 rfl rfl (Nat.le_of_ble_eq_true rfl) ⟨Nat.le_of_ble_eq_true rfl, Nat.le_of_ble_eq_true rfl⟩ ⟨Nat.le_of_ble_eq_true rfl, Nat.le_of_ble_eq_true rfl⟩ dX12_move_61 (fun hk => mX12_error Y hF _ _ _ _ _ (kqO hk qa0) h) (fun v M_40 h => ?_)
            obtain ⟨r_41, rfl, h⟩ := h
            exact r_iret hC (Nat.zero_le _) (Nat.zero_le _) dX12_move_64 ⟨_, rfl, h⟩
        · replace h := h.1 cq
          refine r_sub [0] rfl ?_
          exact tX12_move_J38 hC hF hL Q   _ qa0  _ h
    · replace h := h.1 cq
      refine r_sub [0] rfl ?_
      exact tX12_move_J14 hC hF hL Q   _ qa0  _ h
theorem dX12_image_0 : dec cX12_image 0 1 1 (.iconst 0) := ⟨by decide +kernel, rfl⟩
theorem dX12_image_1 : dec cX12_image 1 1 2 (.istore_n 1) := ⟨by decide +kernel, rfl⟩
theorem dX12_image_2 : dec cX12_image 2 1 3 (.iload_n 1) := ⟨by decide +kernel, rfl⟩
theorem dX12_image_3 : dec cX12_image 3 3 6 (.sipush 1522) := ⟨by decide +kernel, rfl⟩
theorem dX12_image_6 : dec cX12_image 6 3 9 (.if_icmp .ge 21) := ⟨by decide +kernel, rfl⟩
theorem dX12_image_9 : dec cX12_image 9 1 10 (.aload_n 0) := ⟨by decide +kernel, rfl⟩
theorem dX12_image_10 : dec cX12_image 10 3 13 (.getfield 13) := ⟨by decide +kernel, rfl⟩
theorem dX12_image_13 : dec cX12_image 13 1 14 (.iload_n 1) := ⟨by decide +kernel, rfl⟩
theorem dX12_image_14 : dec cX12_image 14 1 15 (.aload_n 0) := ⟨by decide +kernel, rfl⟩
theorem dX12_image_15 : dec cX12_image 15 3 18 (.getfield 7) := ⟨by decide +kernel, rfl⟩
theorem dX12_image_18 : dec cX12_image 18 1 19 (.iload_n 1) := ⟨by decide +kernel, rfl⟩
theorem dX12_image_19 : dec cX12_image 19 1 20 (.iaload) := ⟨by decide +kernel, rfl⟩
theorem dX12_image_20 : dec cX12_image 20 1 21 (.iastore) := ⟨by decide +kernel, rfl⟩
theorem dX12_image_21 : dec cX12_image 21 3 24 (.iinc 1 1) := ⟨by decide +kernel, rfl⟩
theorem dX12_image_24 : dec cX12_image 24 3 27 (.goto (-22)) := ⟨by decide +kernel, rfl⟩
theorem dX12_image_27 : dec cX12_image 27 1 28 (.aload_n 0) := ⟨by decide +kernel, rfl⟩
theorem dX12_image_28 : dec cX12_image 28 1 29 (.dup) := ⟨by decide +kernel, rfl⟩
theorem dX12_image_29 : dec cX12_image 29 3 32 (.getfield 339) := ⟨by decide +kernel, rfl⟩
theorem dX12_image_32 : dec cX12_image 32 1 33 (.iconst 1) := ⟨by decide +kernel, rfl⟩
theorem dX12_image_33 : dec cX12_image 33 1 34 (.iadd) := ⟨by decide +kernel, rfl⟩
theorem dX12_image_34 : dec cX12_image 34 3 37 (.putfield 339) := ⟨by decide +kernel, rfl⟩
theorem dX12_image_37 : dec cX12_image 37 1 38 (.aload_n 0) := ⟨by decide +kernel, rfl⟩
theorem dX12_image_38 : dec cX12_image 38 3 41 (.getfield 339) := ⟨by decide +kernel, rfl⟩
theorem dX12_image_41 : dec cX12_image 41 1 42 (.ireturn) := ⟨by decide +kernel, rfl⟩
set_option maxHeartbeats 4000000 in
set_option maxRecDepth 100000 in
theorem tX12_image_L2 {X : Cx} {Y : Yx} {M0 : Mem} (hC : OKX X Y RX12 cX12_image 2 (some .int) rmX12_image) (hF : Y.2.2.2.2 = true) (hL : Lay M0) (Q : Int → Mem → Prop) (E27 : Mem → Prop) (a0 : Nat) (qa0 : 0 < a0 ∧ M0 0 a0 = kO 12) (hE27 : ∀  (M : Mem), E27  M → WW X Y 2 rmX12_image (QI Q) M0 0 0 27 [(0, vR Y.1 a0)] [] M) : ∀ (N : Nat) (x1 : Int) (M : Mem) (_ : wX12_image_L2 Q E27 a0 N x1 M), WW X Y 2 rmX12_image (QI Q) M0 0 0 2 [(0, vR Y.1 a0), (1, vI x1)] [] M := by
  intro N
  induction N with
  | zero =>
    intro x1 M h
    exact h.elim
  | succ N ih =>
    intro x1 M h
    unfold wX12_image_L2 at h
    refine r_iload_n hC 1 dX12_image_2 rfl rfl ?_
    refine r_sipush hC (by decide +kernel) dX12_image_3 ?_
    refine r_icmp_ge hC 27 rfl bmL_1522 dX12_image_6 (by decide) (fun cq => ?_) (fun cq => ?_)
    · replace h := h.1 cq
      refine r_sub [0] rfl ?_
      exact hE27  _ h
    · replace h := h.2 cq
      refine r_aload_n hC 0 dX12_image_9 rfl rfl ?_
      have q_1 : 0 < a0 + 2 ∧ M0 0 (a0 + 2) = kA 0 1522 := lay_f0 (a := a0) hL qa0 fm_12_1
      refine r_getR0 (a' := a0 + 2) hC fg_X12_13 rfl hF fm_12_1 qa0.1 qa0.2 rfl dX12_image_10 ?_
      refine r_iload_n hC 1 dX12_image_13 rfl rfl ?_
      refine r_aload_n hC 0 dX12_image_14 rfl rfl ?_
      have q_2 : 0 < a0 + 1 ∧ M0 0 (a0 + 1) = kA 0 1522 := lay_f0 (a := a0) hL qa0 fm_12_0
      refine r_getR0 (a' := a0 + 1) hC fg_X12_7 rfl hF fm_12_0 qa0.1 qa0.2 rfl dX12_image_15 ?_
      refine r_iload_n hC 1 dX12_image_18 rfl rfl ?_
      obtain ⟨i_3, h⟩ := h
      refine r_iald hC i_3 q_2.1 q_2.2 (by decide) dX12_image_19 ?_
      obtain ⟨i_4, h⟩ := h
      refine r_iast hC i_4 q_1.1 q_1.2 (by decide) dX12_image_20 ?_
      refine r_nameM h (fun M_5 h => ?_)
      refine let_elim h (fun x1_6 e_7 h => ?_)
      refine r_iinc (lv' := [(1, vI x1_6), (0, vR Y.1 a0)]) hC 1 dX12_image_21 rfl (by decide) e_7 rfl ?_
      refine r_goto hC 2 dX12_image_24 (by decide) ?_
      refine r_sub [1, 0] rfl ?_
      exact ih _ _ h
set_option maxHeartbeats 4000000 in
set_option maxRecDepth 100000 in
theorem mX12_image (Y : Yx) (hF : Y.2.2.2.2 = true) (l : Launch) (a0 : Nat) (M0 : Mem) (Q : Int → Mem → Prop) (qa0 : 0 < a0 ∧ M0 0 a0 = kO 12) (h : wX12_image a0 M0 Q) : CT Y l yX12_image cX12_image 2 (some .int) rmX12_image [vR Y.1 a0] M0 (QI Q) := by
  unfold wX12_image at h
  refine ct_intro (by decide) (Nat.le_of_ble_eq_true rfl) ?_
  intro X hXl hC hL0
  have hL := hL0 hF
  change OKX X Y RX12 cX12_image 2 (some .int) rmX12_image at hC
  change WW X Y 2 rmX12_image (QI Q) M0 0 0 0 [(0, vR Y.1 a0)] [] M0
  refine r_iconst hC dX12_image_0 ?_
  refine r_istore_n (lv' := [(1, vI 0), (0, vR Y.1 a0)]) hC dX12_image_1 rfl (by decide) rfl ?_
  refine r_sub [1, 0] rfl ?_
  obtain ⟨N_10, h⟩ := h
  refine tX12_image_L2 hC hF hL Q _ _ qa0 ?_ N_10 _ _ h
  · intro M_8 h
    refine r_aload_n hC 0 dX12_image_27 rfl rfl ?_
    refine r_dup hC rfl dX12_image_28 ?_
    refine r_getI hC fg_X12_339 rfl qa0.1 qa0.2 dX12_image_29 ?_
    refine r_iconst hC dX12_image_32 ?_
    refine r_iadd hC dX12_image_33 ?_
    refine r_putI hC fp_X12_339 rfl qa0.1 qa0.2 dX12_image_34 ?_
    refine r_nameM h (fun M_9 h => ?_)
    refine r_aload_n hC 0 dX12_image_37 rfl rfl ?_
    refine r_getI hC fg_X12_339 rfl qa0.1 qa0.2 dX12_image_38 ?_
    exact r_iret hC (Nat.zero_le _) (Nat.zero_le _) dX12_image_41 ⟨_, rfl, h⟩
theorem dX12_restore_0 : dec cX12_restore 0 1 1 (.aload_n 0) := ⟨by decide +kernel, rfl⟩
theorem dX12_restore_1 : dec cX12_restore 1 3 4 (.getfield 339) := ⟨by decide +kernel, rfl⟩
theorem dX12_restore_4 : dec cX12_restore 4 3 7 (.ifCond .ne 9) := ⟨by decide +kernel, rfl⟩
theorem dX12_restore_7 : dec cX12_restore 7 1 8 (.aload_n 0) := ⟨by decide +kernel, rfl⟩
theorem dX12_restore_8 : dec cX12_restore 8 1 9 (.iconst 2) := ⟨by decide +kernel, rfl⟩
theorem dX12_restore_9 : dec cX12_restore 9 3 12 (.invokevirtual 83) := ⟨by decide +kernel, rfl⟩
theorem dX12_restore_12 : dec cX12_restore 12 1 13 (.ireturn) := ⟨by decide +kernel, rfl⟩
theorem dX12_restore_13 : dec cX12_restore 13 1 14 (.iconst 0) := ⟨by decide +kernel, rfl⟩
theorem dX12_restore_14 : dec cX12_restore 14 1 15 (.istore_n 1) := ⟨by decide +kernel, rfl⟩
theorem dX12_restore_15 : dec cX12_restore 15 1 16 (.iload_n 1) := ⟨by decide +kernel, rfl⟩
theorem dX12_restore_16 : dec cX12_restore 16 3 19 (.sipush 1522) := ⟨by decide +kernel, rfl⟩
theorem dX12_restore_19 : dec cX12_restore 19 3 22 (.if_icmp .ge 21) := ⟨by decide +kernel, rfl⟩
theorem dX12_restore_22 : dec cX12_restore 22 1 23 (.aload_n 0) := ⟨by decide +kernel, rfl⟩
theorem dX12_restore_23 : dec cX12_restore 23 3 26 (.getfield 7) := ⟨by decide +kernel, rfl⟩
theorem dX12_restore_26 : dec cX12_restore 26 1 27 (.iload_n 1) := ⟨by decide +kernel, rfl⟩
theorem dX12_restore_27 : dec cX12_restore 27 1 28 (.aload_n 0) := ⟨by decide +kernel, rfl⟩
theorem dX12_restore_28 : dec cX12_restore 28 3 31 (.getfield 13) := ⟨by decide +kernel, rfl⟩
theorem dX12_restore_31 : dec cX12_restore 31 1 32 (.iload_n 1) := ⟨by decide +kernel, rfl⟩
theorem dX12_restore_32 : dec cX12_restore 32 1 33 (.iaload) := ⟨by decide +kernel, rfl⟩
theorem dX12_restore_33 : dec cX12_restore 33 1 34 (.iastore) := ⟨by decide +kernel, rfl⟩
theorem dX12_restore_34 : dec cX12_restore 34 3 37 (.iinc 1 1) := ⟨by decide +kernel, rfl⟩
theorem dX12_restore_37 : dec cX12_restore 37 3 40 (.goto (-22)) := ⟨by decide +kernel, rfl⟩
theorem dX12_restore_40 : dec cX12_restore 40 1 41 (.aload_n 0) := ⟨by decide +kernel, rfl⟩
theorem dX12_restore_41 : dec cX12_restore 41 3 44 (.getfield 7) := ⟨by decide +kernel, rfl⟩
theorem dX12_restore_44 : dec cX12_restore 44 1 45 (.iconst 0) := ⟨by decide +kernel, rfl⟩
theorem dX12_restore_45 : dec cX12_restore 45 1 46 (.iaload) := ⟨by decide +kernel, rfl⟩
theorem dX12_restore_46 : dec cX12_restore 46 1 47 (.ireturn) := ⟨by decide +kernel, rfl⟩
set_option maxHeartbeats 4000000 in
set_option maxRecDepth 100000 in
theorem tX12_restore_L15 {X : Cx} {Y : Yx} {M0 : Mem} (hC : OKX X Y RX12 cX12_restore 2 (some .int) rmX12_restore) (hF : Y.2.2.2.2 = true) (hL : Lay M0) (Q : Int → Mem → Prop)  (a0 : Nat) (qa0 : 0 < a0 ∧ M0 0 a0 = kO 12)  : ∀ (N : Nat) (x1 : Int) (M : Mem) (_ : wX12_restore_L15 Q  a0 N x1 M), WW X Y 2 rmX12_restore (QI Q) M0 0 0 15 [(0, vR Y.1 a0), (1, vI x1)] [] M := by
  intro N
  induction N with
  | zero =>
    intro x1 M h
    exact h.elim
  | succ N ih =>
    intro x1 M h
    unfold wX12_restore_L15 at h
    refine r_iload_n hC 1 dX12_restore_15 rfl rfl ?_
    refine r_sipush hC (by decide +kernel) dX12_restore_16 ?_
    refine r_icmp_ge hC 40 rfl bmL_1522 dX12_restore_19 (by decide) (fun cq => ?_) (fun cq => ?_)
    · replace h := h.1 cq
      refine r_aload_n hC 0 dX12_restore_40 rfl rfl ?_
      have q_1 : 0 < a0 + 1 ∧ M0 0 (a0 + 1) = kA 0 1522 := lay_f0 (a := a0) hL qa0 fm_12_0
      refine r_getR0 (a' := a0 + 1) hC fg_X12_7 rfl hF fm_12_0 qa0.1 qa0.2 rfl dX12_restore_41 ?_
      refine r_iconst hC dX12_restore_44 ?_
      refine r_iald hC ⟨by decide +kernel, by decide +kernel⟩ q_1.1 q_1.2 (by decide) dX12_restore_45 ?_
      exact r_iret hC (Nat.zero_le _) (Nat.zero_le _) dX12_restore_46 ⟨_, rfl, h⟩
    · replace h := h.2 cq
      refine r_aload_n hC 0 dX12_restore_22 rfl rfl ?_
      have q_2 : 0 < a0 + 1 ∧ M0 0 (a0 + 1) = kA 0 1522 := lay_f0 (a := a0) hL qa0 fm_12_0
      refine r_getR0 (a' := a0 + 1) hC fg_X12_7 rfl hF fm_12_0 qa0.1 qa0.2 rfl dX12_restore_23 ?_
      refine r_iload_n hC 1 dX12_restore_26 rfl rfl ?_
      refine r_aload_n hC 0 dX12_restore_27 rfl rfl ?_
      have q_3 : 0 < a0 + 2 ∧ M0 0 (a0 + 2) = kA 0 1522 := lay_f0 (a := a0) hL qa0 fm_12_1
      refine r_getR0 (a' := a0 + 2) hC fg_X12_13 rfl hF fm_12_1 qa0.1 qa0.2 rfl dX12_restore_28 ?_
      refine r_iload_n hC 1 dX12_restore_31 rfl rfl ?_
      obtain ⟨i_4, h⟩ := h
      refine r_iald hC i_4 q_3.1 q_3.2 (by decide) dX12_restore_32 ?_
      obtain ⟨i_5, h⟩ := h
      refine r_iast hC i_5 q_2.1 q_2.2 (by decide) dX12_restore_33 ?_
      refine r_nameM h (fun M_6 h => ?_)
      refine let_elim h (fun x1_7 e_8 h => ?_)
      refine r_iinc (lv' := [(1, vI x1_7), (0, vR Y.1 a0)]) hC 1 dX12_restore_34 rfl (by decide) e_8 rfl ?_
      refine r_goto hC 15 dX12_restore_37 (by decide) ?_
      refine r_sub [1, 0] rfl ?_
      exact ih _ _ h
set_option maxHeartbeats 4000000 in
set_option maxRecDepth 100000 in
theorem mX12_restore (Y : Yx) (hF : Y.2.2.2.2 = true) (l : Launch) (a0 : Nat) (M0 : Mem) (Q : Int → Mem → Prop) (qa0 : 0 < a0 ∧ M0 0 a0 = kO 12) (h : wX12_restore a0 M0 Q) : CT Y l yX12_restore cX12_restore 2 (some .int) rmX12_restore [vR Y.1 a0] M0 (QI Q) := by
  unfold wX12_restore at h
  refine ct_intro (by decide) (Nat.le_of_ble_eq_true rfl) ?_
  intro X hXl hC hL0
  have hL := hL0 hF
  change OKX X Y RX12 cX12_restore 2 (some .int) rmX12_restore at hC
  change WW X Y 2 rmX12_restore (QI Q) M0 0 0 0 [(0, vR Y.1 a0)] [] M0
  refine r_aload_n hC 0 dX12_restore_0 rfl rfl ?_
  refine r_getI hC fg_X12_339 rfl qa0.1 qa0.2 dX12_restore_1 ?_
  refine r_if_ne hC 13 rfl dX12_restore_4 (by decide) (fun cq => ?_) (fun cq => ?_)
  · replace h := h.2 cq
    refine r_iconst hC dX12_restore_13 ?_
    refine r_istore_n (lv' := [(1, vI 0), (0, vR Y.1 a0)]) hC dX12_restore_14 rfl (by decide) rfl ?_
    refine r_sub [1, 0] rfl ?_
    obtain ⟨N_9, h⟩ := h
    refine tX12_restore_L15 hC hF hL Q  _ qa0  N_9 _ _ h
  · replace h := h.1 cq
    refine r_aload_n hC 0 dX12_restore_7 rfl rfl ?_
    refine r_iconst hC dX12_restore_8 ?_
    refine r_callV (As := [vI 2]) (st := []) hC cw_X12_83 rfl qa0.1 qa0.2 rfl rfl (Nat.le_of_ble_eq_true rfl) ⟨Nat.le_of_ble_eq_true rfl, Nat.le_of_ble_eq_true rfl⟩ ⟨Nat.le_of_ble_eq_true rfl, Nat.le_of_ble_eq_true rfl⟩ dX12_restore_9 (fun hk => mX12_error Y hF _ _ _ _ _ (kqO hk qa0) h) (fun v M_10 h => ?_)
    obtain ⟨r_11, rfl, h⟩ := h
    exact r_iret hC (Nat.zero_le _) (Nat.zero_le _) dX12_restore_12 ⟨_, rfl, h⟩
theorem dX12_tell_0 : dec cX12_tell 0 1 1 (.aload_n 0) := ⟨by decide +kernel, rfl⟩
theorem dX12_tell_1 : dec cX12_tell 1 3 4 (.getfield 7) := ⟨by decide +kernel, rfl⟩
theorem dX12_tell_4 : dec cX12_tell 4 1 5 (.iconst 5) := ⟨by decide +kernel, rfl⟩
theorem dX12_tell_5 : dec cX12_tell 5 1 6 (.iaload) := ⟨by decide +kernel, rfl⟩
theorem dX12_tell_6 : dec cX12_tell 6 2 8 (.bipush 12) := ⟨by decide +kernel, rfl⟩
theorem dX12_tell_8 : dec cX12_tell 8 3 11 (.if_icmp .ne 9) := ⟨by decide +kernel, rfl⟩
theorem dX12_tell_11 : dec cX12_tell 11 1 12 (.aload_n 0) := ⟨by decide +kernel, rfl⟩
theorem dX12_tell_12 : dec cX12_tell 12 1 13 (.iconst 4) := ⟨by decide +kernel, rfl⟩
theorem dX12_tell_13 : dec cX12_tell 13 3 16 (.invokevirtual 83) := ⟨by decide +kernel, rfl⟩
theorem dX12_tell_16 : dec cX12_tell 16 1 17 (.ireturn) := ⟨by decide +kernel, rfl⟩
theorem dX12_tell_17 : dec cX12_tell 17 1 18 (.aload_n 0) := ⟨by decide +kernel, rfl⟩
theorem dX12_tell_18 : dec cX12_tell 18 3 21 (.getfield 7) := ⟨by decide +kernel, rfl⟩
theorem dX12_tell_21 : dec cX12_tell 21 3 24 (.sipush 1510) := ⟨by decide +kernel, rfl⟩
theorem dX12_tell_24 : dec cX12_tell 24 1 25 (.aload_n 0) := ⟨by decide +kernel, rfl⟩
theorem dX12_tell_25 : dec cX12_tell 25 3 28 (.getfield 7) := ⟨by decide +kernel, rfl⟩
theorem dX12_tell_28 : dec cX12_tell 28 1 29 (.iconst 5) := ⟨by decide +kernel, rfl⟩
theorem dX12_tell_29 : dec cX12_tell 29 1 30 (.iaload) := ⟨by decide +kernel, rfl⟩
theorem dX12_tell_30 : dec cX12_tell 30 1 31 (.iadd) := ⟨by decide +kernel, rfl⟩
theorem dX12_tell_31 : dec cX12_tell 31 1 32 (.iload_n 1) := ⟨by decide +kernel, rfl⟩
theorem dX12_tell_32 : dec cX12_tell 32 1 33 (.iastore) := ⟨by decide +kernel, rfl⟩
theorem dX12_tell_33 : dec cX12_tell 33 1 34 (.aload_n 0) := ⟨by decide +kernel, rfl⟩
theorem dX12_tell_34 : dec cX12_tell 34 3 37 (.getfield 7) := ⟨by decide +kernel, rfl⟩
theorem dX12_tell_37 : dec cX12_tell 37 1 38 (.iconst 5) := ⟨by decide +kernel, rfl⟩
theorem dX12_tell_38 : dec cX12_tell 38 1 39 (.dup2) := ⟨by decide +kernel, rfl⟩
theorem dX12_tell_39 : dec cX12_tell 39 1 40 (.iaload) := ⟨by decide +kernel, rfl⟩
theorem dX12_tell_40 : dec cX12_tell 40 1 41 (.iconst 1) := ⟨by decide +kernel, rfl⟩
theorem dX12_tell_41 : dec cX12_tell 41 1 42 (.iadd) := ⟨by decide +kernel, rfl⟩
theorem dX12_tell_42 : dec cX12_tell 42 1 43 (.iastore) := ⟨by decide +kernel, rfl⟩
theorem dX12_tell_43 : dec cX12_tell 43 1 44 (.aload_n 0) := ⟨by decide +kernel, rfl⟩
theorem dX12_tell_44 : dec cX12_tell 44 3 47 (.getfield 7) := ⟨by decide +kernel, rfl⟩
theorem dX12_tell_47 : dec cX12_tell 47 1 48 (.iconst 5) := ⟨by decide +kernel, rfl⟩
theorem dX12_tell_48 : dec cX12_tell 48 1 49 (.iaload) := ⟨by decide +kernel, rfl⟩
theorem dX12_tell_49 : dec cX12_tell 49 1 50 (.ireturn) := ⟨by decide +kernel, rfl⟩
set_option maxHeartbeats 4000000 in
set_option maxRecDepth 100000 in
theorem mX12_tell (Y : Yx) (hF : Y.2.2.2.2 = true) (l : Launch) (a0 : Nat) (x1 : Int) (M0 : Mem) (Q : Int → Mem → Prop) (qa0 : 0 < a0 ∧ M0 0 a0 = kO 12) (h : wX12_tell a0 x1 M0 Q) : CT Y l yX12_tell cX12_tell 2 (some .int) rmX12_tell [vR Y.1 a0, vI x1] M0 (QI Q) := by
  unfold wX12_tell at h
  refine ct_intro (by decide) (Nat.le_of_ble_eq_true rfl) ?_
  intro X hXl hC hL0
  have hL := hL0 hF
  change OKX X Y RX12 cX12_tell 2 (some .int) rmX12_tell at hC
  change WW X Y 2 rmX12_tell (QI Q) M0 0 0 0 [(0, vR Y.1 a0), (1, vI x1)] [] M0
  refine r_aload_n hC 0 dX12_tell_0 rfl rfl ?_
  have q_1 : 0 < a0 + 1 ∧ M0 0 (a0 + 1) = kA 0 1522 := lay_f0 (a := a0) hL qa0 fm_12_0
  refine r_getR0 (a' := a0 + 1) hC fg_X12_7 rfl hF fm_12_0 qa0.1 qa0.2 rfl dX12_tell_1 ?_
  refine r_iconst hC dX12_tell_4 ?_
  refine r_iald hC ⟨by decide +kernel, by decide +kernel⟩ q_1.1 q_1.2 (by decide) dX12_tell_5 ?_
  refine r_bipush hC (by decide +kernel) dX12_tell_6 ?_
  refine r_icmp_ne hC 17 rfl bmL_12 dX12_tell_8 (by decide) (fun cq => ?_) (fun cq => ?_)
  · replace h := h.2 cq
    refine r_aload_n hC 0 dX12_tell_17 rfl rfl ?_
    have q_2 : 0 < a0 + 1 ∧ M0 0 (a0 + 1) = kA 0 1522 := lay_f0 (a := a0) hL qa0 fm_12_0
    refine r_getR0 (a' := a0 + 1) hC fg_X12_7 rfl hF fm_12_0 qa0.1 qa0.2 rfl dX12_tell_18 ?_
    refine r_sipush hC (by decide +kernel) dX12_tell_21 ?_
    refine r_aload_n hC 0 dX12_tell_24 rfl rfl ?_
    have q_3 : 0 < a0 + 1 ∧ M0 0 (a0 + 1) = kA 0 1522 := lay_f0 (a := a0) hL qa0 fm_12_0
    refine r_getR0 (a' := a0 + 1) hC fg_X12_7 rfl hF fm_12_0 qa0.1 qa0.2 rfl dX12_tell_25 ?_
    refine r_iconst hC dX12_tell_28 ?_
    refine r_iald hC ⟨by decide +kernel, by decide +kernel⟩ q_3.1 q_3.2 (by decide) dX12_tell_29 ?_
    refine r_iadd hC dX12_tell_30 ?_
    refine r_iload_n hC 1 dX12_tell_31 rfl rfl ?_
    obtain ⟨i_4, h⟩ := h
    refine r_iast hC i_4 q_2.1 q_2.2 (by decide) dX12_tell_32 ?_
    refine r_nameM h (fun M_5 h => ?_)
    refine r_aload_n hC 0 dX12_tell_33 rfl rfl ?_
    have q_6 : 0 < a0 + 1 ∧ M0 0 (a0 + 1) = kA 0 1522 := lay_f0 (a := a0) hL qa0 fm_12_0
    refine r_getR0 (a' := a0 + 1) hC fg_X12_7 rfl hF fm_12_0 qa0.1 qa0.2 rfl dX12_tell_34 ?_
    refine r_iconst hC dX12_tell_37 ?_
    refine r_dup2 hC rfl rfl dX12_tell_38 ?_
    refine r_iald hC ⟨by decide +kernel, by decide +kernel⟩ q_6.1 q_6.2 (by decide) dX12_tell_39 ?_
    refine r_iconst hC dX12_tell_40 ?_
    refine r_iadd hC dX12_tell_41 ?_
    refine r_iast hC ⟨by decide +kernel, by decide +kernel⟩ q_6.1 q_6.2 (by decide) dX12_tell_42 ?_
    refine r_nameM h (fun M_7 h => ?_)
    refine r_aload_n hC 0 dX12_tell_43 rfl rfl ?_
    have q_8 : 0 < a0 + 1 ∧ M0 0 (a0 + 1) = kA 0 1522 := lay_f0 (a := a0) hL qa0 fm_12_0
    refine r_getR0 (a' := a0 + 1) hC fg_X12_7 rfl hF fm_12_0 qa0.1 qa0.2 rfl dX12_tell_44 ?_
    refine r_iconst hC dX12_tell_47 ?_
    refine r_iald hC ⟨by decide +kernel, by decide +kernel⟩ q_8.1 q_8.2 (by decide) dX12_tell_48 ?_
    exact r_iret hC (Nat.zero_le _) (Nat.zero_le _) dX12_tell_49 ⟨_, rfl, h⟩
  · replace h := h.1 cq
    refine r_aload_n hC 0 dX12_tell_11 rfl rfl ?_
    refine r_iconst hC dX12_tell_12 ?_
    refine r_callV (As := [vI 4]) (st := []) hC cw_X12_83 rfl qa0.1 qa0.2 rfl rfl (Nat.le_of_ble_eq_true rfl) ⟨Nat.le_of_ble_eq_true rfl, Nat.le_of_ble_eq_true rfl⟩ ⟨Nat.le_of_ble_eq_true rfl, Nat.le_of_ble_eq_true rfl⟩ dX12_tell_13 (fun hk => mX12_error Y hF _ _ _ _ _ (kqO hk qa0) h) (fun v M_9 h => ?_)
    obtain ⟨r_10, rfl, h⟩ := h
    exact r_iret hC (Nat.zero_le _) (Nat.zero_le _) dX12_tell_16 ⟨_, rfl, h⟩
theorem dX12_check_0 : dec cX12_check 0 1 1 (.aload_n 0) := ⟨by decide +kernel, rfl⟩
theorem dX12_check_1 : dec cX12_check 1 3 4 (.getfield 7) := ⟨by decide +kernel, rfl⟩
theorem dX12_check_4 : dec cX12_check 4 1 5 (.iconst 5) := ⟨by decide +kernel, rfl⟩
theorem dX12_check_5 : dec cX12_check 5 1 6 (.iaload) := ⟨by decide +kernel, rfl⟩
theorem dX12_check_6 : dec cX12_check 6 1 7 (.istore_n 2) := ⟨by decide +kernel, rfl⟩
theorem dX12_check_7 : dec cX12_check 7 1 8 (.aload_n 0) := ⟨by decide +kernel, rfl⟩
theorem dX12_check_8 : dec cX12_check 8 3 11 (.getfield 7) := ⟨by decide +kernel, rfl⟩
theorem dX12_check_11 : dec cX12_check 11 1 12 (.iconst 5) := ⟨by decide +kernel, rfl⟩
theorem dX12_check_12 : dec cX12_check 12 1 13 (.iconst 0) := ⟨by decide +kernel, rfl⟩
theorem dX12_check_13 : dec cX12_check 13 1 14 (.iastore) := ⟨by decide +kernel, rfl⟩
theorem dX12_check_14 : dec cX12_check 14 1 15 (.aload_n 0) := ⟨by decide +kernel, rfl⟩
theorem dX12_check_15 : dec cX12_check 15 1 16 (.iload_n 1) := ⟨by decide +kernel, rfl⟩
theorem dX12_check_16 : dec cX12_check 16 3 19 (.invokevirtual 264) := ⟨by decide +kernel, rfl⟩
theorem dX12_check_19 : dec cX12_check 19 3 22 (.ifCond .ne 9) := ⟨by decide +kernel, rfl⟩
theorem dX12_check_22 : dec cX12_check 22 1 23 (.aload_n 0) := ⟨by decide +kernel, rfl⟩
theorem dX12_check_23 : dec cX12_check 23 1 24 (.iconst 1) := ⟨by decide +kernel, rfl⟩
theorem dX12_check_24 : dec cX12_check 24 3 27 (.invokevirtual 83) := ⟨by decide +kernel, rfl⟩
theorem dX12_check_27 : dec cX12_check 27 1 28 (.ireturn) := ⟨by decide +kernel, rfl⟩
theorem dX12_check_28 : dec cX12_check 28 1 29 (.iload_n 1) := ⟨by decide +kernel, rfl⟩
theorem dX12_check_29 : dec cX12_check 29 2 31 (.bipush 6) := ⟨by decide +kernel, rfl⟩
theorem dX12_check_31 : dec cX12_check 31 3 34 (.invokestatic 267) := ⟨by decide +kernel, rfl⟩
theorem dX12_check_34 : dec cX12_check 34 3 37 (.ifCond .ne 9) := ⟨by decide +kernel, rfl⟩
theorem dX12_check_37 : dec cX12_check 37 1 38 (.aload_n 0) := ⟨by decide +kernel, rfl⟩
theorem dX12_check_38 : dec cX12_check 38 1 39 (.iconst 5) := ⟨by decide +kernel, rfl⟩
theorem dX12_check_39 : dec cX12_check 39 3 42 (.invokevirtual 83) := ⟨by decide +kernel, rfl⟩
theorem dX12_check_42 : dec cX12_check 42 1 43 (.ireturn) := ⟨by decide +kernel, rfl⟩
theorem dX12_check_43 : dec cX12_check 43 1 44 (.aload_n 0) := ⟨by decide +kernel, rfl⟩
theorem dX12_check_44 : dec cX12_check 44 1 45 (.iload_n 1) := ⟨by decide +kernel, rfl⟩
theorem dX12_check_45 : dec cX12_check 45 3 48 (.invokevirtual 271) := ⟨by decide +kernel, rfl⟩
theorem dX12_check_48 : dec cX12_check 48 1 49 (.aload_n 0) := ⟨by decide +kernel, rfl⟩
theorem dX12_check_49 : dec cX12_check 49 3 52 (.getfield 247) := ⟨by decide +kernel, rfl⟩
theorem dX12_check_52 : dec cX12_check 52 3 55 (.ifCond .ne 9) := ⟨by decide +kernel, rfl⟩
theorem dX12_check_55 : dec cX12_check 55 1 56 (.aload_n 0) := ⟨by decide +kernel, rfl⟩
theorem dX12_check_56 : dec cX12_check 56 1 57 (.iconst 2) := ⟨by decide +kernel, rfl⟩
theorem dX12_check_57 : dec cX12_check 57 3 60 (.invokevirtual 83) := ⟨by decide +kernel, rfl⟩
theorem dX12_check_60 : dec cX12_check 60 1 61 (.ireturn) := ⟨by decide +kernel, rfl⟩
theorem dX12_check_61 : dec cX12_check 61 1 62 (.iconst 0) := ⟨by decide +kernel, rfl⟩
theorem dX12_check_62 : dec cX12_check 62 1 63 (.istore_n 3) := ⟨by decide +kernel, rfl⟩
theorem dX12_check_63 : dec cX12_check 63 1 64 (.iload_n 3) := ⟨by decide +kernel, rfl⟩
theorem dX12_check_64 : dec cX12_check 64 1 65 (.iload_n 2) := ⟨by decide +kernel, rfl⟩
theorem dX12_check_65 : dec cX12_check 65 3 68 (.if_icmp .ge 36) := ⟨by decide +kernel, rfl⟩
theorem dX12_check_68 : dec cX12_check 68 1 69 (.iload_n 3) := ⟨by decide +kernel, rfl⟩
theorem dX12_check_69 : dec cX12_check 69 1 70 (.aload_n 0) := ⟨by decide +kernel, rfl⟩
theorem dX12_check_70 : dec cX12_check 70 3 73 (.getfield 234) := ⟨by decide +kernel, rfl⟩
theorem dX12_check_73 : dec cX12_check 73 3 76 (.if_icmp .ge 28) := ⟨by decide +kernel, rfl⟩
theorem dX12_check_76 : dec cX12_check 76 1 77 (.aload_n 0) := ⟨by decide +kernel, rfl⟩
theorem dX12_check_77 : dec cX12_check 77 3 80 (.getfield 7) := ⟨by decide +kernel, rfl⟩
theorem dX12_check_80 : dec cX12_check 80 3 83 (.sipush 1510) := ⟨by decide +kernel, rfl⟩
theorem dX12_check_83 : dec cX12_check 83 1 84 (.iload_n 3) := ⟨by decide +kernel, rfl⟩
theorem dX12_check_84 : dec cX12_check 84 1 85 (.iadd) := ⟨by decide +kernel, rfl⟩
theorem dX12_check_85 : dec cX12_check 85 1 86 (.iaload) := ⟨by decide +kernel, rfl⟩
theorem dX12_check_86 : dec cX12_check 86 1 87 (.aload_n 0) := ⟨by decide +kernel, rfl⟩
theorem dX12_check_87 : dec cX12_check 87 3 90 (.getfield 40) := ⟨by decide +kernel, rfl⟩
theorem dX12_check_90 : dec cX12_check 90 1 91 (.iload_n 3) := ⟨by decide +kernel, rfl⟩
theorem dX12_check_91 : dec cX12_check 91 1 92 (.iaload) := ⟨by decide +kernel, rfl⟩
theorem dX12_check_92 : dec cX12_check 92 3 95 (.if_icmp .ne 9) := ⟨by decide +kernel, rfl⟩
theorem dX12_check_95 : dec cX12_check 95 3 98 (.iinc 3 1) := ⟨by decide +kernel, rfl⟩
theorem dX12_check_98 : dec cX12_check 98 3 101 (.goto (-35)) := ⟨by decide +kernel, rfl⟩
theorem dX12_check_101 : dec cX12_check 101 1 102 (.iload_n 3) := ⟨by decide +kernel, rfl⟩
theorem dX12_check_102 : dec cX12_check 102 1 103 (.iload_n 2) := ⟨by decide +kernel, rfl⟩
theorem dX12_check_103 : dec cX12_check 103 3 106 (.if_icmp .ne 15) := ⟨by decide +kernel, rfl⟩
theorem dX12_check_106 : dec cX12_check 106 1 107 (.iload_n 3) := ⟨by decide +kernel, rfl⟩
theorem dX12_check_107 : dec cX12_check 107 1 108 (.aload_n 0) := ⟨by decide +kernel, rfl⟩
theorem dX12_check_108 : dec cX12_check 108 3 111 (.getfield 234) := ⟨by decide +kernel, rfl⟩
theorem dX12_check_111 : dec cX12_check 111 3 114 (.if_icmp .ne 7) := ⟨by decide +kernel, rfl⟩
theorem dX12_check_114 : dec cX12_check 114 1 115 (.iconst 0) := ⟨by decide +kernel, rfl⟩
theorem dX12_check_115 : dec cX12_check 115 3 118 (.goto 6) := ⟨by decide +kernel, rfl⟩
theorem dX12_check_118 : dec cX12_check 118 1 119 (.iconst 1) := ⟨by decide +kernel, rfl⟩
theorem dX12_check_119 : dec cX12_check 119 1 120 (.iload_n 3) := ⟨by decide +kernel, rfl⟩
theorem dX12_check_120 : dec cX12_check 120 1 121 (.iadd) := ⟨by decide +kernel, rfl⟩
theorem dX12_check_121 : dec cX12_check 121 1 122 (.ireturn) := ⟨by decide +kernel, rfl⟩
set_option maxHeartbeats 4000000 in
set_option maxRecDepth 100000 in
theorem tX12_check_L63 {X : Cx} {Y : Yx} {M0 : Mem} (hC : OKX X Y RX12 cX12_check 4 (some .int) rmX12_check) (hF : Y.2.2.2.2 = true) (hL : Lay M0) (Q : Int → Mem → Prop) (E101 : Int → Mem → Prop) (a0 : Nat) (x2 : Int) (qa0 : 0 < a0 ∧ M0 0 a0 = kO 12) (hE101 : ∀ (x3 : Int) (M : Mem), E101 x3 M → WW X Y 4 rmX12_check (QI Q) M0 0 0 101 [(0, vR Y.1 a0), (2, vI x2), (3, vI x3)] [] M) : ∀ (N : Nat) (x3 : Int) (M : Mem) (_ : wX12_check_L63 Q E101 a0 x2 N x3 M), WW X Y 4 rmX12_check (QI Q) M0 0 0 63 [(0, vR Y.1 a0), (2, vI x2), (3, vI x3)] [] M := by
  intro N
  induction N with
  | zero =>
    intro x3 M h
    exact h.elim
  | succ N ih =>
    intro x3 M h
    unfold wX12_check_L63 at h
    refine r_iload_n hC 2 dX12_check_63 rfl rfl ?_
    refine r_iload_n hC 1 dX12_check_64 rfl rfl ?_
    refine r_icmp_ge hC 101 rfl rfl dX12_check_65 (by decide) (fun cq => ?_) (fun cq => ?_)
    · replace h := h.1 cq
      refine r_sub [0, 1, 2] rfl ?_
      exact hE101 _ _ h
    · replace h := h.2 cq
      refine r_iload_n hC 2 dX12_check_68 rfl rfl ?_
      refine r_aload_n hC 0 dX12_check_69 rfl rfl ?_
      refine r_getI hC fg_X12_234 rfl qa0.1 qa0.2 dX12_check_70 ?_
      refine r_icmp_ge hC 101 rfl rfl dX12_check_73 (by decide) (fun cq => ?_) (fun cq => ?_)
      · replace h := h.1 cq
        refine r_sub [0, 1, 2] rfl ?_
        exact hE101 _ _ h
      · replace h := h.2 cq
        refine r_aload_n hC 0 dX12_check_76 rfl rfl ?_
        have q_10 : 0 < a0 + 1 ∧ M0 0 (a0 + 1) = kA 0 1522 := lay_f0 (a := a0) hL qa0 fm_12_0
        refine r_getR0 (a' := a0 + 1) hC fg_X12_7 rfl hF fm_12_0 qa0.1 qa0.2 rfl dX12_check_77 ?_
        refine r_sipush hC (by decide +kernel) dX12_check_80 ?_
        refine r_iload_n hC 2 dX12_check_83 rfl rfl ?_
        refine r_iadd hC dX12_check_84 ?_
        obtain ⟨i_11, h⟩ := h
        refine r_iald hC i_11 q_10.1 q_10.2 (by decide) dX12_check_85 ?_
        refine r_aload_n hC 0 dX12_check_86 rfl rfl ?_
        have q_12 : 0 < a0 + 11 ∧ M0 0 (a0 + 11) = kA 0 12 := lay_f0 (a := a0) hL qa0 fm_12_18
        refine r_getR0 (a' := a0 + 11) hC fg_X12_40 rfl hF fm_12_18 qa0.1 qa0.2 rfl dX12_check_87 ?_
        refine r_iload_n hC 2 dX12_check_90 rfl rfl ?_
        obtain ⟨i_13, h⟩ := h
        refine r_iald hC i_13 q_12.1 q_12.2 (by decide) dX12_check_91 ?_
        refine r_icmp_ne hC 101 rfl rfl dX12_check_92 (by decide) (fun cq => ?_) (fun cq => ?_)
        · replace h := h.2 cq
          refine r_sub [0, 1, 2] rfl ?_
          exact hE101 _ _ h
        · replace h := h.1 cq
          refine let_elim h (fun x3_14 e_15 h => ?_)
          refine r_iinc (lv' := [(3, vI x3_14), (0, vR Y.1 a0), (2, vI x2)]) hC 2 dX12_check_95 rfl (by decide) e_15 rfl ?_
          refine r_goto hC 63 dX12_check_98 (by decide) ?_
          refine r_sub [1, 2, 0] rfl ?_
          exact ih _ _ h
set_option maxHeartbeats 4000000 in
set_option maxRecDepth 100000 in
theorem tX12_check_J101 {X : Cx} {Y : Yx} {M0 : Mem} (hC : OKX X Y RX12 cX12_check 4 (some .int) rmX12_check) (hF : Y.2.2.2.2 = true) (hL : Lay M0) (Q : Int → Mem → Prop)   (a0 : Nat) (x2 : Int) (x3 : Int) (qa0 : 0 < a0 ∧ M0 0 a0 = kO 12)  (M : Mem) (h : wX12_check_J101 Q  a0 x2 x3 M) : WW X Y 4 rmX12_check (QI Q) M0 0 0 101 [(0, vR Y.1 a0), (2, vI x2), (3, vI x3)] [] M := by
  unfold wX12_check_J101 at h
  refine r_iload_n hC 2 dX12_check_101 rfl rfl ?_
  refine r_iload_n hC 1 dX12_check_102 rfl rfl ?_
  refine r_icmp_ne hC 118 rfl rfl dX12_check_103 (by decide) (fun cq => ?_) (fun cq => ?_)
  · replace h := h.2 cq
    refine r_iconst hC dX12_check_118 ?_
    refine r_iload_n hC 2 dX12_check_119 rfl rfl ?_
    refine r_iadd hC dX12_check_120 ?_
    exact r_iret hC (Nat.zero_le _) (Nat.zero_le _) dX12_check_121 ⟨_, rfl, h⟩
  · replace h := h.1 cq
    refine r_iload_n hC 2 dX12_check_106 rfl rfl ?_
    refine r_aload_n hC 0 dX12_check_107 rfl rfl ?_
    refine r_getI hC fg_X12_234 rfl qa0.1 qa0.2 dX12_check_108 ?_
    refine r_icmp_ne hC 118 rfl rfl dX12_check_111 (by decide) (fun cq => ?_) (fun cq => ?_)
    · replace h := h.2 cq
      refine r_iconst hC dX12_check_118 ?_
      refine r_iload_n hC 2 dX12_check_119 rfl rfl ?_
      refine r_iadd hC dX12_check_120 ?_
      exact r_iret hC (Nat.zero_le _) (Nat.zero_le _) dX12_check_121 ⟨_, rfl, h⟩
    · replace h := h.1 cq
      refine r_iconst hC dX12_check_114 ?_
      refine r_goto hC 121 dX12_check_115 (by decide) ?_
      exact r_iret hC (Nat.zero_le _) (Nat.zero_le _) dX12_check_121 ⟨_, rfl, h⟩
set_option maxHeartbeats 4000000 in
set_option maxRecDepth 100000 in
theorem mX12_check (Y : Yx) (hF : Y.2.2.2.2 = true) (l : Launch) (a0 : Nat) (x1 : Int) (M0 : Mem) (Q : Int → Mem → Prop) (qa0 : 0 < a0 ∧ M0 0 a0 = kO 12) (h : wX12_check a0 x1 M0 Q) : CT Y l yX12_check cX12_check 4 (some .int) rmX12_check [vR Y.1 a0, vI x1] M0 (QI Q) := by
  unfold wX12_check at h
  refine ct_intro (by decide) (Nat.le_of_ble_eq_true rfl) ?_
  intro X hXl hC hL0
  have hL := hL0 hF
  change OKX X Y RX12 cX12_check 4 (some .int) rmX12_check at hC
  change WW X Y 4 rmX12_check (QI Q) M0 0 0 0 [(0, vR Y.1 a0), (1, vI x1)] [] M0
  refine r_aload_n hC 0 dX12_check_0 rfl rfl ?_
  have q_1 : 0 < a0 + 1 ∧ M0 0 (a0 + 1) = kA 0 1522 := lay_f0 (a := a0) hL qa0 fm_12_0
  refine r_getR0 (a' := a0 + 1) hC fg_X12_7 rfl hF fm_12_0 qa0.1 qa0.2 rfl dX12_check_1 ?_
  refine r_iconst hC dX12_check_4 ?_
  refine r_iald hC ⟨by decide +kernel, by decide +kernel⟩ q_1.1 q_1.2 (by decide) dX12_check_5 ?_
  refine r_nameI h (fun x2_2 h => ?_)
  refine r_istore_n (lv' := [(2, vI x2_2), (0, vR Y.1 a0), (1, vI x1)]) hC dX12_check_6 rfl (by decide) rfl ?_
  refine r_aload_n hC 1 dX12_check_7 rfl rfl ?_
  have q_3 : 0 < a0 + 1 ∧ M0 0 (a0 + 1) = kA 0 1522 := lay_f0 (a := a0) hL qa0 fm_12_0
  refine r_getR0 (a' := a0 + 1) hC fg_X12_7 rfl hF fm_12_0 qa0.1 qa0.2 rfl dX12_check_8 ?_
  refine r_iconst hC dX12_check_11 ?_
  refine r_iconst hC dX12_check_12 ?_
  refine r_iast hC ⟨by decide +kernel, by decide +kernel⟩ q_3.1 q_3.2 (by decide) dX12_check_13 ?_
  refine r_nameM h (fun M_4 h => ?_)
  refine r_aload_n hC 1 dX12_check_14 rfl rfl ?_
  refine r_iload_n hC 2 dX12_check_15 rfl rfl ?_
  refine r_callV (As := [vI x1]) (st := []) hC cw_X12_264 rfl qa0.1 qa0.2 rfl rfl (Nat.le_of_ble_eq_true rfl) ⟨Nat.le_of_ble_eq_true rfl, Nat.le_of_ble_eq_true rfl⟩ ⟨Nat.le_of_ble_eq_true rfl, Nat.le_of_ble_eq_true rfl⟩ dX12_check_16 (fun hk => mX12_isSet Y hF _ _ _ _ _ (kqO hk qa0) h) (fun v M_5 h => ?_)
  obtain ⟨r_6, rfl, h⟩ := h
  refine r_if_ne hC 28 rfl dX12_check_19 (by decide) (fun cq => ?_) (fun cq => ?_)
  · replace h := h.2 cq
    refine r_iload_n hC 2 dX12_check_28 rfl rfl ?_
    refine r_bipush hC (by decide +kernel) dX12_check_29 ?_
    refine r_callS (As := [vI x1, vI 6]) (st := []) hC cw_X12_267 rfl rfl (Nat.le_of_ble_eq_true rfl) ⟨Nat.le_of_ble_eq_true rfl, Nat.le_of_ble_eq_true rfl⟩ ⟨Nat.le_of_ble_eq_true rfl, Nat.le_of_ble_eq_true rfl⟩ dX12_check_31 (fun hk => mX12_isSmall Y hF _ _ _ _ _  h) (fun v M_7 h => ?_)
    obtain ⟨r_8, rfl, h⟩ := h
    refine r_if_ne hC 43 rfl dX12_check_34 (by decide) (fun cq => ?_) (fun cq => ?_)
    · replace h := h.2 cq
      refine r_aload_n hC 1 dX12_check_43 rfl rfl ?_
      refine r_iload_n hC 2 dX12_check_44 rfl rfl ?_
      refine r_callV (As := [vI x1]) (st := []) hC cw_X12_271 rfl qa0.1 qa0.2 rfl rfl (Nat.le_of_ble_eq_true rfl) ⟨Nat.le_of_ble_eq_true rfl, Nat.le_of_ble_eq_true rfl⟩ ⟨Nat.le_of_ble_eq_true rfl, Nat.le_of_ble_eq_true rfl⟩ dX12_check_45 (fun hk => mX12_seesAll Y hF _ _ _ _ _ (kqO hk qa0) h) (fun v M_9 h => ?_)
      obtain ⟨rfl, h⟩ := h
      refine r_aload_n hC 1 dX12_check_48 rfl rfl ?_
      refine r_getI hC fg_X12_247 rfl qa0.1 qa0.2 dX12_check_49 ?_
      refine r_if_ne hC 61 rfl dX12_check_52 (by decide) (fun cq => ?_) (fun cq => ?_)
      · replace h := h.2 cq
        refine r_iconst hC dX12_check_61 ?_
        refine r_istore_n (lv' := [(3, vI 0), (2, vI x2_2), (0, vR Y.1 a0), (1, vI x1)]) hC dX12_check_62 rfl (by decide) rfl ?_
        refine r_sub [2, 1, 0] rfl ?_
        obtain ⟨N_18, h⟩ := h
        refine tX12_check_L63 hC hF hL Q _ _ _ qa0 ?_ N_18 _ _ h
        · intro x3_16 M_17 h
          refine r_sub [0, 1, 2] rfl ?_
          exact tX12_check_J101 hC hF hL Q   _ _ _ qa0  _ h
      · replace h := h.1 cq
        refine r_aload_n hC 1 dX12_check_55 rfl rfl ?_
        refine r_iconst hC dX12_check_56 ?_
        refine r_callV (As := [vI 2]) (st := []) hC cw_X12_83 rfl qa0.1 qa0.2 rfl rfl (Nat.le_of_ble_eq_true rfl) ⟨Nat.le_of_ble_eq_true rfl, Nat.le_of_ble_eq_true rfl⟩ ⟨Nat.le_of_ble_eq_true rfl, Nat.le_of_ble_eq_true rfl⟩ dX12_check_57 (fun hk => mX12_error Y hF _ _ _ _ _ (kqO hk qa0) h) (fun v M_19 h => ?_)
        obtain ⟨r_20, rfl, h⟩ := h
        exact r_iret hC (Nat.zero_le _) (Nat.zero_le _) dX12_check_60 ⟨_, rfl, h⟩
    · replace h := h.1 cq
      refine r_aload_n hC 1 dX12_check_37 rfl rfl ?_
      refine r_iconst hC dX12_check_38 ?_
      refine r_callV (As := [vI 5]) (st := []) hC cw_X12_83 rfl qa0.1 qa0.2 rfl rfl (Nat.le_of_ble_eq_true rfl) ⟨Nat.le_of_ble_eq_true rfl, Nat.le_of_ble_eq_true rfl⟩ ⟨Nat.le_of_ble_eq_true rfl, Nat.le_of_ble_eq_true rfl⟩ dX12_check_39 (fun hk => mX12_error Y hF _ _ _ _ _ (kqO hk qa0) h) (fun v M_21 h => ?_)
      obtain ⟨r_22, rfl, h⟩ := h
      exact r_iret hC (Nat.zero_le _) (Nat.zero_le _) dX12_check_42 ⟨_, rfl, h⟩
  · replace h := h.1 cq
    refine r_aload_n hC 1 dX12_check_22 rfl rfl ?_
    refine r_iconst hC dX12_check_23 ?_
    refine r_callV (As := [vI 1]) (st := []) hC cw_X12_83 rfl qa0.1 qa0.2 rfl rfl (Nat.le_of_ble_eq_true rfl) ⟨Nat.le_of_ble_eq_true rfl, Nat.le_of_ble_eq_true rfl⟩ ⟨Nat.le_of_ble_eq_true rfl, Nat.le_of_ble_eq_true rfl⟩ dX12_check_24 (fun hk => mX12_error Y hF _ _ _ _ _ (kqO hk qa0) h) (fun v M_23 h => ?_)
    obtain ⟨r_24, rfl, h⟩ := h
    exact r_iret hC (Nat.zero_le _) (Nat.zero_le _) dX12_check_27 ⟨_, rfl, h⟩
theorem dX12_count_0 : dec cX12_count 0 1 1 (.iload_n 1) := ⟨by decide +kernel, rfl⟩
theorem dX12_count_1 : dec cX12_count 1 47 48 (.tableswitch 125 0 7 #[47, 54, 61, 92, 99, 106, 113, 120]) := ⟨by decide +kernel, rfl⟩
theorem dX12_count_48 : dec cX12_count 48 1 49 (.aload_n 0) := ⟨by decide +kernel, rfl⟩
theorem dX12_count_49 : dec cX12_count 49 3 52 (.getfield 7) := ⟨by decide +kernel, rfl⟩
theorem dX12_count_52 : dec cX12_count 52 1 53 (.iconst 0) := ⟨by decide +kernel, rfl⟩
theorem dX12_count_53 : dec cX12_count 53 1 54 (.iaload) := ⟨by decide +kernel, rfl⟩
theorem dX12_count_54 : dec cX12_count 54 1 55 (.ireturn) := ⟨by decide +kernel, rfl⟩
theorem dX12_count_55 : dec cX12_count 55 1 56 (.aload_n 0) := ⟨by decide +kernel, rfl⟩
theorem dX12_count_56 : dec cX12_count 56 3 59 (.getfield 7) := ⟨by decide +kernel, rfl⟩
theorem dX12_count_59 : dec cX12_count 59 1 60 (.iconst 1) := ⟨by decide +kernel, rfl⟩
theorem dX12_count_60 : dec cX12_count 60 1 61 (.iaload) := ⟨by decide +kernel, rfl⟩
theorem dX12_count_61 : dec cX12_count 61 1 62 (.ireturn) := ⟨by decide +kernel, rfl⟩
theorem dX12_count_62 : dec cX12_count 62 1 63 (.iconst 0) := ⟨by decide +kernel, rfl⟩
theorem dX12_count_63 : dec cX12_count 63 1 64 (.istore_n 2) := ⟨by decide +kernel, rfl⟩
theorem dX12_count_64 : dec cX12_count 64 1 65 (.iconst 0) := ⟨by decide +kernel, rfl⟩
theorem dX12_count_65 : dec cX12_count 65 1 66 (.istore_n 3) := ⟨by decide +kernel, rfl⟩
theorem dX12_count_66 : dec cX12_count 66 1 67 (.iload_n 3) := ⟨by decide +kernel, rfl⟩
theorem dX12_count_67 : dec cX12_count 67 1 68 (.aload_n 0) := ⟨by decide +kernel, rfl⟩
theorem dX12_count_68 : dec cX12_count 68 3 71 (.getfield 7) := ⟨by decide +kernel, rfl⟩
theorem dX12_count_71 : dec cX12_count 71 1 72 (.iconst 1) := ⟨by decide +kernel, rfl⟩
theorem dX12_count_72 : dec cX12_count 72 1 73 (.iaload) := ⟨by decide +kernel, rfl⟩
theorem dX12_count_73 : dec cX12_count 73 3 76 (.if_icmp .ge 18) := ⟨by decide +kernel, rfl⟩
theorem dX12_count_76 : dec cX12_count 76 1 77 (.iload_n 2) := ⟨by decide +kernel, rfl⟩
theorem dX12_count_77 : dec cX12_count 77 1 78 (.aload_n 0) := ⟨by decide +kernel, rfl⟩
theorem dX12_count_78 : dec cX12_count 78 1 79 (.iload_n 3) := ⟨by decide +kernel, rfl⟩
theorem dX12_count_79 : dec cX12_count 79 1 80 (.iconst 3) := ⟨by decide +kernel, rfl⟩
theorem dX12_count_80 : dec cX12_count 80 3 83 (.invokevirtual 101) := ⟨by decide +kernel, rfl⟩
theorem dX12_count_83 : dec cX12_count 83 1 84 (.iadd) := ⟨by decide +kernel, rfl⟩
theorem dX12_count_84 : dec cX12_count 84 1 85 (.istore_n 2) := ⟨by decide +kernel, rfl⟩
theorem dX12_count_85 : dec cX12_count 85 3 88 (.iinc 3 1) := ⟨by decide +kernel, rfl⟩
theorem dX12_count_88 : dec cX12_count 88 3 91 (.goto (-22)) := ⟨by decide +kernel, rfl⟩
theorem dX12_count_91 : dec cX12_count 91 1 92 (.iload_n 2) := ⟨by decide +kernel, rfl⟩
theorem dX12_count_92 : dec cX12_count 92 1 93 (.ireturn) := ⟨by decide +kernel, rfl⟩
theorem dX12_count_93 : dec cX12_count 93 1 94 (.aload_n 0) := ⟨by decide +kernel, rfl⟩
theorem dX12_count_94 : dec cX12_count 94 3 97 (.getfield 7) := ⟨by decide +kernel, rfl⟩
theorem dX12_count_97 : dec cX12_count 97 1 98 (.iconst 2) := ⟨by decide +kernel, rfl⟩
theorem dX12_count_98 : dec cX12_count 98 1 99 (.iaload) := ⟨by decide +kernel, rfl⟩
theorem dX12_count_99 : dec cX12_count 99 1 100 (.ireturn) := ⟨by decide +kernel, rfl⟩
theorem dX12_count_100 : dec cX12_count 100 1 101 (.aload_n 0) := ⟨by decide +kernel, rfl⟩
theorem dX12_count_101 : dec cX12_count 101 3 104 (.getfield 7) := ⟨by decide +kernel, rfl⟩
theorem dX12_count_104 : dec cX12_count 104 1 105 (.iconst 3) := ⟨by decide +kernel, rfl⟩
theorem dX12_count_105 : dec cX12_count 105 1 106 (.iaload) := ⟨by decide +kernel, rfl⟩
theorem dX12_count_106 : dec cX12_count 106 1 107 (.ireturn) := ⟨by decide +kernel, rfl⟩
theorem dX12_count_107 : dec cX12_count 107 1 108 (.aload_n 0) := ⟨by decide +kernel, rfl⟩
theorem dX12_count_108 : dec cX12_count 108 3 111 (.getfield 7) := ⟨by decide +kernel, rfl⟩
theorem dX12_count_111 : dec cX12_count 111 1 112 (.iconst 4) := ⟨by decide +kernel, rfl⟩
theorem dX12_count_112 : dec cX12_count 112 1 113 (.iaload) := ⟨by decide +kernel, rfl⟩
theorem dX12_count_113 : dec cX12_count 113 1 114 (.ireturn) := ⟨by decide +kernel, rfl⟩
theorem dX12_count_114 : dec cX12_count 114 1 115 (.aload_n 0) := ⟨by decide +kernel, rfl⟩
theorem dX12_count_115 : dec cX12_count 115 3 118 (.getfield 7) := ⟨by decide +kernel, rfl⟩
theorem dX12_count_118 : dec cX12_count 118 1 119 (.iconst 5) := ⟨by decide +kernel, rfl⟩
theorem dX12_count_119 : dec cX12_count 119 1 120 (.iaload) := ⟨by decide +kernel, rfl⟩
theorem dX12_count_120 : dec cX12_count 120 1 121 (.ireturn) := ⟨by decide +kernel, rfl⟩
theorem dX12_count_121 : dec cX12_count 121 1 122 (.aload_n 0) := ⟨by decide +kernel, rfl⟩
theorem dX12_count_122 : dec cX12_count 122 3 125 (.getfield 305) := ⟨by decide +kernel, rfl⟩
theorem dX12_count_125 : dec cX12_count 125 1 126 (.ireturn) := ⟨by decide +kernel, rfl⟩
theorem dX12_count_126 : dec cX12_count 126 1 127 (.aload_n 0) := ⟨by decide +kernel, rfl⟩
theorem dX12_count_127 : dec cX12_count 127 1 128 (.iconst 1) := ⟨by decide +kernel, rfl⟩
theorem dX12_count_128 : dec cX12_count 128 3 131 (.invokevirtual 83) := ⟨by decide +kernel, rfl⟩
theorem dX12_count_131 : dec cX12_count 131 1 132 (.ireturn) := ⟨by decide +kernel, rfl⟩
set_option maxHeartbeats 4000000 in
set_option maxRecDepth 100000 in
theorem tX12_count_L66 {X : Cx} {Y : Yx} {M0 : Mem} (hC : OKX X Y RX12 cX12_count 4 (some .int) rmX12_count) (hF : Y.2.2.2.2 = true) (hL : Lay M0) (Q : Int → Mem → Prop)  (a0 : Nat) (qa0 : 0 < a0 ∧ M0 0 a0 = kO 12)  : ∀ (N : Nat) (x2 : Int) (x3 : Int) (M : Mem) (_ : wX12_count_L66 Q  a0 N x2 x3 M), WW X Y 4 rmX12_count (QI Q) M0 0 0 66 [(0, vR Y.1 a0), (2, vI x2), (3, vI x3)] [] M := by
  intro N
  induction N with
  | zero =>
    intro x2 x3 M h
    exact h.elim
  | succ N ih =>
    intro x2 x3 M h
    unfold wX12_count_L66 at h
    refine r_iload_n hC 2 dX12_count_66 rfl rfl ?_
    refine r_aload_n hC 0 dX12_count_67 rfl rfl ?_
    have q_3 : 0 < a0 + 1 ∧ M0 0 (a0 + 1) = kA 0 1522 := lay_f0 (a := a0) hL qa0 fm_12_0
    refine r_getR0 (a' := a0 + 1) hC fg_X12_7 rfl hF fm_12_0 qa0.1 qa0.2 rfl dX12_count_68 ?_
    refine r_iconst hC dX12_count_71 ?_
    refine r_iald hC ⟨by decide +kernel, by decide +kernel⟩ q_3.1 q_3.2 (by decide) dX12_count_72 ?_
    refine r_icmp_ge hC 91 rfl rfl dX12_count_73 (by decide) (fun cq => ?_) (fun cq => ?_)
    · replace h := h.1 cq
      refine r_iload_n hC 1 dX12_count_91 rfl rfl ?_
      exact r_iret hC (Nat.zero_le _) (Nat.zero_le _) dX12_count_92 ⟨_, rfl, h⟩
    · replace h := h.2 cq
      refine r_iload_n hC 1 dX12_count_76 rfl rfl ?_
      refine r_aload_n hC 0 dX12_count_77 rfl rfl ?_
      refine r_iload_n hC 2 dX12_count_78 rfl rfl ?_
      refine r_iconst hC dX12_count_79 ?_
      refine r_callV (As := [vI x3, vI 3]) (st := [vI x2]) hC cw_X12_101 rfl qa0.1 qa0.2 rfl rfl (Nat.le_of_ble_eq_true rfl) ⟨Nat.le_of_ble_eq_true rfl, Nat.le_of_ble_eq_true rfl⟩ ⟨Nat.le_of_ble_eq_true rfl, Nat.le_of_ble_eq_true rfl⟩ dX12_count_80 (fun hk => mX12_likingIs Y hF _ _ _ _ _ _ (kqO hk qa0) h) (fun v M_4 h => ?_)
      obtain ⟨r_5, rfl, h⟩ := h
      refine r_iadd hC dX12_count_83 ?_
      refine r_nameI h (fun x2_6 h => ?_)
      refine r_istore_n (lv' := [(2, vI x2_6), (0, vR Y.1 a0), (3, vI x3)]) hC dX12_count_84 rfl (by decide) rfl ?_
      refine let_elim h (fun x3_7 e_8 h => ?_)
      refine r_iinc (lv' := [(3, vI x3_7), (2, vI x2_6), (0, vR Y.1 a0)]) hC 2 dX12_count_85 rfl (by decide) e_8 rfl ?_
      refine r_goto hC 66 dX12_count_88 (by decide) ?_
      refine r_sub [2, 1, 0] rfl ?_
      exact ih _ _ _ h
set_option maxHeartbeats 4000000 in
set_option maxRecDepth 100000 in
theorem mX12_count (Y : Yx) (hF : Y.2.2.2.2 = true) (l : Launch) (a0 : Nat) (x1 : Int) (M0 : Mem) (Q : Int → Mem → Prop) (qa0 : 0 < a0 ∧ M0 0 a0 = kO 12) (h : wX12_count a0 x1 M0 Q) : CT Y l yX12_count cX12_count 4 (some .int) rmX12_count [vR Y.1 a0, vI x1] M0 (QI Q) := by
  unfold wX12_count at h
  refine ct_intro (by decide) (Nat.le_of_ble_eq_true rfl) ?_
  intro X hXl hC hL0
  have hL := hL0 hF
  change OKX X Y RX12 cX12_count 4 (some .int) rmX12_count at hC
  change WW X Y 4 rmX12_count (QI Q) M0 0 0 0 [(0, vR Y.1 a0), (1, vI x1)] [] M0
  refine r_iload_n hC 1 dX12_count_0 rfl rfl ?_
  by_cases c0 : bm x1 = 0
  · replace h := h.1 c0
    refine r_tabIn hC 48 0 dX12_count_1 c0 (by decide) (by decide) rfl (by decide) ?_
    refine r_aload_n hC 0 dX12_count_48 rfl rfl ?_
    have q_1 : 0 < a0 + 1 ∧ M0 0 (a0 + 1) = kA 0 1522 := lay_f0 (a := a0) hL qa0 fm_12_0
    refine r_getR0 (a' := a0 + 1) hC fg_X12_7 rfl hF fm_12_0 qa0.1 qa0.2 rfl dX12_count_49 ?_
    refine r_iconst hC dX12_count_52 ?_
    refine r_iald hC ⟨by decide +kernel, by decide +kernel⟩ q_1.1 q_1.2 (by decide) dX12_count_53 ?_
    exact r_iret hC (Nat.zero_le _) (Nat.zero_le _) dX12_count_54 ⟨_, rfl, h⟩
  · replace h := h.2 c0
    by_cases c1 : bm x1 = 1
    · replace h := h.1 c1
      refine r_tabIn hC 55 1 dX12_count_1 c1 (by decide) (by decide) rfl (by decide) ?_
      refine r_aload_n hC 0 dX12_count_55 rfl rfl ?_
      have q_2 : 0 < a0 + 1 ∧ M0 0 (a0 + 1) = kA 0 1522 := lay_f0 (a := a0) hL qa0 fm_12_0
      refine r_getR0 (a' := a0 + 1) hC fg_X12_7 rfl hF fm_12_0 qa0.1 qa0.2 rfl dX12_count_56 ?_
      refine r_iconst hC dX12_count_59 ?_
      refine r_iald hC ⟨by decide +kernel, by decide +kernel⟩ q_2.1 q_2.2 (by decide) dX12_count_60 ?_
      exact r_iret hC (Nat.zero_le _) (Nat.zero_le _) dX12_count_61 ⟨_, rfl, h⟩
    · replace h := h.2 c1
      by_cases c2 : bm x1 = 2
      · replace h := h.1 c2
        refine r_tabIn hC 62 2 dX12_count_1 c2 (by decide) (by decide) rfl (by decide) ?_
        refine r_iconst hC dX12_count_62 ?_
        refine r_istore_n (lv' := [(2, vI 0), (0, vR Y.1 a0), (1, vI x1)]) hC dX12_count_63 rfl (by decide) rfl ?_
        refine r_iconst hC dX12_count_64 ?_
        refine r_istore_n (lv' := [(3, vI 0), (2, vI 0), (0, vR Y.1 a0), (1, vI x1)]) hC dX12_count_65 rfl (by decide) rfl ?_
        refine r_sub [2, 1, 0] rfl ?_
        obtain ⟨N_9, h⟩ := h
        refine tX12_count_L66 hC hF hL Q  _ qa0  N_9 _ _ _ h
      · replace h := h.2 c2
        by_cases c3 : bm x1 = 3
        · replace h := h.1 c3
          refine r_tabIn hC 93 3 dX12_count_1 c3 (by decide) (by decide) rfl (by decide) ?_
          refine r_aload_n hC 0 dX12_count_93 rfl rfl ?_
          have q_10 : 0 < a0 + 1 ∧ M0 0 (a0 + 1) = kA 0 1522 := lay_f0 (a := a0) hL qa0 fm_12_0
          refine r_getR0 (a' := a0 + 1) hC fg_X12_7 rfl hF fm_12_0 qa0.1 qa0.2 rfl dX12_count_94 ?_
          refine r_iconst hC dX12_count_97 ?_
          refine r_iald hC ⟨by decide +kernel, by decide +kernel⟩ q_10.1 q_10.2 (by decide) dX12_count_98 ?_
          exact r_iret hC (Nat.zero_le _) (Nat.zero_le _) dX12_count_99 ⟨_, rfl, h⟩
        · replace h := h.2 c3
          by_cases c4 : bm x1 = 4
          · replace h := h.1 c4
            refine r_tabIn hC 100 4 dX12_count_1 c4 (by decide) (by decide) rfl (by decide) ?_
            refine r_aload_n hC 0 dX12_count_100 rfl rfl ?_
            have q_11 : 0 < a0 + 1 ∧ M0 0 (a0 + 1) = kA 0 1522 := lay_f0 (a := a0) hL qa0 fm_12_0
            refine r_getR0 (a' := a0 + 1) hC fg_X12_7 rfl hF fm_12_0 qa0.1 qa0.2 rfl dX12_count_101 ?_
            refine r_iconst hC dX12_count_104 ?_
            refine r_iald hC ⟨by decide +kernel, by decide +kernel⟩ q_11.1 q_11.2 (by decide) dX12_count_105 ?_
            exact r_iret hC (Nat.zero_le _) (Nat.zero_le _) dX12_count_106 ⟨_, rfl, h⟩
          · replace h := h.2 c4
            by_cases c5 : bm x1 = 5
            · replace h := h.1 c5
              refine r_tabIn hC 107 5 dX12_count_1 c5 (by decide) (by decide) rfl (by decide) ?_
              refine r_aload_n hC 0 dX12_count_107 rfl rfl ?_
              have q_12 : 0 < a0 + 1 ∧ M0 0 (a0 + 1) = kA 0 1522 := lay_f0 (a := a0) hL qa0 fm_12_0
              refine r_getR0 (a' := a0 + 1) hC fg_X12_7 rfl hF fm_12_0 qa0.1 qa0.2 rfl dX12_count_108 ?_
              refine r_iconst hC dX12_count_111 ?_
              refine r_iald hC ⟨by decide +kernel, by decide +kernel⟩ q_12.1 q_12.2 (by decide) dX12_count_112 ?_
              exact r_iret hC (Nat.zero_le _) (Nat.zero_le _) dX12_count_113 ⟨_, rfl, h⟩
            · replace h := h.2 c5
              by_cases c6 : bm x1 = 6
              · replace h := h.1 c6
                refine r_tabIn hC 114 6 dX12_count_1 c6 (by decide) (by decide) rfl (by decide) ?_
                refine r_aload_n hC 0 dX12_count_114 rfl rfl ?_
                have q_13 : 0 < a0 + 1 ∧ M0 0 (a0 + 1) = kA 0 1522 := lay_f0 (a := a0) hL qa0 fm_12_0
                refine r_getR0 (a' := a0 + 1) hC fg_X12_7 rfl hF fm_12_0 qa0.1 qa0.2 rfl dX12_count_115 ?_
                refine r_iconst hC dX12_count_118 ?_
                refine r_iald hC ⟨by decide +kernel, by decide +kernel⟩ q_13.1 q_13.2 (by decide) dX12_count_119 ?_
                exact r_iret hC (Nat.zero_le _) (Nat.zero_le _) dX12_count_120 ⟨_, rfl, h⟩
              · replace h := h.2 c6
                by_cases c7 : bm x1 = 7
                · replace h := h.1 c7
                  refine r_tabIn hC 121 7 dX12_count_1 c7 (by decide) (by decide) rfl (by decide) ?_
                  refine r_aload_n hC 0 dX12_count_121 rfl rfl ?_
                  refine r_getI hC fg_X12_305 rfl qa0.1 qa0.2 dX12_count_122 ?_
                  exact r_iret hC (Nat.zero_le _) (Nat.zero_le _) dX12_count_125 ⟨_, rfl, h⟩
                · replace h := h.2 c7
                  refine r_tabOut hC 126 dX12_count_1 (by omega) (by decide) ?_
                  refine r_aload_n hC 0 dX12_count_126 rfl rfl ?_
                  refine r_iconst hC dX12_count_127 ?_
                  refine r_callV (As := [vI 1]) (st := []) hC cw_X12_83 rfl qa0.1 qa0.2 rfl rfl (Nat.le_of_ble_eq_true rfl) ⟨Nat.le_of_ble_eq_true rfl, Nat.le_of_ble_eq_true rfl⟩ ⟨Nat.le_of_ble_eq_true rfl, Nat.le_of_ble_eq_true rfl⟩ dX12_count_128 (fun hk => mX12_error Y hF _ _ _ _ _ (kqO hk qa0) h) (fun v M_14 h => ?_)
                  obtain ⟨r_15, rfl, h⟩ := h
                  exact r_iret hC (Nat.zero_le _) (Nat.zero_le _) dX12_count_131 ⟨_, rfl, h⟩
theorem dX12_told_0 : dec cX12_told 0 1 1 (.iload_n 1) := ⟨by decide +kernel, rfl⟩
theorem dX12_told_1 : dec cX12_told 1 1 2 (.iconst 1) := ⟨by decide +kernel, rfl⟩
theorem dX12_told_2 : dec cX12_told 2 2 4 (.bipush 6) := ⟨by decide +kernel, rfl⟩
theorem dX12_told_4 : dec cX12_told 4 3 7 (.invokestatic 79) := ⟨by decide +kernel, rfl⟩
theorem dX12_told_7 : dec cX12_told 7 3 10 (.ifCond .eq 12) := ⟨by decide +kernel, rfl⟩
theorem dX12_told_10 : dec cX12_told 10 1 11 (.aload_n 0) := ⟨by decide +kernel, rfl⟩
theorem dX12_told_11 : dec cX12_told 11 3 14 (.getfield 16) := ⟨by decide +kernel, rfl⟩
theorem dX12_told_14 : dec cX12_told 14 1 15 (.iload_n 1) := ⟨by decide +kernel, rfl⟩
theorem dX12_told_15 : dec cX12_told 15 1 16 (.iaload) := ⟨by decide +kernel, rfl⟩
theorem dX12_told_16 : dec cX12_told 16 3 19 (.goto 8) := ⟨by decide +kernel, rfl⟩
theorem dX12_told_19 : dec cX12_told 19 1 20 (.aload_n 0) := ⟨by decide +kernel, rfl⟩
theorem dX12_told_20 : dec cX12_told 20 1 21 (.iconst 1) := ⟨by decide +kernel, rfl⟩
theorem dX12_told_21 : dec cX12_told 21 3 24 (.invokevirtual 83) := ⟨by decide +kernel, rfl⟩
theorem dX12_told_24 : dec cX12_told 24 1 25 (.ireturn) := ⟨by decide +kernel, rfl⟩
set_option maxHeartbeats 4000000 in
set_option maxRecDepth 100000 in
theorem mX12_told (Y : Yx) (hF : Y.2.2.2.2 = true) (l : Launch) (a0 : Nat) (x1 : Int) (M0 : Mem) (Q : Int → Mem → Prop) (qa0 : 0 < a0 ∧ M0 0 a0 = kO 12) (h : wX12_told a0 x1 M0 Q) : CT Y l yX12_told cX12_told 2 (some .int) rmX12_told [vR Y.1 a0, vI x1] M0 (QI Q) := by
  unfold wX12_told at h
  refine ct_intro (by decide) (Nat.le_of_ble_eq_true rfl) ?_
  intro X hXl hC hL0
  have hL := hL0 hF
  change OKX X Y RX12 cX12_told 2 (some .int) rmX12_told at hC
  change WW X Y 2 rmX12_told (QI Q) M0 0 0 0 [(0, vR Y.1 a0), (1, vI x1)] [] M0
  refine r_iload_n hC 1 dX12_told_0 rfl rfl ?_
  refine r_iconst hC dX12_told_1 ?_
  refine r_bipush hC (by decide +kernel) dX12_told_2 ?_
  refine r_callS (As := [vI x1, vI 1, vI 6]) (st := []) hC cw_X12_79 rfl rfl (Nat.le_of_ble_eq_true rfl) ⟨Nat.le_of_ble_eq_true rfl, Nat.le_of_ble_eq_true rfl⟩ ⟨Nat.le_of_ble_eq_true rfl, Nat.le_of_ble_eq_true rfl⟩ dX12_told_4 (fun hk => mX12_in Y hF _ _ _ _ _ _  h) (fun v M_1 h => ?_)
  obtain ⟨r_2, rfl, h⟩ := h
  refine r_if_eq hC 19 rfl dX12_told_7 (by decide) (fun cq => ?_) (fun cq => ?_)
  · replace h := h.1 cq
    refine r_aload_n hC 0 dX12_told_19 rfl rfl ?_
    refine r_iconst hC dX12_told_20 ?_
    refine r_callV (As := [vI 1]) (st := []) hC cw_X12_83 rfl qa0.1 qa0.2 rfl rfl (Nat.le_of_ble_eq_true rfl) ⟨Nat.le_of_ble_eq_true rfl, Nat.le_of_ble_eq_true rfl⟩ ⟨Nat.le_of_ble_eq_true rfl, Nat.le_of_ble_eq_true rfl⟩ dX12_told_21 (fun hk => mX12_error Y hF _ _ _ _ _ (kqO hk qa0) h) (fun v M_3 h => ?_)
    obtain ⟨r_4, rfl, h⟩ := h
    exact r_iret hC (Nat.zero_le _) (Nat.zero_le _) dX12_told_24 ⟨_, rfl, h⟩
  · replace h := h.2 cq
    refine r_aload_n hC 0 dX12_told_10 rfl rfl ?_
    have q_5 : 0 < a0 + 3 ∧ M0 0 (a0 + 3) = kA 0 7 := lay_f0 (a := a0) hL qa0 fm_12_3
    refine r_getR0 (a' := a0 + 3) hC fg_X12_16 rfl hF fm_12_3 qa0.1 qa0.2 rfl dX12_told_11 ?_
    refine r_iload_n hC 1 dX12_told_14 rfl rfl ?_
    obtain ⟨i_6, h⟩ := h
    refine r_iald hC i_6 q_5.1 q_5.2 (by decide) dX12_told_15 ?_
    refine r_goto hC 24 dX12_told_16 (by decide) ?_
    exact r_iret hC (Nat.zero_le _) (Nat.zero_le _) dX12_told_24 ⟨_, rfl, h⟩
