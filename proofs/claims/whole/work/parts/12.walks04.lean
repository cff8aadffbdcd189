theorem dX11_within_0 : dec cX11_within 0 1 1 (.iload_n 0) := ⟨by decide +kernel, rfl⟩
theorem dX11_within_1 : dec cX11_within 1 1 2 (.iload_n 1) := ⟨by decide +kernel, rfl⟩
theorem dX11_within_2 : dec cX11_within 2 3 5 (.if_icmp .lt 12) := ⟨by decide +kernel, rfl⟩
theorem dX11_within_5 : dec cX11_within 5 1 6 (.iload_n 0) := ⟨by decide +kernel, rfl⟩
theorem dX11_within_6 : dec cX11_within 6 1 7 (.iload_n 2) := ⟨by decide +kernel, rfl⟩
theorem dX11_within_7 : dec cX11_within 7 3 10 (.if_icmp .gt 7) := ⟨by decide +kernel, rfl⟩
theorem dX11_within_10 : dec cX11_within 10 1 11 (.iconst 1) := ⟨by decide +kernel, rfl⟩
theorem dX11_within_11 : dec cX11_within 11 3 14 (.goto 4) := ⟨by decide +kernel, rfl⟩
theorem dX11_within_14 : dec cX11_within 14 1 15 (.iconst 0) := ⟨by decide +kernel, rfl⟩
theorem dX11_within_15 : dec cX11_within 15 1 16 (.ireturn) := ⟨by decide +kernel, rfl⟩
set_option maxHeartbeats 4000000 in
set_option maxRecDepth 100000 in
theorem mX11_within (Y : Yx) (hF : Y.2.2.2.2 = true) (l : Launch) (x0 : Int) (x1 : Int) (x2 : Int) (M0 : Mem) (Q : Int → Mem → Prop)  (h : wX11_within x0 x1 x2 M0 Q) : CT Y l yX11_within cX11_within 3 (some .boolean) rmX11_within [vI x0, vI x1, vI x2] M0 (QI Q) := by
  unfold wX11_within at h
  refine ct_intro (by decide) (Nat.le_of_ble_eq_true rfl) ?_
  intro X hXl hC hL0
  have hL := hL0 hF
  change OKX X Y RX11 cX11_within 3 (some .boolean) rmX11_within at hC
  change WW X Y 3 rmX11_within (QI Q) M0 0 0 0 [(0, vI x0), (1, vI x1), (2, vI x2)] [] M0
  refine r_iload_n hC 0 dX11_within_0 rfl rfl ?_
  refine r_iload_n hC 1 dX11_within_1 rfl rfl ?_
  refine r_icmp_lt hC 14 rfl rfl dX11_within_2 (by decide) (fun cq => ?_) (fun cq => ?_)
  · replace h := h.1 cq
    refine r_iconst hC dX11_within_14 ?_
    exact r_zret hC (Or.inl rfl) (Nat.zero_le _) (Nat.zero_le _) dX11_within_15 ⟨_, rfl, h⟩
  · replace h := h.2 cq
    refine r_iload_n hC 0 dX11_within_5 rfl rfl ?_
    refine r_iload_n hC 2 dX11_within_6 rfl rfl ?_
    refine r_icmp_gt hC 14 rfl rfl dX11_within_7 (by decide) (fun cq => ?_) (fun cq => ?_)
    · replace h := h.1 cq
      refine r_iconst hC dX11_within_14 ?_
      exact r_zret hC (Or.inl rfl) (Nat.zero_le _) (Nat.zero_le _) dX11_within_15 ⟨_, rfl, h⟩
    · replace h := h.2 cq
      refine r_iconst hC dX11_within_10 ?_
      refine r_goto hC 15 dX11_within_11 (by decide) ?_
      exact r_zret hC (Or.inr rfl) (Nat.zero_le _) (Nat.zero_le _) dX11_within_15 ⟨_, rfl, h⟩
theorem dX11_isIn_0 : dec cX11_isIn 0 1 1 (.iload_n 0) := ⟨by decide +kernel, rfl⟩
theorem dX11_isIn_1 : dec cX11_isIn 1 1 2 (.iload_n 1) := ⟨by decide +kernel, rfl⟩
theorem dX11_isIn_2 : dec cX11_isIn 2 1 3 (.ishr) := ⟨by decide +kernel, rfl⟩
theorem dX11_isIn_3 : dec cX11_isIn 3 1 4 (.iconst 1) := ⟨by decide +kernel, rfl⟩
theorem dX11_isIn_4 : dec cX11_isIn 4 1 5 (.iand) := ⟨by decide +kernel, rfl⟩
theorem dX11_isIn_5 : dec cX11_isIn 5 3 8 (.ifCond .eq 7) := ⟨by decide +kernel, rfl⟩
theorem dX11_isIn_8 : dec cX11_isIn 8 1 9 (.iconst 1) := ⟨by decide +kernel, rfl⟩
theorem dX11_isIn_9 : dec cX11_isIn 9 3 12 (.goto 4) := ⟨by decide +kernel, rfl⟩
theorem dX11_isIn_12 : dec cX11_isIn 12 1 13 (.iconst 0) := ⟨by decide +kernel, rfl⟩
theorem dX11_isIn_13 : dec cX11_isIn 13 1 14 (.ireturn) := ⟨by decide +kernel, rfl⟩
set_option maxHeartbeats 4000000 in
set_option maxRecDepth 100000 in
theorem mX11_isIn (Y : Yx) (hF : Y.2.2.2.2 = true) (l : Launch) (x0 : Int) (x1 : Int) (M0 : Mem) (Q : Int → Mem → Prop)  (h : wX11_isIn x0 x1 M0 Q) : CT Y l yX11_isIn cX11_isIn 2 (some .boolean) rmX11_isIn [vI x0, vI x1] M0 (QI Q) := by
  unfold wX11_isIn at h
  refine ct_intro (by decide) (Nat.le_of_ble_eq_true rfl) ?_
  intro X hXl hC hL0
  have hL := hL0 hF
  change OKX X Y RX11 cX11_isIn 2 (some .boolean) rmX11_isIn at hC
  change WW X Y 2 rmX11_isIn (QI Q) M0 0 0 0 [(0, vI x0), (1, vI x1)] [] M0
  refine r_iload_n hC 0 dX11_isIn_0 rfl rfl ?_
  refine r_iload_n hC 1 dX11_isIn_1 rfl rfl ?_
  refine r_ishr hC dX11_isIn_2 ?_
  refine r_iconst hC dX11_isIn_3 ?_
  refine r_iand hC dX11_isIn_4 ?_
  refine r_if_eq hC 12 rfl dX11_isIn_5 (by decide) (fun cq => ?_) (fun cq => ?_)
  · replace h := h.1 cq
    refine r_iconst hC dX11_isIn_12 ?_
    exact r_zret hC (Or.inl rfl) (Nat.zero_le _) (Nat.zero_le _) dX11_isIn_13 ⟨_, rfl, h⟩
  · replace h := h.2 cq
    refine r_iconst hC dX11_isIn_8 ?_
    refine r_goto hC 13 dX11_isIn_9 (by decide) ?_
    exact r_zret hC (Or.inr rfl) (Nat.zero_le _) (Nat.zero_le _) dX11_isIn_13 ⟨_, rfl, h⟩
theorem dX5_takesSheet_0 : dec cX5_takesSheet 0 1 1 (.aload_n 1) := ⟨by decide +kernel, rfl⟩
theorem dX5_takesSheet_1 : dec cX5_takesSheet 1 3 4 (.getfield 28) := ⟨by decide +kernel, rfl⟩
theorem dX5_takesSheet_4 : dec cX5_takesSheet 4 1 5 (.iconst 1) := ⟨by decide +kernel, rfl⟩
theorem dX5_takesSheet_5 : dec cX5_takesSheet 5 2 7 (.bipush 12) := ⟨by decide +kernel, rfl⟩
theorem dX5_takesSheet_7 : dec cX5_takesSheet 7 3 10 (.invokestatic 31) := ⟨by decide +kernel, rfl⟩
theorem dX5_takesSheet_10 : dec cX5_takesSheet 10 3 13 (.ifCond .eq 17) := ⟨by decide +kernel, rfl⟩
theorem dX5_takesSheet_13 : dec cX5_takesSheet 13 1 14 (.iload_n 2) := ⟨by decide +kernel, rfl⟩
theorem dX5_takesSheet_14 : dec cX5_takesSheet 14 1 15 (.iconst 0) := ⟨by decide +kernel, rfl⟩
theorem dX5_takesSheet_15 : dec cX5_takesSheet 15 1 16 (.aload_n 1) := ⟨by decide +kernel, rfl⟩
theorem dX5_takesSheet_16 : dec cX5_takesSheet 16 3 19 (.getfield 28) := ⟨by decide +kernel, rfl⟩
theorem dX5_takesSheet_19 : dec cX5_takesSheet 19 1 20 (.iconst 1) := ⟨by decide +kernel, rfl⟩
theorem dX5_takesSheet_20 : dec cX5_takesSheet 20 1 21 (.isub) := ⟨by decide +kernel, rfl⟩
theorem dX5_takesSheet_21 : dec cX5_takesSheet 21 3 24 (.invokestatic 31) := ⟨by decide +kernel, rfl⟩
theorem dX5_takesSheet_24 : dec cX5_takesSheet 24 3 27 (.ifCond .ne 5) := ⟨by decide +kernel, rfl⟩
theorem dX5_takesSheet_27 : dec cX5_takesSheet 27 1 28 (.iconst 0) := ⟨by decide +kernel, rfl⟩
theorem dX5_takesSheet_28 : dec cX5_takesSheet 28 1 29 (.ireturn) := ⟨by decide +kernel, rfl⟩
theorem dX5_takesSheet_29 : dec cX5_takesSheet 29 1 30 (.iconst 0) := ⟨by decide +kernel, rfl⟩
theorem dX5_takesSheet_30 : dec cX5_takesSheet 30 2 32 (.istore 4) := ⟨by decide +kernel, rfl⟩
theorem dX5_takesSheet_32 : dec cX5_takesSheet 32 1 33 (.iconst 0) := ⟨by decide +kernel, rfl⟩
theorem dX5_takesSheet_33 : dec cX5_takesSheet 33 2 35 (.istore 5) := ⟨by decide +kernel, rfl⟩
theorem dX5_takesSheet_35 : dec cX5_takesSheet 35 2 37 (.iload 5) := ⟨by decide +kernel, rfl⟩
theorem dX5_takesSheet_37 : dec cX5_takesSheet 37 1 38 (.aload_n 1) := ⟨by decide +kernel, rfl⟩
theorem dX5_takesSheet_38 : dec cX5_takesSheet 38 3 41 (.getfield 28) := ⟨by decide +kernel, rfl⟩
theorem dX5_takesSheet_41 : dec cX5_takesSheet 41 3 44 (.if_icmp .ge 60) := ⟨by decide +kernel, rfl⟩
theorem dX5_takesSheet_44 : dec cX5_takesSheet 44 1 45 (.aload_n 1) := ⟨by decide +kernel, rfl⟩
theorem dX5_takesSheet_45 : dec cX5_takesSheet 45 3 48 (.getfield 35) := ⟨by decide +kernel, rfl⟩
theorem dX5_takesSheet_48 : dec cX5_takesSheet 48 2 50 (.iload 5) := ⟨by decide +kernel, rfl⟩
theorem dX5_takesSheet_50 : dec cX5_takesSheet 50 1 51 (.iaload) := ⟨by decide +kernel, rfl⟩
theorem dX5_takesSheet_51 : dec cX5_takesSheet 51 2 53 (.istore 6) := ⟨by decide +kernel, rfl⟩
theorem dX5_takesSheet_53 : dec cX5_takesSheet 53 2 55 (.iload 6) := ⟨by decide +kernel, rfl⟩
theorem dX5_takesSheet_55 : dec cX5_takesSheet 55 1 56 (.iconst 0) := ⟨by decide +kernel, rfl⟩
theorem dX5_takesSheet_56 : dec cX5_takesSheet 56 1 57 (.iload_n 3) := ⟨by decide +kernel, rfl⟩
theorem dX5_takesSheet_57 : dec cX5_takesSheet 57 1 58 (.iconst 1) := ⟨by decide +kernel, rfl⟩
theorem dX5_takesSheet_58 : dec cX5_takesSheet 58 1 59 (.isub) := ⟨by decide +kernel, rfl⟩
theorem dX5_takesSheet_59 : dec cX5_takesSheet 59 3 62 (.invokestatic 31) := ⟨by decide +kernel, rfl⟩
theorem dX5_takesSheet_62 : dec cX5_takesSheet 62 3 65 (.ifCond .eq 13) := ⟨by decide +kernel, rfl⟩
theorem dX5_takesSheet_65 : dec cX5_takesSheet 65 2 67 (.iload 4) := ⟨by decide +kernel, rfl⟩
theorem dX5_takesSheet_67 : dec cX5_takesSheet 67 2 69 (.iload 6) := ⟨by decide +kernel, rfl⟩
theorem dX5_takesSheet_69 : dec cX5_takesSheet 69 3 72 (.invokestatic 38) := ⟨by decide +kernel, rfl⟩
theorem dX5_takesSheet_72 : dec cX5_takesSheet 72 3 75 (.ifCond .eq 5) := ⟨by decide +kernel, rfl⟩
theorem dX5_takesSheet_75 : dec cX5_takesSheet 75 1 76 (.iconst 0) := ⟨by decide +kernel, rfl⟩
theorem dX5_takesSheet_76 : dec cX5_takesSheet 76 1 77 (.ireturn) := ⟨by decide +kernel, rfl⟩
theorem dX5_takesSheet_77 : dec cX5_takesSheet 77 2 79 (.iload 4) := ⟨by decide +kernel, rfl⟩
theorem dX5_takesSheet_79 : dec cX5_takesSheet 79 1 80 (.iconst 1) := ⟨by decide +kernel, rfl⟩
theorem dX5_takesSheet_80 : dec cX5_takesSheet 80 2 82 (.iload 6) := ⟨by decide +kernel, rfl⟩
theorem dX5_takesSheet_82 : dec cX5_takesSheet 82 1 83 (.ishl) := ⟨by decide +kernel, rfl⟩
theorem dX5_takesSheet_83 : dec cX5_takesSheet 83 1 84 (.ior) := ⟨by decide +kernel, rfl⟩
theorem dX5_takesSheet_84 : dec cX5_takesSheet 84 2 86 (.istore 4) := ⟨by decide +kernel, rfl⟩
theorem dX5_takesSheet_86 : dec cX5_takesSheet 86 1 87 (.aload_n 0) := ⟨by decide +kernel, rfl⟩
theorem dX5_takesSheet_87 : dec cX5_takesSheet 87 3 90 (.getfield 9) := ⟨by decide +kernel, rfl⟩
theorem dX5_takesSheet_90 : dec cX5_takesSheet 90 2 92 (.iload 5) := ⟨by decide +kernel, rfl⟩
theorem dX5_takesSheet_92 : dec cX5_takesSheet 92 2 94 (.iload 6) := ⟨by decide +kernel, rfl⟩
theorem dX5_takesSheet_94 : dec cX5_takesSheet 94 1 95 (.iastore) := ⟨by decide +kernel, rfl⟩
theorem dX5_takesSheet_95 : dec cX5_takesSheet 95 3 98 (.iinc 5 1) := ⟨by decide +kernel, rfl⟩
theorem dX5_takesSheet_98 : dec cX5_takesSheet 98 3 101 (.goto (-63)) := ⟨by decide +kernel, rfl⟩
theorem dX5_takesSheet_101 : dec cX5_takesSheet 101 1 102 (.aload_n 0) := ⟨by decide +kernel, rfl⟩
theorem dX5_takesSheet_102 : dec cX5_takesSheet 102 1 103 (.aload_n 1) := ⟨by decide +kernel, rfl⟩
theorem dX5_takesSheet_103 : dec cX5_takesSheet 103 3 106 (.getfield 28) := ⟨by decide +kernel, rfl⟩
theorem dX5_takesSheet_106 : dec cX5_takesSheet 106 3 109 (.putfield 15) := ⟨by decide +kernel, rfl⟩
theorem dX5_takesSheet_109 : dec cX5_takesSheet 109 1 110 (.aload_n 0) := ⟨by decide +kernel, rfl⟩
theorem dX5_takesSheet_110 : dec cX5_takesSheet 110 1 111 (.iload_n 2) := ⟨by decide +kernel, rfl⟩
theorem dX5_takesSheet_111 : dec cX5_takesSheet 111 3 114 (.putfield 19) := ⟨by decide +kernel, rfl⟩
theorem dX5_takesSheet_114 : dec cX5_takesSheet 114 1 115 (.iconst 1) := ⟨by decide +kernel, rfl⟩
theorem dX5_takesSheet_115 : dec cX5_takesSheet 115 1 116 (.ireturn) := ⟨by decide +kernel, rfl⟩
set_option maxHeartbeats 4000000 in
set_option maxRecDepth 100000 in
theorem tX5_takesSheet_L35 {X : Cx} {Y : Yx} {M0 : Mem} (hC : OKX X Y RX5 cX5_takesSheet 7 (some .boolean) rmX5_takesSheet) (hF : Y.2.2.2.2 = true) (hL : Lay M0) (Q : Int → Mem → Prop) (E101 : Mem → Prop) (a0 : Nat) (a1 : Nat) (x2 : Int) (x3 : Int) (qa0 : 0 < a0 ∧ M0 0 a0 = kO 5) (qa1 : 0 < a1 ∧ M0 0 a1 = kO 8) (hE101 : ∀  (M : Mem), E101  M → WW X Y 7 rmX5_takesSheet (QI Q) M0 0 0 101 [(0, vR Y.1 a0), (1, vR Y.1 a1), (2, vI x2)] [] M) : ∀ (N : Nat) (x4 : Int) (x5 : Int) (M : Mem) (_ : wX5_takesSheet_L35 Q E101 a0 a1 x2 x3 N x4 x5 M), WW X Y 7 rmX5_takesSheet (QI Q) M0 0 0 35 [(0, vR Y.1 a0), (1, vR Y.1 a1), (2, vI x2), (3, vI x3), (4, vI x4), (5, vI x5)] [] M := by
  intro N
  induction N with
  | zero =>
    intro x4 x5 M h
    exact h.elim
  | succ N ih =>
    intro x4 x5 M h
    unfold wX5_takesSheet_L35 at h
    refine r_iload hC 5 dX5_takesSheet_35 rfl ?_
    refine r_aload_n hC 1 dX5_takesSheet_37 rfl rfl ?_
    refine r_getI hC fg_X5_28 rfl qa1.1 qa1.2 dX5_takesSheet_38 ?_
    refine r_icmp_ge hC 101 rfl rfl dX5_takesSheet_41 (by decide) (fun cq => ?_) (fun cq => ?_)
    · replace h := h.1 cq
      refine r_sub [0, 1, 2] rfl ?_
      exact hE101  _ h
    · replace h := h.2 cq
      refine r_aload_n hC 1 dX5_takesSheet_44 rfl rfl ?_
      have q_5 : 0 < a1 + 1 ∧ M0 0 (a1 + 1) = kA 0 24 := lay_f0 (a := a1) hL qa1 fm_8_0
      refine r_getR0 (a' := a1 + 1) hC fg_X5_35 rfl hF fm_8_0 qa1.1 qa1.2 rfl dX5_takesSheet_45 ?_
      refine r_iload hC 5 dX5_takesSheet_48 rfl ?_
      obtain ⟨i_6, h⟩ := h
      refine r_iald hC i_6 q_5.1 q_5.2 (by decide) dX5_takesSheet_50 ?_
      refine r_nameI h (fun x6_7 h => ?_)
      refine r_istore (lv' := [(6, vI x6_7), (0, vR Y.1 a0), (1, vR Y.1 a1), (2, vI x2), (3, vI x3), (4, vI x4), (5, vI x5)]) hC dX5_takesSheet_51 (by decide) rfl ?_
      refine r_iload hC 0 dX5_takesSheet_53 rfl ?_
      refine r_iconst hC dX5_takesSheet_55 ?_
      refine r_iload_n hC 4 dX5_takesSheet_56 rfl rfl ?_
      refine r_iconst hC dX5_takesSheet_57 ?_
      refine r_isub hC dX5_takesSheet_58 ?_
      refine r_callN (As := [vI x6_7, vI 0, vI (x3 - 1)]) (st := []) hC cw_X5_31 rfl rfl (Nat.le_of_ble_eq_true rfl) ⟨Nat.le_of_ble_eq_true rfl, Nat.le_of_ble_eq_true rfl⟩ ⟨Nat.le_of_ble_eq_true rfl, Nat.le_of_ble_eq_true rfl⟩ dX5_takesSheet_59 (fun hk => mX11_within Y hF _ _ _ _ _ _  h) (fun v M_8 h => ?_)
      obtain ⟨r_9, rfl, h⟩ := h
      refine r_if_eq hC 75 rfl dX5_takesSheet_62 (by decide) (fun cq => ?_) (fun cq => ?_)
      · replace h := h.1 cq
        refine r_iconst hC dX5_takesSheet_75 ?_
        exact r_zret hC (Or.inl rfl) (Nat.zero_le _) (Nat.zero_le _) dX5_takesSheet_76 ⟨_, rfl, h⟩
      · replace h := h.2 cq
        refine r_iload hC 5 dX5_takesSheet_65 rfl ?_
        refine r_iload hC 0 dX5_takesSheet_67 rfl ?_
        refine r_callN (As := [vI x4, vI x6_7]) (st := []) hC cw_X5_38 rfl rfl (Nat.le_of_ble_eq_true rfl) ⟨Nat.le_of_ble_eq_true rfl, Nat.le_of_ble_eq_true rfl⟩ ⟨Nat.le_of_ble_eq_true rfl, Nat.le_of_ble_eq_true rfl⟩ dX5_takesSheet_69 (fun hk => mX11_isIn Y hF _ _ _ _ _  h) (fun v M_10 h => ?_)
        obtain ⟨r_11, rfl, h⟩ := h
        refine r_if_eq hC 77 rfl dX5_takesSheet_72 (by decide) (fun cq => ?_) (fun cq => ?_)
        · replace h := h.1 cq
          refine r_iload hC 5 dX5_takesSheet_77 rfl ?_
          refine r_iconst hC dX5_takesSheet_79 ?_
          refine r_iload hC 0 dX5_takesSheet_80 rfl ?_
          refine r_ishl hC dX5_takesSheet_82 ?_
          refine r_ior hC dX5_takesSheet_83 ?_
          refine r_nameI h (fun x4_12 h => ?_)
          refine r_istore (lv' := [(4, vI x4_12), (6, vI x6_7), (0, vR Y.1 a0), (1, vR Y.1 a1), (2, vI x2), (3, vI x3), (5, vI x5)]) hC dX5_takesSheet_84 (by decide) rfl ?_
          refine r_aload_n hC 2 dX5_takesSheet_86 rfl rfl ?_
          have q_13 : 0 < a0 + 1 ∧ M0 0 (a0 + 1) = kA 0 12 := lay_f0 (a := a0) hL qa0 fm_5_0
          refine r_getR0 (a' := a0 + 1) hC fg_X5_9 rfl hF fm_5_0 qa0.1 qa0.2 rfl dX5_takesSheet_87 ?_
          refine r_iload hC 6 dX5_takesSheet_90 rfl ?_
          refine r_iload hC 1 dX5_takesSheet_92 rfl ?_
          obtain ⟨i_14, h⟩ := h
          refine r_iast hC i_14 q_13.1 q_13.2 (by decide) dX5_takesSheet_94 ?_
          refine r_nameM h (fun M_15 h => ?_)
          refine let_elim h (fun x5_16 e_17 h => ?_)
          refine r_iinc (lv' := [(5, vI x5_16), (4, vI x4_12), (6, vI x6_7), (0, vR Y.1 a0), (1, vR Y.1 a1), (2, vI x2), (3, vI x3)]) hC 6 dX5_takesSheet_95 rfl (by decide) e_17 rfl ?_
          refine r_goto hC 35 dX5_takesSheet_98 (by decide) ?_
          refine r_sub [3, 4, 5, 6, 1, 0] rfl ?_
          exact ih _ _ _ h
        · replace h := h.2 cq
          refine r_iconst hC dX5_takesSheet_75 ?_
          exact r_zret hC (Or.inl rfl) (Nat.zero_le _) (Nat.zero_le _) dX5_takesSheet_76 ⟨_, rfl, h⟩
set_option maxHeartbeats 4000000 in
set_option maxRecDepth 100000 in
theorem mX5_takesSheet (Y : Yx) (hF : Y.2.2.2.2 = true) (l : Launch) (a0 : Nat) (a1 : Nat) (x2 : Int) (x3 : Int) (M0 : Mem) (Q : Int → Mem → Prop) (qa0 : 0 < a0 ∧ M0 0 a0 = kO 5) (qa1 : 0 < a1 ∧ M0 0 a1 = kO 8) (h : wX5_takesSheet a0 a1 x2 x3 M0 Q) : CT Y l yX5_takesSheet cX5_takesSheet 7 (some .boolean) rmX5_takesSheet [vR Y.1 a0, vR Y.1 a1, vI x2, vI x3] M0 (QI Q) := by
  unfold wX5_takesSheet at h
  refine ct_intro (by decide) (Nat.le_of_ble_eq_true rfl) ?_
  intro X hXl hC hL0
  have hL := hL0 hF
  change OKX X Y RX5 cX5_takesSheet 7 (some .boolean) rmX5_takesSheet at hC
  change WW X Y 7 rmX5_takesSheet (QI Q) M0 0 0 0 [(0, vR Y.1 a0), (1, vR Y.1 a1), (2, vI x2), (3, vI x3)] [] M0
  refine r_aload_n hC 1 dX5_takesSheet_0 rfl rfl ?_
  refine r_getI hC fg_X5_28 rfl qa1.1 qa1.2 dX5_takesSheet_1 ?_
  refine r_iconst hC dX5_takesSheet_4 ?_
  refine r_bipush hC (by decide +kernel) dX5_takesSheet_5 ?_
  refine r_callN (As := [vI (M0 a1 2), vI 1, vI 12]) (st := []) hC cw_X5_31 rfl rfl (Nat.le_of_ble_eq_true rfl) ⟨Nat.le_of_ble_eq_true rfl, Nat.le_of_ble_eq_true rfl⟩ ⟨Nat.le_of_ble_eq_true rfl, Nat.le_of_ble_eq_true rfl⟩ dX5_takesSheet_7 (fun hk => mX11_within Y hF _ _ _ _ _ _  h) (fun v M_1 h => ?_)
  obtain ⟨r_2, rfl, h⟩ := h
  refine r_if_eq hC 27 rfl dX5_takesSheet_10 (by decide) (fun cq => ?_) (fun cq => ?_)
  · replace h := h.1 cq
    refine r_iconst hC dX5_takesSheet_27 ?_
    exact r_zret hC (Or.inl rfl) (Nat.zero_le _) (Nat.zero_le _) dX5_takesSheet_28 ⟨_, rfl, h⟩
  · replace h := h.2 cq
    refine r_iload_n hC 2 dX5_takesSheet_13 rfl rfl ?_
    refine r_iconst hC dX5_takesSheet_14 ?_
    refine r_aload_n hC 1 dX5_takesSheet_15 rfl rfl ?_
    refine r_getI hC fg_X5_28 rfl qa1.1 qa1.2 dX5_takesSheet_16 ?_
    refine r_iconst hC dX5_takesSheet_19 ?_
    refine r_isub hC dX5_takesSheet_20 ?_
    refine r_callN (As := [vI x2, vI 0, vI ((M_1 a1 2) - 1)]) (st := []) hC cw_X5_31 rfl rfl (Nat.le_of_ble_eq_true rfl) ⟨Nat.le_of_ble_eq_true rfl, Nat.le_of_ble_eq_true rfl⟩ ⟨Nat.le_of_ble_eq_true rfl, Nat.le_of_ble_eq_true rfl⟩ dX5_takesSheet_21 (fun hk => mX11_within Y hF _ _ _ _ _ _  h) (fun v M_3 h => ?_)
    obtain ⟨r_4, rfl, h⟩ := h
    refine r_if_ne hC 29 rfl dX5_takesSheet_24 (by decide) (fun cq => ?_) (fun cq => ?_)
    · replace h := h.2 cq
      refine r_iconst hC dX5_takesSheet_29 ?_
      refine r_istore (lv' := [(4, vI 0), (0, vR Y.1 a0), (1, vR Y.1 a1), (2, vI x2), (3, vI x3)]) hC dX5_takesSheet_30 (by decide) rfl ?_
      refine r_iconst hC dX5_takesSheet_32 ?_
      refine r_istore (lv' := [(5, vI 0), (4, vI 0), (0, vR Y.1 a0), (1, vR Y.1 a1), (2, vI x2), (3, vI x3)]) hC dX5_takesSheet_33 (by decide) rfl ?_
      refine r_sub [2, 3, 4, 5, 1, 0] rfl ?_
      obtain ⟨N_21, h⟩ := h
      refine tX5_takesSheet_L35 hC hF hL Q _ _ _ _ _ qa0 qa1 ?_ N_21 _ _ _ h
      · intro M_18 h
        refine r_aload_n hC 0 dX5_takesSheet_101 rfl rfl ?_
        refine r_aload_n hC 1 dX5_takesSheet_102 rfl rfl ?_
        refine r_getI hC fg_X5_28 rfl qa1.1 qa1.2 dX5_takesSheet_103 ?_
        refine r_putI hC fp_X5_15 rfl qa0.1 qa0.2 dX5_takesSheet_106 ?_
        refine r_nameM h (fun M_19 h => ?_)
        refine r_aload_n hC 0 dX5_takesSheet_109 rfl rfl ?_
        refine r_iload_n hC 2 dX5_takesSheet_110 rfl rfl ?_
        refine r_putI hC fp_X5_19 rfl qa0.1 qa0.2 dX5_takesSheet_111 ?_
        refine r_nameM h (fun M_20 h => ?_)
        refine r_iconst hC dX5_takesSheet_114 ?_
        exact r_zret hC (Or.inr rfl) (Nat.zero_le _) (Nat.zero_le _) dX5_takesSheet_115 ⟨_, rfl, h⟩
    · replace h := h.1 cq
      refine r_iconst hC dX5_takesSheet_27 ?_
      exact r_zret hC (Or.inl rfl) (Nat.zero_le _) (Nat.zero_le _) dX5_takesSheet_28 ⟨_, rfl, h⟩
theorem dX5_swap_0 : dec cX5_swap 0 1 1 (.iload_n 1) := ⟨by decide +kernel, rfl⟩
theorem dX5_swap_1 : dec cX5_swap 1 1 2 (.iconst 0) := ⟨by decide +kernel, rfl⟩
theorem dX5_swap_2 : dec cX5_swap 2 2 4 (.bipush 11) := ⟨by decide +kernel, rfl⟩
theorem dX5_swap_4 : dec cX5_swap 4 3 7 (.invokestatic 31) := ⟨by decide +kernel, rfl⟩
theorem dX5_swap_7 : dec cX5_swap 7 3 10 (.ifCond .eq 13) := ⟨by decide +kernel, rfl⟩
theorem dX5_swap_10 : dec cX5_swap 10 1 11 (.iload_n 2) := ⟨by decide +kernel, rfl⟩
theorem dX5_swap_11 : dec cX5_swap 11 1 12 (.iconst 0) := ⟨by decide +kernel, rfl⟩
theorem dX5_swap_12 : dec cX5_swap 12 2 14 (.bipush 11) := ⟨by decide +kernel, rfl⟩
theorem dX5_swap_14 : dec cX5_swap 14 3 17 (.invokestatic 31) := ⟨by decide +kernel, rfl⟩
theorem dX5_swap_17 : dec cX5_swap 17 3 20 (.ifCond .ne 4) := ⟨by decide +kernel, rfl⟩
theorem dX5_swap_20 : dec cX5_swap 20 1 21 (.return_) := ⟨by decide +kernel, rfl⟩
theorem dX5_swap_21 : dec cX5_swap 21 1 22 (.aload_n 0) := ⟨by decide +kernel, rfl⟩
theorem dX5_swap_22 : dec cX5_swap 22 3 25 (.getfield 9) := ⟨by decide +kernel, rfl⟩
theorem dX5_swap_25 : dec cX5_swap 25 1 26 (.iload_n 1) := ⟨by decide +kernel, rfl⟩
theorem dX5_swap_26 : dec cX5_swap 26 1 27 (.iaload) := ⟨by decide +kernel, rfl⟩
theorem dX5_swap_27 : dec cX5_swap 27 1 28 (.istore_n 3) := ⟨by decide +kernel, rfl⟩
theorem dX5_swap_28 : dec cX5_swap 28 1 29 (.aload_n 0) := ⟨by decide +kernel, rfl⟩
theorem dX5_swap_29 : dec cX5_swap 29 3 32 (.getfield 9) := ⟨by decide +kernel, rfl⟩
theorem dX5_swap_32 : dec cX5_swap 32 1 33 (.iload_n 1) := ⟨by decide +kernel, rfl⟩
theorem dX5_swap_33 : dec cX5_swap 33 1 34 (.aload_n 0) := ⟨by decide +kernel, rfl⟩
theorem dX5_swap_34 : dec cX5_swap 34 3 37 (.getfield 9) := ⟨by decide +kernel, rfl⟩
theorem dX5_swap_37 : dec cX5_swap 37 1 38 (.iload_n 2) := ⟨by decide +kernel, rfl⟩
theorem dX5_swap_38 : dec cX5_swap 38 1 39 (.iaload) := ⟨by decide +kernel, rfl⟩
theorem dX5_swap_39 : dec cX5_swap 39 1 40 (.iastore) := ⟨by decide +kernel, rfl⟩
theorem dX5_swap_40 : dec cX5_swap 40 1 41 (.aload_n 0) := ⟨by decide +kernel, rfl⟩
theorem dX5_swap_41 : dec cX5_swap 41 3 44 (.getfield 9) := ⟨by decide +kernel, rfl⟩
theorem dX5_swap_44 : dec cX5_swap 44 1 45 (.iload_n 2) := ⟨by decide +kernel, rfl⟩
theorem dX5_swap_45 : dec cX5_swap 45 1 46 (.iload_n 3) := ⟨by decide +kernel, rfl⟩
theorem dX5_swap_46 : dec cX5_swap 46 1 47 (.iastore) := ⟨by decide +kernel, rfl⟩
theorem dX5_swap_47 : dec cX5_swap 47 1 48 (.return_) := ⟨by decide +kernel, rfl⟩
set_option maxHeartbeats 4000000 in
set_option maxRecDepth 100000 in
theorem mX5_swap (Y : Yx) (hF : Y.2.2.2.2 = true) (l : Launch) (a0 : Nat) (x1 : Int) (x2 : Int) (M0 : Mem) (Q : Mem → Prop) (qa0 : 0 < a0 ∧ M0 0 a0 = kO 5) (h : wX5_swap a0 x1 x2 M0 Q) : CT Y l yX5_swap cX5_swap 4 none rmX5_swap [vR Y.1 a0, vI x1, vI x2] M0 (QV Q) := by
  unfold wX5_swap at h
  refine ct_intro (by decide) (Nat.le_of_ble_eq_true rfl) ?_
  intro X hXl hC hL0
  have hL := hL0 hF
  change OKX X Y RX5 cX5_swap 4 none rmX5_swap at hC
  change WW X Y 4 rmX5_swap (QV Q) M0 0 0 0 [(0, vR Y.1 a0), (1, vI x1), (2, vI x2)] [] M0
  refine r_iload_n hC 1 dX5_swap_0 rfl rfl ?_
  refine r_iconst hC dX5_swap_1 ?_
  refine r_bipush hC (by decide +kernel) dX5_swap_2 ?_
  refine r_callN (As := [vI x1, vI 0, vI 11]) (st := []) hC cw_X5_31 rfl rfl (Nat.le_of_ble_eq_true rfl) ⟨Nat.le_of_ble_eq_true rfl, Nat.le_of_ble_eq_true rfl⟩ ⟨Nat.le_of_ble_eq_true rfl, Nat.le_of_ble_eq_true rfl⟩ dX5_swap_4 (fun hk => mX11_within Y hF _ _ _ _ _ _  h) (fun v M_1 h => ?_)
  obtain ⟨r_2, rfl, h⟩ := h
  refine r_if_eq hC 20 rfl dX5_swap_7 (by decide) (fun cq => ?_) (fun cq => ?_)
  · replace h := h.1 cq
    exact r_vret hC (Nat.zero_le _) (Nat.zero_le _) dX5_swap_20 ⟨rfl, h⟩
  · replace h := h.2 cq
    refine r_iload_n hC 2 dX5_swap_10 rfl rfl ?_
    refine r_iconst hC dX5_swap_11 ?_
    refine r_bipush hC (by decide +kernel) dX5_swap_12 ?_
    refine r_callN (As := [vI x2, vI 0, vI 11]) (st := []) hC cw_X5_31 rfl rfl (Nat.le_of_ble_eq_true rfl) ⟨Nat.le_of_ble_eq_true rfl, Nat.le_of_ble_eq_true rfl⟩ ⟨Nat.le_of_ble_eq_true rfl, Nat.le_of_ble_eq_true rfl⟩ dX5_swap_14 (fun hk => mX11_within Y hF _ _ _ _ _ _  h) (fun v M_3 h => ?_)
    obtain ⟨r_4, rfl, h⟩ := h
    refine r_if_ne hC 21 rfl dX5_swap_17 (by decide) (fun cq => ?_) (fun cq => ?_)
    · replace h := h.2 cq
      refine r_aload_n hC 0 dX5_swap_21 rfl rfl ?_
      have q_5 : 0 < a0 + 1 ∧ M0 0 (a0 + 1) = kA 0 12 := lay_f0 (a := a0) hL qa0 fm_5_0
      refine r_getR0 (a' := a0 + 1) hC fg_X5_9 rfl hF fm_5_0 qa0.1 qa0.2 rfl dX5_swap_22 ?_
      refine r_iload_n hC 1 dX5_swap_25 rfl rfl ?_
      obtain ⟨i_6, h⟩ := h
      refine r_iald hC i_6 q_5.1 q_5.2 (by decide) dX5_swap_26 ?_
      refine r_nameI h (fun x3_7 h => ?_)
      refine r_istore_n (lv' := [(3, vI x3_7), (0, vR Y.1 a0), (1, vI x1), (2, vI x2)]) hC dX5_swap_27 rfl (by decide) rfl ?_
      refine r_aload_n hC 1 dX5_swap_28 rfl rfl ?_
      have q_8 : 0 < a0 + 1 ∧ M0 0 (a0 + 1) = kA 0 12 := lay_f0 (a := a0) hL qa0 fm_5_0
      refine r_getR0 (a' := a0 + 1) hC fg_X5_9 rfl hF fm_5_0 qa0.1 qa0.2 rfl dX5_swap_29 ?_
      refine r_iload_n hC 2 dX5_swap_32 rfl rfl ?_
      refine r_aload_n hC 1 dX5_swap_33 rfl rfl ?_
      have q_9 : 0 < a0 + 1 ∧ M0 0 (a0 + 1) = kA 0 12 := lay_f0 (a := a0) hL qa0 fm_5_0
      refine r_getR0 (a' := a0 + 1) hC fg_X5_9 rfl hF fm_5_0 qa0.1 qa0.2 rfl dX5_swap_34 ?_
      refine r_iload_n hC 3 dX5_swap_37 rfl rfl ?_
      obtain ⟨i_10, h⟩ := h
      refine r_iald hC i_10 q_9.1 q_9.2 (by decide) dX5_swap_38 ?_
      obtain ⟨i_11, h⟩ := h
      refine r_iast hC i_11 q_8.1 q_8.2 (by decide) dX5_swap_39 ?_
      refine r_nameM h (fun M_12 h => ?_)
      refine r_aload_n hC 1 dX5_swap_40 rfl rfl ?_
      have q_13 : 0 < a0 + 1 ∧ M0 0 (a0 + 1) = kA 0 12 := lay_f0 (a := a0) hL qa0 fm_5_0
      refine r_getR0 (a' := a0 + 1) hC fg_X5_9 rfl hF fm_5_0 qa0.1 qa0.2 rfl dX5_swap_41 ?_
      refine r_iload_n hC 3 dX5_swap_44 rfl rfl ?_
      refine r_iload_n hC 0 dX5_swap_45 rfl rfl ?_
      obtain ⟨i_14, h⟩ := h
      refine r_iast hC i_14 q_13.1 q_13.2 (by decide) dX5_swap_46 ?_
      refine r_nameM h (fun M_15 h => ?_)
      exact r_vret hC (Nat.zero_le _) (Nat.zero_le _) dX5_swap_47 ⟨rfl, h⟩
    · replace h := h.1 cq
      exact r_vret hC (Nat.zero_le _) (Nat.zero_le _) dX5_swap_20 ⟨rfl, h⟩
theorem dX6_init_0 : dec cX6_init 0 1 1 (.aload_n 0) := ⟨by decide +kernel, rfl⟩
theorem dX6_init_1 : dec cX6_init 1 3 4 (.invokespecial 3) := ⟨by decide +kernel, rfl⟩
theorem dX6_init_4 : dec cX6_init 4 1 5 (.aload_n 0) := ⟨by decide +kernel, rfl⟩
theorem dX6_init_5 : dec cX6_init 5 2 7 (.bipush 12) := ⟨by decide +kernel, rfl⟩
theorem dX6_init_7 : dec cX6_init 7 2 9 (.newarray .int) := ⟨by decide +kernel, rfl⟩
theorem dX6_init_9 : dec cX6_init 9 3 12 (.putfield 9) := ⟨by decide +kernel, rfl⟩
theorem dX6_init_12 : dec cX6_init 12 1 13 (.aload_n 0) := ⟨by decide +kernel, rfl⟩
theorem dX6_init_13 : dec cX6_init 13 3 16 (.new 15) := ⟨by decide +kernel, rfl⟩
theorem dX6_init_16 : dec cX6_init 16 1 17 (.dup) := ⟨by decide +kernel, rfl⟩
theorem dX6_init_17 : dec cX6_init 17 3 20 (.invokespecial 17) := ⟨by decide +kernel, rfl⟩
theorem dX6_init_20 : dec cX6_init 20 3 23 (.putfield 18) := ⟨by decide +kernel, rfl⟩
theorem dX6_init_23 : dec cX6_init 23 1 24 (.aload_n 0) := ⟨by decide +kernel, rfl⟩
theorem dX6_init_24 : dec cX6_init 24 2 26 (.bipush 12) := ⟨by decide +kernel, rfl⟩
theorem dX6_init_26 : dec cX6_init 26 2 28 (.newarray .int) := ⟨by decide +kernel, rfl⟩
theorem dX6_init_28 : dec cX6_init 28 3 31 (.putfield 22) := ⟨by decide +kernel, rfl⟩
theorem dX6_init_31 : dec cX6_init 31 1 32 (.aload_n 0) := ⟨by decide +kernel, rfl⟩
theorem dX6_init_32 : dec cX6_init 32 1 33 (.aconst_null) := ⟨by decide +kernel, rfl⟩
theorem dX6_init_33 : dec cX6_init 33 3 36 (.putfield 25) := ⟨by decide +kernel, rfl⟩
theorem dX6_init_36 : dec cX6_init 36 1 37 (.aload_n 0) := ⟨by decide +kernel, rfl⟩
theorem dX6_init_37 : dec cX6_init 37 1 38 (.aload_n 1) := ⟨by decide +kernel, rfl⟩
theorem dX6_init_38 : dec cX6_init 38 3 41 (.putfield 29) := ⟨by decide +kernel, rfl⟩
theorem dX6_init_41 : dec cX6_init 41 1 42 (.aload_n 0) := ⟨by decide +kernel, rfl⟩
theorem dX6_init_42 : dec cX6_init 42 1 43 (.aload_n 2) := ⟨by decide +kernel, rfl⟩
theorem dX6_init_43 : dec cX6_init 43 3 46 (.putfield 33) := ⟨by decide +kernel, rfl⟩
theorem dX6_init_46 : dec cX6_init 46 1 47 (.return_) := ⟨by decide +kernel, rfl⟩
set_option maxHeartbeats 4000000 in
set_option maxRecDepth 100000 in
theorem mX6_init (Y : Yx) (hF0 : Y.2.2.2.2 = false) (l : Launch) (a0 : Nat) (a1 : Nat) (a2 : Nat) (M0 : Mem) (Q : Mem → Prop) (qa0 : 0 < a0 ∧ M0 0 a0 = kO 6) (qa1 : 0 < a1 ∧ M0 0 a1 = kO 0) (qa2 : 0 < a2 ∧ M0 0 a2 = kO 10) (h : wX6_init a0 a1 a2 M0 Q) : CT Y l yX6_init cX6_init 3 none rmX6_init [vR Y.1 a0, vR Y.1 a1, vR Y.1 a2] M0 (QV Q) := by
  unfold wX6_init at h
  refine ct_introI (by decide) (Nat.le_of_ble_eq_true rfl) ?_
  intro X hXl hC hN
  change OKX X Y RX6 cX6_init 3 none rmX6_init at hC
  change nameX X = "<init>" at hN
  change WW X Y 3 rmX6_init (QV Q) M0 0 0 0 [(0, vR Y.1 a0), (1, vR Y.1 a1), (2, vR Y.1 a2)] [] M0
  refine r_aload_n hC 0 dX6_init_0 rfl rfl ?_
  refine r_objInit hC ob_X6_3 (Nat.le_of_ble_eq_true rfl) (Nat.le_of_ble_eq_true rfl) (Nat.le_of_ble_eq_true rfl) dX6_init_1 ?_
  refine r_aload_n hC 0 dX6_init_4 rfl rfl ?_
  refine r_bipush hC (by decide +kernel) dX6_init_5 ?_
  refine r_newarr (t := 0) (len := 12) hC (by decide) rfl ac_0 rfl (by decide) (by decide +kernel) ⟨Nat.le_of_ble_eq_true rfl, Nat.le_of_ble_eq_true rfl⟩ dX6_init_7 ?_
  refine r_widen (n' := 1) (k' := 14 * 1) (by omega) (by omega) ?_
  refine r_nameM h (fun M_2 h => ?_)
  obtain ⟨q_1, h⟩ := h
  refine r_base (fun hk hL0 => ?_)
  have qa0 := kqO hk qa0
  have qa1 := kqO hk qa1
  have qa2 := kqO hk qa2
  refine r_putF hC hN hF0 q_1.1 ff_X6_9 rfl (by first | exact Or.inl ⟨_, rfl⟩ | exact Or.inr ⟨_, rfl⟩) qa0.1 qa0.2 dX6_init_9 ?_
  refine r_nameM h (fun M_3 h => ?_)
  refine r_aload_n hC 0 dX6_init_12 rfl rfl ?_
  refine r_newobj hC hF0 rfl nw_X6_15 ⟨Nat.le_of_ble_eq_true rfl, Nat.le_of_ble_eq_true rfl⟩ dX6_init_13 ?_
  refine r_widen (n' := 2) (k' := 14 * 2) (by omega) (by omega) ?_
  refine r_nameM h (fun M_5 h => ?_)
  obtain ⟨q_4, h⟩ := h
  refine r_base (fun hk hL0 => ?_)
  have qa0 := kqO hk qa0
  have qa1 := kqO hk qa1
  have qa2 := kqO hk qa2
  refine r_dup hC rfl dX6_init_16 ?_
  refine r_callI (As := []) (st := [vR Y.1 ((nx M_3)), vR Y.1 a0]) hC ci_X6_17 rfl rfl (Nat.le_of_ble_eq_true rfl) ⟨Nat.le_of_ble_eq_true rfl, Nat.le_of_ble_eq_true rfl⟩ ⟨Nat.le_of_ble_eq_true rfl, Nat.le_of_ble_eq_true rfl⟩ dX6_init_17 (fun hk => mX5_init Y hF0 _ _ _ _ (kqO hk q_4) h) (fun v M_6 h => ?_)
  obtain ⟨rfl, h⟩ := h
  refine r_widen (n' := 3) (k' := 14 * 3) (by simp only [rmX5_init]; omega) (by simp only [rmX5_init]; omega) ?_
  refine r_putF hC hN hF0 q_4.1 ff_X6_18 rfl (by first | exact Or.inl ⟨_, rfl⟩ | exact Or.inr ⟨_, rfl⟩) qa0.1 qa0.2 dX6_init_20 ?_
  refine r_nameM h (fun M_7 h => ?_)
  refine r_aload_n hC 0 dX6_init_23 rfl rfl ?_
  refine r_bipush hC (by decide +kernel) dX6_init_24 ?_
  refine r_newarr (t := 0) (len := 12) hC (by decide) rfl ac_0 rfl (by decide) (by decide +kernel) ⟨Nat.le_of_ble_eq_true rfl, Nat.le_of_ble_eq_true rfl⟩ dX6_init_26 ?_
  refine r_widen (n' := 4) (k' := 14 * 4) (by omega) (by omega) ?_
  refine r_nameM h (fun M_9 h => ?_)
  obtain ⟨q_8, h⟩ := h
  refine r_base (fun hk hL0 => ?_)
  have qa0 := kqO hk qa0
  have qa1 := kqO hk qa1
  have qa2 := kqO hk qa2
  refine r_putF hC hN hF0 q_8.1 ff_X6_22 rfl (by first | exact Or.inl ⟨_, rfl⟩ | exact Or.inr ⟨_, rfl⟩) qa0.1 qa0.2 dX6_init_28 ?_
  refine r_nameM h (fun M_10 h => ?_)
  refine r_aload_n hC 0 dX6_init_31 rfl rfl ?_
  refine r_null hC dX6_init_32 ?_
  refine r_put0 hC fp_X6_25 rfl (by first | exact Or.inl ⟨_, rfl⟩ | exact Or.inr ⟨_, rfl⟩) qa0.1 qa0.2 dX6_init_33 ?_
  refine r_nameM h (fun M_11 h => ?_)
  refine r_aload_n hC 0 dX6_init_36 rfl rfl ?_
  refine r_aload_n hC 1 dX6_init_37 rfl rfl ?_
  refine r_putF hC hN hF0 qa1.1 ff_X6_29 rfl (by first | exact Or.inl ⟨_, rfl⟩ | exact Or.inr ⟨_, rfl⟩) qa0.1 qa0.2 dX6_init_38 ?_
  refine r_nameM h (fun M_12 h => ?_)
  refine r_aload_n hC 0 dX6_init_41 rfl rfl ?_
  refine r_aload_n hC 2 dX6_init_42 rfl rfl ?_
  refine r_putF hC hN hF0 qa2.1 ff_X6_33 rfl (by first | exact Or.inl ⟨_, rfl⟩ | exact Or.inr ⟨_, rfl⟩) qa0.1 qa0.2 dX6_init_43 ?_
  refine r_nameM h (fun M_13 h => ?_)
  exact r_vret hC (by first | exact Nat.le_of_ble_eq_true rfl | (simp only [rmX6_init]; omega)) (by first | exact Nat.le_of_ble_eq_true rfl | (simp only [rmX6_init]; omega)) dX6_init_46 ⟨rfl, h⟩
theorem dX6_gather_0 : dec cX6_gather 0 1 1 (.aload_n 0) := ⟨by decide +kernel, rfl⟩
theorem dX6_gather_1 : dec cX6_gather 1 1 2 (.iload_n 1) := ⟨by decide +kernel, rfl⟩
theorem dX6_gather_2 : dec cX6_gather 2 3 5 (.putfield 37) := ⟨by decide +kernel, rfl⟩
theorem dX6_gather_5 : dec cX6_gather 5 1 6 (.aload_n 0) := ⟨by decide +kernel, rfl⟩
theorem dX6_gather_6 : dec cX6_gather 6 1 7 (.iconst 0) := ⟨by decide +kernel, rfl⟩
theorem dX6_gather_7 : dec cX6_gather 7 3 10 (.putfield 41) := ⟨by decide +kernel, rfl⟩
theorem dX6_gather_10 : dec cX6_gather 10 1 11 (.aload_n 0) := ⟨by decide +kernel, rfl⟩
theorem dX6_gather_11 : dec cX6_gather 11 1 12 (.iconst 0) := ⟨by decide +kernel, rfl⟩
theorem dX6_gather_12 : dec cX6_gather 12 3 15 (.putfield 44) := ⟨by decide +kernel, rfl⟩
theorem dX6_gather_15 : dec cX6_gather 15 1 16 (.aload_n 0) := ⟨by decide +kernel, rfl⟩
theorem dX6_gather_16 : dec cX6_gather 16 1 17 (.iconst 0) := ⟨by decide +kernel, rfl⟩
theorem dX6_gather_17 : dec cX6_gather 17 3 20 (.putfield 47) := ⟨by decide +kernel, rfl⟩
theorem dX6_gather_20 : dec cX6_gather 20 1 21 (.aload_n 0) := ⟨by decide +kernel, rfl⟩
theorem dX6_gather_21 : dec cX6_gather 21 1 22 (.iconst 0) := ⟨by decide +kernel, rfl⟩
theorem dX6_gather_22 : dec cX6_gather 22 3 25 (.putfield 50) := ⟨by decide +kernel, rfl⟩
theorem dX6_gather_25 : dec cX6_gather 25 1 26 (.iconst 0) := ⟨by decide +kernel, rfl⟩
theorem dX6_gather_26 : dec cX6_gather 26 1 27 (.istore_n 2) := ⟨by decide +kernel, rfl⟩
theorem dX6_gather_27 : dec cX6_gather 27 1 28 (.iload_n 2) := ⟨by decide +kernel, rfl⟩
theorem dX6_gather_28 : dec cX6_gather 28 1 29 (.aload_n 0) := ⟨by decide +kernel, rfl⟩
theorem dX6_gather_29 : dec cX6_gather 29 3 32 (.getfield 29) := ⟨by decide +kernel, rfl⟩
theorem dX6_gather_32 : dec cX6_gather 32 3 35 (.getfield 53) := ⟨by decide +kernel, rfl⟩
theorem dX6_gather_35 : dec cX6_gather 35 3 38 (.if_icmp .ge 40) := ⟨by decide +kernel, rfl⟩
theorem dX6_gather_38 : dec cX6_gather 38 1 39 (.aload_n 0) := ⟨by decide +kernel, rfl⟩
theorem dX6_gather_39 : dec cX6_gather 39 3 42 (.getfield 37) := ⟨by decide +kernel, rfl⟩
theorem dX6_gather_42 : dec cX6_gather 42 1 43 (.iload_n 2) := ⟨by decide +kernel, rfl⟩
theorem dX6_gather_43 : dec cX6_gather 43 3 46 (.invokestatic 58) := ⟨by decide +kernel, rfl⟩
theorem dX6_gather_46 : dec cX6_gather 46 3 49 (.ifCond .eq 23) := ⟨by decide +kernel, rfl⟩
theorem dX6_gather_49 : dec cX6_gather 49 1 50 (.aload_n 0) := ⟨by decide +kernel, rfl⟩
theorem dX6_gather_50 : dec cX6_gather 50 3 53 (.getfield 9) := ⟨by decide +kernel, rfl⟩
theorem dX6_gather_53 : dec cX6_gather 53 1 54 (.aload_n 0) := ⟨by decide +kernel, rfl⟩
theorem dX6_gather_54 : dec cX6_gather 54 3 57 (.getfield 41) := ⟨by decide +kernel, rfl⟩
theorem dX6_gather_57 : dec cX6_gather 57 1 58 (.iload_n 2) := ⟨by decide +kernel, rfl⟩
theorem dX6_gather_58 : dec cX6_gather 58 1 59 (.iastore) := ⟨by decide +kernel, rfl⟩
theorem dX6_gather_59 : dec cX6_gather 59 1 60 (.aload_n 0) := ⟨by decide +kernel, rfl⟩
theorem dX6_gather_60 : dec cX6_gather 60 1 61 (.dup) := ⟨by decide +kernel, rfl⟩
theorem dX6_gather_61 : dec cX6_gather 61 3 64 (.getfield 41) := ⟨by decide +kernel, rfl⟩
theorem dX6_gather_64 : dec cX6_gather 64 1 65 (.iconst 1) := ⟨by decide +kernel, rfl⟩
theorem dX6_gather_65 : dec cX6_gather 65 1 66 (.iadd) := ⟨by decide +kernel, rfl⟩
theorem dX6_gather_66 : dec cX6_gather 66 3 69 (.putfield 41) := ⟨by decide +kernel, rfl⟩
theorem dX6_gather_69 : dec cX6_gather 69 3 72 (.iinc 2 1) := ⟨by decide +kernel, rfl⟩
theorem dX6_gather_72 : dec cX6_gather 72 3 75 (.goto (-45)) := ⟨by decide +kernel, rfl⟩
theorem dX6_gather_75 : dec cX6_gather 75 1 76 (.return_) := ⟨by decide +kernel, rfl⟩
set_option maxHeartbeats 4000000 in
set_option maxRecDepth 100000 in
theorem tX6_gather_L27 {X : Cx} {Y : Yx} {M0 : Mem} (hC : OKX X Y RX6 cX6_gather 3 none rmX6_gather) (hF : Y.2.2.2.2 = true) (hL : Lay M0) (Q : Mem → Prop)  (a0 : Nat) (qa0 : 0 < a0 ∧ M0 0 a0 = kO 6)  : ∀ (N : Nat) (x2 : Int) (M : Mem) (_ : wX6_gather_L27 Q  a0 N x2 M), WW X Y 3 rmX6_gather (QV Q) M0 0 0 27 [(0, vR Y.1 a0), (2, vI x2)] [] M := by
  intro N
  induction N with
  | zero =>
    intro x2 M h
    exact h.elim
  | succ N ih =>
    intro x2 M h
    unfold wX6_gather_L27 at h
    refine r_iload_n hC 1 dX6_gather_27 rfl rfl ?_
    refine r_aload_n hC 0 dX6_gather_28 rfl rfl ?_
    have q_6 : 0 < (a0 - 101) ∧ M0 0 ((a0 - 101)) = kO 0 := lay_fs (a := a0) hL qa0 fm_6_0
    refine r_getRs (a' := (a0 - 101)) hC fg_X6_29 rfl hF fm_6_0 qa0.1 qa0.2 rfl dX6_gather_29 ?_
    refine r_getI hC fg_X6_53 rfl q_6.1 q_6.2 dX6_gather_32 ?_
    refine r_icmp_ge hC 75 rfl rfl dX6_gather_35 (by decide) (fun cq => ?_) (fun cq => ?_)
    · replace h := h.1 cq
      exact r_vret hC (Nat.zero_le _) (Nat.zero_le _) dX6_gather_75 ⟨rfl, h⟩
    · replace h := h.2 cq
      refine r_aload_n hC 0 dX6_gather_38 rfl rfl ?_
      refine r_getI hC fg_X6_37 rfl qa0.1 qa0.2 dX6_gather_39 ?_
      refine r_iload_n hC 1 dX6_gather_42 rfl rfl ?_
      refine r_callN (As := [vI (M a0 4), vI x2]) (st := []) hC cw_X6_58 rfl rfl (Nat.le_of_ble_eq_true rfl) ⟨Nat.le_of_ble_eq_true rfl, Nat.le_of_ble_eq_true rfl⟩ ⟨Nat.le_of_ble_eq_true rfl, Nat.le_of_ble_eq_true rfl⟩ dX6_gather_43 (fun hk => mX11_isIn Y hF _ _ _ _ _  h) (fun v M_7 h => ?_)
      obtain ⟨r_8, rfl, h⟩ := h
      refine r_if_eq hC 69 rfl dX6_gather_46 (by decide) (fun cq => ?_) (fun cq => ?_)
      · replace h := h.1 cq
        refine let_elim h (fun x2_9 e_10 h => ?_)
        refine r_iinc (lv' := [(2, vI x2_9), (0, vR Y.1 a0)]) hC 1 dX6_gather_69 rfl (by decide) e_10 rfl ?_
        refine r_goto hC 27 dX6_gather_72 (by decide) ?_
        refine r_sub [1, 0] rfl ?_
        exact ih _ _ h
      · replace h := h.2 cq
        refine r_aload_n hC 0 dX6_gather_49 rfl rfl ?_
        have q_11 : 0 < a0 + 1 ∧ M0 0 (a0 + 1) = kA 0 12 := lay_f0 (a := a0) hL qa0 fm_6_2
        refine r_getR0 (a' := a0 + 1) hC fg_X6_9 rfl hF fm_6_2 qa0.1 qa0.2 rfl dX6_gather_50 ?_
        refine r_aload_n hC 0 dX6_gather_53 rfl rfl ?_
        refine r_getI hC fg_X6_41 rfl qa0.1 qa0.2 dX6_gather_54 ?_
        refine r_iload_n hC 1 dX6_gather_57 rfl rfl ?_
        obtain ⟨i_12, h⟩ := h
        refine r_iast hC i_12 q_11.1 q_11.2 (by decide) dX6_gather_58 ?_
        refine r_nameM h (fun M_13 h => ?_)
        refine r_aload_n hC 0 dX6_gather_59 rfl rfl ?_
        refine r_dup hC rfl dX6_gather_60 ?_
        refine r_getI hC fg_X6_41 rfl qa0.1 qa0.2 dX6_gather_61 ?_
        refine r_iconst hC dX6_gather_64 ?_
        refine r_iadd hC dX6_gather_65 ?_
        refine r_putI hC fp_X6_41 rfl qa0.1 qa0.2 dX6_gather_66 ?_
        refine r_nameM h (fun M_14 h => ?_)
        refine let_elim h (fun x2_15 e_16 h => ?_)
        refine r_iinc (lv' := [(2, vI x2_15), (0, vR Y.1 a0)]) hC 1 dX6_gather_69 rfl (by decide) e_16 rfl ?_
        refine r_goto hC 27 dX6_gather_72 (by decide) ?_
        refine r_sub [1, 0] rfl ?_
        exact ih _ _ h
set_option maxHeartbeats 4000000 in
set_option maxRecDepth 100000 in
theorem mX6_gather (Y : Yx) (hF : Y.2.2.2.2 = true) (l : Launch) (a0 : Nat) (x1 : Int) (M0 : Mem) (Q : Mem → Prop) (qa0 : 0 < a0 ∧ M0 0 a0 = kO 6) (h : wX6_gather a0 x1 M0 Q) : CT Y l yX6_gather cX6_gather 3 none rmX6_gather [vR Y.1 a0, vI x1] M0 (QV Q) := by
  unfold wX6_gather at h
  refine ct_intro (by decide) (Nat.le_of_ble_eq_true rfl) ?_
  intro X hXl hC hL0
  have hL := hL0 hF
  change OKX X Y RX6 cX6_gather 3 none rmX6_gather at hC
  change WW X Y 3 rmX6_gather (QV Q) M0 0 0 0 [(0, vR Y.1 a0), (1, vI x1)] [] M0
  refine r_aload_n hC 0 dX6_gather_0 rfl rfl ?_
  refine r_iload_n hC 1 dX6_gather_1 rfl rfl ?_
  refine r_putI hC fp_X6_37 rfl qa0.1 qa0.2 dX6_gather_2 ?_
  refine r_nameM h (fun M_1 h => ?_)
  refine r_aload_n hC 0 dX6_gather_5 rfl rfl ?_
  refine r_iconst hC dX6_gather_6 ?_
  refine r_putI hC fp_X6_41 rfl qa0.1 qa0.2 dX6_gather_7 ?_
  refine r_nameM h (fun M_2 h => ?_)
  refine r_aload_n hC 0 dX6_gather_10 rfl rfl ?_
  refine r_iconst hC dX6_gather_11 ?_
  refine r_putI hC fp_X6_44 rfl qa0.1 qa0.2 dX6_gather_12 ?_
  refine r_nameM h (fun M_3 h => ?_)
  refine r_aload_n hC 0 dX6_gather_15 rfl rfl ?_
  refine r_iconst hC dX6_gather_16 ?_
  refine r_putI hC fp_X6_47 rfl qa0.1 qa0.2 dX6_gather_17 ?_
  refine r_nameM h (fun M_4 h => ?_)
  refine r_aload_n hC 0 dX6_gather_20 rfl rfl ?_
  refine r_iconst hC dX6_gather_21 ?_
  refine r_putI hC fp_X6_50 rfl qa0.1 qa0.2 dX6_gather_22 ?_
  refine r_nameM h (fun M_5 h => ?_)
  refine r_iconst hC dX6_gather_25 ?_
  refine r_istore_n (lv' := [(2, vI 0), (0, vR Y.1 a0), (1, vI x1)]) hC dX6_gather_26 rfl (by decide) rfl ?_
  refine r_sub [1, 0] rfl ?_
  obtain ⟨N_17, h⟩ := h
  refine tX6_gather_L27 hC hF hL Q  _ qa0  N_17 _ _ h
theorem dX10_start_0 : dec cX10_start 0 1 1 (.aload_n 0) := ⟨by decide +kernel, rfl⟩
theorem dX10_start_1 : dec cX10_start 1 1 2 (.iconst 0) := ⟨by decide +kernel, rfl⟩
theorem dX10_start_2 : dec cX10_start 2 1 3 (.iload_n 1) := ⟨by decide +kernel, rfl⟩
theorem dX10_start_3 : dec cX10_start 3 2 5 (.bipush 12) := ⟨by decide +kernel, rfl⟩
theorem dX10_start_5 : dec cX10_start 5 3 8 (.invokestatic 49) := ⟨by decide +kernel, rfl⟩
theorem dX10_start_8 : dec cX10_start 8 3 11 (.invokestatic 55) := ⟨by decide +kernel, rfl⟩
theorem dX10_start_11 : dec cX10_start 11 3 14 (.putfield 58) := ⟨by decide +kernel, rfl⟩
theorem dX10_start_14 : dec cX10_start 14 1 15 (.aload_n 0) := ⟨by decide +kernel, rfl⟩
theorem dX10_start_15 : dec cX10_start 15 1 16 (.iload_n 2) := ⟨by decide +kernel, rfl⟩
theorem dX10_start_16 : dec cX10_start 16 3 19 (.putfield 62) := ⟨by decide +kernel, rfl⟩
theorem dX10_start_19 : dec cX10_start 19 1 20 (.aload_n 0) := ⟨by decide +kernel, rfl⟩
theorem dX10_start_20 : dec cX10_start 20 1 21 (.iload_n 3) := ⟨by decide +kernel, rfl⟩
theorem dX10_start_21 : dec cX10_start 21 3 24 (.putfield 65) := ⟨by decide +kernel, rfl⟩
theorem dX10_start_24 : dec cX10_start 24 1 25 (.return_) := ⟨by decide +kernel, rfl⟩
set_option maxHeartbeats 4000000 in
set_option maxRecDepth 100000 in
theorem mX10_start (Y : Yx) (hF : Y.2.2.2.2 = true) (l : Launch) (a0 : Nat) (x1 : Int) (x2 : Int) (x3 : Int) (M0 : Mem) (Q : Mem → Prop) (qa0 : 0 < a0 ∧ M0 0 a0 = kO 10) (h : wX10_start a0 x1 x2 x3 M0 Q) : CT Y l yX10_start cX10_start 4 none rmX10_start [vR Y.1 a0, vI x1, vI x2, vI x3] M0 (QV Q) := by
  unfold wX10_start at h
  refine ct_intro (by decide) (Nat.le_of_ble_eq_true rfl) ?_
  intro X hXl hC hL0
  have hL := hL0 hF
  change OKX X Y RX10 cX10_start 4 none rmX10_start at hC
  change WW X Y 4 rmX10_start (QV Q) M0 0 0 0 [(0, vR Y.1 a0), (1, vI x1), (2, vI x2), (3, vI x3)] [] M0
  refine r_aload_n hC 0 dX10_start_0 rfl rfl ?_
  refine r_iconst hC dX10_start_1 ?_
  refine r_iload_n hC 1 dX10_start_2 rfl rfl ?_
  refine r_bipush hC (by decide +kernel) dX10_start_3 ?_
  refine r_callS (As := [vI x1, vI 12]) (st := [vI 0, vR Y.1 a0]) hC cw_X10_49 rfl rfl (Nat.le_of_ble_eq_true rfl) ⟨Nat.le_of_ble_eq_true rfl, Nat.le_of_ble_eq_true rfl⟩ ⟨Nat.le_of_ble_eq_true rfl, Nat.le_of_ble_eq_true rfl⟩ dX10_start_5 (fun hk => mJ9_min_7cf53 Y hF _ _ _ _ _  h) (fun v M_1 h => ?_)
  obtain ⟨r_2, rfl, h⟩ := h
  refine r_callS (As := [vI 0, vI r_2]) (st := [vR Y.1 a0]) hC cw_X10_55 rfl rfl (Nat.le_of_ble_eq_true rfl) ⟨Nat.le_of_ble_eq_true rfl, Nat.le_of_ble_eq_true rfl⟩ ⟨Nat.le_of_ble_eq_true rfl, Nat.le_of_ble_eq_true rfl⟩ dX10_start_8 (fun hk => mJ9_max_7cf53 Y hF _ _ _ _ _  h) (fun v M_3 h => ?_)
  obtain ⟨r_4, rfl, h⟩ := h
  refine r_putI hC fp_X10_58 rfl qa0.1 qa0.2 dX10_start_11 ?_
  refine r_nameM h (fun M_5 h => ?_)
  refine r_aload_n hC 0 dX10_start_14 rfl rfl ?_
  refine r_iload_n hC 2 dX10_start_15 rfl rfl ?_
  refine r_putI hC fp_X10_62 rfl qa0.1 qa0.2 dX10_start_16 ?_
  refine r_nameM h (fun M_6 h => ?_)
  refine r_aload_n hC 0 dX10_start_19 rfl rfl ?_
  refine r_iload_n hC 3 dX10_start_20 rfl rfl ?_
  refine r_putI hC fp_X10_65 rfl qa0.1 qa0.2 dX10_start_21 ?_
  refine r_nameM h (fun M_7 h => ?_)
  exact r_vret hC (Nat.zero_le _) (Nat.zero_le _) dX10_start_24 ⟨rfl, h⟩
theorem dX10_totalBy_0 : dec cX10_totalBy 0 1 1 (.iload_n 1) := ⟨by decide +kernel, rfl⟩
theorem dX10_totalBy_1 : dec cX10_totalBy 1 1 2 (.iconst 0) := ⟨by decide +kernel, rfl⟩
theorem dX10_totalBy_2 : dec cX10_totalBy 2 1 3 (.aload_n 0) := ⟨by decide +kernel, rfl⟩
theorem dX10_totalBy_3 : dec cX10_totalBy 3 3 6 (.getfield 45) := ⟨by decide +kernel, rfl⟩
theorem dX10_totalBy_6 : dec cX10_totalBy 6 3 9 (.getfield 160) := ⟨by decide +kernel, rfl⟩
theorem dX10_totalBy_9 : dec cX10_totalBy 9 1 10 (.iconst 1) := ⟨by decide +kernel, rfl⟩
theorem dX10_totalBy_10 : dec cX10_totalBy 10 1 11 (.isub) := ⟨by decide +kernel, rfl⟩
theorem dX10_totalBy_11 : dec cX10_totalBy 11 3 14 (.invokestatic 91) := ⟨by decide +kernel, rfl⟩
theorem dX10_totalBy_14 : dec cX10_totalBy 14 3 17 (.ifCond .ne 5) := ⟨by decide +kernel, rfl⟩
theorem dX10_totalBy_17 : dec cX10_totalBy 17 1 18 (.iconst 0) := ⟨by decide +kernel, rfl⟩
theorem dX10_totalBy_18 : dec cX10_totalBy 18 1 19 (.ireturn) := ⟨by decide +kernel, rfl⟩
theorem dX10_totalBy_19 : dec cX10_totalBy 19 1 20 (.aload_n 0) := ⟨by decide +kernel, rfl⟩
theorem dX10_totalBy_20 : dec cX10_totalBy 20 3 23 (.getfield 45) := ⟨by decide +kernel, rfl⟩
theorem dX10_totalBy_23 : dec cX10_totalBy 23 3 26 (.getfield 163) := ⟨by decide +kernel, rfl⟩
theorem dX10_totalBy_26 : dec cX10_totalBy 26 1 27 (.iload_n 1) := ⟨by decide +kernel, rfl⟩
theorem dX10_totalBy_27 : dec cX10_totalBy 27 1 28 (.aaload) := ⟨by decide +kernel, rfl⟩
theorem dX10_totalBy_28 : dec cX10_totalBy 28 3 31 (.getfield 171) := ⟨by decide +kernel, rfl⟩
theorem dX10_totalBy_31 : dec cX10_totalBy 31 2 33 (.bipush 6) := ⟨by decide +kernel, rfl⟩
theorem dX10_totalBy_33 : dec cX10_totalBy 33 3 36 (.if_icmp .ne 7) := ⟨by decide +kernel, rfl⟩
theorem dX10_totalBy_36 : dec cX10_totalBy 36 1 37 (.iconst 1) := ⟨by decide +kernel, rfl⟩
theorem dX10_totalBy_37 : dec cX10_totalBy 37 3 40 (.goto 4) := ⟨by decide +kernel, rfl⟩
theorem dX10_totalBy_40 : dec cX10_totalBy 40 1 41 (.iconst 0) := ⟨by decide +kernel, rfl⟩
theorem dX10_totalBy_41 : dec cX10_totalBy 41 1 42 (.istore_n 2) := ⟨by decide +kernel, rfl⟩
theorem dX10_totalBy_42 : dec cX10_totalBy 42 1 43 (.iload_n 2) := ⟨by decide +kernel, rfl⟩
theorem dX10_totalBy_43 : dec cX10_totalBy 43 3 46 (.ifCond .eq 19) := ⟨by decide +kernel, rfl⟩
theorem dX10_totalBy_46 : dec cX10_totalBy 46 1 47 (.aload_n 0) := ⟨by decide +kernel, rfl⟩
theorem dX10_totalBy_47 : dec cX10_totalBy 47 3 50 (.getfield 27) := ⟨by decide +kernel, rfl⟩
theorem dX10_totalBy_50 : dec cX10_totalBy 50 1 51 (.aload_n 0) := ⟨by decide +kernel, rfl⟩
theorem dX10_totalBy_51 : dec cX10_totalBy 51 3 54 (.getfield 58) := ⟨by decide +kernel, rfl⟩
theorem dX10_totalBy_54 : dec cX10_totalBy 54 1 55 (.iaload) := ⟨by decide +kernel, rfl⟩
theorem dX10_totalBy_55 : dec cX10_totalBy 55 3 58 (.invokestatic 205) := ⟨by decide +kernel, rfl⟩
theorem dX10_totalBy_58 : dec cX10_totalBy 58 1 59 (.ineg) := ⟨by decide +kernel, rfl⟩
theorem dX10_totalBy_59 : dec cX10_totalBy 59 3 62 (.goto 17) := ⟨by decide +kernel, rfl⟩
theorem dX10_totalBy_62 : dec cX10_totalBy 62 1 63 (.aload_n 0) := ⟨by decide +kernel, rfl⟩
theorem dX10_totalBy_63 : dec cX10_totalBy 63 3 66 (.getfield 36) := ⟨by decide +kernel, rfl⟩
theorem dX10_totalBy_66 : dec cX10_totalBy 66 1 67 (.aload_n 0) := ⟨by decide +kernel, rfl⟩
theorem dX10_totalBy_67 : dec cX10_totalBy 67 3 70 (.getfield 58) := ⟨by decide +kernel, rfl⟩
theorem dX10_totalBy_70 : dec cX10_totalBy 70 2 72 (.bipush 10) := ⟨by decide +kernel, rfl⟩
theorem dX10_totalBy_72 : dec cX10_totalBy 72 1 73 (.imul) := ⟨by decide +kernel, rfl⟩
theorem dX10_totalBy_73 : dec cX10_totalBy 73 1 74 (.iload_n 1) := ⟨by decide +kernel, rfl⟩
theorem dX10_totalBy_74 : dec cX10_totalBy 74 1 75 (.iadd) := ⟨by decide +kernel, rfl⟩
theorem dX10_totalBy_75 : dec cX10_totalBy 75 1 76 (.iaload) := ⟨by decide +kernel, rfl⟩
theorem dX10_totalBy_76 : dec cX10_totalBy 76 1 77 (.ireturn) := ⟨by decide +kernel, rfl⟩
set_option maxHeartbeats 4000000 in
set_option maxRecDepth 100000 in
theorem tX10_totalBy_J41 {X : Cx} {Y : Yx} {M0 : Mem} (hC : OKX X Y RX10 cX10_totalBy 3 (some .int) rmX10_totalBy) (hF : Y.2.2.2.2 = true) (hL : Lay M0) (Q : Int → Mem → Prop)   (a0 : Nat) (x1 : Int) (xs0 : Int) (qa0 : 0 < a0 ∧ M0 0 a0 = kO 10)  (M : Mem) (h : wX10_totalBy_J41 Q  a0 x1 xs0 M) : WW X Y 3 rmX10_totalBy (QI Q) M0 0 0 41 [(0, vR Y.1 a0), (1, vI x1)] [vI xs0] M := by
  unfold wX10_totalBy_J41 at h
  refine r_istore_n (lv' := [(2, vI xs0), (0, vR Y.1 a0), (1, vI x1)]) hC dX10_totalBy_41 rfl (by decide) rfl ?_
  refine r_iload_n hC 0 dX10_totalBy_42 rfl rfl ?_
  refine r_if_eq hC 62 rfl dX10_totalBy_43 (by decide) (fun cq => ?_) (fun cq => ?_)
  · replace h := h.1 cq
    refine r_aload_n hC 1 dX10_totalBy_62 rfl rfl ?_
    have q_8 : 0 < a0 + 9 ∧ M0 0 (a0 + 9) = kA 0 130 := lay_f0 (a := a0) hL qa0 fm_10_12
    refine r_getR0 (a' := a0 + 9) hC fg_X10_36 rfl hF fm_10_12 qa0.1 qa0.2 rfl dX10_totalBy_63 ?_
    refine r_aload_n hC 1 dX10_totalBy_66 rfl rfl ?_
    refine r_getI hC fg_X10_58 rfl qa0.1 qa0.2 dX10_totalBy_67 ?_
    refine r_bipush hC (by decide +kernel) dX10_totalBy_70 ?_
    refine r_imul hC dX10_totalBy_72 ?_
    refine r_iload_n hC 2 dX10_totalBy_73 rfl rfl ?_
    refine r_iadd hC dX10_totalBy_74 ?_
    obtain ⟨i_9, h⟩ := h
    refine r_iald hC i_9 q_8.1 q_8.2 (by decide) dX10_totalBy_75 ?_
    exact r_iret hC (Nat.zero_le _) (Nat.zero_le _) dX10_totalBy_76 ⟨_, rfl, h⟩
  · replace h := h.2 cq
    refine r_aload_n hC 1 dX10_totalBy_46 rfl rfl ?_
    have q_10 : 0 < a0 + 6 ∧ M0 0 (a0 + 6) = kA 0 13 := lay_f0 (a := a0) hL qa0 fm_10_9
    refine r_getR0 (a' := a0 + 6) hC fg_X10_27 rfl hF fm_10_9 qa0.1 qa0.2 rfl dX10_totalBy_47 ?_
    refine r_aload_n hC 1 dX10_totalBy_50 rfl rfl ?_
    refine r_getI hC fg_X10_58 rfl qa0.1 qa0.2 dX10_totalBy_51 ?_
    obtain ⟨i_11, h⟩ := h
    refine r_iald hC i_11 q_10.1 q_10.2 (by decide) dX10_totalBy_54 ?_
    refine r_callS (As := [vI (rd M (a0 + 6) (M a0 1))]) (st := []) hC cw_X10_205 rfl rfl (Nat.le_of_ble_eq_true rfl) ⟨Nat.le_of_ble_eq_true rfl, Nat.le_of_ble_eq_true rfl⟩ ⟨Nat.le_of_ble_eq_true rfl, Nat.le_of_ble_eq_true rfl⟩ dX10_totalBy_55 (fun hk => mJ6_bitCount_0f7a4 Y hF _ _ _ _  h) (fun v M_12 h => ?_)
    obtain ⟨r_13, rfl, h⟩ := h
    refine r_ineg hC dX10_totalBy_58 ?_
    refine r_goto hC 76 dX10_totalBy_59 (by decide) ?_
    exact r_iret hC (Nat.zero_le _) (Nat.zero_le _) dX10_totalBy_76 ⟨_, rfl, h⟩
set_option maxHeartbeats 4000000 in
set_option maxRecDepth 100000 in
theorem mX10_totalBy (Y : Yx) (hF : Y.2.2.2.2 = true) (l : Launch) (a0 : Nat) (x1 : Int) (M0 : Mem) (Q : Int → Mem → Prop) (qa0 : 0 < a0 ∧ M0 0 a0 = kO 10) (h : wX10_totalBy a0 x1 M0 Q) : CT Y l yX10_totalBy cX10_totalBy 3 (some .int) rmX10_totalBy [vR Y.1 a0, vI x1] M0 (QI Q) := by
  unfold wX10_totalBy at h
  refine ct_intro (by decide) (Nat.le_of_ble_eq_true rfl) ?_
  intro X hXl hC hL0
  have hL := hL0 hF
  change OKX X Y RX10 cX10_totalBy 3 (some .int) rmX10_totalBy at hC
  change WW X Y 3 rmX10_totalBy (QI Q) M0 0 0 0 [(0, vR Y.1 a0), (1, vI x1)] [] M0
  refine r_iload_n hC 1 dX10_totalBy_0 rfl rfl ?_
  refine r_iconst hC dX10_totalBy_1 ?_
  refine r_aload_n hC 0 dX10_totalBy_2 rfl rfl ?_
  have q_1 : 0 < (a0 - 89) ∧ M0 0 ((a0 - 89)) = kO 0 := lay_fs (a := a0) hL qa0 fm_10_0
  refine r_getRs (a' := (a0 - 89)) hC fg_X10_45 rfl hF fm_10_0 qa0.1 qa0.2 rfl dX10_totalBy_3 ?_
  refine r_getI hC fg_X10_160 rfl q_1.1 q_1.2 dX10_totalBy_6 ?_
  refine r_iconst hC dX10_totalBy_9 ?_
  refine r_isub hC dX10_totalBy_10 ?_
  refine r_callN (As := [vI x1, vI 0, vI ((M0 ((a0 - 89)) 4) - 1)]) (st := []) hC cw_X10_91 rfl rfl (Nat.le_of_ble_eq_true rfl) ⟨Nat.le_of_ble_eq_true rfl, Nat.le_of_ble_eq_true rfl⟩ ⟨Nat.le_of_ble_eq_true rfl, Nat.le_of_ble_eq_true rfl⟩ dX10_totalBy_11 (fun hk => mX11_within Y hF _ _ _ _ _ _  h) (fun v M_2 h => ?_)
  obtain ⟨r_3, rfl, h⟩ := h
  refine r_if_ne hC 19 rfl dX10_totalBy_14 (by decide) (fun cq => ?_) (fun cq => ?_)
  · replace h := h.2 cq
    refine r_aload_n hC 0 dX10_totalBy_19 rfl rfl ?_
    have q_4 : 0 < (a0 - 89) ∧ M0 0 ((a0 - 89)) = kO 0 := lay_fs (a := a0) hL qa0 fm_10_0
    refine r_getRs (a' := (a0 - 89)) hC fg_X10_45 rfl hF fm_10_0 qa0.1 qa0.2 rfl dX10_totalBy_20 ?_
    have q_5 : 0 < (a0 - 89) + 3 ∧ M0 0 ((a0 - 89) + 3) = kA 5 10 := lay_f0 (a := (a0 - 89)) hL q_4 fm_0_3
    refine r_getR0 (a' := (a0 - 89) + 3) hC fg_X10_163 rfl hF fm_0_3 q_4.1 q_4.2 rfl dX10_totalBy_23 ?_
    refine r_iload_n hC 1 dX10_totalBy_26 rfl rfl ?_
    obtain ⟨i_6, h⟩ := h
    have q_7 : 0 < (a0 - 89) + 21 + 2 * (bm x1).toNat ∧ M0 0 ((a0 - 89) + 21 + 2 * (bm x1).toNat) = kO 1 := lay_a5 (a := (a0 - 89) + 3) hL q_5 (inb_nat i_6)
    refine r_aald5 hC hF i_6 q_5.1 q_5.2 dX10_totalBy_27 ?_
    refine r_getI hC fg_X10_171 rfl q_7.1 q_7.2 dX10_totalBy_28 ?_
    refine r_bipush hC (by decide +kernel) dX10_totalBy_31 ?_
    refine r_icmp_ne hC 40 rfl bmL_6 dX10_totalBy_33 (by decide) (fun cq => ?_) (fun cq => ?_)
    · replace h := h.2 cq
      refine r_iconst hC dX10_totalBy_40 ?_
      refine r_sub [0, 1] rfl ?_
      exact tX10_totalBy_J41 hC hF hL Q   _ _ _ qa0  _ h
    · replace h := h.1 cq
      refine r_iconst hC dX10_totalBy_36 ?_
      refine r_goto hC 41 dX10_totalBy_37 (by decide) ?_
      refine r_sub [0, 1] rfl ?_
      exact tX10_totalBy_J41 hC hF hL Q   _ _ _ qa0  _ h
  · replace h := h.1 cq
    refine r_iconst hC dX10_totalBy_17 ?_
    exact r_iret hC (Nat.zero_le _) (Nat.zero_le _) dX10_totalBy_18 ⟨_, rfl, h⟩
theorem dX10_total_0 : dec cX10_total 0 1 1 (.lconst 0) := ⟨by decide +kernel, rfl⟩
theorem dX10_total_1 : dec cX10_total 1 1 2 (.lstore_n 1) := ⟨by decide +kernel, rfl⟩
theorem dX10_total_2 : dec cX10_total 2 1 3 (.iconst 0) := ⟨by decide +kernel, rfl⟩
theorem dX10_total_3 : dec cX10_total 3 1 4 (.istore_n 3) := ⟨by decide +kernel, rfl⟩
theorem dX10_total_4 : dec cX10_total 4 1 5 (.iload_n 3) := ⟨by decide +kernel, rfl⟩
theorem dX10_total_5 : dec cX10_total 5 1 6 (.aload_n 0) := ⟨by decide +kernel, rfl⟩
theorem dX10_total_6 : dec cX10_total 6 3 9 (.getfield 45) := ⟨by decide +kernel, rfl⟩
theorem dX10_total_9 : dec cX10_total 9 3 12 (.getfield 160) := ⟨by decide +kernel, rfl⟩
theorem dX10_total_12 : dec cX10_total 12 3 15 (.if_icmp .ge 43) := ⟨by decide +kernel, rfl⟩
theorem dX10_total_15 : dec cX10_total 15 1 16 (.aload_n 0) := ⟨by decide +kernel, rfl⟩
theorem dX10_total_16 : dec cX10_total 16 3 19 (.getfield 65) := ⟨by decide +kernel, rfl⟩
theorem dX10_total_19 : dec cX10_total 19 1 20 (.iload_n 3) := ⟨by decide +kernel, rfl⟩
theorem dX10_total_20 : dec cX10_total 20 3 23 (.invokestatic 133) := ⟨by decide +kernel, rfl⟩
theorem dX10_total_23 : dec cX10_total 23 3 26 (.ifCond .eq 26) := ⟨by decide +kernel, rfl⟩
theorem dX10_total_26 : dec cX10_total 26 1 27 (.lload_n 1) := ⟨by decide +kernel, rfl⟩
theorem dX10_total_27 : dec cX10_total 27 1 28 (.aload_n 0) := ⟨by decide +kernel, rfl⟩
theorem dX10_total_28 : dec cX10_total 28 1 29 (.iload_n 3) := ⟨by decide +kernel, rfl⟩
theorem dX10_total_29 : dec cX10_total 29 3 32 (.invokevirtual 211) := ⟨by decide +kernel, rfl⟩
theorem dX10_total_32 : dec cX10_total 32 1 33 (.i2l) := ⟨by decide +kernel, rfl⟩
theorem dX10_total_33 : dec cX10_total 33 1 34 (.aload_n 0) := ⟨by decide +kernel, rfl⟩
theorem dX10_total_34 : dec cX10_total 34 3 37 (.getfield 45) := ⟨by decide +kernel, rfl⟩
theorem dX10_total_37 : dec cX10_total 37 3 40 (.getfield 163) := ⟨by decide +kernel, rfl⟩
theorem dX10_total_40 : dec cX10_total 40 1 41 (.iload_n 3) := ⟨by decide +kernel, rfl⟩
theorem dX10_total_41 : dec cX10_total 41 1 42 (.aaload) := ⟨by decide +kernel, rfl⟩
theorem dX10_total_42 : dec cX10_total 42 3 45 (.getfield 214) := ⟨by decide +kernel, rfl⟩
theorem dX10_total_45 : dec cX10_total 45 1 46 (.i2l) := ⟨by decide +kernel, rfl⟩
theorem dX10_total_46 : dec cX10_total 46 1 47 (.lmul) := ⟨by decide +kernel, rfl⟩
theorem dX10_total_47 : dec cX10_total 47 1 48 (.ladd) := ⟨by decide +kernel, rfl⟩
theorem dX10_total_48 : dec cX10_total 48 1 49 (.lstore_n 1) := ⟨by decide +kernel, rfl⟩
theorem dX10_total_49 : dec cX10_total 49 3 52 (.iinc 3 1) := ⟨by decide +kernel, rfl⟩
theorem dX10_total_52 : dec cX10_total 52 3 55 (.goto (-48)) := ⟨by decide +kernel, rfl⟩
theorem dX10_total_55 : dec cX10_total 55 1 56 (.lload_n 1) := ⟨by decide +kernel, rfl⟩
theorem dX10_total_56 : dec cX10_total 56 1 57 (.lreturn) := ⟨by decide +kernel, rfl⟩
set_option maxHeartbeats 4000000 in
set_option maxRecDepth 100000 in
theorem tX10_total_L4 {X : Cx} {Y : Yx} {M0 : Mem} (hC : OKX X Y RX10 cX10_total 4 (some .long) rmX10_total) (hF : Y.2.2.2.2 = true) (hL : Lay M0) (Q : Int → Mem → Prop)  (a0 : Nat) (qa0 : 0 < a0 ∧ M0 0 a0 = kO 10)  : ∀ (N : Nat) (l1 : Int) (x3 : Int) (M : Mem) (_ : wX10_total_L4 Q  a0 N l1 x3 M), WW X Y 4 rmX10_total (QL Q) M0 0 0 4 [(0, vR Y.1 a0), (1, vL l1), (3, vI x3)] [] M := by
  intro N
  induction N with
  | zero =>
    intro l1 x3 M h
    exact h.elim
  | succ N ih =>
    intro l1 x3 M h
    unfold wX10_total_L4 at h
    refine r_iload_n hC 2 dX10_total_4 rfl rfl ?_
    refine r_aload_n hC 0 dX10_total_5 rfl rfl ?_
    have q_1 : 0 < (a0 - 89) ∧ M0 0 ((a0 - 89)) = kO 0 := lay_fs (a := a0) hL qa0 fm_10_0
    refine r_getRs (a' := (a0 - 89)) hC fg_X10_45 rfl hF fm_10_0 qa0.1 qa0.2 rfl dX10_total_6 ?_
    refine r_getI hC fg_X10_160 rfl q_1.1 q_1.2 dX10_total_9 ?_
    refine r_icmp_ge hC 55 rfl rfl dX10_total_12 (by decide) (fun cq => ?_) (fun cq => ?_)
    · replace h := h.1 cq
      refine r_lload_n hC 1 dX10_total_55 rfl rfl ?_
      exact r_lret hC (Nat.zero_le _) (Nat.zero_le _) dX10_total_56 ⟨_, rfl, h⟩
    · replace h := h.2 cq
      refine r_aload_n hC 0 dX10_total_15 rfl rfl ?_
      refine r_getI hC fg_X10_65 rfl qa0.1 qa0.2 dX10_total_16 ?_
      refine r_iload_n hC 2 dX10_total_19 rfl rfl ?_
      refine r_callN (As := [vI (M a0 3), vI x3]) (st := []) hC cw_X10_133 rfl rfl (Nat.le_of_ble_eq_true rfl) ⟨Nat.le_of_ble_eq_true rfl, Nat.le_of_ble_eq_true rfl⟩ ⟨Nat.le_of_ble_eq_true rfl, Nat.le_of_ble_eq_true rfl⟩ dX10_total_20 (fun hk => mX11_isIn Y hF _ _ _ _ _  h) (fun v M_2 h => ?_)
      obtain ⟨r_3, rfl, h⟩ := h
      refine r_if_eq hC 49 rfl dX10_total_23 (by decide) (fun cq => ?_) (fun cq => ?_)
      · replace h := h.1 cq
        refine let_elim h (fun x3_4 e_5 h => ?_)
        refine r_iinc (lv' := [(3, vI x3_4), (0, vR Y.1 a0), (1, vL l1)]) hC 2 dX10_total_49 rfl (by decide) e_5 rfl ?_
        refine r_goto hC 4 dX10_total_52 (by decide) ?_
        refine r_sub [1, 2, 0] rfl ?_
        exact ih _ _ _ h
      · replace h := h.2 cq
        refine r_lload_n hC 1 dX10_total_26 rfl rfl ?_
        refine r_aload_n hC 0 dX10_total_27 rfl rfl ?_
        refine r_iload_n hC 2 dX10_total_28 rfl rfl ?_
        refine r_callV (As := [vI x3]) (st := [vL l1]) hC cw_X10_211 rfl qa0.1 qa0.2 rfl rfl (Nat.le_of_ble_eq_true rfl) ⟨Nat.le_of_ble_eq_true rfl, Nat.le_of_ble_eq_true rfl⟩ ⟨Nat.le_of_ble_eq_true rfl, Nat.le_of_ble_eq_true rfl⟩ dX10_total_29 (fun hk => mX10_totalBy Y hF _ _ _ _ _ (kqO hk qa0) h) (fun v M_6 h => ?_)
        obtain ⟨r_7, rfl, h⟩ := h
        refine r_i2l hC dX10_total_32 ?_
        refine r_aload_n hC 0 dX10_total_33 rfl rfl ?_
        have q_8 : 0 < (a0 - 89) ∧ M0 0 ((a0 - 89)) = kO 0 := lay_fs (a := a0) hL qa0 fm_10_0
        refine r_getRs (a' := (a0 - 89)) hC fg_X10_45 rfl hF fm_10_0 qa0.1 qa0.2 rfl dX10_total_34 ?_
        have q_9 : 0 < (a0 - 89) + 3 ∧ M0 0 ((a0 - 89) + 3) = kA 5 10 := lay_f0 (a := (a0 - 89)) hL q_8 fm_0_3
        refine r_getR0 (a' := (a0 - 89) + 3) hC fg_X10_163 rfl hF fm_0_3 q_8.1 q_8.2 rfl dX10_total_37 ?_
        refine r_iload_n hC 2 dX10_total_40 rfl rfl ?_
        obtain ⟨i_10, h⟩ := h
        have q_11 : 0 < (a0 - 89) + 21 + 2 * (bm x3).toNat ∧ M0 0 ((a0 - 89) + 21 + 2 * (bm x3).toNat) = kO 1 := lay_a5 (a := (a0 - 89) + 3) hL q_9 (inb_nat i_10)
        refine r_aald5 hC hF i_10 q_9.1 q_9.2 dX10_total_41 ?_
        refine r_getI hC fg_X10_214 rfl q_11.1 q_11.2 dX10_total_42 ?_
        refine r_i2l hC dX10_total_45 ?_
        refine r_lmul hC dX10_total_46 ?_
        refine r_ladd hC dX10_total_47 ?_
        refine r_nameL h (fun x1_12 h => ?_)
        refine r_lstore_n (lv' := [(1, vL x1_12), (0, vR Y.1 a0), (3, vI x3)]) hC dX10_total_48 rfl (by decide) rfl ?_
        refine let_elim h (fun x3_13 e_14 h => ?_)
        refine r_iinc (lv' := [(3, vI x3_13), (1, vL x1_12), (0, vR Y.1 a0)]) hC 2 dX10_total_49 rfl (by decide) e_14 rfl ?_
        refine r_goto hC 4 dX10_total_52 (by decide) ?_
        refine r_sub [2, 1, 0] rfl ?_
        exact ih _ _ _ h
set_option maxHeartbeats 4000000 in
set_option maxRecDepth 100000 in
theorem mX10_total (Y : Yx) (hF : Y.2.2.2.2 = true) (l : Launch) (a0 : Nat) (M0 : Mem) (Q : Int → Mem → Prop) (qa0 : 0 < a0 ∧ M0 0 a0 = kO 10) (h : wX10_total a0 M0 Q) : CT Y l yX10_total cX10_total 4 (some .long) rmX10_total [vR Y.1 a0] M0 (QL Q) := by
  unfold wX10_total at h
  refine ct_intro (by decide) (Nat.le_of_ble_eq_true rfl) ?_
  intro X hXl hC hL0
  have hL := hL0 hF
  change OKX X Y RX10 cX10_total 4 (some .long) rmX10_total at hC
  change WW X Y 4 rmX10_total (QL Q) M0 0 0 0 [(0, vR Y.1 a0)] [] M0
  refine r_lconst (a := 0) hC (by decide +kernel) dX10_total_0 ?_
  refine r_lstore_n (lv' := [(1, vL 0), (0, vR Y.1 a0)]) hC dX10_total_1 rfl (by decide) rfl ?_
  refine r_iconst hC dX10_total_2 ?_
  refine r_istore_n (lv' := [(3, vI 0), (1, vL 0), (0, vR Y.1 a0)]) hC dX10_total_3 rfl (by decide) rfl ?_
  refine r_sub [2, 1, 0] rfl ?_
  obtain ⟨N_15, h⟩ := h
  refine tX10_total_L4 hC hF hL Q  _ qa0  N_15 _ _ _ h
theorem dX6_keepFound_0 : dec cX6_keepFound 0 1 1 (.aload_n 0) := ⟨by decide +kernel, rfl⟩
theorem dX6_keepFound_1 : dec cX6_keepFound 1 3 4 (.getfield 18) := ⟨by decide +kernel, rfl⟩
theorem dX6_keepFound_4 : dec cX6_keepFound 4 1 5 (.aload_n 0) := ⟨by decide +kernel, rfl⟩
theorem dX6_keepFound_5 : dec cX6_keepFound 5 3 8 (.getfield 41) := ⟨by decide +kernel, rfl⟩
theorem dX6_keepFound_8 : dec cX6_keepFound 8 3 11 (.putfield 120) := ⟨by decide +kernel, rfl⟩
theorem dX6_keepFound_11 : dec cX6_keepFound 11 1 12 (.aload_n 0) := ⟨by decide +kernel, rfl⟩
theorem dX6_keepFound_12 : dec cX6_keepFound 12 3 15 (.getfield 18) := ⟨by decide +kernel, rfl⟩
theorem dX6_keepFound_15 : dec cX6_keepFound 15 1 16 (.iload_n 1) := ⟨by decide +kernel, rfl⟩
theorem dX6_keepFound_16 : dec cX6_keepFound 16 3 19 (.putfield 123) := ⟨by decide +kernel, rfl⟩
theorem dX6_keepFound_19 : dec cX6_keepFound 19 1 20 (.aload_n 0) := ⟨by decide +kernel, rfl⟩
theorem dX6_keepFound_20 : dec cX6_keepFound 20 3 23 (.getfield 33) := ⟨by decide +kernel, rfl⟩
theorem dX6_keepFound_23 : dec cX6_keepFound 23 3 26 (.getfield 117) := ⟨by decide +kernel, rfl⟩
theorem dX6_keepFound_26 : dec cX6_keepFound 26 1 27 (.iconst 0) := ⟨by decide +kernel, rfl⟩
theorem dX6_keepFound_27 : dec cX6_keepFound 27 1 28 (.aload_n 0) := ⟨by decide +kernel, rfl⟩
theorem dX6_keepFound_28 : dec cX6_keepFound 28 3 31 (.getfield 18) := ⟨by decide +kernel, rfl⟩
theorem dX6_keepFound_31 : dec cX6_keepFound 31 3 34 (.getfield 114) := ⟨by decide +kernel, rfl⟩
theorem dX6_keepFound_34 : dec cX6_keepFound 34 1 35 (.iconst 0) := ⟨by decide +kernel, rfl⟩
theorem dX6_keepFound_35 : dec cX6_keepFound 35 2 37 (.bipush 12) := ⟨by decide +kernel, rfl⟩
theorem dX6_keepFound_37 : dec cX6_keepFound 37 3 40 (.invokestatic 126) := ⟨by decide +kernel, rfl⟩
theorem dX6_keepFound_40 : dec cX6_keepFound 40 1 41 (.return_) := ⟨by decide +kernel, rfl⟩
set_option maxHeartbeats 4000000 in
set_option maxRecDepth 100000 in
theorem mX6_keepFound (Y : Yx) (hF : Y.2.2.2.2 = true) (l : Launch) (a0 : Nat) (x1 : Int) (M0 : Mem) (Q : Mem → Prop) (qa0 : 0 < a0 ∧ M0 0 a0 = kO 6) (h : wX6_keepFound a0 x1 M0 Q) : CT Y l yX6_keepFound cX6_keepFound 2 none rmX6_keepFound [vR Y.1 a0, vI x1] M0 (QV Q) := by
  unfold wX6_keepFound at h
  refine ct_intro (by decide) (Nat.le_of_ble_eq_true rfl) ?_
  intro X hXl hC hL0
  have hL := hL0 hF
  change OKX X Y RX6 cX6_keepFound 2 none rmX6_keepFound at hC
  change WW X Y 2 rmX6_keepFound (QV Q) M0 0 0 0 [(0, vR Y.1 a0), (1, vI x1)] [] M0
  refine r_aload_n hC 0 dX6_keepFound_0 rfl rfl ?_
  have q_1 : 0 < a0 + 2 ∧ M0 0 (a0 + 2) = kO 5 := lay_f0 (a := a0) hL qa0 fm_6_11
  refine r_getR0 (a' := a0 + 2) hC fg_X6_18 rfl hF fm_6_11 qa0.1 qa0.2 rfl dX6_keepFound_1 ?_
  refine r_aload_n hC 0 dX6_keepFound_4 rfl rfl ?_
  refine r_getI hC fg_X6_41 rfl qa0.1 qa0.2 dX6_keepFound_5 ?_
  refine r_putI hC fp_X6_120 rfl q_1.1 q_1.2 dX6_keepFound_8 ?_
  refine r_nameM h (fun M_2 h => ?_)
  refine r_aload_n hC 0 dX6_keepFound_11 rfl rfl ?_
  have q_3 : 0 < a0 + 2 ∧ M0 0 (a0 + 2) = kO 5 := lay_f0 (a := a0) hL qa0 fm_6_11
  refine r_getR0 (a' := a0 + 2) hC fg_X6_18 rfl hF fm_6_11 qa0.1 qa0.2 rfl dX6_keepFound_12 ?_
  refine r_iload_n hC 1 dX6_keepFound_15 rfl rfl ?_
  refine r_putI hC fp_X6_123 rfl q_3.1 q_3.2 dX6_keepFound_16 ?_
  refine r_nameM h (fun M_4 h => ?_)
  refine r_aload_n hC 0 dX6_keepFound_19 rfl rfl ?_
  have q_5 : 0 < (a0 - 12) ∧ M0 0 ((a0 - 12)) = kO 10 := lay_fs (a := a0) hL qa0 fm_6_1
  refine r_getRs (a' := (a0 - 12)) hC fg_X6_33 rfl hF fm_6_1 qa0.1 qa0.2 rfl dX6_keepFound_20 ?_
  have q_6 : 0 < (a0 - 12) + 1 ∧ M0 0 ((a0 - 12) + 1) = kA 0 12 := lay_f0 (a := (a0 - 12)) hL q_5 fm_10_4
  refine r_getR0 (a' := (a0 - 12) + 1) hC fg_X6_117 rfl hF fm_10_4 q_5.1 q_5.2 rfl dX6_keepFound_23 ?_
  refine r_iconst hC dX6_keepFound_26 ?_
  refine r_aload_n hC 0 dX6_keepFound_27 rfl rfl ?_
  have q_7 : 0 < a0 + 2 ∧ M0 0 (a0 + 2) = kO 5 := lay_f0 (a := a0) hL qa0 fm_6_11
  refine r_getR0 (a' := a0 + 2) hC fg_X6_18 rfl hF fm_6_11 qa0.1 qa0.2 rfl dX6_keepFound_28 ?_
  have q_8 : 0 < a0 + 3 ∧ M0 0 (a0 + 3) = kA 0 12 := lay_f0 (a := a0 + 2) hL q_7 fm_5_0
  refine r_getR0 (a' := a0 + 3) hC fg_X6_114 rfl hF fm_5_0 q_7.1 q_7.2 rfl dX6_keepFound_31 ?_
  refine r_iconst hC dX6_keepFound_34 ?_
  refine r_bipush hC (by decide +kernel) dX6_keepFound_35 ?_
  obtain ⟨i_9, h⟩ := h
  refine r_copy (t := 0) hC (by decide) cp_X6_126 (Nat.le_of_ble_eq_true rfl) (Nat.le_of_ble_eq_true rfl) (Nat.le_of_ble_eq_true rfl) i_9 (by intro q; cases q) q_6 q_8 (by decide) (by decide) dX6_keepFound_37 ?_
  refine r_nameM h (fun M_11 h => ?_)
  exact r_vret hC (Nat.zero_le _) (Nat.zero_le _) dX6_keepFound_40 ⟨rfl, h⟩
theorem dX6_takeEqual_0 : dec cX6_takeEqual 0 1 1 (.iconst 0) := ⟨by decide +kernel, rfl⟩
theorem dX6_takeEqual_1 : dec cX6_takeEqual 1 1 2 (.istore_n 2) := ⟨by decide +kernel, rfl⟩
theorem dX6_takeEqual_2 : dec cX6_takeEqual 2 1 3 (.iconst 1) := ⟨by decide +kernel, rfl⟩
theorem dX6_takeEqual_3 : dec cX6_takeEqual 3 1 4 (.istore_n 3) := ⟨by decide +kernel, rfl⟩
theorem dX6_takeEqual_4 : dec cX6_takeEqual 4 1 5 (.iconst 0) := ⟨by decide +kernel, rfl⟩
theorem dX6_takeEqual_5 : dec cX6_takeEqual 5 2 7 (.istore 4) := ⟨by decide +kernel, rfl⟩
theorem dX6_takeEqual_7 : dec cX6_takeEqual 7 2 9 (.iload 4) := ⟨by decide +kernel, rfl⟩
theorem dX6_takeEqual_9 : dec cX6_takeEqual 9 1 10 (.aload_n 0) := ⟨by decide +kernel, rfl⟩
theorem dX6_takeEqual_10 : dec cX6_takeEqual 10 3 13 (.getfield 41) := ⟨by decide +kernel, rfl⟩
theorem dX6_takeEqual_13 : dec cX6_takeEqual 13 3 16 (.if_icmp .ge 82) := ⟨by decide +kernel, rfl⟩
theorem dX6_takeEqual_16 : dec cX6_takeEqual 16 1 17 (.aload_n 0) := ⟨by decide +kernel, rfl⟩
theorem dX6_takeEqual_17 : dec cX6_takeEqual 17 3 20 (.getfield 18) := ⟨by decide +kernel, rfl⟩
theorem dX6_takeEqual_20 : dec cX6_takeEqual 20 3 23 (.getfield 114) := ⟨by decide +kernel, rfl⟩
theorem dX6_takeEqual_23 : dec cX6_takeEqual 23 2 25 (.iload 4) := ⟨by decide +kernel, rfl⟩
theorem dX6_takeEqual_25 : dec cX6_takeEqual 25 1 26 (.iaload) := ⟨by decide +kernel, rfl⟩
theorem dX6_takeEqual_26 : dec cX6_takeEqual 26 2 28 (.istore 5) := ⟨by decide +kernel, rfl⟩
theorem dX6_takeEqual_28 : dec cX6_takeEqual 28 1 29 (.aload_n 0) := ⟨by decide +kernel, rfl⟩
theorem dX6_takeEqual_29 : dec cX6_takeEqual 29 3 32 (.getfield 33) := ⟨by decide +kernel, rfl⟩
theorem dX6_takeEqual_32 : dec cX6_takeEqual 32 3 35 (.getfield 117) := ⟨by decide +kernel, rfl⟩
theorem dX6_takeEqual_35 : dec cX6_takeEqual 35 2 37 (.iload 4) := ⟨by decide +kernel, rfl⟩
theorem dX6_takeEqual_37 : dec cX6_takeEqual 37 1 38 (.iaload) := ⟨by decide +kernel, rfl⟩
theorem dX6_takeEqual_38 : dec cX6_takeEqual 38 2 40 (.iload 5) := ⟨by decide +kernel, rfl⟩
theorem dX6_takeEqual_40 : dec cX6_takeEqual 40 3 43 (.if_icmp .eq 49) := ⟨by decide +kernel, rfl⟩
theorem dX6_takeEqual_43 : dec cX6_takeEqual 43 1 44 (.aload_n 0) := ⟨by decide +kernel, rfl⟩
theorem dX6_takeEqual_44 : dec cX6_takeEqual 44 1 45 (.dup) := ⟨by decide +kernel, rfl⟩
theorem dX6_takeEqual_45 : dec cX6_takeEqual 45 3 48 (.getfield 50) := ⟨by decide +kernel, rfl⟩
theorem dX6_takeEqual_48 : dec cX6_takeEqual 48 1 49 (.iconst 1) := ⟨by decide +kernel, rfl⟩
theorem dX6_takeEqual_49 : dec cX6_takeEqual 49 2 51 (.iload 5) := ⟨by decide +kernel, rfl⟩
theorem dX6_takeEqual_51 : dec cX6_takeEqual 51 1 52 (.ishl) := ⟨by decide +kernel, rfl⟩
theorem dX6_takeEqual_52 : dec cX6_takeEqual 52 1 53 (.iconst (-1)) := ⟨by decide +kernel, rfl⟩
theorem dX6_takeEqual_53 : dec cX6_takeEqual 53 1 54 (.ixor) := ⟨by decide +kernel, rfl⟩
theorem dX6_takeEqual_54 : dec cX6_takeEqual 54 1 55 (.iand) := ⟨by decide +kernel, rfl⟩
theorem dX6_takeEqual_55 : dec cX6_takeEqual 55 3 58 (.putfield 50) := ⟨by decide +kernel, rfl⟩
theorem dX6_takeEqual_58 : dec cX6_takeEqual 58 1 59 (.iload_n 3) := ⟨by decide +kernel, rfl⟩
theorem dX6_takeEqual_59 : dec cX6_takeEqual 59 3 62 (.ifCond .eq 26) := ⟨by decide +kernel, rfl⟩
theorem dX6_takeEqual_62 : dec cX6_takeEqual 62 1 63 (.aload_n 0) := ⟨by decide +kernel, rfl⟩
theorem dX6_takeEqual_63 : dec cX6_takeEqual 63 3 66 (.getfield 33) := ⟨by decide +kernel, rfl⟩
theorem dX6_takeEqual_66 : dec cX6_takeEqual 66 3 69 (.getfield 117) := ⟨by decide +kernel, rfl⟩
theorem dX6_takeEqual_69 : dec cX6_takeEqual 69 2 71 (.iload 4) := ⟨by decide +kernel, rfl⟩
theorem dX6_takeEqual_71 : dec cX6_takeEqual 71 1 72 (.iaload) := ⟨by decide +kernel, rfl⟩
theorem dX6_takeEqual_72 : dec cX6_takeEqual 72 2 74 (.iload 5) := ⟨by decide +kernel, rfl⟩
theorem dX6_takeEqual_74 : dec cX6_takeEqual 74 3 77 (.if_icmp .ge 7) := ⟨by decide +kernel, rfl⟩
theorem dX6_takeEqual_77 : dec cX6_takeEqual 77 1 78 (.iconst 1) := ⟨by decide +kernel, rfl⟩
theorem dX6_takeEqual_78 : dec cX6_takeEqual 78 3 81 (.goto 8) := ⟨by decide +kernel, rfl⟩
theorem dX6_takeEqual_81 : dec cX6_takeEqual 81 1 82 (.iconst 0) := ⟨by decide +kernel, rfl⟩
theorem dX6_takeEqual_82 : dec cX6_takeEqual 82 3 85 (.goto 4) := ⟨by decide +kernel, rfl⟩
theorem dX6_takeEqual_85 : dec cX6_takeEqual 85 1 86 (.iload_n 2) := ⟨by decide +kernel, rfl⟩
theorem dX6_takeEqual_86 : dec cX6_takeEqual 86 1 87 (.istore_n 2) := ⟨by decide +kernel, rfl⟩
theorem dX6_takeEqual_87 : dec cX6_takeEqual 87 1 88 (.iconst 0) := ⟨by decide +kernel, rfl⟩
theorem dX6_takeEqual_88 : dec cX6_takeEqual 88 1 89 (.istore_n 3) := ⟨by decide +kernel, rfl⟩
theorem dX6_takeEqual_89 : dec cX6_takeEqual 89 3 92 (.iinc 4 1) := ⟨by decide +kernel, rfl⟩
theorem dX6_takeEqual_92 : dec cX6_takeEqual 92 3 95 (.goto (-85)) := ⟨by decide +kernel, rfl⟩
theorem dX6_takeEqual_95 : dec cX6_takeEqual 95 1 96 (.iload_n 2) := ⟨by decide +kernel, rfl⟩
theorem dX6_takeEqual_96 : dec cX6_takeEqual 96 3 99 (.ifCond .eq 8) := ⟨by decide +kernel, rfl⟩
theorem dX6_takeEqual_99 : dec cX6_takeEqual 99 1 100 (.aload_n 0) := ⟨by decide +kernel, rfl⟩
theorem dX6_takeEqual_100 : dec cX6_takeEqual 100 1 101 (.iload_n 1) := ⟨by decide +kernel, rfl⟩
theorem dX6_takeEqual_101 : dec cX6_takeEqual 101 3 104 (.invokevirtual 108) := ⟨by decide +kernel, rfl⟩
theorem dX6_takeEqual_104 : dec cX6_takeEqual 104 1 105 (.return_) := ⟨by decide +kernel, rfl⟩
set_option maxHeartbeats 4000000 in
set_option maxRecDepth 100000 in
theorem tX6_takeEqual_J86 {X : Cx} {Y : Yx} {M0 : Mem} (hC : OKX X Y RX6 cX6_takeEqual 6 none rmX6_takeEqual) (hF : Y.2.2.2.2 = true) (hL : Lay M0) (Q : Mem → Prop) (C7 : Int → Int → Int → Mem → Prop)  (a0 : Nat) (x1 : Int) (x4 : Int) (xs0 : Int) (qa0 : 0 < a0 ∧ M0 0 a0 = kO 6) (hC7 : ∀ (x2 : Int) (x3 : Int) (x4 : Int) (M : Mem), C7 x2 x3 x4 M → WW X Y 6 rmX6_takeEqual (QV Q) M0 0 0 7 [(0, vR Y.1 a0), (1, vI x1), (2, vI x2), (3, vI x3), (4, vI x4)] [] M) (M : Mem) (h : wX6_takeEqual_J86 Q C7 a0 x1 x4 xs0 M) : WW X Y 6 rmX6_takeEqual (QV Q) M0 0 0 86 [(0, vR Y.1 a0), (1, vI x1), (4, vI x4)] [vI xs0] M := by
  unfold wX6_takeEqual_J86 at h
  refine r_istore_n (lv' := [(2, vI xs0), (0, vR Y.1 a0), (1, vI x1), (4, vI x4)]) hC dX6_takeEqual_86 rfl (by decide) rfl ?_
  refine r_iconst hC dX6_takeEqual_87 ?_
  refine r_istore_n (lv' := [(3, vI 0), (2, vI xs0), (0, vR Y.1 a0), (1, vI x1), (4, vI x4)]) hC dX6_takeEqual_88 rfl (by decide) rfl ?_
  refine let_elim h (fun x4_11 e_12 h => ?_)
  refine r_iinc (lv' := [(4, vI x4_11), (3, vI 0), (2, vI xs0), (0, vR Y.1 a0), (1, vI x1)]) hC 4 dX6_takeEqual_89 rfl (by decide) e_12 rfl ?_
  refine r_goto hC 7 dX6_takeEqual_92 (by decide) ?_
  refine r_sub [3, 4, 2, 1, 0] rfl ?_
  exact hC7 _ _ _ _ h
set_option maxHeartbeats 4000000 in
set_option maxRecDepth 100000 in
theorem tX6_takeEqual_L7 {X : Cx} {Y : Yx} {M0 : Mem} (hC : OKX X Y RX6 cX6_takeEqual 6 none rmX6_takeEqual) (hF : Y.2.2.2.2 = true) (hL : Lay M0) (Q : Mem → Prop) (E95 : Int → Mem → Prop) (a0 : Nat) (x1 : Int) (qa0 : 0 < a0 ∧ M0 0 a0 = kO 6) (hE95 : ∀ (x2 : Int) (M : Mem), E95 x2 M → WW X Y 6 rmX6_takeEqual (QV Q) M0 0 0 95 [(0, vR Y.1 a0), (1, vI x1), (2, vI x2)] [] M) : ∀ (N : Nat) (x2 : Int) (x3 : Int) (x4 : Int) (M : Mem) (_ : wX6_takeEqual_L7 Q E95 a0 x1 N x2 x3 x4 M), WW X Y 6 rmX6_takeEqual (QV Q) M0 0 0 7 [(0, vR Y.1 a0), (1, vI x1), (2, vI x2), (3, vI x3), (4, vI x4)] [] M := by
  intro N
  induction N with
  | zero =>
    intro x2 x3 x4 M h
    exact h.elim
  | succ N ih =>
    intro x2 x3 x4 M h
    unfold wX6_takeEqual_L7 at h
    refine r_iload hC 4 dX6_takeEqual_7 rfl ?_
    refine r_aload_n hC 0 dX6_takeEqual_9 rfl rfl ?_
    refine r_getI hC fg_X6_41 rfl qa0.1 qa0.2 dX6_takeEqual_10 ?_
    refine r_icmp_ge hC 95 rfl rfl dX6_takeEqual_13 (by decide) (fun cq => ?_) (fun cq => ?_)
    · replace h := h.1 cq
      refine r_sub [0, 1, 2] rfl ?_
      exact hE95 _ _ h
    · replace h := h.2 cq
      refine r_aload_n hC 0 dX6_takeEqual_16 rfl rfl ?_
      have q_1 : 0 < a0 + 2 ∧ M0 0 (a0 + 2) = kO 5 := lay_f0 (a := a0) hL qa0 fm_6_11
      refine r_getR0 (a' := a0 + 2) hC fg_X6_18 rfl hF fm_6_11 qa0.1 qa0.2 rfl dX6_takeEqual_17 ?_
      have q_2 : 0 < a0 + 3 ∧ M0 0 (a0 + 3) = kA 0 12 := lay_f0 (a := a0 + 2) hL q_1 fm_5_0
      refine r_getR0 (a' := a0 + 3) hC fg_X6_114 rfl hF fm_5_0 q_1.1 q_1.2 rfl dX6_takeEqual_20 ?_
      refine r_iload hC 4 dX6_takeEqual_23 rfl ?_
      obtain ⟨i_3, h⟩ := h
      refine r_iald hC i_3 q_2.1 q_2.2 (by decide) dX6_takeEqual_25 ?_
      refine r_nameI h (fun x5_4 h => ?_)
      refine r_istore (lv' := [(5, vI x5_4), (0, vR Y.1 a0), (1, vI x1), (2, vI x2), (3, vI x3), (4, vI x4)]) hC dX6_takeEqual_26 (by decide) rfl ?_
      refine r_aload_n hC 1 dX6_takeEqual_28 rfl rfl ?_
      have q_5 : 0 < (a0 - 12) ∧ M0 0 ((a0 - 12)) = kO 10 := lay_fs (a := a0) hL qa0 fm_6_1
      refine r_getRs (a' := (a0 - 12)) hC fg_X6_33 rfl hF fm_6_1 qa0.1 qa0.2 rfl dX6_takeEqual_29 ?_
      have q_6 : 0 < (a0 - 12) + 1 ∧ M0 0 ((a0 - 12) + 1) = kA 0 12 := lay_f0 (a := (a0 - 12)) hL q_5 fm_10_4
      refine r_getR0 (a' := (a0 - 12) + 1) hC fg_X6_117 rfl hF fm_10_4 q_5.1 q_5.2 rfl dX6_takeEqual_32 ?_
      refine r_iload hC 5 dX6_takeEqual_35 rfl ?_
      obtain ⟨i_7, h⟩ := h
      refine r_iald hC i_7 q_6.1 q_6.2 (by decide) dX6_takeEqual_37 ?_
      refine r_iload hC 0 dX6_takeEqual_38 rfl ?_
      refine r_icmp_eq hC 89 rfl rfl dX6_takeEqual_40 (by decide) (fun cq => ?_) (fun cq => ?_)
      · replace h := h.1 cq
        refine let_elim h (fun x4_8 e_9 h => ?_)
        refine r_iinc (lv' := [(4, vI x4_8), (5, vI x5_4), (0, vR Y.1 a0), (1, vI x1), (2, vI x2), (3, vI x3)]) hC 5 dX6_takeEqual_89 rfl (by decide) e_9 rfl ?_
        refine r_goto hC 7 dX6_takeEqual_92 (by decide) ?_
        refine r_sub [2, 3, 4, 5, 0] rfl ?_
        exact ih _ _ _ _ h
      · replace h := h.2 cq
        refine r_aload_n hC 1 dX6_takeEqual_43 rfl rfl ?_
        refine r_dup hC rfl dX6_takeEqual_44 ?_
        refine r_getI hC fg_X6_50 rfl qa0.1 qa0.2 dX6_takeEqual_45 ?_
        refine r_iconst hC dX6_takeEqual_48 ?_
        refine r_iload hC 0 dX6_takeEqual_49 rfl ?_
        refine r_ishl hC dX6_takeEqual_51 ?_
        refine r_iconst hC dX6_takeEqual_52 ?_
        refine r_ixor hC dX6_takeEqual_53 ?_
        refine r_iand hC dX6_takeEqual_54 ?_
        refine r_putI hC fp_X6_50 rfl qa0.1 qa0.2 dX6_takeEqual_55 ?_
        refine r_nameM h (fun M_10 h => ?_)
        refine r_iload_n hC 4 dX6_takeEqual_58 rfl rfl ?_
        refine r_if_eq hC 85 rfl dX6_takeEqual_59 (by decide) (fun cq => ?_) (fun cq => ?_)
        · replace h := h.1 cq
          refine r_iload_n hC 3 dX6_takeEqual_85 rfl rfl ?_
          refine r_sub [1, 2, 5] rfl ?_
          exact tX6_takeEqual_J86 hC hF hL Q _  _ _ _ _ qa0 ih _ h
        · replace h := h.2 cq
          refine r_aload_n hC 1 dX6_takeEqual_62 rfl rfl ?_
          have q_13 : 0 < (a0 - 12) ∧ M0 0 ((a0 - 12)) = kO 10 := lay_fs (a := a0) hL qa0 fm_6_1
          refine r_getRs (a' := (a0 - 12)) hC fg_X6_33 rfl hF fm_6_1 qa0.1 qa0.2 rfl dX6_takeEqual_63 ?_
          have q_14 : 0 < (a0 - 12) + 1 ∧ M0 0 ((a0 - 12) + 1) = kA 0 12 := lay_f0 (a := (a0 - 12)) hL q_13 fm_10_4
          refine r_getR0 (a' := (a0 - 12) + 1) hC fg_X6_117 rfl hF fm_10_4 q_13.1 q_13.2 rfl dX6_takeEqual_66 ?_
          refine r_iload hC 5 dX6_takeEqual_69 rfl ?_
          obtain ⟨i_15, h⟩ := h
          refine r_iald hC i_15 q_14.1 q_14.2 (by decide) dX6_takeEqual_71 ?_
          refine r_iload hC 0 dX6_takeEqual_72 rfl ?_
          refine r_icmp_ge hC 81 rfl rfl dX6_takeEqual_74 (by decide) (fun cq => ?_) (fun cq => ?_)
          · replace h := h.1 cq
            refine r_iconst hC dX6_takeEqual_81 ?_
            refine r_goto hC 86 dX6_takeEqual_82 (by decide) ?_
            refine r_sub [1, 2, 5] rfl ?_
            exact tX6_takeEqual_J86 hC hF hL Q _  _ _ _ _ qa0 ih _ h
          · replace h := h.2 cq
            refine r_iconst hC dX6_takeEqual_77 ?_
            refine r_goto hC 86 dX6_takeEqual_78 (by decide) ?_
            refine r_sub [1, 2, 5] rfl ?_
            exact tX6_takeEqual_J86 hC hF hL Q _  _ _ _ _ qa0 ih _ h
set_option maxHeartbeats 4000000 in
set_option maxRecDepth 100000 in
theorem mX6_takeEqual (Y : Yx) (hF : Y.2.2.2.2 = true) (l : Launch) (a0 : Nat) (x1 : Int) (M0 : Mem) (Q : Mem → Prop) (qa0 : 0 < a0 ∧ M0 0 a0 = kO 6) (h : wX6_takeEqual a0 x1 M0 Q) : CT Y l yX6_takeEqual cX6_takeEqual 6 none rmX6_takeEqual [vR Y.1 a0, vI x1] M0 (QV Q) := by
  unfold wX6_takeEqual at h
  refine ct_intro (by decide) (Nat.le_of_ble_eq_true rfl) ?_
  intro X hXl hC hL0
  have hL := hL0 hF
  change OKX X Y RX6 cX6_takeEqual 6 none rmX6_takeEqual at hC
  change WW X Y 6 rmX6_takeEqual (QV Q) M0 0 0 0 [(0, vR Y.1 a0), (1, vI x1)] [] M0
  refine r_iconst hC dX6_takeEqual_0 ?_
  refine r_istore_n (lv' := [(2, vI 0), (0, vR Y.1 a0), (1, vI x1)]) hC dX6_takeEqual_1 rfl (by decide) rfl ?_
  refine r_iconst hC dX6_takeEqual_2 ?_
  refine r_istore_n (lv' := [(3, vI 1), (2, vI 0), (0, vR Y.1 a0), (1, vI x1)]) hC dX6_takeEqual_3 rfl (by decide) rfl ?_
  refine r_iconst hC dX6_takeEqual_4 ?_
  refine r_istore (lv' := [(4, vI 0), (3, vI 1), (2, vI 0), (0, vR Y.1 a0), (1, vI x1)]) hC dX6_takeEqual_5 (by decide) rfl ?_
  refine r_sub [3, 4, 2, 1, 0] rfl ?_
  obtain ⟨N_19, h⟩ := h
  refine tX6_takeEqual_L7 hC hF hL Q _ _ _ qa0 ?_ N_19 _ _ _ _ h
  · intro x2_16 M_17 h
    refine r_iload_n hC 2 dX6_takeEqual_95 rfl rfl ?_
    refine r_if_eq hC 104 rfl dX6_takeEqual_96 (by decide) (fun cq => ?_) (fun cq => ?_)
    · replace h := h.1 cq
      exact r_vret hC (Nat.zero_le _) (Nat.zero_le _) dX6_takeEqual_104 ⟨rfl, h⟩
    · replace h := h.2 cq
      refine r_aload_n hC 0 dX6_takeEqual_99 rfl rfl ?_
      refine r_iload_n hC 1 dX6_takeEqual_100 rfl rfl ?_
      refine r_callV (As := [vI x1]) (st := []) hC cw_X6_108 rfl qa0.1 qa0.2 rfl rfl (Nat.le_of_ble_eq_true rfl) ⟨Nat.le_of_ble_eq_true rfl, Nat.le_of_ble_eq_true rfl⟩ ⟨Nat.le_of_ble_eq_true rfl, Nat.le_of_ble_eq_true rfl⟩ dX6_takeEqual_101 (fun hk => mX6_keepFound Y hF _ _ _ _ _ (kqO hk qa0) h) (fun v M_18 h => ?_)
      obtain ⟨rfl, h⟩ := h
      exact r_vret hC (Nat.zero_le _) (Nat.zero_le _) dX6_takeEqual_104 ⟨rfl, h⟩
theorem dX6_takeGood_0 : dec cX6_takeGood 0 1 1 (.aload_n 0) := ⟨by decide +kernel, rfl⟩
theorem dX6_takeGood_1 : dec cX6_takeGood 1 3 4 (.getfield 33) := ⟨by decide +kernel, rfl⟩
theorem dX6_takeGood_4 : dec cX6_takeGood 4 3 7 (.invokevirtual 100) := ⟨by decide +kernel, rfl⟩
theorem dX6_takeGood_7 : dec cX6_takeGood 7 1 8 (.lstore_n 2) := ⟨by decide +kernel, rfl⟩
theorem dX6_takeGood_8 : dec cX6_takeGood 8 1 9 (.aload_n 0) := ⟨by decide +kernel, rfl⟩
theorem dX6_takeGood_9 : dec cX6_takeGood 9 1 10 (.dup) := ⟨by decide +kernel, rfl⟩
theorem dX6_takeGood_10 : dec cX6_takeGood 10 3 13 (.getfield 44) := ⟨by decide +kernel, rfl⟩
theorem dX6_takeGood_13 : dec cX6_takeGood 13 1 14 (.iconst 1) := ⟨by decide +kernel, rfl⟩
theorem dX6_takeGood_14 : dec cX6_takeGood 14 1 15 (.iadd) := ⟨by decide +kernel, rfl⟩
theorem dX6_takeGood_15 : dec cX6_takeGood 15 3 18 (.putfield 44) := ⟨by decide +kernel, rfl⟩
theorem dX6_takeGood_18 : dec cX6_takeGood 18 1 19 (.aload_n 0) := ⟨by decide +kernel, rfl⟩
theorem dX6_takeGood_19 : dec cX6_takeGood 19 3 22 (.getfield 44) := ⟨by decide +kernel, rfl⟩
theorem dX6_takeGood_22 : dec cX6_takeGood 22 1 23 (.iconst 1) := ⟨by decide +kernel, rfl⟩
theorem dX6_takeGood_23 : dec cX6_takeGood 23 3 26 (.if_icmp .eq 12) := ⟨by decide +kernel, rfl⟩
theorem dX6_takeGood_26 : dec cX6_takeGood 26 1 27 (.lload_n 2) := ⟨by decide +kernel, rfl⟩
theorem dX6_takeGood_27 : dec cX6_takeGood 27 1 28 (.aload_n 0) := ⟨by decide +kernel, rfl⟩
theorem dX6_takeGood_28 : dec cX6_takeGood 28 3 31 (.getfield 104) := ⟨by decide +kernel, rfl⟩
theorem dX6_takeGood_31 : dec cX6_takeGood 31 1 32 (.lcmp) := ⟨by decide +kernel, rfl⟩
theorem dX6_takeGood_32 : dec cX6_takeGood 32 3 35 (.ifCond .le 29) := ⟨by decide +kernel, rfl⟩
theorem dX6_takeGood_35 : dec cX6_takeGood 35 1 36 (.aload_n 0) := ⟨by decide +kernel, rfl⟩
theorem dX6_takeGood_36 : dec cX6_takeGood 36 1 37 (.lload_n 2) := ⟨by decide +kernel, rfl⟩
theorem dX6_takeGood_37 : dec cX6_takeGood 37 3 40 (.putfield 104) := ⟨by decide +kernel, rfl⟩
theorem dX6_takeGood_40 : dec cX6_takeGood 40 1 41 (.aload_n 0) := ⟨by decide +kernel, rfl⟩
theorem dX6_takeGood_41 : dec cX6_takeGood 41 1 42 (.iconst 1) := ⟨by decide +kernel, rfl⟩
theorem dX6_takeGood_42 : dec cX6_takeGood 42 3 45 (.putfield 47) := ⟨by decide +kernel, rfl⟩
theorem dX6_takeGood_45 : dec cX6_takeGood 45 1 46 (.aload_n 0) := ⟨by decide +kernel, rfl⟩
theorem dX6_takeGood_46 : dec cX6_takeGood 46 1 47 (.aload_n 0) := ⟨by decide +kernel, rfl⟩
theorem dX6_takeGood_47 : dec cX6_takeGood 47 3 50 (.getfield 37) := ⟨by decide +kernel, rfl⟩
theorem dX6_takeGood_50 : dec cX6_takeGood 50 3 53 (.putfield 50) := ⟨by decide +kernel, rfl⟩
theorem dX6_takeGood_53 : dec cX6_takeGood 53 1 54 (.aload_n 0) := ⟨by decide +kernel, rfl⟩
theorem dX6_takeGood_54 : dec cX6_takeGood 54 1 55 (.iload_n 1) := ⟨by decide +kernel, rfl⟩
theorem dX6_takeGood_55 : dec cX6_takeGood 55 3 58 (.invokevirtual 108) := ⟨by decide +kernel, rfl⟩
theorem dX6_takeGood_58 : dec cX6_takeGood 58 3 61 (.goto 27) := ⟨by decide +kernel, rfl⟩
theorem dX6_takeGood_61 : dec cX6_takeGood 61 1 62 (.lload_n 2) := ⟨by decide +kernel, rfl⟩
theorem dX6_takeGood_62 : dec cX6_takeGood 62 1 63 (.aload_n 0) := ⟨by decide +kernel, rfl⟩
theorem dX6_takeGood_63 : dec cX6_takeGood 63 3 66 (.getfield 104) := ⟨by decide +kernel, rfl⟩
theorem dX6_takeGood_66 : dec cX6_takeGood 66 1 67 (.lcmp) := ⟨by decide +kernel, rfl⟩
theorem dX6_takeGood_67 : dec cX6_takeGood 67 3 70 (.ifCond .ne 18) := ⟨by decide +kernel, rfl⟩
theorem dX6_takeGood_70 : dec cX6_takeGood 70 1 71 (.aload_n 0) := ⟨by decide +kernel, rfl⟩
theorem dX6_takeGood_71 : dec cX6_takeGood 71 1 72 (.dup) := ⟨by decide +kernel, rfl⟩
theorem dX6_takeGood_72 : dec cX6_takeGood 72 3 75 (.getfield 47) := ⟨by decide +kernel, rfl⟩
theorem dX6_takeGood_75 : dec cX6_takeGood 75 1 76 (.iconst 1) := ⟨by decide +kernel, rfl⟩
theorem dX6_takeGood_76 : dec cX6_takeGood 76 1 77 (.iadd) := ⟨by decide +kernel, rfl⟩
theorem dX6_takeGood_77 : dec cX6_takeGood 77 3 80 (.putfield 47) := ⟨by decide +kernel, rfl⟩
theorem dX6_takeGood_80 : dec cX6_takeGood 80 1 81 (.aload_n 0) := ⟨by decide +kernel, rfl⟩
theorem dX6_takeGood_81 : dec cX6_takeGood 81 1 82 (.iload_n 1) := ⟨by decide +kernel, rfl⟩
theorem dX6_takeGood_82 : dec cX6_takeGood 82 3 85 (.invokevirtual 111) := ⟨by decide +kernel, rfl⟩
theorem dX6_takeGood_85 : dec cX6_takeGood 85 1 86 (.return_) := ⟨by decide +kernel, rfl⟩
set_option maxHeartbeats 4000000 in
set_option maxRecDepth 100000 in
theorem tX6_takeGood_J35 {X : Cx} {Y : Yx} {M0 : Mem} (hC : OKX X Y RX6 cX6_takeGood 4 none rmX6_takeGood) (hF : Y.2.2.2.2 = true) (hL : Lay M0) (Q : Mem → Prop)   (a0 : Nat) (x1 : Int) (l2 : Int) (qa0 : 0 < a0 ∧ M0 0 a0 = kO 6)  (M : Mem) (h : wX6_takeGood_J35 Q  a0 x1 l2 M) : WW X Y 4 rmX6_takeGood (QV Q) M0 0 0 35 [(0, vR Y.1 a0), (1, vI x1), (2, vL l2)] [] M := by
  unfold wX6_takeGood_J35 at h
  refine r_aload_n hC 0 dX6_takeGood_35 rfl rfl ?_
  refine r_lload_n hC 2 dX6_takeGood_36 rfl rfl ?_
  refine r_putL hC fp_X6_104 rfl qa0.1 qa0.2 dX6_takeGood_37 ?_
  refine r_nameM h (fun M_5 h => ?_)
  refine r_aload_n hC 0 dX6_takeGood_40 rfl rfl ?_
  refine r_iconst hC dX6_takeGood_41 ?_
  refine r_putI hC fp_X6_47 rfl qa0.1 qa0.2 dX6_takeGood_42 ?_
  refine r_nameM h (fun M_6 h => ?_)
  refine r_aload_n hC 0 dX6_takeGood_45 rfl rfl ?_
  refine r_aload_n hC 0 dX6_takeGood_46 rfl rfl ?_
  refine r_getI hC fg_X6_37 rfl qa0.1 qa0.2 dX6_takeGood_47 ?_
  refine r_putI hC fp_X6_50 rfl qa0.1 qa0.2 dX6_takeGood_50 ?_
  refine r_nameM h (fun M_7 h => ?_)
  refine r_aload_n hC 0 dX6_takeGood_53 rfl rfl ?_
  refine r_iload_n hC 1 dX6_takeGood_54 rfl rfl ?_
  refine r_callV (As := [vI x1]) (st := []) hC cw_X6_108 rfl qa0.1 qa0.2 rfl rfl (Nat.le_of_ble_eq_true rfl) ⟨Nat.le_of_ble_eq_true rfl, Nat.le_of_ble_eq_true rfl⟩ ⟨Nat.le_of_ble_eq_true rfl, Nat.le_of_ble_eq_true rfl⟩ dX6_takeGood_55 (fun hk => mX6_keepFound Y hF _ _ _ _ _ (kqO hk qa0) h) (fun v M_8 h => ?_)
  obtain ⟨rfl, h⟩ := h
  refine r_goto hC 85 dX6_takeGood_58 (by decide) ?_
  exact r_vret hC (Nat.zero_le _) (Nat.zero_le _) dX6_takeGood_85 ⟨rfl, h⟩
set_option maxHeartbeats 4000000 in
set_option maxRecDepth 100000 in
theorem mX6_takeGood (Y : Yx) (hF : Y.2.2.2.2 = true) (l : Launch) (a0 : Nat) (x1 : Int) (M0 : Mem) (Q : Mem → Prop) (qa0 : 0 < a0 ∧ M0 0 a0 = kO 6) (h : wX6_takeGood a0 x1 M0 Q) : CT Y l yX6_takeGood cX6_takeGood 4 none rmX6_takeGood [vR Y.1 a0, vI x1] M0 (QV Q) := by
  unfold wX6_takeGood at h
  refine ct_intro (by decide) (Nat.le_of_ble_eq_true rfl) ?_
  intro X hXl hC hL0
  have hL := hL0 hF
  change OKX X Y RX6 cX6_takeGood 4 none rmX6_takeGood at hC
  change WW X Y 4 rmX6_takeGood (QV Q) M0 0 0 0 [(0, vR Y.1 a0), (1, vI x1)] [] M0
  refine r_aload_n hC 0 dX6_takeGood_0 rfl rfl ?_
  have q_1 : 0 < (a0 - 12) ∧ M0 0 ((a0 - 12)) = kO 10 := lay_fs (a := a0) hL qa0 fm_6_1
  refine r_getRs (a' := (a0 - 12)) hC fg_X6_33 rfl hF fm_6_1 qa0.1 qa0.2 rfl dX6_takeGood_1 ?_
  refine r_callV (As := []) (st := []) hC cw_X6_100 rfl q_1.1 q_1.2 rfl rfl (Nat.le_of_ble_eq_true rfl) ⟨Nat.le_of_ble_eq_true rfl, Nat.le_of_ble_eq_true rfl⟩ ⟨Nat.le_of_ble_eq_true rfl, Nat.le_of_ble_eq_true rfl⟩ dX6_takeGood_4 (fun hk => mX10_total Y hF _ _ _ _ (kqO hk q_1) h) (fun v M_2 h => ?_)
  obtain ⟨r_3, rfl, h⟩ := h
  refine r_lstore_n (lv' := [(2, vL r_3), (0, vR Y.1 a0), (1, vI x1)]) hC dX6_takeGood_7 rfl (by decide) rfl ?_
  refine r_aload_n hC 1 dX6_takeGood_8 rfl rfl ?_
  refine r_dup hC rfl dX6_takeGood_9 ?_
  refine r_getI hC fg_X6_44 rfl qa0.1 qa0.2 dX6_takeGood_10 ?_
  refine r_iconst hC dX6_takeGood_13 ?_
  refine r_iadd hC dX6_takeGood_14 ?_
  refine r_putI hC fp_X6_44 rfl qa0.1 qa0.2 dX6_takeGood_15 ?_
  refine r_nameM h (fun M_4 h => ?_)
  refine r_aload_n hC 1 dX6_takeGood_18 rfl rfl ?_
  refine r_getI hC fg_X6_44 rfl qa0.1 qa0.2 dX6_takeGood_19 ?_
  refine r_iconst hC dX6_takeGood_22 ?_
  refine r_icmp_eq hC 35 rfl bmL_1 dX6_takeGood_23 (by decide) (fun cq => ?_) (fun cq => ?_)
  · replace h := h.1 cq
    refine r_sub [1, 2, 0] rfl ?_
    exact tX6_takeGood_J35 hC hF hL Q   _ _ _ qa0  _ h
  · replace h := h.2 cq
    refine r_lload_n hC 0 dX6_takeGood_26 rfl rfl ?_
    refine r_aload_n hC 1 dX6_takeGood_27 rfl rfl ?_
    refine r_getL hC fg_X6_104 rfl qa0.1 qa0.2 dX6_takeGood_28 ?_
    refine r_lcmp hC dX6_takeGood_31 ?_
    refine r_if_le hC 61 rfl dX6_takeGood_32 (by decide) (fun cq => ?_) (fun cq => ?_)
    · replace h := h.1 cq
      refine r_lload_n hC 0 dX6_takeGood_61 rfl rfl ?_
      refine r_aload_n hC 1 dX6_takeGood_62 rfl rfl ?_
      refine r_getL hC fg_X6_104 rfl qa0.1 qa0.2 dX6_takeGood_63 ?_
      refine r_lcmp hC dX6_takeGood_66 ?_
      refine r_if_ne hC 85 rfl dX6_takeGood_67 (by decide) (fun cq => ?_) (fun cq => ?_)
      · replace h := h.2 cq
        exact r_vret hC (Nat.zero_le _) (Nat.zero_le _) dX6_takeGood_85 ⟨rfl, h⟩
      · replace h := h.1 cq
        refine r_aload_n hC 1 dX6_takeGood_70 rfl rfl ?_
        refine r_dup hC rfl dX6_takeGood_71 ?_
        refine r_getI hC fg_X6_47 rfl qa0.1 qa0.2 dX6_takeGood_72 ?_
        refine r_iconst hC dX6_takeGood_75 ?_
        refine r_iadd hC dX6_takeGood_76 ?_
        refine r_putI hC fp_X6_47 rfl qa0.1 qa0.2 dX6_takeGood_77 ?_
        refine r_nameM h (fun M_9 h => ?_)
        refine r_aload_n hC 1 dX6_takeGood_80 rfl rfl ?_
        refine r_iload_n hC 2 dX6_takeGood_81 rfl rfl ?_
        refine r_callV (As := [vI x1]) (st := []) hC cw_X6_111 rfl qa0.1 qa0.2 rfl rfl (Nat.le_of_ble_eq_true rfl) ⟨Nat.le_of_ble_eq_true rfl, Nat.le_of_ble_eq_true rfl⟩ ⟨Nat.le_of_ble_eq_true rfl, Nat.le_of_ble_eq_true rfl⟩ dX6_takeGood_82 (fun hk => mX6_takeEqual Y hF _ _ _ _ _ (kqO hk qa0) h) (fun v M_10 h => ?_)
        obtain ⟨rfl, h⟩ := h
        exact r_vret hC (Nat.zero_le _) (Nat.zero_le _) dX6_takeGood_85 ⟨rfl, h⟩
    · replace h := h.2 cq
      refine r_sub [1, 2, 0] rfl ?_
      exact tX6_takeGood_J35 hC hF hL Q   _ _ _ qa0  _ h
theorem dX10_tire_0 : dec cX10_tire 0 1 1 (.iload_n 1) := ⟨by decide +kernel, rfl⟩
theorem dX10_tire_1 : dec cX10_tire 1 2 3 (.bipush 8) := ⟨by decide +kernel, rfl⟩
theorem dX10_tire_3 : dec cX10_tire 3 1 4 (.imul) := ⟨by decide +kernel, rfl⟩
theorem dX10_tire_4 : dec cX10_tire 4 2 6 (.istore 4) := ⟨by decide +kernel, rfl⟩
theorem dX10_tire_6 : dec cX10_tire 6 1 7 (.aload_n 0) := ⟨by decide +kernel, rfl⟩
theorem dX10_tire_7 : dec cX10_tire 7 3 10 (.getfield 30) := ⟨by decide +kernel, rfl⟩
theorem dX10_tire_10 : dec cX10_tire 10 1 11 (.iload_n 1) := ⟨by decide +kernel, rfl⟩
theorem dX10_tire_11 : dec cX10_tire 11 1 12 (.iaload) := ⟨by decide +kernel, rfl⟩
theorem dX10_tire_12 : dec cX10_tire 12 2 14 (.istore 5) := ⟨by decide +kernel, rfl⟩
theorem dX10_tire_14 : dec cX10_tire 14 1 15 (.iconst 0) := ⟨by decide +kernel, rfl⟩
theorem dX10_tire_15 : dec cX10_tire 15 2 17 (.istore 6) := ⟨by decide +kernel, rfl⟩
theorem dX10_tire_17 : dec cX10_tire 17 2 19 (.iload 6) := ⟨by decide +kernel, rfl⟩
theorem dX10_tire_19 : dec cX10_tire 19 2 21 (.bipush 8) := ⟨by decide +kernel, rfl⟩
theorem dX10_tire_21 : dec cX10_tire 21 3 24 (.if_icmp .ge 104) := ⟨by decide +kernel, rfl⟩
theorem dX10_tire_24 : dec cX10_tire 24 1 25 (.aload_n 2) := ⟨by decide +kernel, rfl⟩
theorem dX10_tire_25 : dec cX10_tire 25 3 28 (.getfield 130) := ⟨by decide +kernel, rfl⟩
theorem dX10_tire_28 : dec cX10_tire 28 2 30 (.iload 6) := ⟨by decide +kernel, rfl⟩
theorem dX10_tire_30 : dec cX10_tire 30 3 33 (.invokestatic 133) := ⟨by decide +kernel, rfl⟩
theorem dX10_tire_33 : dec cX10_tire 33 2 35 (.istore 7) := ⟨by decide +kernel, rfl⟩
theorem dX10_tire_35 : dec cX10_tire 35 2 37 (.iload 7) := ⟨by decide +kernel, rfl⟩
theorem dX10_tire_37 : dec cX10_tire 37 3 40 (.ifCond .eq 7) := ⟨by decide +kernel, rfl⟩
theorem dX10_tire_40 : dec cX10_tire 40 1 41 (.iload_n 3) := ⟨by decide +kernel, rfl⟩
theorem dX10_tire_41 : dec cX10_tire 41 3 44 (.goto 9) := ⟨by decide +kernel, rfl⟩
theorem dX10_tire_44 : dec cX10_tire 44 1 45 (.iload_n 3) := ⟨by decide +kernel, rfl⟩
theorem dX10_tire_45 : dec cX10_tire 45 1 46 (.aload_n 2) := ⟨by decide +kernel, rfl⟩
theorem dX10_tire_46 : dec cX10_tire 46 3 49 (.getfield 112) := ⟨by decide +kernel, rfl⟩
theorem dX10_tire_49 : dec cX10_tire 49 1 50 (.iadd) := ⟨by decide +kernel, rfl⟩
theorem dX10_tire_50 : dec cX10_tire 50 2 52 (.istore 8) := ⟨by decide +kernel, rfl⟩
theorem dX10_tire_52 : dec cX10_tire 52 1 53 (.iconst 0) := ⟨by decide +kernel, rfl⟩
theorem dX10_tire_53 : dec cX10_tire 53 1 54 (.aload_n 0) := ⟨by decide +kernel, rfl⟩
theorem dX10_tire_54 : dec cX10_tire 54 3 57 (.getfield 33) := ⟨by decide +kernel, rfl⟩
theorem dX10_tire_57 : dec cX10_tire 57 2 59 (.iload 4) := ⟨by decide +kernel, rfl⟩
theorem dX10_tire_59 : dec cX10_tire 59 2 61 (.iload 6) := ⟨by decide +kernel, rfl⟩
theorem dX10_tire_61 : dec cX10_tire 61 1 62 (.iadd) := ⟨by decide +kernel, rfl⟩
theorem dX10_tire_62 : dec cX10_tire 62 1 63 (.iaload) := ⟨by decide +kernel, rfl⟩
theorem dX10_tire_63 : dec cX10_tire 63 2 65 (.iload 8) := ⟨by decide +kernel, rfl⟩
theorem dX10_tire_65 : dec cX10_tire 65 1 66 (.aload_n 0) := ⟨by decide +kernel, rfl⟩
theorem dX10_tire_66 : dec cX10_tire 66 3 69 (.getfield 45) := ⟨by decide +kernel, rfl⟩
theorem dX10_tire_69 : dec cX10_tire 69 3 72 (.getfield 109) := ⟨by decide +kernel, rfl⟩
theorem dX10_tire_72 : dec cX10_tire 72 1 73 (.iconst 1) := ⟨by decide +kernel, rfl⟩
theorem dX10_tire_73 : dec cX10_tire 73 1 74 (.iaload) := ⟨by decide +kernel, rfl⟩
theorem dX10_tire_74 : dec cX10_tire 74 1 75 (.imul) := ⟨by decide +kernel, rfl⟩
theorem dX10_tire_75 : dec cX10_tire 75 1 76 (.isub) := ⟨by decide +kernel, rfl⟩
theorem dX10_tire_76 : dec cX10_tire 76 3 79 (.invokestatic 55) := ⟨by decide +kernel, rfl⟩
theorem dX10_tire_79 : dec cX10_tire 79 2 81 (.istore 9) := ⟨by decide +kernel, rfl⟩
theorem dX10_tire_81 : dec cX10_tire 81 2 83 (.iload 7) := ⟨by decide +kernel, rfl⟩
theorem dX10_tire_83 : dec cX10_tire 83 3 86 (.ifCond .eq 12) := ⟨by decide +kernel, rfl⟩
theorem dX10_tire_86 : dec cX10_tire 86 2 88 (.iload 9) := ⟨by decide +kernel, rfl⟩
theorem dX10_tire_88 : dec cX10_tire 88 1 89 (.aload_n 2) := ⟨by decide +kernel, rfl⟩
theorem dX10_tire_89 : dec cX10_tire 89 3 92 (.getfield 137) := ⟨by decide +kernel, rfl⟩
theorem dX10_tire_92 : dec cX10_tire 92 1 93 (.iadd) := ⟨by decide +kernel, rfl⟩
theorem dX10_tire_93 : dec cX10_tire 93 2 95 (.istore 9) := ⟨by decide +kernel, rfl⟩
theorem dX10_tire_95 : dec cX10_tire 95 1 96 (.aload_n 0) := ⟨by decide +kernel, rfl⟩
theorem dX10_tire_96 : dec cX10_tire 96 3 99 (.getfield 33) := ⟨by decide +kernel, rfl⟩
theorem dX10_tire_99 : dec cX10_tire 99 2 101 (.iload 4) := ⟨by decide +kernel, rfl⟩
theorem dX10_tire_101 : dec cX10_tire 101 2 103 (.bipush 8) := ⟨by decide +kernel, rfl⟩
theorem dX10_tire_103 : dec cX10_tire 103 1 104 (.iadd) := ⟨by decide +kernel, rfl⟩
theorem dX10_tire_104 : dec cX10_tire 104 2 106 (.iload 6) := ⟨by decide +kernel, rfl⟩
theorem dX10_tire_106 : dec cX10_tire 106 1 107 (.iadd) := ⟨by decide +kernel, rfl⟩
theorem dX10_tire_107 : dec cX10_tire 107 2 109 (.iload 9) := ⟨by decide +kernel, rfl⟩
theorem dX10_tire_109 : dec cX10_tire 109 1 110 (.iastore) := ⟨by decide +kernel, rfl⟩
theorem dX10_tire_110 : dec cX10_tire 110 2 112 (.iload 5) := ⟨by decide +kernel, rfl⟩
theorem dX10_tire_112 : dec cX10_tire 112 2 114 (.iload 9) := ⟨by decide +kernel, rfl⟩
theorem dX10_tire_114 : dec cX10_tire 114 3 117 (.invokestatic 55) := ⟨by decide +kernel, rfl⟩
theorem dX10_tire_117 : dec cX10_tire 117 2 119 (.istore 5) := ⟨by decide +kernel, rfl⟩
theorem dX10_tire_119 : dec cX10_tire 119 3 122 (.iinc 6 1) := ⟨by decide +kernel, rfl⟩
theorem dX10_tire_122 : dec cX10_tire 122 3 125 (.goto (-105)) := ⟨by decide +kernel, rfl⟩
theorem dX10_tire_125 : dec cX10_tire 125 1 126 (.aload_n 0) := ⟨by decide +kernel, rfl⟩
theorem dX10_tire_126 : dec cX10_tire 126 3 129 (.getfield 30) := ⟨by decide +kernel, rfl⟩
theorem dX10_tire_129 : dec cX10_tire 129 1 130 (.iload_n 1) := ⟨by decide +kernel, rfl⟩
theorem dX10_tire_130 : dec cX10_tire 130 1 131 (.iconst 1) := ⟨by decide +kernel, rfl⟩
theorem dX10_tire_131 : dec cX10_tire 131 1 132 (.iadd) := ⟨by decide +kernel, rfl⟩
theorem dX10_tire_132 : dec cX10_tire 132 2 134 (.iload 5) := ⟨by decide +kernel, rfl⟩
theorem dX10_tire_134 : dec cX10_tire 134 1 135 (.iastore) := ⟨by decide +kernel, rfl⟩
theorem dX10_tire_135 : dec cX10_tire 135 1 136 (.return_) := ⟨by decide +kernel, rfl⟩
set_option maxHeartbeats 4000000 in
set_option maxRecDepth 100000 in
theorem tX10_tire_J95 {X : Cx} {Y : Yx} {M0 : Mem} (hC : OKX X Y RX10 cX10_tire 10 none rmX10_tire) (hF : Y.2.2.2.2 = true) (hL : Lay M0) (Q : Mem → Prop) (C17 : Int → Int → Mem → Prop)  (a0 : Nat) (x1 : Int) (a2 : Nat) (x3 : Int) (x4 : Int) (x5 : Int) (x6 : Int) (x9 : Int) (qa0 : 0 < a0 ∧ M0 0 a0 = kO 10) (qa2 : 0 < a2 ∧ M0 0 a2 = kO 3) (hC17 : ∀ (x5 : Int) (x6 : Int) (M : Mem), C17 x5 x6 M → WW X Y 10 rmX10_tire (QV Q) M0 0 0 17 [(0, vR Y.1 a0), (1, vI x1), (2, vR Y.1 a2), (3, vI x3), (4, vI x4), (5, vI x5), (6, vI x6)] [] M) (M : Mem) (h : wX10_tire_J95 Q C17 a0 x1 a2 x3 x4 x5 x6 x9 M) : WW X Y 10 rmX10_tire (QV Q) M0 0 0 95 [(0, vR Y.1 a0), (1, vI x1), (2, vR Y.1 a2), (3, vI x3), (4, vI x4), (5, vI x5), (6, vI x6), (9, vI x9)] [] M := by
  unfold wX10_tire_J95 at h
  refine r_aload_n hC 0 dX10_tire_95 rfl rfl ?_
  have q_13 : 0 < a0 + 8 ∧ M0 0 (a0 + 8) = kA 0 104 := lay_f0 (a := a0) hL qa0 fm_10_11
  refine r_getR0 (a' := a0 + 8) hC fg_X10_33 rfl hF fm_10_11 qa0.1 qa0.2 rfl dX10_tire_96 ?_
  refine r_iload hC 4 dX10_tire_99 rfl ?_
  refine r_bipush hC (by decide +kernel) dX10_tire_101 ?_
  refine r_iadd hC dX10_tire_103 ?_
  refine r_iload hC 6 dX10_tire_104 rfl ?_
  refine r_iadd hC dX10_tire_106 ?_
  refine r_iload hC 7 dX10_tire_107 rfl ?_
  obtain ⟨i_14, h⟩ := h
  refine r_iast hC i_14 q_13.1 q_13.2 (by decide) dX10_tire_109 ?_
  refine r_nameM h (fun M_15 h => ?_)
  refine r_iload hC 5 dX10_tire_110 rfl ?_
  refine r_iload hC 7 dX10_tire_112 rfl ?_
  refine r_callS (As := [vI x5, vI x9]) (st := []) hC cw_X10_55 rfl rfl (Nat.le_of_ble_eq_true rfl) ⟨Nat.le_of_ble_eq_true rfl, Nat.le_of_ble_eq_true rfl⟩ ⟨Nat.le_of_ble_eq_true rfl, Nat.le_of_ble_eq_true rfl⟩ dX10_tire_114 (fun hk => mJ9_max_7cf53 Y hF _ _ _ _ _  h) (fun v M_16 h => ?_)
  obtain ⟨r_17, rfl, h⟩ := h
  refine r_istore (lv' := [(5, vI r_17), (0, vR Y.1 a0), (1, vI x1), (2, vR Y.1 a2), (3, vI x3), (4, vI x4), (6, vI x6), (9, vI x9)]) hC dX10_tire_117 (by decide) rfl ?_
  refine let_elim h (fun x6_18 e_19 h => ?_)
  refine r_iinc (lv' := [(6, vI x6_18), (5, vI r_17), (0, vR Y.1 a0), (1, vI x1), (2, vR Y.1 a2), (3, vI x3), (4, vI x4), (9, vI x9)]) hC 6 dX10_tire_119 rfl (by decide) e_19 rfl ?_
  refine r_goto hC 17 dX10_tire_122 (by decide) ?_
  refine r_sub [2, 3, 4, 5, 6, 1, 0] rfl ?_
  exact hC17 _ _ _ h
set_option maxHeartbeats 4000000 in
set_option maxRecDepth 100000 in
theorem tX10_tire_J50 {X : Cx} {Y : Yx} {M0 : Mem} (hC : OKX X Y RX10 cX10_tire 10 none rmX10_tire) (hF : Y.2.2.2.2 = true) (hL : Lay M0) (Q : Mem → Prop) (C17 : Int → Int → Mem → Prop)  (a0 : Nat) (x1 : Int) (a2 : Nat) (x3 : Int) (x4 : Int) (x5 : Int) (x6 : Int) (x7 : Int) (xs0 : Int) (qa0 : 0 < a0 ∧ M0 0 a0 = kO 10) (qa2 : 0 < a2 ∧ M0 0 a2 = kO 3) (hC17 : ∀ (x5 : Int) (x6 : Int) (M : Mem), C17 x5 x6 M → WW X Y 10 rmX10_tire (QV Q) M0 0 0 17 [(0, vR Y.1 a0), (1, vI x1), (2, vR Y.1 a2), (3, vI x3), (4, vI x4), (5, vI x5), (6, vI x6)] [] M) (M : Mem) (h : wX10_tire_J50 Q C17 a0 x1 a2 x3 x4 x5 x6 x7 xs0 M) : WW X Y 10 rmX10_tire (QV Q) M0 0 0 50 [(0, vR Y.1 a0), (1, vI x1), (2, vR Y.1 a2), (3, vI x3), (4, vI x4), (5, vI x5), (6, vI x6), (7, vI x7)] [vI xs0] M := by
  unfold wX10_tire_J50 at h
  refine r_istore (lv' := [(8, vI xs0), (0, vR Y.1 a0), (1, vI x1), (2, vR Y.1 a2), (3, vI x3), (4, vI x4), (5, vI x5), (6, vI x6), (7, vI x7)]) hC dX10_tire_50 (by decide) rfl ?_
  refine r_iconst hC dX10_tire_52 ?_
  refine r_aload_n hC 1 dX10_tire_53 rfl rfl ?_
  have q_7 : 0 < a0 + 8 ∧ M0 0 (a0 + 8) = kA 0 104 := lay_f0 (a := a0) hL qa0 fm_10_11
  refine r_getR0 (a' := a0 + 8) hC fg_X10_33 rfl hF fm_10_11 qa0.1 qa0.2 rfl dX10_tire_54 ?_
  refine r_iload hC 5 dX10_tire_57 rfl ?_
  refine r_iload hC 7 dX10_tire_59 rfl ?_
  refine r_iadd hC dX10_tire_61 ?_
  obtain ⟨i_8, h⟩ := h
  refine r_iald hC i_8 q_7.1 q_7.2 (by decide) dX10_tire_62 ?_
  refine r_iload hC 0 dX10_tire_63 rfl ?_
  refine r_aload_n hC 1 dX10_tire_65 rfl rfl ?_
  have q_9 : 0 < (a0 - 89) ∧ M0 0 ((a0 - 89)) = kO 0 := lay_fs (a := a0) hL qa0 fm_10_0
  refine r_getRs (a' := (a0 - 89)) hC fg_X10_45 rfl hF fm_10_0 qa0.1 qa0.2 rfl dX10_tire_66 ?_
  have q_10 : 0 < (a0 - 89) + 2 ∧ M0 0 ((a0 - 89) + 2) = kA 0 4 := lay_f0 (a := (a0 - 89)) hL q_9 fm_0_2
  refine r_getR0 (a' := (a0 - 89) + 2) hC fg_X10_109 rfl hF fm_0_2 q_9.1 q_9.2 rfl dX10_tire_69 ?_
  refine r_iconst hC dX10_tire_72 ?_
  refine r_iald hC ⟨by decide +kernel, by decide +kernel⟩ q_10.1 q_10.2 (by decide) dX10_tire_73 ?_
  refine r_imul hC dX10_tire_74 ?_
  refine r_isub hC dX10_tire_75 ?_
  refine r_callS (As := [vI 0, vI ((rd M (a0 + 8) (x4 + x6)) - (xs0 * (rd M ((a0 - 89) + 2) 1)))]) (st := []) hC cw_X10_55 rfl rfl (Nat.le_of_ble_eq_true rfl) ⟨Nat.le_of_ble_eq_true rfl, Nat.le_of_ble_eq_true rfl⟩ ⟨Nat.le_of_ble_eq_true rfl, Nat.le_of_ble_eq_true rfl⟩ dX10_tire_76 (fun hk => mJ9_max_7cf53 Y hF _ _ _ _ _  h) (fun v M_11 h => ?_)
  obtain ⟨r_12, rfl, h⟩ := h
  refine r_istore (lv' := [(9, vI r_12), (8, vI xs0), (0, vR Y.1 a0), (1, vI x1), (2, vR Y.1 a2), (3, vI x3), (4, vI x4), (5, vI x5), (6, vI x6), (7, vI x7)]) hC dX10_tire_79 (by decide) rfl ?_
  refine r_iload hC 9 dX10_tire_81 rfl ?_
  refine r_if_eq hC 95 rfl dX10_tire_83 (by decide) (fun cq => ?_) (fun cq => ?_)
  · replace h := h.1 cq
    refine r_sub [2, 3, 4, 5, 6, 7, 8, 0] rfl ?_
    exact tX10_tire_J95 hC hF hL Q _  _ _ _ _ _ _ _ _ qa0 qa2 hC17 _ h
  · replace h := h.2 cq
    refine r_iload hC 0 dX10_tire_86 rfl ?_
    refine r_aload_n hC 4 dX10_tire_88 rfl rfl ?_
    refine r_getI hC fg_X10_137 rfl qa2.1 qa2.2 dX10_tire_89 ?_
    refine r_iadd hC dX10_tire_92 ?_
    refine r_nameI h (fun x9_20 h => ?_)
    refine r_istore (lv' := [(9, vI x9_20), (8, vI xs0), (0, vR Y.1 a0), (1, vI x1), (2, vR Y.1 a2), (3, vI x3), (4, vI x4), (5, vI x5), (6, vI x6), (7, vI x7)]) hC dX10_tire_93 (by decide) rfl ?_
    refine r_sub [2, 3, 4, 5, 6, 7, 8, 0] rfl ?_
    exact tX10_tire_J95 hC hF hL Q _  _ _ _ _ _ _ _ _ qa0 qa2 hC17 _ h
set_option maxHeartbeats 4000000 in
set_option maxRecDepth 100000 in
theorem tX10_tire_L17 {X : Cx} {Y : Yx} {M0 : Mem} (hC : OKX X Y RX10 cX10_tire 10 none rmX10_tire) (hF : Y.2.2.2.2 = true) (hL : Lay M0) (Q : Mem → Prop) (E125 : Int → Mem → Prop) (a0 : Nat) (x1 : Int) (a2 : Nat) (x3 : Int) (x4 : Int) (qa0 : 0 < a0 ∧ M0 0 a0 = kO 10) (qa2 : 0 < a2 ∧ M0 0 a2 = kO 3) (hE125 : ∀ (x5 : Int) (M : Mem), E125 x5 M → WW X Y 10 rmX10_tire (QV Q) M0 0 0 125 [(0, vR Y.1 a0), (1, vI x1), (5, vI x5)] [] M) : ∀ (N : Nat) (x5 : Int) (x6 : Int) (M : Mem) (_ : wX10_tire_L17 Q E125 a0 x1 a2 x3 x4 N x5 x6 M), WW X Y 10 rmX10_tire (QV Q) M0 0 0 17 [(0, vR Y.1 a0), (1, vI x1), (2, vR Y.1 a2), (3, vI x3), (4, vI x4), (5, vI x5), (6, vI x6)] [] M := by
  intro N
  induction N with
  | zero =>
    intro x5 x6 M h
    exact h.elim
  | succ N ih =>
    intro x5 x6 M h
    unfold wX10_tire_L17 at h
    refine r_iload hC 6 dX10_tire_17 rfl ?_
    refine r_bipush hC (by decide +kernel) dX10_tire_19 ?_
    refine r_icmp_ge hC 125 rfl bmL_8 dX10_tire_21 (by decide) (fun cq => ?_) (fun cq => ?_)
    · replace h := h.1 cq
      refine r_sub [0, 1, 5] rfl ?_
      exact hE125 _ _ h
    · replace h := h.2 cq
      refine r_aload_n hC 2 dX10_tire_24 rfl rfl ?_
      refine r_getI hC fg_X10_130 rfl qa2.1 qa2.2 dX10_tire_25 ?_
      refine r_iload hC 6 dX10_tire_28 rfl ?_
      refine r_callN (As := [vI (M a2 3), vI x6]) (st := []) hC cw_X10_133 rfl rfl (Nat.le_of_ble_eq_true rfl) ⟨Nat.le_of_ble_eq_true rfl, Nat.le_of_ble_eq_true rfl⟩ ⟨Nat.le_of_ble_eq_true rfl, Nat.le_of_ble_eq_true rfl⟩ dX10_tire_30 (fun hk => mX11_isIn Y hF _ _ _ _ _  h) (fun v M_5 h => ?_)
      obtain ⟨r_6, rfl, h⟩ := h
      refine r_istore (lv' := [(7, vI r_6), (0, vR Y.1 a0), (1, vI x1), (2, vR Y.1 a2), (3, vI x3), (4, vI x4), (5, vI x5), (6, vI x6)]) hC dX10_tire_33 (by decide) rfl ?_
      refine r_iload hC 0 dX10_tire_35 rfl ?_
      refine r_if_eq hC 44 rfl dX10_tire_37 (by decide) (fun cq => ?_) (fun cq => ?_)
      · replace h := h.1 cq
        refine r_iload_n hC 4 dX10_tire_44 rfl rfl ?_
        refine r_aload_n hC 3 dX10_tire_45 rfl rfl ?_
        refine r_getI hC fg_X10_112 rfl qa2.1 qa2.2 dX10_tire_46 ?_
        refine r_iadd hC dX10_tire_49 ?_
        refine r_sub [1, 2, 3, 4, 5, 6, 7, 0] rfl ?_
        exact tX10_tire_J50 hC hF hL Q _  _ _ _ _ _ _ _ _ _ qa0 qa2 ih _ h
      · replace h := h.2 cq
        refine r_iload_n hC 4 dX10_tire_40 rfl rfl ?_
        refine r_goto hC 50 dX10_tire_41 (by decide) ?_
        refine r_sub [1, 2, 3, 4, 5, 6, 7, 0] rfl ?_
        exact tX10_tire_J50 hC hF hL Q _  _ _ _ _ _ _ _ _ _ qa0 qa2 ih _ h
set_option maxHeartbeats 4000000 in
set_option maxRecDepth 100000 in
theorem mX10_tire (Y : Yx) (hF : Y.2.2.2.2 = true) (l : Launch) (a0 : Nat) (x1 : Int) (a2 : Nat) (x3 : Int) (M0 : Mem) (Q : Mem → Prop) (qa0 : 0 < a0 ∧ M0 0 a0 = kO 10) (qa2 : 0 < a2 ∧ M0 0 a2 = kO 3) (h : wX10_tire a0 x1 a2 x3 M0 Q) : CT Y l yX10_tire cX10_tire 10 none rmX10_tire [vR Y.1 a0, vI x1, vR Y.1 a2, vI x3] M0 (QV Q) := by
  unfold wX10_tire at h
  refine ct_intro (by decide) (Nat.le_of_ble_eq_true rfl) ?_
  intro X hXl hC hL0
  have hL := hL0 hF
  change OKX X Y RX10 cX10_tire 10 none rmX10_tire at hC
  change WW X Y 10 rmX10_tire (QV Q) M0 0 0 0 [(0, vR Y.1 a0), (1, vI x1), (2, vR Y.1 a2), (3, vI x3)] [] M0
  refine r_iload_n hC 1 dX10_tire_0 rfl rfl ?_
  refine r_bipush hC (by decide +kernel) dX10_tire_1 ?_
  refine r_imul hC dX10_tire_3 ?_
  refine r_nameI h (fun x4_1 h => ?_)
  refine r_istore (lv' := [(4, vI x4_1), (0, vR Y.1 a0), (1, vI x1), (2, vR Y.1 a2), (3, vI x3)]) hC dX10_tire_4 (by decide) rfl ?_
  refine r_aload_n hC 1 dX10_tire_6 rfl rfl ?_
  have q_2 : 0 < a0 + 7 ∧ M0 0 (a0 + 7) = kA 0 13 := lay_f0 (a := a0) hL qa0 fm_10_10
  refine r_getR0 (a' := a0 + 7) hC fg_X10_30 rfl hF fm_10_10 qa0.1 qa0.2 rfl dX10_tire_7 ?_
  refine r_iload_n hC 2 dX10_tire_10 rfl rfl ?_
  obtain ⟨i_3, h⟩ := h
  refine r_iald hC i_3 q_2.1 q_2.2 (by decide) dX10_tire_11 ?_
  refine r_nameI h (fun x5_4 h => ?_)
  refine r_istore (lv' := [(5, vI x5_4), (4, vI x4_1), (0, vR Y.1 a0), (1, vI x1), (2, vR Y.1 a2), (3, vI x3)]) hC dX10_tire_12 (by decide) rfl ?_
  refine r_iconst hC dX10_tire_14 ?_
  refine r_istore (lv' := [(6, vI 0), (5, vI x5_4), (4, vI x4_1), (0, vR Y.1 a0), (1, vI x1), (2, vR Y.1 a2), (3, vI x3)]) hC dX10_tire_15 (by decide) rfl ?_
  refine r_sub [3, 4, 5, 6, 2, 1, 0] rfl ?_
  obtain ⟨N_26, h⟩ := h
  refine tX10_tire_L17 hC hF hL Q _ _ _ _ _ _ qa0 qa2 ?_ N_26 _ _ _ h
  · intro x5_21 M_22 h
    refine r_aload_n hC 0 dX10_tire_125 rfl rfl ?_
    have q_23 : 0 < a0 + 7 ∧ M0 0 (a0 + 7) = kA 0 13 := lay_f0 (a := a0) hL qa0 fm_10_10
    refine r_getR0 (a' := a0 + 7) hC fg_X10_30 rfl hF fm_10_10 qa0.1 qa0.2 rfl dX10_tire_126 ?_
    refine r_iload_n hC 1 dX10_tire_129 rfl rfl ?_
    refine r_iconst hC dX10_tire_130 ?_
    refine r_iadd hC dX10_tire_131 ?_
    refine r_iload hC 2 dX10_tire_132 rfl ?_
    obtain ⟨i_24, h⟩ := h
    refine r_iast hC i_24 q_23.1 q_23.2 (by decide) dX10_tire_134 ?_
    refine r_nameM h (fun M_25 h => ?_)
    exact r_vret hC (Nat.zero_le _) (Nat.zero_le _) dX10_tire_135 ⟨rfl, h⟩
