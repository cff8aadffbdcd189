theorem dX10_namesPlace_0 : dec cX10_namesPlace 0 1 1 (.iload_n 1) := ⟨by decide +kernel, rfl⟩
theorem dX10_namesPlace_1 : dec cX10_namesPlace 1 1 2 (.aload_n 0) := ⟨by decide +kernel, rfl⟩
theorem dX10_namesPlace_2 : dec cX10_namesPlace 2 3 5 (.getfield 58) := ⟨by decide +kernel, rfl⟩
theorem dX10_namesPlace_5 : dec cX10_namesPlace 5 1 6 (.iconst 1) := ⟨by decide +kernel, rfl⟩
theorem dX10_namesPlace_6 : dec cX10_namesPlace 6 1 7 (.isub) := ⟨by decide +kernel, rfl⟩
theorem dX10_namesPlace_7 : dec cX10_namesPlace 7 3 10 (.if_icmp .eq 13) := ⟨by decide +kernel, rfl⟩
theorem dX10_namesPlace_10 : dec cX10_namesPlace 10 1 11 (.iload_n 1) := ⟨by decide +kernel, rfl⟩
theorem dX10_namesPlace_11 : dec cX10_namesPlace 11 1 12 (.aload_n 0) := ⟨by decide +kernel, rfl⟩
theorem dX10_namesPlace_12 : dec cX10_namesPlace 12 3 15 (.getfield 62) := ⟨by decide +kernel, rfl⟩
theorem dX10_namesPlace_15 : dec cX10_namesPlace 15 1 16 (.iconst 1) := ⟨by decide +kernel, rfl⟩
theorem dX10_namesPlace_16 : dec cX10_namesPlace 16 1 17 (.isub) := ⟨by decide +kernel, rfl⟩
theorem dX10_namesPlace_17 : dec cX10_namesPlace 17 3 20 (.if_icmp .ne 7) := ⟨by decide +kernel, rfl⟩
theorem dX10_namesPlace_20 : dec cX10_namesPlace 20 1 21 (.iconst 1) := ⟨by decide +kernel, rfl⟩
theorem dX10_namesPlace_21 : dec cX10_namesPlace 21 3 24 (.goto 4) := ⟨by decide +kernel, rfl⟩
theorem dX10_namesPlace_24 : dec cX10_namesPlace 24 1 25 (.iconst 0) := ⟨by decide +kernel, rfl⟩
theorem dX10_namesPlace_25 : dec cX10_namesPlace 25 1 26 (.istore_n 2) := ⟨by decide +kernel, rfl⟩
theorem dX10_namesPlace_26 : dec cX10_namesPlace 26 1 27 (.iload_n 1) := ⟨by decide +kernel, rfl⟩
theorem dX10_namesPlace_27 : dec cX10_namesPlace 27 3 30 (.ifCond .eq 11) := ⟨by decide +kernel, rfl⟩
theorem dX10_namesPlace_30 : dec cX10_namesPlace 30 1 31 (.iload_n 1) := ⟨by decide +kernel, rfl⟩
theorem dX10_namesPlace_31 : dec cX10_namesPlace 31 1 32 (.aload_n 0) := ⟨by decide +kernel, rfl⟩
theorem dX10_namesPlace_32 : dec cX10_namesPlace 32 3 35 (.getfield 62) := ⟨by decide +kernel, rfl⟩
theorem dX10_namesPlace_35 : dec cX10_namesPlace 35 3 38 (.if_icmp .ne 7) := ⟨by decide +kernel, rfl⟩
theorem dX10_namesPlace_38 : dec cX10_namesPlace 38 1 39 (.iconst 1) := ⟨by decide +kernel, rfl⟩
theorem dX10_namesPlace_39 : dec cX10_namesPlace 39 3 42 (.goto 4) := ⟨by decide +kernel, rfl⟩
theorem dX10_namesPlace_42 : dec cX10_namesPlace 42 1 43 (.iconst 0) := ⟨by decide +kernel, rfl⟩
theorem dX10_namesPlace_43 : dec cX10_namesPlace 43 1 44 (.istore_n 3) := ⟨by decide +kernel, rfl⟩
theorem dX10_namesPlace_44 : dec cX10_namesPlace 44 1 45 (.aload_n 0) := ⟨by decide +kernel, rfl⟩
theorem dX10_namesPlace_45 : dec cX10_namesPlace 45 3 48 (.getfield 39) := ⟨by decide +kernel, rfl⟩
theorem dX10_namesPlace_48 : dec cX10_namesPlace 48 1 49 (.iconst 0) := ⟨by decide +kernel, rfl⟩
theorem dX10_namesPlace_49 : dec cX10_namesPlace 49 1 50 (.iload_n 1) := ⟨by decide +kernel, rfl⟩
theorem dX10_namesPlace_50 : dec cX10_namesPlace 50 1 51 (.iastore) := ⟨by decide +kernel, rfl⟩
theorem dX10_namesPlace_51 : dec cX10_namesPlace 51 1 52 (.aload_n 0) := ⟨by decide +kernel, rfl⟩
theorem dX10_namesPlace_52 : dec cX10_namesPlace 52 3 55 (.getfield 39) := ⟨by decide +kernel, rfl⟩
theorem dX10_namesPlace_55 : dec cX10_namesPlace 55 1 56 (.iconst 1) := ⟨by decide +kernel, rfl⟩
theorem dX10_namesPlace_56 : dec cX10_namesPlace 56 1 57 (.aload_n 0) := ⟨by decide +kernel, rfl⟩
theorem dX10_namesPlace_57 : dec cX10_namesPlace 57 3 60 (.getfield 58) := ⟨by decide +kernel, rfl⟩
theorem dX10_namesPlace_60 : dec cX10_namesPlace 60 1 61 (.iastore) := ⟨by decide +kernel, rfl⟩
theorem dX10_namesPlace_61 : dec cX10_namesPlace 61 1 62 (.aload_n 0) := ⟨by decide +kernel, rfl⟩
theorem dX10_namesPlace_62 : dec cX10_namesPlace 62 3 65 (.getfield 39) := ⟨by decide +kernel, rfl⟩
theorem dX10_namesPlace_65 : dec cX10_namesPlace 65 1 66 (.iconst 2) := ⟨by decide +kernel, rfl⟩
theorem dX10_namesPlace_66 : dec cX10_namesPlace 66 1 67 (.aload_n 0) := ⟨by decide +kernel, rfl⟩
theorem dX10_namesPlace_67 : dec cX10_namesPlace 67 3 70 (.getfield 45) := ⟨by decide +kernel, rfl⟩
theorem dX10_namesPlace_70 : dec cX10_namesPlace 70 3 73 (.getfield 100) := ⟨by decide +kernel, rfl⟩
theorem dX10_namesPlace_73 : dec cX10_namesPlace 73 1 74 (.aload_n 0) := ⟨by decide +kernel, rfl⟩
theorem dX10_namesPlace_74 : dec cX10_namesPlace 74 3 77 (.getfield 9) := ⟨by decide +kernel, rfl⟩
theorem dX10_namesPlace_77 : dec cX10_namesPlace 77 1 78 (.iload_n 1) := ⟨by decide +kernel, rfl⟩
theorem dX10_namesPlace_78 : dec cX10_namesPlace 78 1 79 (.iaload) := ⟨by decide +kernel, rfl⟩
theorem dX10_namesPlace_79 : dec cX10_namesPlace 79 1 80 (.aaload) := ⟨by decide +kernel, rfl⟩
theorem dX10_namesPlace_80 : dec cX10_namesPlace 80 3 83 (.getfield 196) := ⟨by decide +kernel, rfl⟩
theorem dX10_namesPlace_83 : dec cX10_namesPlace 83 1 84 (.iastore) := ⟨by decide +kernel, rfl⟩
theorem dX10_namesPlace_84 : dec cX10_namesPlace 84 1 85 (.aload_n 0) := ⟨by decide +kernel, rfl⟩
theorem dX10_namesPlace_85 : dec cX10_namesPlace 85 3 88 (.getfield 39) := ⟨by decide +kernel, rfl⟩
theorem dX10_namesPlace_88 : dec cX10_namesPlace 88 1 89 (.iconst 3) := ⟨by decide +kernel, rfl⟩
theorem dX10_namesPlace_89 : dec cX10_namesPlace 89 1 90 (.iload_n 2) := ⟨by decide +kernel, rfl⟩
theorem dX10_namesPlace_90 : dec cX10_namesPlace 90 3 93 (.ifCond .eq 7) := ⟨by decide +kernel, rfl⟩
theorem dX10_namesPlace_93 : dec cX10_namesPlace 93 1 94 (.iconst 1) := ⟨by decide +kernel, rfl⟩
theorem dX10_namesPlace_94 : dec cX10_namesPlace 94 3 97 (.goto 4) := ⟨by decide +kernel, rfl⟩
theorem dX10_namesPlace_97 : dec cX10_namesPlace 97 1 98 (.iconst 0) := ⟨by decide +kernel, rfl⟩
theorem dX10_namesPlace_98 : dec cX10_namesPlace 98 1 99 (.iastore) := ⟨by decide +kernel, rfl⟩
theorem dX10_namesPlace_99 : dec cX10_namesPlace 99 1 100 (.aload_n 0) := ⟨by decide +kernel, rfl⟩
theorem dX10_namesPlace_100 : dec cX10_namesPlace 100 3 103 (.getfield 39) := ⟨by decide +kernel, rfl⟩
theorem dX10_namesPlace_103 : dec cX10_namesPlace 103 1 104 (.iconst 4) := ⟨by decide +kernel, rfl⟩
theorem dX10_namesPlace_104 : dec cX10_namesPlace 104 1 105 (.iload_n 3) := ⟨by decide +kernel, rfl⟩
theorem dX10_namesPlace_105 : dec cX10_namesPlace 105 3 108 (.ifCond .eq 7) := ⟨by decide +kernel, rfl⟩
theorem dX10_namesPlace_108 : dec cX10_namesPlace 108 1 109 (.iconst 1) := ⟨by decide +kernel, rfl⟩
theorem dX10_namesPlace_109 : dec cX10_namesPlace 109 3 112 (.goto 4) := ⟨by decide +kernel, rfl⟩
theorem dX10_namesPlace_112 : dec cX10_namesPlace 112 1 113 (.iconst 0) := ⟨by decide +kernel, rfl⟩
theorem dX10_namesPlace_113 : dec cX10_namesPlace 113 1 114 (.iastore) := ⟨by decide +kernel, rfl⟩
theorem dX10_namesPlace_114 : dec cX10_namesPlace 114 1 115 (.iconst 1) := ⟨by decide +kernel, rfl⟩
theorem dX10_namesPlace_115 : dec cX10_namesPlace 115 1 116 (.ireturn) := ⟨by decide +kernel, rfl⟩
set_option maxHeartbeats 4000000 in
set_option maxRecDepth 100000 in
theorem tX10_namesPlace_J113 {X : Cx} {Y : Yx} {M0 : Mem} (hC : OKX X Y RX10 cX10_namesPlace 4 (some .boolean) rmX10_namesPlace) (hF : Y.2.2.2.2 = true) (hL : Lay M0) (Q : Int → Mem → Prop)   (xs0 : Int) (xs1 : Int) (as2 : Nat) (qas2 : 0 < as2 ∧ M0 0 as2 = kA 0 5)  (M : Mem) (h : wX10_namesPlace_J113 Q  xs0 xs1 as2 M) : WW X Y 4 rmX10_namesPlace (QI Q) M0 0 0 113 [] [vI xs0, vI xs1, vR Y.1 as2] M := by
  unfold wX10_namesPlace_J113 at h
  obtain ⟨i_17, h⟩ := h
  refine r_iast hC i_17 qas2.1 qas2.2 (by decide) dX10_namesPlace_113 ?_
  refine r_nameM h (fun M_18 h => ?_)
  refine r_iconst hC dX10_namesPlace_114 ?_
  exact r_zret hC (Or.inr rfl) (Nat.zero_le _) (Nat.zero_le _) dX10_namesPlace_115 ⟨_, rfl, h⟩
set_option maxHeartbeats 4000000 in
set_option maxRecDepth 100000 in
theorem tX10_namesPlace_J98 {X : Cx} {Y : Yx} {M0 : Mem} (hC : OKX X Y RX10 cX10_namesPlace 4 (some .boolean) rmX10_namesPlace) (hF : Y.2.2.2.2 = true) (hL : Lay M0) (Q : Int → Mem → Prop)   (a0 : Nat) (x3 : Int) (xs0 : Int) (xs1 : Int) (as2 : Nat) (qa0 : 0 < a0 ∧ M0 0 a0 = kO 10) (qas2 : 0 < as2 ∧ M0 0 as2 = kA 0 5)  (M : Mem) (h : wX10_namesPlace_J98 Q  a0 x3 xs0 xs1 as2 M) : WW X Y 4 rmX10_namesPlace (QI Q) M0 0 0 98 [(0, vR Y.1 a0), (3, vI x3)] [vI xs0, vI xs1, vR Y.1 as2] M := by
  unfold wX10_namesPlace_J98 at h
  obtain ⟨i_14, h⟩ := h
  refine r_iast hC i_14 qas2.1 qas2.2 (by decide) dX10_namesPlace_98 ?_
  refine r_nameM h (fun M_15 h => ?_)
  refine r_aload_n hC 0 dX10_namesPlace_99 rfl rfl ?_
  have q_16 : 0 < a0 + 10 ∧ M0 0 (a0 + 10) = kA 0 5 := lay_f0 (a := a0) hL qa0 fm_10_13
  refine r_getR0 (a' := a0 + 10) hC fg_X10_39 rfl hF fm_10_13 qa0.1 qa0.2 rfl dX10_namesPlace_100 ?_
  refine r_iconst hC dX10_namesPlace_103 ?_
  refine r_iload_n hC 1 dX10_namesPlace_104 rfl rfl ?_
  refine r_if_eq hC 112 rfl dX10_namesPlace_105 (by decide) (fun cq => ?_) (fun cq => ?_)
  · replace h := h.1 cq
    refine r_iconst hC dX10_namesPlace_112 ?_
    refine r_sub [] rfl ?_
    exact tX10_namesPlace_J113 hC hF hL Q   _ _ _ q_16  _ h
  · replace h := h.2 cq
    refine r_iconst hC dX10_namesPlace_108 ?_
    refine r_goto hC 113 dX10_namesPlace_109 (by decide) ?_
    refine r_sub [] rfl ?_
    exact tX10_namesPlace_J113 hC hF hL Q   _ _ _ q_16  _ h
set_option maxHeartbeats 4000000 in
set_option maxRecDepth 100000 in
theorem tX10_namesPlace_J43 {X : Cx} {Y : Yx} {M0 : Mem} (hC : OKX X Y RX10 cX10_namesPlace 4 (some .boolean) rmX10_namesPlace) (hF : Y.2.2.2.2 = true) (hL : Lay M0) (Q : Int → Mem → Prop)   (a0 : Nat) (x1 : Int) (x2 : Int) (xs0 : Int) (qa0 : 0 < a0 ∧ M0 0 a0 = kO 10)  (M : Mem) (h : wX10_namesPlace_J43 Q  a0 x1 x2 xs0 M) : WW X Y 4 rmX10_namesPlace (QI Q) M0 0 0 43 [(0, vR Y.1 a0), (1, vI x1), (2, vI x2)] [vI xs0] M := by
  unfold wX10_namesPlace_J43 at h
  refine r_istore_n (lv' := [(3, vI xs0), (0, vR Y.1 a0), (1, vI x1), (2, vI x2)]) hC dX10_namesPlace_43 rfl (by decide) rfl ?_
  refine r_aload_n hC 1 dX10_namesPlace_44 rfl rfl ?_
  have q_1 : 0 < a0 + 10 ∧ M0 0 (a0 + 10) = kA 0 5 := lay_f0 (a := a0) hL qa0 fm_10_13
  refine r_getR0 (a' := a0 + 10) hC fg_X10_39 rfl hF fm_10_13 qa0.1 qa0.2 rfl dX10_namesPlace_45 ?_
  refine r_iconst hC dX10_namesPlace_48 ?_
  refine r_iload_n hC 2 dX10_namesPlace_49 rfl rfl ?_
  refine r_iast hC ⟨by decide +kernel, by decide +kernel⟩ q_1.1 q_1.2 (by decide) dX10_namesPlace_50 ?_
  refine r_nameM h (fun M_2 h => ?_)
  refine r_aload_n hC 1 dX10_namesPlace_51 rfl rfl ?_
  have q_3 : 0 < a0 + 10 ∧ M0 0 (a0 + 10) = kA 0 5 := lay_f0 (a := a0) hL qa0 fm_10_13
  refine r_getR0 (a' := a0 + 10) hC fg_X10_39 rfl hF fm_10_13 qa0.1 qa0.2 rfl dX10_namesPlace_52 ?_
  refine r_iconst hC dX10_namesPlace_55 ?_
  refine r_aload_n hC 1 dX10_namesPlace_56 rfl rfl ?_
  refine r_getI hC fg_X10_58 rfl qa0.1 qa0.2 dX10_namesPlace_57 ?_
  refine r_iast hC ⟨by decide +kernel, by decide +kernel⟩ q_3.1 q_3.2 (by decide) dX10_namesPlace_60 ?_
  refine r_nameM h (fun M_4 h => ?_)
  refine r_aload_n hC 1 dX10_namesPlace_61 rfl rfl ?_
  have q_5 : 0 < a0 + 10 ∧ M0 0 (a0 + 10) = kA 0 5 := lay_f0 (a := a0) hL qa0 fm_10_13
  refine r_getR0 (a' := a0 + 10) hC fg_X10_39 rfl hF fm_10_13 qa0.1 qa0.2 rfl dX10_namesPlace_62 ?_
  refine r_iconst hC dX10_namesPlace_65 ?_
  refine r_aload_n hC 1 dX10_namesPlace_66 rfl rfl ?_
  have q_6 : 0 < (a0 - 89) ∧ M0 0 ((a0 - 89)) = kO 0 := lay_fs (a := a0) hL qa0 fm_10_0
  refine r_getRs (a' := (a0 - 89)) hC fg_X10_45 rfl hF fm_10_0 qa0.1 qa0.2 rfl dX10_namesPlace_67 ?_
  have q_7 : 0 < (a0 - 89) + 1 ∧ M0 0 ((a0 - 89) + 1) = kA 4 12 := lay_f0 (a := (a0 - 89)) hL q_6 fm_0_0
  refine r_getR0 (a' := (a0 - 89) + 1) hC fg_X10_100 rfl hF fm_0_0 q_6.1 q_6.2 rfl dX10_namesPlace_70 ?_
  refine r_aload_n hC 1 dX10_namesPlace_73 rfl rfl ?_
  have q_8 : 0 < a0 + 1 ∧ M0 0 (a0 + 1) = kA 0 12 := lay_f0 (a := a0) hL qa0 fm_10_4
  refine r_getR0 (a' := a0 + 1) hC fg_X10_9 rfl hF fm_10_4 qa0.1 qa0.2 rfl dX10_namesPlace_74 ?_
  refine r_iload_n hC 2 dX10_namesPlace_77 rfl rfl ?_
  obtain ⟨i_9, h⟩ := h
  refine r_iald hC i_9 q_8.1 q_8.2 (by decide) dX10_namesPlace_78 ?_
  obtain ⟨i_10, h⟩ := h
  have q_11 : 0 < (a0 - 89) + 9 + (bm (rd M_4 (a0 + 1) x1)).toNat ∧ M0 0 ((a0 - 89) + 9 + (bm (rd M_4 (a0 + 1) x1)).toNat) = kO 3 := lay_a4 (a := (a0 - 89) + 1) hL q_7 (inb_nat i_10)
  refine r_aald4 hC hF i_10 q_7.1 q_7.2 dX10_namesPlace_79 ?_
  refine r_getI hC fg_X10_196 rfl q_11.1 q_11.2 dX10_namesPlace_80 ?_
  refine r_iast hC ⟨by decide +kernel, by decide +kernel⟩ q_5.1 q_5.2 (by decide) dX10_namesPlace_83 ?_
  refine r_nameM h (fun M_12 h => ?_)
  refine r_aload_n hC 1 dX10_namesPlace_84 rfl rfl ?_
  have q_13 : 0 < a0 + 10 ∧ M0 0 (a0 + 10) = kA 0 5 := lay_f0 (a := a0) hL qa0 fm_10_13
  refine r_getR0 (a' := a0 + 10) hC fg_X10_39 rfl hF fm_10_13 qa0.1 qa0.2 rfl dX10_namesPlace_85 ?_
  refine r_iconst hC dX10_namesPlace_88 ?_
  refine r_iload_n hC 3 dX10_namesPlace_89 rfl rfl ?_
  refine r_if_eq hC 97 rfl dX10_namesPlace_90 (by decide) (fun cq => ?_) (fun cq => ?_)
  · replace h := h.1 cq
    refine r_iconst hC dX10_namesPlace_97 ?_
    refine r_sub [1, 0] rfl ?_
    exact tX10_namesPlace_J98 hC hF hL Q   _ _ _ _ _ qa0 q_13  _ h
  · replace h := h.2 cq
    refine r_iconst hC dX10_namesPlace_93 ?_
    refine r_goto hC 98 dX10_namesPlace_94 (by decide) ?_
    refine r_sub [1, 0] rfl ?_
    exact tX10_namesPlace_J98 hC hF hL Q   _ _ _ _ _ qa0 q_13  _ h
set_option maxHeartbeats 4000000 in
set_option maxRecDepth 100000 in
theorem tX10_namesPlace_J38 {X : Cx} {Y : Yx} {M0 : Mem} (hC : OKX X Y RX10 cX10_namesPlace 4 (some .boolean) rmX10_namesPlace) (hF : Y.2.2.2.2 = true) (hL : Lay M0) (Q : Int → Mem → Prop)   (a0 : Nat) (x1 : Int) (x2 : Int) (qa0 : 0 < a0 ∧ M0 0 a0 = kO 10)  (M : Mem) (h : wX10_namesPlace_J38 Q  a0 x1 x2 M) : WW X Y 4 rmX10_namesPlace (QI Q) M0 0 0 38 [(0, vR Y.1 a0), (1, vI x1), (2, vI x2)] [] M := by
  unfold wX10_namesPlace_J38 at h
  refine r_iconst hC dX10_namesPlace_38 ?_
  refine r_goto hC 43 dX10_namesPlace_39 (by decide) ?_
  refine r_sub [0, 1, 2] rfl ?_
  exact tX10_namesPlace_J43 hC hF hL Q   _ _ _ _ qa0  _ h
set_option maxHeartbeats 4000000 in
set_option maxRecDepth 100000 in
theorem tX10_namesPlace_J25 {X : Cx} {Y : Yx} {M0 : Mem} (hC : OKX X Y RX10 cX10_namesPlace 4 (some .boolean) rmX10_namesPlace) (hF : Y.2.2.2.2 = true) (hL : Lay M0) (Q : Int → Mem → Prop)   (a0 : Nat) (x1 : Int) (xs0 : Int) (qa0 : 0 < a0 ∧ M0 0 a0 = kO 10)  (M : Mem) (h : wX10_namesPlace_J25 Q  a0 x1 xs0 M) : WW X Y 4 rmX10_namesPlace (QI Q) M0 0 0 25 [(0, vR Y.1 a0), (1, vI x1)] [vI xs0] M := by
  unfold wX10_namesPlace_J25 at h
  refine r_istore_n (lv' := [(2, vI xs0), (0, vR Y.1 a0), (1, vI x1)]) hC dX10_namesPlace_25 rfl (by decide) rfl ?_
  refine r_iload_n hC 2 dX10_namesPlace_26 rfl rfl ?_
  refine r_if_eq hC 38 rfl dX10_namesPlace_27 (by decide) (fun cq => ?_) (fun cq => ?_)
  · replace h := h.1 cq
    refine r_sub [1, 2, 0] rfl ?_
    exact tX10_namesPlace_J38 hC hF hL Q   _ _ _ qa0  _ h
  · replace h := h.2 cq
    refine r_iload_n hC 2 dX10_namesPlace_30 rfl rfl ?_
    refine r_aload_n hC 1 dX10_namesPlace_31 rfl rfl ?_
    refine r_getI hC fg_X10_62 rfl qa0.1 qa0.2 dX10_namesPlace_32 ?_
    refine r_icmp_ne hC 42 rfl rfl dX10_namesPlace_35 (by decide) (fun cq => ?_) (fun cq => ?_)
    · replace h := h.2 cq
      refine r_iconst hC dX10_namesPlace_42 ?_
      refine r_sub [1, 2, 0] rfl ?_
      exact tX10_namesPlace_J43 hC hF hL Q   _ _ _ _ qa0  _ h
    · replace h := h.1 cq
      refine r_sub [1, 2, 0] rfl ?_
      exact tX10_namesPlace_J38 hC hF hL Q   _ _ _ qa0  _ h
set_option maxHeartbeats 4000000 in
set_option maxRecDepth 100000 in
theorem tX10_namesPlace_J20 {X : Cx} {Y : Yx} {M0 : Mem} (hC : OKX X Y RX10 cX10_namesPlace 4 (some .boolean) rmX10_namesPlace) (hF : Y.2.2.2.2 = true) (hL : Lay M0) (Q : Int → Mem → Prop)   (a0 : Nat) (x1 : Int) (qa0 : 0 < a0 ∧ M0 0 a0 = kO 10)  (M : Mem) (h : wX10_namesPlace_J20 Q  a0 x1 M) : WW X Y 4 rmX10_namesPlace (QI Q) M0 0 0 20 [(0, vR Y.1 a0), (1, vI x1)] [] M := by
  unfold wX10_namesPlace_J20 at h
  refine r_iconst hC dX10_namesPlace_20 ?_
  refine r_goto hC 25 dX10_namesPlace_21 (by decide) ?_
  refine r_sub [0, 1] rfl ?_
  exact tX10_namesPlace_J25 hC hF hL Q   _ _ _ qa0  _ h
set_option maxHeartbeats 4000000 in
set_option maxRecDepth 100000 in
theorem mX10_namesPlace (Y : Yx) (hF : Y.2.2.2.2 = true) (l : Launch) (a0 : Nat) (x1 : Int) (M0 : Mem) (Q : Int → Mem → Prop) (qa0 : 0 < a0 ∧ M0 0 a0 = kO 10) (h : wX10_namesPlace a0 x1 M0 Q) : CT Y l yX10_namesPlace cX10_namesPlace 4 (some .boolean) rmX10_namesPlace [vR Y.1 a0, vI x1] M0 (QI Q) := by
  unfold wX10_namesPlace at h
  refine ct_intro (by decide) (Nat.le_of_ble_eq_true rfl) ?_
  intro X hXl hC hL0
  have hL := hL0 hF
  change OKX X Y RX10 cX10_namesPlace 4 (some .boolean) rmX10_namesPlace at hC
  change WW X Y 4 rmX10_namesPlace (QI Q) M0 0 0 0 [(0, vR Y.1 a0), (1, vI x1)] [] M0
  refine r_iload_n hC 1 dX10_namesPlace_0 rfl rfl ?_
  refine r_aload_n hC 0 dX10_namesPlace_1 rfl rfl ?_
  refine r_getI hC fg_X10_58 rfl qa0.1 qa0.2 dX10_namesPlace_2 ?_
  refine r_iconst hC dX10_namesPlace_5 ?_
  refine r_isub hC dX10_namesPlace_6 ?_
  refine r_icmp_eq hC 20 rfl rfl dX10_namesPlace_7 (by decide) (fun cq => ?_) (fun cq => ?_)
  · replace h := h.1 cq
    refine r_sub [0, 1] rfl ?_
    exact tX10_namesPlace_J20 hC hF hL Q   _ _ qa0  _ h
  · replace h := h.2 cq
    refine r_iload_n hC 1 dX10_namesPlace_10 rfl rfl ?_
    refine r_aload_n hC 0 dX10_namesPlace_11 rfl rfl ?_
    refine r_getI hC fg_X10_62 rfl qa0.1 qa0.2 dX10_namesPlace_12 ?_
    refine r_iconst hC dX10_namesPlace_15 ?_
    refine r_isub hC dX10_namesPlace_16 ?_
    refine r_icmp_ne hC 24 rfl rfl dX10_namesPlace_17 (by decide) (fun cq => ?_) (fun cq => ?_)
    · replace h := h.2 cq
      refine r_iconst hC dX10_namesPlace_24 ?_
      refine r_sub [0, 1] rfl ?_
      exact tX10_namesPlace_J25 hC hF hL Q   _ _ _ qa0  _ h
    · replace h := h.1 cq
      refine r_sub [0, 1] rfl ?_
      exact tX10_namesPlace_J20 hC hF hL Q   _ _ qa0  _ h
theorem dX10_namesTired_0 : dec cX10_namesTired 0 1 1 (.aload_n 0) := ⟨by decide +kernel, rfl⟩
theorem dX10_namesTired_1 : dec cX10_namesTired 1 3 4 (.getfield 45) := ⟨by decide +kernel, rfl⟩
theorem dX10_namesTired_4 : dec cX10_namesTired 4 3 7 (.getfield 100) := ⟨by decide +kernel, rfl⟩
theorem dX10_namesTired_7 : dec cX10_namesTired 7 1 8 (.aload_n 0) := ⟨by decide +kernel, rfl⟩
theorem dX10_namesTired_8 : dec cX10_namesTired 8 3 11 (.getfield 9) := ⟨by decide +kernel, rfl⟩
theorem dX10_namesTired_11 : dec cX10_namesTired 11 1 12 (.iload_n 1) := ⟨by decide +kernel, rfl⟩
theorem dX10_namesTired_12 : dec cX10_namesTired 12 1 13 (.iaload) := ⟨by decide +kernel, rfl⟩
theorem dX10_namesTired_13 : dec cX10_namesTired 13 1 14 (.aaload) := ⟨by decide +kernel, rfl⟩
theorem dX10_namesTired_14 : dec cX10_namesTired 14 3 17 (.getfield 130) := ⟨by decide +kernel, rfl⟩
theorem dX10_namesTired_17 : dec cX10_namesTired 17 1 18 (.istore_n 2) := ⟨by decide +kernel, rfl⟩
theorem dX10_namesTired_18 : dec cX10_namesTired 18 1 19 (.iconst 0) := ⟨by decide +kernel, rfl⟩
theorem dX10_namesTired_19 : dec cX10_namesTired 19 1 20 (.istore_n 3) := ⟨by decide +kernel, rfl⟩
theorem dX10_namesTired_20 : dec cX10_namesTired 20 1 21 (.iconst 0) := ⟨by decide +kernel, rfl⟩
theorem dX10_namesTired_21 : dec cX10_namesTired 21 2 23 (.istore 4) := ⟨by decide +kernel, rfl⟩
theorem dX10_namesTired_23 : dec cX10_namesTired 23 2 25 (.iload 4) := ⟨by decide +kernel, rfl⟩
theorem dX10_namesTired_25 : dec cX10_namesTired 25 2 27 (.bipush 8) := ⟨by decide +kernel, rfl⟩
theorem dX10_namesTired_27 : dec cX10_namesTired 27 3 30 (.if_icmp .ge 37) := ⟨by decide +kernel, rfl⟩
theorem dX10_namesTired_30 : dec cX10_namesTired 30 1 31 (.iload_n 2) := ⟨by decide +kernel, rfl⟩
theorem dX10_namesTired_31 : dec cX10_namesTired 31 2 33 (.iload 4) := ⟨by decide +kernel, rfl⟩
theorem dX10_namesTired_33 : dec cX10_namesTired 33 3 36 (.invokestatic 133) := ⟨by decide +kernel, rfl⟩
theorem dX10_namesTired_36 : dec cX10_namesTired 36 3 39 (.ifCond .eq 22) := ⟨by decide +kernel, rfl⟩
theorem dX10_namesTired_39 : dec cX10_namesTired 39 1 40 (.iload_n 3) := ⟨by decide +kernel, rfl⟩
theorem dX10_namesTired_40 : dec cX10_namesTired 40 1 41 (.aload_n 0) := ⟨by decide +kernel, rfl⟩
theorem dX10_namesTired_41 : dec cX10_namesTired 41 3 44 (.getfield 33) := ⟨by decide +kernel, rfl⟩
theorem dX10_namesTired_44 : dec cX10_namesTired 44 1 45 (.iload_n 1) := ⟨by decide +kernel, rfl⟩
theorem dX10_namesTired_45 : dec cX10_namesTired 45 1 46 (.iconst 1) := ⟨by decide +kernel, rfl⟩
theorem dX10_namesTired_46 : dec cX10_namesTired 46 1 47 (.iadd) := ⟨by decide +kernel, rfl⟩
theorem dX10_namesTired_47 : dec cX10_namesTired 47 2 49 (.bipush 8) := ⟨by decide +kernel, rfl⟩
theorem dX10_namesTired_49 : dec cX10_namesTired 49 1 50 (.imul) := ⟨by decide +kernel, rfl⟩
theorem dX10_namesTired_50 : dec cX10_namesTired 50 2 52 (.iload 4) := ⟨by decide +kernel, rfl⟩
theorem dX10_namesTired_52 : dec cX10_namesTired 52 1 53 (.iadd) := ⟨by decide +kernel, rfl⟩
theorem dX10_namesTired_53 : dec cX10_namesTired 53 1 54 (.iaload) := ⟨by decide +kernel, rfl⟩
theorem dX10_namesTired_54 : dec cX10_namesTired 54 3 57 (.invokestatic 55) := ⟨by decide +kernel, rfl⟩
theorem dX10_namesTired_57 : dec cX10_namesTired 57 1 58 (.istore_n 3) := ⟨by decide +kernel, rfl⟩
theorem dX10_namesTired_58 : dec cX10_namesTired 58 3 61 (.iinc 4 1) := ⟨by decide +kernel, rfl⟩
theorem dX10_namesTired_61 : dec cX10_namesTired 61 3 64 (.goto (-38)) := ⟨by decide +kernel, rfl⟩
theorem dX10_namesTired_64 : dec cX10_namesTired 64 1 65 (.aload_n 0) := ⟨by decide +kernel, rfl⟩
theorem dX10_namesTired_65 : dec cX10_namesTired 65 3 68 (.getfield 39) := ⟨by decide +kernel, rfl⟩
theorem dX10_namesTired_68 : dec cX10_namesTired 68 1 69 (.iconst 0) := ⟨by decide +kernel, rfl⟩
theorem dX10_namesTired_69 : dec cX10_namesTired 69 1 70 (.iload_n 3) := ⟨by decide +kernel, rfl⟩
theorem dX10_namesTired_70 : dec cX10_namesTired 70 1 71 (.iastore) := ⟨by decide +kernel, rfl⟩
theorem dX10_namesTired_71 : dec cX10_namesTired 71 1 72 (.iconst 1) := ⟨by decide +kernel, rfl⟩
theorem dX10_namesTired_72 : dec cX10_namesTired 72 1 73 (.ireturn) := ⟨by decide +kernel, rfl⟩
set_option maxHeartbeats 4000000 in
set_option maxRecDepth 100000 in
theorem tX10_namesTired_L23 {X : Cx} {Y : Yx} {M0 : Mem} (hC : OKX X Y RX10 cX10_namesTired 5 (some .boolean) rmX10_namesTired) (hF : Y.2.2.2.2 = true) (hL : Lay M0) (Q : Int → Mem → Prop) (E64 : Int → Mem → Prop) (a0 : Nat) (x1 : Int) (x2 : Int) (qa0 : 0 < a0 ∧ M0 0 a0 = kO 10) (hE64 : ∀ (x3 : Int) (M : Mem), E64 x3 M → WW X Y 5 rmX10_namesTired (QI Q) M0 0 0 64 [(0, vR Y.1 a0), (3, vI x3)] [] M) : ∀ (N : Nat) (x3 : Int) (x4 : Int) (M : Mem) (_ : wX10_namesTired_L23 Q E64 a0 x1 x2 N x3 x4 M), WW X Y 5 rmX10_namesTired (QI Q) M0 0 0 23 [(0, vR Y.1 a0), (1, vI x1), (2, vI x2), (3, vI x3), (4, vI x4)] [] M := by
  intro N
  induction N with
  | zero =>
    intro x3 x4 M h
    exact h.elim
  | succ N ih =>
    intro x3 x4 M h
    unfold wX10_namesTired_L23 at h
    refine r_iload hC 4 dX10_namesTired_23 rfl ?_
    refine r_bipush hC (by decide +kernel) dX10_namesTired_25 ?_
    refine r_icmp_ge hC 64 rfl bmL_8 dX10_namesTired_27 (by decide) (fun cq => ?_) (fun cq => ?_)
    · replace h := h.1 cq
      refine r_sub [0, 3] rfl ?_
      exact hE64 _ _ h
    · replace h := h.2 cq
      refine r_iload_n hC 2 dX10_namesTired_30 rfl rfl ?_
      refine r_iload hC 4 dX10_namesTired_31 rfl ?_
      refine r_callN (As := [vI x2, vI x4]) (st := []) hC cw_X10_133 rfl rfl (Nat.le_of_ble_eq_true rfl) ⟨Nat.le_of_ble_eq_true rfl, Nat.le_of_ble_eq_true rfl⟩ ⟨Nat.le_of_ble_eq_true rfl, Nat.le_of_ble_eq_true rfl⟩ dX10_namesTired_33 (fun hk => mX11_isIn Y hF _ _ _ _ _  h) (fun v M_8 h => ?_)
      obtain ⟨r_9, rfl, h⟩ := h
      refine r_if_eq hC 58 rfl dX10_namesTired_36 (by decide) (fun cq => ?_) (fun cq => ?_)
      · replace h := h.1 cq
        refine let_elim h (fun x4_10 e_11 h => ?_)
        refine r_iinc (lv' := [(4, vI x4_10), (0, vR Y.1 a0), (1, vI x1), (2, vI x2), (3, vI x3)]) hC 4 dX10_namesTired_58 rfl (by decide) e_11 rfl ?_
        refine r_goto hC 23 dX10_namesTired_61 (by decide) ?_
        refine r_sub [1, 2, 3, 4, 0] rfl ?_
        exact ih _ _ _ h
      · replace h := h.2 cq
        refine r_iload_n hC 3 dX10_namesTired_39 rfl rfl ?_
        refine r_aload_n hC 0 dX10_namesTired_40 rfl rfl ?_
        have q_12 : 0 < a0 + 8 ∧ M0 0 (a0 + 8) = kA 0 104 := lay_f0 (a := a0) hL qa0 fm_10_11
        refine r_getR0 (a' := a0 + 8) hC fg_X10_33 rfl hF fm_10_11 qa0.1 qa0.2 rfl dX10_namesTired_41 ?_
        refine r_iload_n hC 1 dX10_namesTired_44 rfl rfl ?_
        refine r_iconst hC dX10_namesTired_45 ?_
        refine r_iadd hC dX10_namesTired_46 ?_
        refine r_bipush hC (by decide +kernel) dX10_namesTired_47 ?_
        refine r_imul hC dX10_namesTired_49 ?_
        refine r_iload hC 4 dX10_namesTired_50 rfl ?_
        refine r_iadd hC dX10_namesTired_52 ?_
        obtain ⟨i_13, h⟩ := h
        refine r_iald hC i_13 q_12.1 q_12.2 (by decide) dX10_namesTired_53 ?_
        refine r_callS (As := [vI x3, vI (rd M_8 (a0 + 8) (((x1 + 1) * 8) + x4))]) (st := []) hC cw_X10_55 rfl rfl (Nat.le_of_ble_eq_true rfl) ⟨Nat.le_of_ble_eq_true rfl, Nat.le_of_ble_eq_true rfl⟩ ⟨Nat.le_of_ble_eq_true rfl, Nat.le_of_ble_eq_true rfl⟩ dX10_namesTired_54 (fun hk => mJ9_max_7cf53 Y hF _ _ _ _ _  h) (fun v M_14 h => ?_)
        obtain ⟨r_15, rfl, h⟩ := h
        refine r_istore_n (lv' := [(3, vI r_15), (0, vR Y.1 a0), (1, vI x1), (2, vI x2), (4, vI x4)]) hC dX10_namesTired_57 rfl (by decide) rfl ?_
        refine let_elim h (fun x4_16 e_17 h => ?_)
        refine r_iinc (lv' := [(4, vI x4_16), (3, vI r_15), (0, vR Y.1 a0), (1, vI x1), (2, vI x2)]) hC 4 dX10_namesTired_58 rfl (by decide) e_17 rfl ?_
        refine r_goto hC 23 dX10_namesTired_61 (by decide) ?_
        refine r_sub [2, 3, 4, 1, 0] rfl ?_
        exact ih _ _ _ h
set_option maxHeartbeats 4000000 in
set_option maxRecDepth 100000 in
theorem mX10_namesTired (Y : Yx) (hF : Y.2.2.2.2 = true) (l : Launch) (a0 : Nat) (x1 : Int) (M0 : Mem) (Q : Int → Mem → Prop) (qa0 : 0 < a0 ∧ M0 0 a0 = kO 10) (h : wX10_namesTired a0 x1 M0 Q) : CT Y l yX10_namesTired cX10_namesTired 5 (some .boolean) rmX10_namesTired [vR Y.1 a0, vI x1] M0 (QI Q) := by
  unfold wX10_namesTired at h
  refine ct_intro (by decide) (Nat.le_of_ble_eq_true rfl) ?_
  intro X hXl hC hL0
  have hL := hL0 hF
  change OKX X Y RX10 cX10_namesTired 5 (some .boolean) rmX10_namesTired at hC
  change WW X Y 5 rmX10_namesTired (QI Q) M0 0 0 0 [(0, vR Y.1 a0), (1, vI x1)] [] M0
  refine r_aload_n hC 0 dX10_namesTired_0 rfl rfl ?_
  have q_1 : 0 < (a0 - 89) ∧ M0 0 ((a0 - 89)) = kO 0 := lay_fs (a := a0) hL qa0 fm_10_0
  refine r_getRs (a' := (a0 - 89)) hC fg_X10_45 rfl hF fm_10_0 qa0.1 qa0.2 rfl dX10_namesTired_1 ?_
  have q_2 : 0 < (a0 - 89) + 1 ∧ M0 0 ((a0 - 89) + 1) = kA 4 12 := lay_f0 (a := (a0 - 89)) hL q_1 fm_0_0
  refine r_getR0 (a' := (a0 - 89) + 1) hC fg_X10_100 rfl hF fm_0_0 q_1.1 q_1.2 rfl dX10_namesTired_4 ?_
  refine r_aload_n hC 0 dX10_namesTired_7 rfl rfl ?_
  have q_3 : 0 < a0 + 1 ∧ M0 0 (a0 + 1) = kA 0 12 := lay_f0 (a := a0) hL qa0 fm_10_4
  refine r_getR0 (a' := a0 + 1) hC fg_X10_9 rfl hF fm_10_4 qa0.1 qa0.2 rfl dX10_namesTired_8 ?_
  refine r_iload_n hC 1 dX10_namesTired_11 rfl rfl ?_
  obtain ⟨i_4, h⟩ := h
  refine r_iald hC i_4 q_3.1 q_3.2 (by decide) dX10_namesTired_12 ?_
  obtain ⟨i_5, h⟩ := h
  have q_6 : 0 < (a0 - 89) + 9 + (bm (rd M0 (a0 + 1) x1)).toNat ∧ M0 0 ((a0 - 89) + 9 + (bm (rd M0 (a0 + 1) x1)).toNat) = kO 3 := lay_a4 (a := (a0 - 89) + 1) hL q_2 (inb_nat i_5)
  refine r_aald4 hC hF i_5 q_2.1 q_2.2 dX10_namesTired_13 ?_
  refine r_getI hC fg_X10_130 rfl q_6.1 q_6.2 dX10_namesTired_14 ?_
  refine r_nameI h (fun x2_7 h => ?_)
  refine r_istore_n (lv' := [(2, vI x2_7), (0, vR Y.1 a0), (1, vI x1)]) hC dX10_namesTired_17 rfl (by decide) rfl ?_
  refine r_iconst hC dX10_namesTired_18 ?_
  refine r_istore_n (lv' := [(3, vI 0), (2, vI x2_7), (0, vR Y.1 a0), (1, vI x1)]) hC dX10_namesTired_19 rfl (by decide) rfl ?_
  refine r_iconst hC dX10_namesTired_20 ?_
  refine r_istore (lv' := [(4, vI 0), (3, vI 0), (2, vI x2_7), (0, vR Y.1 a0), (1, vI x1)]) hC dX10_namesTired_21 (by decide) rfl ?_
  refine r_sub [3, 4, 2, 1, 0] rfl ?_
  obtain ⟨N_22, h⟩ := h
  refine tX10_namesTired_L23 hC hF hL Q _ _ _ _ qa0 ?_ N_22 _ _ _ h
  · intro x3_18 M_19 h
    refine r_aload_n hC 0 dX10_namesTired_64 rfl rfl ?_
    have q_20 : 0 < a0 + 10 ∧ M0 0 (a0 + 10) = kA 0 5 := lay_f0 (a := a0) hL qa0 fm_10_13
    refine r_getR0 (a' := a0 + 10) hC fg_X10_39 rfl hF fm_10_13 qa0.1 qa0.2 rfl dX10_namesTired_65 ?_
    refine r_iconst hC dX10_namesTired_68 ?_
    refine r_iload_n hC 1 dX10_namesTired_69 rfl rfl ?_
    refine r_iast hC ⟨by decide +kernel, by decide +kernel⟩ q_20.1 q_20.2 (by decide) dX10_namesTired_70 ?_
    refine r_nameM h (fun M_21 h => ?_)
    refine r_iconst hC dX10_namesTired_71 ?_
    exact r_zret hC (Or.inr rfl) (Nat.zero_le _) (Nat.zero_le _) dX10_namesTired_72 ⟨_, rfl, h⟩
theorem dX10_worthAt_0 : dec cX10_worthAt 0 1 1 (.iconst 0) := ⟨by decide +kernel, rfl⟩
theorem dX10_worthAt_1 : dec cX10_worthAt 1 2 3 (.istore 4) := ⟨by decide +kernel, rfl⟩
theorem dX10_worthAt_3 : dec cX10_worthAt 3 1 4 (.aload_n 1) := ⟨by decide +kernel, rfl⟩
theorem dX10_worthAt_4 : dec cX10_worthAt 4 3 7 (.getfield 171) := ⟨by decide +kernel, rfl⟩
theorem dX10_worthAt_7 : dec cX10_worthAt 7 33 40 (.tableswitch 85 1 5 #[33, 42, 59, 68, 33]) := ⟨by decide +kernel, rfl⟩
theorem dX10_worthAt_40 : dec cX10_worthAt 40 1 41 (.aload_n 0) := ⟨by decide +kernel, rfl⟩
theorem dX10_worthAt_41 : dec cX10_worthAt 41 1 42 (.iload_n 2) := ⟨by decide +kernel, rfl⟩
theorem dX10_worthAt_42 : dec cX10_worthAt 42 3 45 (.invokevirtual 176) := ⟨by decide +kernel, rfl⟩
theorem dX10_worthAt_45 : dec cX10_worthAt 45 1 46 (.istore_n 3) := ⟨by decide +kernel, rfl⟩
theorem dX10_worthAt_46 : dec cX10_worthAt 46 3 49 (.goto 48) := ⟨by decide +kernel, rfl⟩
theorem dX10_worthAt_49 : dec cX10_worthAt 49 1 50 (.aload_n 0) := ⟨by decide +kernel, rfl⟩
theorem dX10_worthAt_50 : dec cX10_worthAt 50 1 51 (.iload_n 2) := ⟨by decide +kernel, rfl⟩
theorem dX10_worthAt_51 : dec cX10_worthAt 51 3 54 (.invokevirtual 179) := ⟨by decide +kernel, rfl⟩
theorem dX10_worthAt_54 : dec cX10_worthAt 54 1 55 (.istore_n 3) := ⟨by decide +kernel, rfl⟩
theorem dX10_worthAt_55 : dec cX10_worthAt 55 1 56 (.aload_n 0) := ⟨by decide +kernel, rfl⟩
theorem dX10_worthAt_56 : dec cX10_worthAt 56 3 59 (.getfield 39) := ⟨by decide +kernel, rfl⟩
theorem dX10_worthAt_59 : dec cX10_worthAt 59 1 60 (.iconst 0) := ⟨by decide +kernel, rfl⟩
theorem dX10_worthAt_60 : dec cX10_worthAt 60 1 61 (.iaload) := ⟨by decide +kernel, rfl⟩
theorem dX10_worthAt_61 : dec cX10_worthAt 61 2 63 (.istore 4) := ⟨by decide +kernel, rfl⟩
theorem dX10_worthAt_63 : dec cX10_worthAt 63 3 66 (.goto 31) := ⟨by decide +kernel, rfl⟩
theorem dX10_worthAt_66 : dec cX10_worthAt 66 1 67 (.aload_n 0) := ⟨by decide +kernel, rfl⟩
theorem dX10_worthAt_67 : dec cX10_worthAt 67 1 68 (.iload_n 2) := ⟨by decide +kernel, rfl⟩
theorem dX10_worthAt_68 : dec cX10_worthAt 68 3 71 (.invokevirtual 182) := ⟨by decide +kernel, rfl⟩
theorem dX10_worthAt_71 : dec cX10_worthAt 71 1 72 (.istore_n 3) := ⟨by decide +kernel, rfl⟩
theorem dX10_worthAt_72 : dec cX10_worthAt 72 3 75 (.goto 22) := ⟨by decide +kernel, rfl⟩
theorem dX10_worthAt_75 : dec cX10_worthAt 75 1 76 (.aload_n 0) := ⟨by decide +kernel, rfl⟩
theorem dX10_worthAt_76 : dec cX10_worthAt 76 1 77 (.iload_n 2) := ⟨by decide +kernel, rfl⟩
theorem dX10_worthAt_77 : dec cX10_worthAt 77 3 80 (.invokevirtual 185) := ⟨by decide +kernel, rfl⟩
theorem dX10_worthAt_80 : dec cX10_worthAt 80 1 81 (.istore_n 3) := ⟨by decide +kernel, rfl⟩
theorem dX10_worthAt_81 : dec cX10_worthAt 81 1 82 (.aload_n 0) := ⟨by decide +kernel, rfl⟩
theorem dX10_worthAt_82 : dec cX10_worthAt 82 3 85 (.getfield 39) := ⟨by decide +kernel, rfl⟩
theorem dX10_worthAt_85 : dec cX10_worthAt 85 1 86 (.iconst 0) := ⟨by decide +kernel, rfl⟩
theorem dX10_worthAt_86 : dec cX10_worthAt 86 1 87 (.iaload) := ⟨by decide +kernel, rfl⟩
theorem dX10_worthAt_87 : dec cX10_worthAt 87 2 89 (.istore 4) := ⟨by decide +kernel, rfl⟩
theorem dX10_worthAt_89 : dec cX10_worthAt 89 3 92 (.goto 5) := ⟨by decide +kernel, rfl⟩
theorem dX10_worthAt_92 : dec cX10_worthAt 92 1 93 (.iconst 0) := ⟨by decide +kernel, rfl⟩
theorem dX10_worthAt_93 : dec cX10_worthAt 93 1 94 (.istore_n 3) := ⟨by decide +kernel, rfl⟩
theorem dX10_worthAt_94 : dec cX10_worthAt 94 1 95 (.iload_n 3) := ⟨by decide +kernel, rfl⟩
theorem dX10_worthAt_95 : dec cX10_worthAt 95 3 98 (.ifCond .ne 5) := ⟨by decide +kernel, rfl⟩
theorem dX10_worthAt_98 : dec cX10_worthAt 98 1 99 (.iconst 0) := ⟨by decide +kernel, rfl⟩
theorem dX10_worthAt_99 : dec cX10_worthAt 99 1 100 (.ireturn) := ⟨by decide +kernel, rfl⟩
theorem dX10_worthAt_100 : dec cX10_worthAt 100 1 101 (.aload_n 1) := ⟨by decide +kernel, rfl⟩
theorem dX10_worthAt_101 : dec cX10_worthAt 101 3 104 (.invokevirtual 188) := ⟨by decide +kernel, rfl⟩
theorem dX10_worthAt_104 : dec cX10_worthAt 104 3 107 (.ifCond .eq 18) := ⟨by decide +kernel, rfl⟩
theorem dX10_worthAt_107 : dec cX10_worthAt 107 1 108 (.aload_n 1) := ⟨by decide +kernel, rfl⟩
theorem dX10_worthAt_108 : dec cX10_worthAt 108 1 109 (.aload_n 0) := ⟨by decide +kernel, rfl⟩
theorem dX10_worthAt_109 : dec cX10_worthAt 109 3 112 (.getfield 39) := ⟨by decide +kernel, rfl⟩
theorem dX10_worthAt_112 : dec cX10_worthAt 112 1 113 (.aload_n 0) := ⟨by decide +kernel, rfl⟩
theorem dX10_worthAt_113 : dec cX10_worthAt 113 3 116 (.getfield 42) := ⟨by decide +kernel, rfl⟩
theorem dX10_worthAt_116 : dec cX10_worthAt 116 3 119 (.invokevirtual 192) := ⟨by decide +kernel, rfl⟩
theorem dX10_worthAt_119 : dec cX10_worthAt 119 3 122 (.goto 5) := ⟨by decide +kernel, rfl⟩
theorem dX10_worthAt_122 : dec cX10_worthAt 122 2 124 (.iload 4) := ⟨by decide +kernel, rfl⟩
theorem dX10_worthAt_124 : dec cX10_worthAt 124 2 126 (.istore 5) := ⟨by decide +kernel, rfl⟩
theorem dX10_worthAt_126 : dec cX10_worthAt 126 1 127 (.aload_n 1) := ⟨by decide +kernel, rfl⟩
theorem dX10_worthAt_127 : dec cX10_worthAt 127 3 130 (.getfield 171) := ⟨by decide +kernel, rfl⟩
theorem dX10_worthAt_130 : dec cX10_worthAt 130 1 131 (.iconst 5) := ⟨by decide +kernel, rfl⟩
theorem dX10_worthAt_131 : dec cX10_worthAt 131 3 134 (.if_icmp .ne 15) := ⟨by decide +kernel, rfl⟩
theorem dX10_worthAt_134 : dec cX10_worthAt 134 2 136 (.iload 5) := ⟨by decide +kernel, rfl⟩
theorem dX10_worthAt_136 : dec cX10_worthAt 136 1 137 (.aload_n 0) := ⟨by decide +kernel, rfl⟩
theorem dX10_worthAt_137 : dec cX10_worthAt 137 3 140 (.getfield 39) := ⟨by decide +kernel, rfl⟩
theorem dX10_worthAt_140 : dec cX10_worthAt 140 1 141 (.iconst 3) := ⟨by decide +kernel, rfl⟩
theorem dX10_worthAt_141 : dec cX10_worthAt 141 1 142 (.iaload) := ⟨by decide +kernel, rfl⟩
theorem dX10_worthAt_142 : dec cX10_worthAt 142 1 143 (.isub) := ⟨by decide +kernel, rfl⟩
theorem dX10_worthAt_143 : dec cX10_worthAt 143 3 146 (.goto 5) := ⟨by decide +kernel, rfl⟩
theorem dX10_worthAt_146 : dec cX10_worthAt 146 2 148 (.iload 5) := ⟨by decide +kernel, rfl⟩
theorem dX10_worthAt_148 : dec cX10_worthAt 148 1 149 (.ireturn) := ⟨by decide +kernel, rfl⟩
set_option maxHeartbeats 4000000 in
set_option maxRecDepth 100000 in
theorem tX10_worthAt_J124 {X : Cx} {Y : Yx} {M0 : Mem} (hC : OKX X Y RX10 cX10_worthAt 6 (some .int) rmX10_worthAt) (hF : Y.2.2.2.2 = true) (hL : Lay M0) (Q : Int → Mem → Prop)   (a0 : Nat) (a1 : Nat) (xs0 : Int) (qa0 : 0 < a0 ∧ M0 0 a0 = kO 10) (qa1 : 0 < a1 ∧ M0 0 a1 = kO 1)  (M : Mem) (h : wX10_worthAt_J124 Q  a0 a1 xs0 M) : WW X Y 6 rmX10_worthAt (QI Q) M0 0 0 124 [(0, vR Y.1 a0), (1, vR Y.1 a1)] [vI xs0] M := by
  unfold wX10_worthAt_J124 at h
  refine r_istore (lv' := [(5, vI xs0), (0, vR Y.1 a0), (1, vR Y.1 a1)]) hC dX10_worthAt_124 (by decide) rfl ?_
  refine r_aload_n hC 2 dX10_worthAt_126 rfl rfl ?_
  refine r_getI hC fg_X10_171 rfl qa1.1 qa1.2 dX10_worthAt_127 ?_
  refine r_iconst hC dX10_worthAt_130 ?_
  refine r_icmp_ne hC 146 rfl bmL_5 dX10_worthAt_131 (by decide) (fun cq => ?_) (fun cq => ?_)
  · replace h := h.2 cq
    refine r_iload hC 0 dX10_worthAt_146 rfl ?_
    exact r_iret hC (Nat.zero_le _) (Nat.zero_le _) dX10_worthAt_148 ⟨_, rfl, h⟩
  · replace h := h.1 cq
    refine r_iload hC 0 dX10_worthAt_134 rfl ?_
    refine r_aload_n hC 1 dX10_worthAt_136 rfl rfl ?_
    have q_5 : 0 < a0 + 10 ∧ M0 0 (a0 + 10) = kA 0 5 := lay_f0 (a := a0) hL qa0 fm_10_13
    refine r_getR0 (a' := a0 + 10) hC fg_X10_39 rfl hF fm_10_13 qa0.1 qa0.2 rfl dX10_worthAt_137 ?_
    refine r_iconst hC dX10_worthAt_140 ?_
    refine r_iald hC ⟨by decide +kernel, by decide +kernel⟩ q_5.1 q_5.2 (by decide) dX10_worthAt_141 ?_
    refine r_isub hC dX10_worthAt_142 ?_
    refine r_goto hC 148 dX10_worthAt_143 (by decide) ?_
    exact r_iret hC (Nat.zero_le _) (Nat.zero_le _) dX10_worthAt_148 ⟨_, rfl, h⟩
set_option maxHeartbeats 4000000 in
set_option maxRecDepth 100000 in
theorem tX10_worthAt_J94 {X : Cx} {Y : Yx} {M0 : Mem} (hC : OKX X Y RX10 cX10_worthAt 6 (some .int) rmX10_worthAt) (hF : Y.2.2.2.2 = true) (hL : Lay M0) (Q : Int → Mem → Prop)   (a0 : Nat) (a1 : Nat) (x3 : Int) (x4 : Int) (qa0 : 0 < a0 ∧ M0 0 a0 = kO 10) (qa1 : 0 < a1 ∧ M0 0 a1 = kO 1)  (M : Mem) (h : wX10_worthAt_J94 Q  a0 a1 x3 x4 M) : WW X Y 6 rmX10_worthAt (QI Q) M0 0 0 94 [(0, vR Y.1 a0), (1, vR Y.1 a1), (3, vI x3), (4, vI x4)] [] M := by
  unfold wX10_worthAt_J94 at h
  refine r_iload_n hC 2 dX10_worthAt_94 rfl rfl ?_
  refine r_if_ne hC 100 rfl dX10_worthAt_95 (by decide) (fun cq => ?_) (fun cq => ?_)
  · replace h := h.2 cq
    refine r_aload_n hC 1 dX10_worthAt_100 rfl rfl ?_
    refine r_callV (As := []) (st := []) hC cw_X10_188 rfl qa1.1 qa1.2 rfl rfl (Nat.le_of_ble_eq_true rfl) ⟨Nat.le_of_ble_eq_true rfl, Nat.le_of_ble_eq_true rfl⟩ ⟨Nat.le_of_ble_eq_true rfl, Nat.le_of_ble_eq_true rfl⟩ dX10_worthAt_101 (fun hk => mX1_hasText Y hF _ _ _ _ (kqO hk qa1) h) (fun v M_3 h => ?_)
    obtain ⟨r_4, rfl, h⟩ := h
    refine r_if_eq hC 122 rfl dX10_worthAt_104 (by decide) (fun cq => ?_) (fun cq => ?_)
    · replace h := h.1 cq
      refine r_iload hC 3 dX10_worthAt_122 rfl ?_
      refine r_sub [0, 1] rfl ?_
      exact tX10_worthAt_J124 hC hF hL Q   _ _ _ qa0 qa1  _ h
    · replace h := h.2 cq
      refine r_aload_n hC 1 dX10_worthAt_107 rfl rfl ?_
      refine r_aload_n hC 0 dX10_worthAt_108 rfl rfl ?_
      have q_6 : 0 < a0 + 10 ∧ M0 0 (a0 + 10) = kA 0 5 := lay_f0 (a := a0) hL qa0 fm_10_13
      refine r_getR0 (a' := a0 + 10) hC fg_X10_39 rfl hF fm_10_13 qa0.1 qa0.2 rfl dX10_worthAt_109 ?_
      refine r_aload_n hC 0 dX10_worthAt_112 rfl rfl ?_
      have q_7 : 0 < a0 + 11 ∧ M0 0 (a0 + 11) = kA 0 50 := lay_f0 (a := a0) hL qa0 fm_10_14
      refine r_getR0 (a' := a0 + 11) hC fg_X10_42 rfl hF fm_10_14 qa0.1 qa0.2 rfl dX10_worthAt_113 ?_
      refine r_callV (As := [vR Y.1 (a0 + 10), vR Y.1 (a0 + 11)]) (st := []) hC cw_X10_192 rfl qa1.1 qa1.2 rfl rfl (Nat.le_of_ble_eq_true rfl) ⟨Nat.le_of_ble_eq_true rfl, Nat.le_of_ble_eq_true rfl⟩ ⟨Nat.le_of_ble_eq_true rfl, Nat.le_of_ble_eq_true rfl⟩ dX10_worthAt_116 (fun hk => mX1_comesTo Y hF _ _ _ _ _ _ (kqO hk qa1) (kqA hk q_6) (kqA hk q_7) h) (fun v M_8 h => ?_)
      obtain ⟨r_9, rfl, h⟩ := h
      refine r_goto hC 124 dX10_worthAt_119 (by decide) ?_
      refine r_sub [0, 1] rfl ?_
      exact tX10_worthAt_J124 hC hF hL Q   _ _ _ qa0 qa1  _ h
  · replace h := h.1 cq
    refine r_iconst hC dX10_worthAt_98 ?_
    exact r_iret hC (Nat.zero_le _) (Nat.zero_le _) dX10_worthAt_99 ⟨_, rfl, h⟩
set_option maxHeartbeats 4000000 in
set_option maxRecDepth 100000 in
theorem tX10_worthAt_J40 {X : Cx} {Y : Yx} {M0 : Mem} (hC : OKX X Y RX10 cX10_worthAt 6 (some .int) rmX10_worthAt) (hF : Y.2.2.2.2 = true) (hL : Lay M0) (Q : Int → Mem → Prop)   (a0 : Nat) (a1 : Nat) (x2 : Int) (x4 : Int) (qa0 : 0 < a0 ∧ M0 0 a0 = kO 10) (qa1 : 0 < a1 ∧ M0 0 a1 = kO 1)  (M : Mem) (h : wX10_worthAt_J40 Q  a0 a1 x2 x4 M) : WW X Y 6 rmX10_worthAt (QI Q) M0 0 0 40 [(0, vR Y.1 a0), (1, vR Y.1 a1), (2, vI x2), (4, vI x4)] [] M := by
  unfold wX10_worthAt_J40 at h
  refine r_aload_n hC 0 dX10_worthAt_40 rfl rfl ?_
  refine r_iload_n hC 2 dX10_worthAt_41 rfl rfl ?_
  refine r_callV (As := [vI x2]) (st := []) hC cw_X10_176 rfl qa0.1 qa0.2 rfl rfl (Nat.le_of_ble_eq_true rfl) ⟨Nat.le_of_ble_eq_true rfl, Nat.le_of_ble_eq_true rfl⟩ ⟨Nat.le_of_ble_eq_true rfl, Nat.le_of_ble_eq_true rfl⟩ dX10_worthAt_42 (fun hk => mX10_namesPair Y hF _ _ _ _ _ (kqO hk qa0) h) (fun v M_1 h => ?_)
  obtain ⟨r_2, rfl, h⟩ := h
  refine r_istore_n (lv' := [(3, vI r_2), (0, vR Y.1 a0), (1, vR Y.1 a1), (2, vI x2), (4, vI x4)]) hC dX10_worthAt_45 rfl (by decide) rfl ?_
  refine r_goto hC 94 dX10_worthAt_46 (by decide) ?_
  refine r_sub [1, 2, 0, 4] rfl ?_
  exact tX10_worthAt_J94 hC hF hL Q   _ _ _ _ qa0 qa1  _ h
set_option maxHeartbeats 4000000 in
set_option maxRecDepth 100000 in
theorem mX10_worthAt (Y : Yx) (hF : Y.2.2.2.2 = true) (l : Launch) (a0 : Nat) (a1 : Nat) (x2 : Int) (M0 : Mem) (Q : Int → Mem → Prop) (qa0 : 0 < a0 ∧ M0 0 a0 = kO 10) (qa1 : 0 < a1 ∧ M0 0 a1 = kO 1) (h : wX10_worthAt a0 a1 x2 M0 Q) : CT Y l yX10_worthAt cX10_worthAt 6 (some .int) rmX10_worthAt [vR Y.1 a0, vR Y.1 a1, vI x2] M0 (QI Q) := by
  unfold wX10_worthAt at h
  refine ct_intro (by decide) (Nat.le_of_ble_eq_true rfl) ?_
  intro X hXl hC hL0
  have hL := hL0 hF
  change OKX X Y RX10 cX10_worthAt 6 (some .int) rmX10_worthAt at hC
  change WW X Y 6 rmX10_worthAt (QI Q) M0 0 0 0 [(0, vR Y.1 a0), (1, vR Y.1 a1), (2, vI x2)] [] M0
  refine r_iconst hC dX10_worthAt_0 ?_
  refine r_istore (lv' := [(4, vI 0), (0, vR Y.1 a0), (1, vR Y.1 a1), (2, vI x2)]) hC dX10_worthAt_1 (by decide) rfl ?_
  refine r_aload_n hC 2 dX10_worthAt_3 rfl rfl ?_
  refine r_getI hC fg_X10_171 rfl qa1.1 qa1.2 dX10_worthAt_4 ?_
  by_cases c0 : bm (M0 a1 0) = 1
  · replace h := h.1 c0
    refine r_tabIn hC 40 1 dX10_worthAt_7 c0 (by decide) (by decide) rfl (by decide) ?_
    refine r_sub [1, 2, 3, 0] rfl ?_
    exact tX10_worthAt_J40 hC hF hL Q   _ _ _ _ qa0 qa1  _ h
  · replace h := h.2 c0
    by_cases c1 : bm (M0 a1 0) = 2
    · replace h := h.1 c1
      refine r_tabIn hC 49 2 dX10_worthAt_7 c1 (by decide) (by decide) rfl (by decide) ?_
      refine r_aload_n hC 1 dX10_worthAt_49 rfl rfl ?_
      refine r_iload_n hC 3 dX10_worthAt_50 rfl rfl ?_
      refine r_callV (As := [vI x2]) (st := []) hC cw_X10_179 rfl qa0.1 qa0.2 rfl rfl (Nat.le_of_ble_eq_true rfl) ⟨Nat.le_of_ble_eq_true rfl, Nat.le_of_ble_eq_true rfl⟩ ⟨Nat.le_of_ble_eq_true rfl, Nat.le_of_ble_eq_true rfl⟩ dX10_worthAt_51 (fun hk => mX10_namesSince Y hF _ _ _ _ _ (kqO hk qa0) h) (fun v M_10 h => ?_)
      obtain ⟨r_11, rfl, h⟩ := h
      refine r_istore_n (lv' := [(3, vI r_11), (4, vI 0), (0, vR Y.1 a0), (1, vR Y.1 a1), (2, vI x2)]) hC dX10_worthAt_54 rfl (by decide) rfl ?_
      refine r_aload_n hC 2 dX10_worthAt_55 rfl rfl ?_
      have q_12 : 0 < a0 + 10 ∧ M0 0 (a0 + 10) = kA 0 5 := lay_f0 (a := a0) hL qa0 fm_10_13
      refine r_getR0 (a' := a0 + 10) hC fg_X10_39 rfl hF fm_10_13 qa0.1 qa0.2 rfl dX10_worthAt_56 ?_
      refine r_iconst hC dX10_worthAt_59 ?_
      refine r_iald hC ⟨by decide +kernel, by decide +kernel⟩ q_12.1 q_12.2 (by decide) dX10_worthAt_60 ?_
      refine r_nameI h (fun x4_13 h => ?_)
      refine r_istore (lv' := [(4, vI x4_13), (3, vI r_11), (0, vR Y.1 a0), (1, vR Y.1 a1), (2, vI x2)]) hC dX10_worthAt_61 (by decide) rfl ?_
      refine r_goto hC 94 dX10_worthAt_63 (by decide) ?_
      refine r_sub [2, 3, 1, 0] rfl ?_
      exact tX10_worthAt_J94 hC hF hL Q   _ _ _ _ qa0 qa1  _ h
    · replace h := h.2 c1
      by_cases c2 : bm (M0 a1 0) = 3
      · replace h := h.1 c2
        refine r_tabIn hC 66 3 dX10_worthAt_7 c2 (by decide) (by decide) rfl (by decide) ?_
        refine r_aload_n hC 1 dX10_worthAt_66 rfl rfl ?_
        refine r_iload_n hC 3 dX10_worthAt_67 rfl rfl ?_
        refine r_callV (As := [vI x2]) (st := []) hC cw_X10_182 rfl qa0.1 qa0.2 rfl rfl (Nat.le_of_ble_eq_true rfl) ⟨Nat.le_of_ble_eq_true rfl, Nat.le_of_ble_eq_true rfl⟩ ⟨Nat.le_of_ble_eq_true rfl, Nat.le_of_ble_eq_true rfl⟩ dX10_worthAt_68 (fun hk => mX10_namesPlace Y hF _ _ _ _ _ (kqO hk qa0) h) (fun v M_14 h => ?_)
        obtain ⟨r_15, rfl, h⟩ := h
        refine r_istore_n (lv' := [(3, vI r_15), (4, vI 0), (0, vR Y.1 a0), (1, vR Y.1 a1), (2, vI x2)]) hC dX10_worthAt_71 rfl (by decide) rfl ?_
        refine r_goto hC 94 dX10_worthAt_72 (by decide) ?_
        refine r_sub [2, 3, 0, 1] rfl ?_
        exact tX10_worthAt_J94 hC hF hL Q   _ _ _ _ qa0 qa1  _ h
      · replace h := h.2 c2
        by_cases c3 : bm (M0 a1 0) = 4
        · replace h := h.1 c3
          refine r_tabIn hC 75 4 dX10_worthAt_7 c3 (by decide) (by decide) rfl (by decide) ?_
          refine r_aload_n hC 1 dX10_worthAt_75 rfl rfl ?_
          refine r_iload_n hC 3 dX10_worthAt_76 rfl rfl ?_
          refine r_callV (As := [vI x2]) (st := []) hC cw_X10_185 rfl qa0.1 qa0.2 rfl rfl (Nat.le_of_ble_eq_true rfl) ⟨Nat.le_of_ble_eq_true rfl, Nat.le_of_ble_eq_true rfl⟩ ⟨Nat.le_of_ble_eq_true rfl, Nat.le_of_ble_eq_true rfl⟩ dX10_worthAt_77 (fun hk => mX10_namesTired Y hF _ _ _ _ _ (kqO hk qa0) h) (fun v M_16 h => ?_)
          obtain ⟨r_17, rfl, h⟩ := h
          refine r_istore_n (lv' := [(3, vI r_17), (4, vI 0), (0, vR Y.1 a0), (1, vR Y.1 a1), (2, vI x2)]) hC dX10_worthAt_80 rfl (by decide) rfl ?_
          refine r_aload_n hC 2 dX10_worthAt_81 rfl rfl ?_
          have q_18 : 0 < a0 + 10 ∧ M0 0 (a0 + 10) = kA 0 5 := lay_f0 (a := a0) hL qa0 fm_10_13
          refine r_getR0 (a' := a0 + 10) hC fg_X10_39 rfl hF fm_10_13 qa0.1 qa0.2 rfl dX10_worthAt_82 ?_
          refine r_iconst hC dX10_worthAt_85 ?_
          refine r_iald hC ⟨by decide +kernel, by decide +kernel⟩ q_18.1 q_18.2 (by decide) dX10_worthAt_86 ?_
          refine r_nameI h (fun x4_19 h => ?_)
          refine r_istore (lv' := [(4, vI x4_19), (3, vI r_17), (0, vR Y.1 a0), (1, vR Y.1 a1), (2, vI x2)]) hC dX10_worthAt_87 (by decide) rfl ?_
          refine r_goto hC 94 dX10_worthAt_89 (by decide) ?_
          refine r_sub [2, 3, 1, 0] rfl ?_
          exact tX10_worthAt_J94 hC hF hL Q   _ _ _ _ qa0 qa1  _ h
        · replace h := h.2 c3
          by_cases c4 : bm (M0 a1 0) = 5
          · replace h := h.1 c4
            refine r_tabIn hC 40 5 dX10_worthAt_7 c4 (by decide) (by decide) rfl (by decide) ?_
            refine r_sub [1, 2, 3, 0] rfl ?_
            exact tX10_worthAt_J40 hC hF hL Q   _ _ _ _ qa0 qa1  _ h
          · replace h := h.2 c4
            refine r_tabOut hC 92 dX10_worthAt_7 (by omega) (by decide) ?_
            refine r_iconst hC dX10_worthAt_92 ?_
            refine r_istore_n (lv' := [(3, vI 0), (4, vI 0), (0, vR Y.1 a0), (1, vR Y.1 a1), (2, vI x2)]) hC dX10_worthAt_93 rfl (by decide) rfl ?_
            refine r_sub [2, 3, 0, 1] rfl ?_
            exact tX10_worthAt_J94 hC hF hL Q   _ _ _ _ qa0 qa1  _ h
theorem dX10_weigh_0 : dec cX10_weigh 0 1 1 (.iload_n 1) := ⟨by decide +kernel, rfl⟩
theorem dX10_weigh_1 : dec cX10_weigh 1 1 2 (.iconst 0) := ⟨by decide +kernel, rfl⟩
theorem dX10_weigh_2 : dec cX10_weigh 2 1 3 (.aload_n 0) := ⟨by decide +kernel, rfl⟩
theorem dX10_weigh_3 : dec cX10_weigh 3 3 6 (.getfield 58) := ⟨by decide +kernel, rfl⟩
theorem dX10_weigh_6 : dec cX10_weigh 6 1 7 (.iconst 1) := ⟨by decide +kernel, rfl⟩
theorem dX10_weigh_7 : dec cX10_weigh 7 1 8 (.isub) := ⟨by decide +kernel, rfl⟩
theorem dX10_weigh_8 : dec cX10_weigh 8 3 11 (.invokestatic 91) := ⟨by decide +kernel, rfl⟩
theorem dX10_weigh_11 : dec cX10_weigh 11 3 14 (.ifCond .ne 4) := ⟨by decide +kernel, rfl⟩
theorem dX10_weigh_14 : dec cX10_weigh 14 1 15 (.return_) := ⟨by decide +kernel, rfl⟩
theorem dX10_weigh_15 : dec cX10_weigh 15 1 16 (.iload_n 1) := ⟨by decide +kernel, rfl⟩
theorem dX10_weigh_16 : dec cX10_weigh 16 2 18 (.bipush 10) := ⟨by decide +kernel, rfl⟩
theorem dX10_weigh_18 : dec cX10_weigh 18 1 19 (.imul) := ⟨by decide +kernel, rfl⟩
theorem dX10_weigh_19 : dec cX10_weigh 19 1 20 (.istore_n 2) := ⟨by decide +kernel, rfl⟩
theorem dX10_weigh_20 : dec cX10_weigh 20 1 21 (.iconst 0) := ⟨by decide +kernel, rfl⟩
theorem dX10_weigh_21 : dec cX10_weigh 21 1 22 (.istore_n 3) := ⟨by decide +kernel, rfl⟩
theorem dX10_weigh_22 : dec cX10_weigh 22 1 23 (.iload_n 3) := ⟨by decide +kernel, rfl⟩
theorem dX10_weigh_23 : dec cX10_weigh 23 1 24 (.aload_n 0) := ⟨by decide +kernel, rfl⟩
theorem dX10_weigh_24 : dec cX10_weigh 24 3 27 (.getfield 45) := ⟨by decide +kernel, rfl⟩
theorem dX10_weigh_27 : dec cX10_weigh 27 3 30 (.getfield 160) := ⟨by decide +kernel, rfl⟩
theorem dX10_weigh_30 : dec cX10_weigh 30 3 33 (.if_icmp .ge 54) := ⟨by decide +kernel, rfl⟩
theorem dX10_weigh_33 : dec cX10_weigh 33 1 34 (.aload_n 0) := ⟨by decide +kernel, rfl⟩
theorem dX10_weigh_34 : dec cX10_weigh 34 3 37 (.getfield 65) := ⟨by decide +kernel, rfl⟩
theorem dX10_weigh_37 : dec cX10_weigh 37 1 38 (.iload_n 3) := ⟨by decide +kernel, rfl⟩
theorem dX10_weigh_38 : dec cX10_weigh 38 3 41 (.invokestatic 133) := ⟨by decide +kernel, rfl⟩
theorem dX10_weigh_41 : dec cX10_weigh 41 3 44 (.ifCond .eq 37) := ⟨by decide +kernel, rfl⟩
theorem dX10_weigh_44 : dec cX10_weigh 44 1 45 (.aload_n 0) := ⟨by decide +kernel, rfl⟩
theorem dX10_weigh_45 : dec cX10_weigh 45 3 48 (.getfield 36) := ⟨by decide +kernel, rfl⟩
theorem dX10_weigh_48 : dec cX10_weigh 48 1 49 (.iload_n 2) := ⟨by decide +kernel, rfl⟩
theorem dX10_weigh_49 : dec cX10_weigh 49 2 51 (.bipush 10) := ⟨by decide +kernel, rfl⟩
theorem dX10_weigh_51 : dec cX10_weigh 51 1 52 (.iadd) := ⟨by decide +kernel, rfl⟩
theorem dX10_weigh_52 : dec cX10_weigh 52 1 53 (.iload_n 3) := ⟨by decide +kernel, rfl⟩
theorem dX10_weigh_53 : dec cX10_weigh 53 1 54 (.iadd) := ⟨by decide +kernel, rfl⟩
theorem dX10_weigh_54 : dec cX10_weigh 54 1 55 (.aload_n 0) := ⟨by decide +kernel, rfl⟩
theorem dX10_weigh_55 : dec cX10_weigh 55 3 58 (.getfield 36) := ⟨by decide +kernel, rfl⟩
theorem dX10_weigh_58 : dec cX10_weigh 58 1 59 (.iload_n 2) := ⟨by decide +kernel, rfl⟩
theorem dX10_weigh_59 : dec cX10_weigh 59 1 60 (.iload_n 3) := ⟨by decide +kernel, rfl⟩
theorem dX10_weigh_60 : dec cX10_weigh 60 1 61 (.iadd) := ⟨by decide +kernel, rfl⟩
theorem dX10_weigh_61 : dec cX10_weigh 61 1 62 (.iaload) := ⟨by decide +kernel, rfl⟩
theorem dX10_weigh_62 : dec cX10_weigh 62 1 63 (.aload_n 0) := ⟨by decide +kernel, rfl⟩
theorem dX10_weigh_63 : dec cX10_weigh 63 1 64 (.aload_n 0) := ⟨by decide +kernel, rfl⟩
theorem dX10_weigh_64 : dec cX10_weigh 64 3 67 (.getfield 45) := ⟨by decide +kernel, rfl⟩
theorem dX10_weigh_67 : dec cX10_weigh 67 3 70 (.getfield 163) := ⟨by decide +kernel, rfl⟩
theorem dX10_weigh_70 : dec cX10_weigh 70 1 71 (.iload_n 3) := ⟨by decide +kernel, rfl⟩
theorem dX10_weigh_71 : dec cX10_weigh 71 1 72 (.aaload) := ⟨by decide +kernel, rfl⟩
theorem dX10_weigh_72 : dec cX10_weigh 72 1 73 (.iload_n 1) := ⟨by decide +kernel, rfl⟩
theorem dX10_weigh_73 : dec cX10_weigh 73 3 76 (.invokevirtual 167) := ⟨by decide +kernel, rfl⟩
theorem dX10_weigh_76 : dec cX10_weigh 76 1 77 (.iadd) := ⟨by decide +kernel, rfl⟩
theorem dX10_weigh_77 : dec cX10_weigh 77 1 78 (.iastore) := ⟨by decide +kernel, rfl⟩
theorem dX10_weigh_78 : dec cX10_weigh 78 3 81 (.iinc 3 1) := ⟨by decide +kernel, rfl⟩
theorem dX10_weigh_81 : dec cX10_weigh 81 3 84 (.goto (-59)) := ⟨by decide +kernel, rfl⟩
theorem dX10_weigh_84 : dec cX10_weigh 84 1 85 (.return_) := ⟨by decide +kernel, rfl⟩
set_option maxHeartbeats 4000000 in
set_option maxRecDepth 100000 in
theorem tX10_weigh_L22 {X : Cx} {Y : Yx} {M0 : Mem} (hC : OKX X Y RX10 cX10_weigh 4 none rmX10_weigh) (hF : Y.2.2.2.2 = true) (hL : Lay M0) (Q : Mem → Prop)  (a0 : Nat) (x1 : Int) (x2 : Int) (qa0 : 0 < a0 ∧ M0 0 a0 = kO 10)  : ∀ (N : Nat) (x3 : Int) (M : Mem) (_ : wX10_weigh_L22 Q  a0 x1 x2 N x3 M), WW X Y 4 rmX10_weigh (QV Q) M0 0 0 22 [(0, vR Y.1 a0), (1, vI x1), (2, vI x2), (3, vI x3)] [] M := by
  intro N
  induction N with
  | zero =>
    intro x3 M h
    exact h.elim
  | succ N ih =>
    intro x3 M h
    unfold wX10_weigh_L22 at h
    refine r_iload_n hC 3 dX10_weigh_22 rfl rfl ?_
    refine r_aload_n hC 0 dX10_weigh_23 rfl rfl ?_
    have q_4 : 0 < (a0 - 89) ∧ M0 0 ((a0 - 89)) = kO 0 := lay_fs (a := a0) hL qa0 fm_10_0
    refine r_getRs (a' := (a0 - 89)) hC fg_X10_45 rfl hF fm_10_0 qa0.1 qa0.2 rfl dX10_weigh_24 ?_
    refine r_getI hC fg_X10_160 rfl q_4.1 q_4.2 dX10_weigh_27 ?_
    refine r_icmp_ge hC 84 rfl rfl dX10_weigh_30 (by decide) (fun cq => ?_) (fun cq => ?_)
    · replace h := h.1 cq
      exact r_vret hC (Nat.zero_le _) (Nat.zero_le _) dX10_weigh_84 ⟨rfl, h⟩
    · replace h := h.2 cq
      refine r_aload_n hC 0 dX10_weigh_33 rfl rfl ?_
      refine r_getI hC fg_X10_65 rfl qa0.1 qa0.2 dX10_weigh_34 ?_
      refine r_iload_n hC 3 dX10_weigh_37 rfl rfl ?_
      refine r_callN (As := [vI (M a0 3), vI x3]) (st := []) hC cw_X10_133 rfl rfl (Nat.le_of_ble_eq_true rfl) ⟨Nat.le_of_ble_eq_true rfl, Nat.le_of_ble_eq_true rfl⟩ ⟨Nat.le_of_ble_eq_true rfl, Nat.le_of_ble_eq_true rfl⟩ dX10_weigh_38 (fun hk => mX11_isIn Y hF _ _ _ _ _  h) (fun v M_5 h => ?_)
      obtain ⟨r_6, rfl, h⟩ := h
      refine r_if_eq hC 78 rfl dX10_weigh_41 (by decide) (fun cq => ?_) (fun cq => ?_)
      · replace h := h.1 cq
        refine let_elim h (fun x3_7 e_8 h => ?_)
        refine r_iinc (lv' := [(3, vI x3_7), (0, vR Y.1 a0), (1, vI x1), (2, vI x2)]) hC 3 dX10_weigh_78 rfl (by decide) e_8 rfl ?_
        refine r_goto hC 22 dX10_weigh_81 (by decide) ?_
        refine r_sub [1, 2, 3, 0] rfl ?_
        exact ih _ _ h
      · replace h := h.2 cq
        refine r_aload_n hC 0 dX10_weigh_44 rfl rfl ?_
        have q_9 : 0 < a0 + 9 ∧ M0 0 (a0 + 9) = kA 0 130 := lay_f0 (a := a0) hL qa0 fm_10_12
        refine r_getR0 (a' := a0 + 9) hC fg_X10_36 rfl hF fm_10_12 qa0.1 qa0.2 rfl dX10_weigh_45 ?_
        refine r_iload_n hC 2 dX10_weigh_48 rfl rfl ?_
        refine r_bipush hC (by decide +kernel) dX10_weigh_49 ?_
        refine r_iadd hC dX10_weigh_51 ?_
        refine r_iload_n hC 3 dX10_weigh_52 rfl rfl ?_
        refine r_iadd hC dX10_weigh_53 ?_
        refine r_aload_n hC 0 dX10_weigh_54 rfl rfl ?_
        have q_10 : 0 < a0 + 9 ∧ M0 0 (a0 + 9) = kA 0 130 := lay_f0 (a := a0) hL qa0 fm_10_12
        refine r_getR0 (a' := a0 + 9) hC fg_X10_36 rfl hF fm_10_12 qa0.1 qa0.2 rfl dX10_weigh_55 ?_
        refine r_iload_n hC 2 dX10_weigh_58 rfl rfl ?_
        refine r_iload_n hC 3 dX10_weigh_59 rfl rfl ?_
        refine r_iadd hC dX10_weigh_60 ?_
        obtain ⟨i_11, h⟩ := h
        refine r_iald hC i_11 q_10.1 q_10.2 (by decide) dX10_weigh_61 ?_
        refine r_aload_n hC 0 dX10_weigh_62 rfl rfl ?_
        refine r_aload_n hC 0 dX10_weigh_63 rfl rfl ?_
        have q_12 : 0 < (a0 - 89) ∧ M0 0 ((a0 - 89)) = kO 0 := lay_fs (a := a0) hL qa0 fm_10_0
        refine r_getRs (a' := (a0 - 89)) hC fg_X10_45 rfl hF fm_10_0 qa0.1 qa0.2 rfl dX10_weigh_64 ?_
        have q_13 : 0 < (a0 - 89) + 3 ∧ M0 0 ((a0 - 89) + 3) = kA 5 10 := lay_f0 (a := (a0 - 89)) hL q_12 fm_0_3
        refine r_getR0 (a' := (a0 - 89) + 3) hC fg_X10_163 rfl hF fm_0_3 q_12.1 q_12.2 rfl dX10_weigh_67 ?_
        refine r_iload_n hC 3 dX10_weigh_70 rfl rfl ?_
        obtain ⟨i_14, h⟩ := h
        have q_15 : 0 < (a0 - 89) + 21 + 2 * (bm x3).toNat ∧ M0 0 ((a0 - 89) + 21 + 2 * (bm x3).toNat) = kO 1 := lay_a5 (a := (a0 - 89) + 3) hL q_13 (inb_nat i_14)
        refine r_aald5 hC hF i_14 q_13.1 q_13.2 dX10_weigh_71 ?_
        refine r_iload_n hC 1 dX10_weigh_72 rfl rfl ?_
        refine r_callV (As := [vR Y.1 ((a0 - 89) + 21 + 2 * (bm x3).toNat), vI x1]) (st := [vI (rd M_5 (a0 + 9) (x2 + x3)), vI ((x2 + 10) + x3), vR Y.1 (a0 + 9)]) hC cw_X10_167 rfl qa0.1 qa0.2 rfl rfl (Nat.le_of_ble_eq_true rfl) ⟨Nat.le_of_ble_eq_true rfl, Nat.le_of_ble_eq_true rfl⟩ ⟨Nat.le_of_ble_eq_true rfl, Nat.le_of_ble_eq_true rfl⟩ dX10_weigh_73 (fun hk => mX10_worthAt Y hF _ _ _ _ _ _ (kqO hk qa0) (kqO hk q_15) h) (fun v M_16 h => ?_)
        obtain ⟨r_17, rfl, h⟩ := h
        refine r_iadd hC dX10_weigh_76 ?_
        obtain ⟨i_18, h⟩ := h
        refine r_iast hC i_18 q_9.1 q_9.2 (by decide) dX10_weigh_77 ?_
        refine r_nameM h (fun M_19 h => ?_)
        refine let_elim h (fun x3_20 e_21 h => ?_)
        refine r_iinc (lv' := [(3, vI x3_20), (0, vR Y.1 a0), (1, vI x1), (2, vI x2)]) hC 3 dX10_weigh_78 rfl (by decide) e_21 rfl ?_
        refine r_goto hC 22 dX10_weigh_81 (by decide) ?_
        refine r_sub [1, 2, 3, 0] rfl ?_
        exact ih _ _ h
set_option maxHeartbeats 4000000 in
set_option maxRecDepth 100000 in
theorem mX10_weigh (Y : Yx) (hF : Y.2.2.2.2 = true) (l : Launch) (a0 : Nat) (x1 : Int) (M0 : Mem) (Q : Mem → Prop) (qa0 : 0 < a0 ∧ M0 0 a0 = kO 10) (h : wX10_weigh a0 x1 M0 Q) : CT Y l yX10_weigh cX10_weigh 4 none rmX10_weigh [vR Y.1 a0, vI x1] M0 (QV Q) := by
  unfold wX10_weigh at h
  refine ct_intro (by decide) (Nat.le_of_ble_eq_true rfl) ?_
  intro X hXl hC hL0
  have hL := hL0 hF
  change OKX X Y RX10 cX10_weigh 4 none rmX10_weigh at hC
  change WW X Y 4 rmX10_weigh (QV Q) M0 0 0 0 [(0, vR Y.1 a0), (1, vI x1)] [] M0
  refine r_iload_n hC 1 dX10_weigh_0 rfl rfl ?_
  refine r_iconst hC dX10_weigh_1 ?_
  refine r_aload_n hC 0 dX10_weigh_2 rfl rfl ?_
  refine r_getI hC fg_X10_58 rfl qa0.1 qa0.2 dX10_weigh_3 ?_
  refine r_iconst hC dX10_weigh_6 ?_
  refine r_isub hC dX10_weigh_7 ?_
  refine r_callN (As := [vI x1, vI 0, vI ((M0 a0 1) - 1)]) (st := []) hC cw_X10_91 rfl rfl (Nat.le_of_ble_eq_true rfl) ⟨Nat.le_of_ble_eq_true rfl, Nat.le_of_ble_eq_true rfl⟩ ⟨Nat.le_of_ble_eq_true rfl, Nat.le_of_ble_eq_true rfl⟩ dX10_weigh_8 (fun hk => mX11_within Y hF _ _ _ _ _ _  h) (fun v M_1 h => ?_)
  obtain ⟨r_2, rfl, h⟩ := h
  refine r_if_ne hC 15 rfl dX10_weigh_11 (by decide) (fun cq => ?_) (fun cq => ?_)
  · replace h := h.2 cq
    refine r_iload_n hC 1 dX10_weigh_15 rfl rfl ?_
    refine r_bipush hC (by decide +kernel) dX10_weigh_16 ?_
    refine r_imul hC dX10_weigh_18 ?_
    refine r_nameI h (fun x2_3 h => ?_)
    refine r_istore_n (lv' := [(2, vI x2_3), (0, vR Y.1 a0), (1, vI x1)]) hC dX10_weigh_19 rfl (by decide) rfl ?_
    refine r_iconst hC dX10_weigh_20 ?_
    refine r_istore_n (lv' := [(3, vI 0), (2, vI x2_3), (0, vR Y.1 a0), (1, vI x1)]) hC dX10_weigh_21 rfl (by decide) rfl ?_
    refine r_sub [2, 3, 1, 0] rfl ?_
    obtain ⟨N_22, h⟩ := h
    refine tX10_weigh_L22 hC hF hL Q  _ _ _ qa0  N_22 _ _ h
  · replace h := h.1 cq
    exact r_vret hC (Nat.zero_le _) (Nat.zero_le _) dX10_weigh_14 ⟨rfl, h⟩
theorem dX6_goOnGood_0 : dec cX6_goOnGood 0 1 1 (.iload_n 1) := ⟨by decide +kernel, rfl⟩
theorem dX6_goOnGood_1 : dec cX6_goOnGood 1 1 2 (.aload_n 0) := ⟨by decide +kernel, rfl⟩
theorem dX6_goOnGood_2 : dec cX6_goOnGood 2 3 5 (.getfield 41) := ⟨by decide +kernel, rfl⟩
theorem dX6_goOnGood_5 : dec cX6_goOnGood 5 3 8 (.if_icmp .lt 9) := ⟨by decide +kernel, rfl⟩
theorem dX6_goOnGood_8 : dec cX6_goOnGood 8 1 9 (.aload_n 0) := ⟨by decide +kernel, rfl⟩
theorem dX6_goOnGood_9 : dec cX6_goOnGood 9 1 10 (.iload_n 2) := ⟨by decide +kernel, rfl⟩
theorem dX6_goOnGood_10 : dec cX6_goOnGood 10 3 13 (.invokevirtual 84) := ⟨by decide +kernel, rfl⟩
theorem dX6_goOnGood_13 : dec cX6_goOnGood 13 1 14 (.return_) := ⟨by decide +kernel, rfl⟩
theorem dX6_goOnGood_14 : dec cX6_goOnGood 14 1 15 (.iconst 0) := ⟨by decide +kernel, rfl⟩
theorem dX6_goOnGood_15 : dec cX6_goOnGood 15 1 16 (.istore_n 3) := ⟨by decide +kernel, rfl⟩
theorem dX6_goOnGood_16 : dec cX6_goOnGood 16 1 17 (.iload_n 3) := ⟨by decide +kernel, rfl⟩
theorem dX6_goOnGood_17 : dec cX6_goOnGood 17 1 18 (.aload_n 0) := ⟨by decide +kernel, rfl⟩
theorem dX6_goOnGood_18 : dec cX6_goOnGood 18 3 21 (.getfield 41) := ⟨by decide +kernel, rfl⟩
theorem dX6_goOnGood_21 : dec cX6_goOnGood 21 3 24 (.if_icmp .ge 76) := ⟨by decide +kernel, rfl⟩
theorem dX6_goOnGood_24 : dec cX6_goOnGood 24 1 25 (.aload_n 0) := ⟨by decide +kernel, rfl⟩
theorem dX6_goOnGood_25 : dec cX6_goOnGood 25 3 28 (.getfield 9) := ⟨by decide +kernel, rfl⟩
theorem dX6_goOnGood_28 : dec cX6_goOnGood 28 1 29 (.iload_n 3) := ⟨by decide +kernel, rfl⟩
theorem dX6_goOnGood_29 : dec cX6_goOnGood 29 1 30 (.iaload) := ⟨by decide +kernel, rfl⟩
theorem dX6_goOnGood_30 : dec cX6_goOnGood 30 2 32 (.istore 4) := ⟨by decide +kernel, rfl⟩
theorem dX6_goOnGood_32 : dec cX6_goOnGood 32 1 33 (.aload_n 0) := ⟨by decide +kernel, rfl⟩
theorem dX6_goOnGood_33 : dec cX6_goOnGood 33 3 36 (.getfield 33) := ⟨by decide +kernel, rfl⟩
theorem dX6_goOnGood_36 : dec cX6_goOnGood 36 3 39 (.getfield 87) := ⟨by decide +kernel, rfl⟩
theorem dX6_goOnGood_39 : dec cX6_goOnGood 39 1 40 (.iload_n 1) := ⟨by decide +kernel, rfl⟩
theorem dX6_goOnGood_40 : dec cX6_goOnGood 40 1 41 (.iaload) := ⟨by decide +kernel, rfl⟩
theorem dX6_goOnGood_41 : dec cX6_goOnGood 41 2 43 (.iload 4) := ⟨by decide +kernel, rfl⟩
theorem dX6_goOnGood_43 : dec cX6_goOnGood 43 3 46 (.invokestatic 58) := ⟨by decide +kernel, rfl⟩
theorem dX6_goOnGood_46 : dec cX6_goOnGood 46 3 49 (.ifCond .eq 6) := ⟨by decide +kernel, rfl⟩
theorem dX6_goOnGood_49 : dec cX6_goOnGood 49 3 52 (.goto 42) := ⟨by decide +kernel, rfl⟩
theorem dX6_goOnGood_52 : dec cX6_goOnGood 52 1 53 (.aload_n 0) := ⟨by decide +kernel, rfl⟩
theorem dX6_goOnGood_53 : dec cX6_goOnGood 53 3 56 (.getfield 33) := ⟨by decide +kernel, rfl⟩
theorem dX6_goOnGood_56 : dec cX6_goOnGood 56 1 57 (.iload_n 1) := ⟨by decide +kernel, rfl⟩
theorem dX6_goOnGood_57 : dec cX6_goOnGood 57 2 59 (.iload 4) := ⟨by decide +kernel, rfl⟩
theorem dX6_goOnGood_59 : dec cX6_goOnGood 59 3 62 (.invokevirtual 90) := ⟨by decide +kernel, rfl⟩
theorem dX6_goOnGood_62 : dec cX6_goOnGood 62 1 63 (.aload_n 0) := ⟨by decide +kernel, rfl⟩
theorem dX6_goOnGood_63 : dec cX6_goOnGood 63 3 66 (.getfield 33) := ⟨by decide +kernel, rfl⟩
theorem dX6_goOnGood_66 : dec cX6_goOnGood 66 1 67 (.iload_n 1) := ⟨by decide +kernel, rfl⟩
theorem dX6_goOnGood_67 : dec cX6_goOnGood 67 1 68 (.iconst 1) := ⟨by decide +kernel, rfl⟩
theorem dX6_goOnGood_68 : dec cX6_goOnGood 68 1 69 (.iadd) := ⟨by decide +kernel, rfl⟩
theorem dX6_goOnGood_69 : dec cX6_goOnGood 69 3 72 (.invokevirtual 93) := ⟨by decide +kernel, rfl⟩
theorem dX6_goOnGood_72 : dec cX6_goOnGood 72 3 75 (.ifCond .eq 19) := ⟨by decide +kernel, rfl⟩
theorem dX6_goOnGood_75 : dec cX6_goOnGood 75 1 76 (.aload_n 0) := ⟨by decide +kernel, rfl⟩
theorem dX6_goOnGood_76 : dec cX6_goOnGood 76 3 79 (.getfield 33) := ⟨by decide +kernel, rfl⟩
theorem dX6_goOnGood_79 : dec cX6_goOnGood 79 1 80 (.iload_n 1) := ⟨by decide +kernel, rfl⟩
theorem dX6_goOnGood_80 : dec cX6_goOnGood 80 3 83 (.invokevirtual 97) := ⟨by decide +kernel, rfl⟩
theorem dX6_goOnGood_83 : dec cX6_goOnGood 83 1 84 (.aload_n 0) := ⟨by decide +kernel, rfl⟩
theorem dX6_goOnGood_84 : dec cX6_goOnGood 84 1 85 (.iload_n 1) := ⟨by decide +kernel, rfl⟩
theorem dX6_goOnGood_85 : dec cX6_goOnGood 85 1 86 (.iconst 1) := ⟨by decide +kernel, rfl⟩
theorem dX6_goOnGood_86 : dec cX6_goOnGood 86 1 87 (.iadd) := ⟨by decide +kernel, rfl⟩
theorem dX6_goOnGood_87 : dec cX6_goOnGood 87 1 88 (.iload_n 2) := ⟨by decide +kernel, rfl⟩
theorem dX6_goOnGood_88 : dec cX6_goOnGood 88 3 91 (.invokevirtual 80) := ⟨by decide +kernel, rfl⟩
theorem dX6_goOnGood_91 : dec cX6_goOnGood 91 3 94 (.iinc 3 1) := ⟨by decide +kernel, rfl⟩
theorem dX6_goOnGood_94 : dec cX6_goOnGood 94 3 97 (.goto (-78)) := ⟨by decide +kernel, rfl⟩
theorem dX6_goOnGood_97 : dec cX6_goOnGood 97 1 98 (.return_) := ⟨by decide +kernel, rfl⟩
set_option maxHeartbeats 4000000 in
set_option maxRecDepth 100000 in
theorem tX6_goOnGood_L16 {X : Cx} {Y : Yx} {M0 : Mem} {Γ : Nat → List Int → Mem → (Int → Mem → Prop) → Prop} {d : Nat} (hC : OKX X Y RX6 cX6_goOnGood 5 none (rmX6_goOnGood (d + 1))) (hF : Y.2.2.2.2 = true) (hL : Lay M0) (a0 : Nat) (hG0 : ∀ (x0 : Int) (x1 : Int) (M : Mem) (Q : Int → Mem → Prop), (0 < a0 ∧ M 0 a0 = kO 6) → Γ 0 [x0, x1] M Q → CT Y X.2.1 yX6_goOnGood cX6_goOnGood 5 none (rmX6_goOnGood d) [vR Y.1 a0, vI x0, vI x1] M (QV (Q 0))) (Q : Mem → Prop)  (x1 : Int) (x2 : Int) (qa0 : 0 < a0 ∧ M0 0 a0 = kO 6)  : ∀ (N : Nat) (x3 : Int) (M : Mem) (_ : wX6_goOnGood_L16 Γ Q  a0 x1 x2 N x3 M), WW X Y 5 (rmX6_goOnGood (d + 1)) (QV Q) M0 0 0 16 [(0, vR Y.1 a0), (1, vI x1), (2, vI x2), (3, vI x3)] [] M := by
  intro N
  induction N with
  | zero =>
    intro x3 M h
    exact h.elim
  | succ N ih =>
    intro x3 M h
    unfold wX6_goOnGood_L16 at h
    refine r_iload_n hC 3 dX6_goOnGood_16 rfl rfl ?_
    refine r_aload_n hC 0 dX6_goOnGood_17 rfl rfl ?_
    refine r_getI hC fg_X6_41 rfl qa0.1 qa0.2 dX6_goOnGood_18 ?_
    refine r_icmp_ge hC 97 rfl rfl dX6_goOnGood_21 (by decide) (fun cq => ?_) (fun cq => ?_)
    · replace h := h.1 cq
      exact r_vret hC (Nat.zero_le _) (Nat.zero_le _) dX6_goOnGood_97 ⟨rfl, h⟩
    · replace h := h.2 cq
      refine r_aload_n hC 0 dX6_goOnGood_24 rfl rfl ?_
      have q_1 : 0 < a0 + 1 ∧ M0 0 (a0 + 1) = kA 0 12 := lay_f0 (a := a0) hL qa0 fm_6_2
      refine r_getR0 (a' := a0 + 1) hC fg_X6_9 rfl hF fm_6_2 qa0.1 qa0.2 rfl dX6_goOnGood_25 ?_
      refine r_iload_n hC 3 dX6_goOnGood_28 rfl rfl ?_
      obtain ⟨i_2, h⟩ := h
      refine r_iald hC i_2 q_1.1 q_1.2 (by decide) dX6_goOnGood_29 ?_
      refine r_nameI h (fun x4_3 h => ?_)
      refine r_istore (lv' := [(4, vI x4_3), (0, vR Y.1 a0), (1, vI x1), (2, vI x2), (3, vI x3)]) hC dX6_goOnGood_30 (by decide) rfl ?_
      refine r_aload_n hC 1 dX6_goOnGood_32 rfl rfl ?_
      have q_4 : 0 < (a0 - 12) ∧ M0 0 ((a0 - 12)) = kO 10 := lay_fs (a := a0) hL qa0 fm_6_1
      refine r_getRs (a' := (a0 - 12)) hC fg_X6_33 rfl hF fm_6_1 qa0.1 qa0.2 rfl dX6_goOnGood_33 ?_
      have q_5 : 0 < (a0 - 12) + 5 ∧ M0 0 ((a0 - 12) + 5) = kA 0 13 := lay_f0 (a := (a0 - 12)) hL q_4 fm_10_8
      refine r_getR0 (a' := (a0 - 12) + 5) hC fg_X6_87 rfl hF fm_10_8 q_4.1 q_4.2 rfl dX6_goOnGood_36 ?_
      refine r_iload_n hC 2 dX6_goOnGood_39 rfl rfl ?_
      obtain ⟨i_6, h⟩ := h
      refine r_iald hC i_6 q_5.1 q_5.2 (by decide) dX6_goOnGood_40 ?_
      refine r_iload hC 0 dX6_goOnGood_41 rfl ?_
      refine r_callN (As := [vI (rd M ((a0 - 12) + 5) x1), vI x4_3]) (st := []) hC cw_X6_58 rfl rfl (Nat.le_of_ble_eq_true rfl) (by constructor <;> simp only [rmX6_goOnGood, rmX11_isIn] <;> omega) ⟨Nat.le_of_ble_eq_true rfl, Nat.le_of_ble_eq_true rfl⟩ dX6_goOnGood_43 (fun hk => mX11_isIn Y hF _ _ _ _ _  h) (fun v M_7 h => ?_)
      obtain ⟨r_8, rfl, h⟩ := h
      refine r_if_eq hC 52 rfl dX6_goOnGood_46 (by decide) (fun cq => ?_) (fun cq => ?_)
      · replace h := h.1 cq
        refine r_aload_n hC 1 dX6_goOnGood_52 rfl rfl ?_
        have q_9 : 0 < (a0 - 12) ∧ M0 0 ((a0 - 12)) = kO 10 := lay_fs (a := a0) hL qa0 fm_6_1
        refine r_getRs (a' := (a0 - 12)) hC fg_X6_33 rfl hF fm_6_1 qa0.1 qa0.2 rfl dX6_goOnGood_53 ?_
        refine r_iload_n hC 2 dX6_goOnGood_56 rfl rfl ?_
        refine r_iload hC 0 dX6_goOnGood_57 rfl ?_
        refine r_callV (As := [vI x1, vI x4_3]) (st := []) hC cw_X6_90 rfl q_9.1 q_9.2 rfl rfl (Nat.le_of_ble_eq_true rfl) (by constructor <;> simp only [rmX6_goOnGood, rmX10_step] <;> omega) ⟨Nat.le_of_ble_eq_true rfl, Nat.le_of_ble_eq_true rfl⟩ dX6_goOnGood_59 (fun hk => mX10_step Y hF _ _ _ _ _ _ (kqO hk q_9) h) (fun v M_10 h => ?_)
        obtain ⟨rfl, h⟩ := h
        refine r_aload_n hC 1 dX6_goOnGood_62 rfl rfl ?_
        have q_11 : 0 < (a0 - 12) ∧ M0 0 ((a0 - 12)) = kO 10 := lay_fs (a := a0) hL qa0 fm_6_1
        refine r_getRs (a' := (a0 - 12)) hC fg_X6_33 rfl hF fm_6_1 qa0.1 qa0.2 rfl dX6_goOnGood_63 ?_
        refine r_iload_n hC 2 dX6_goOnGood_66 rfl rfl ?_
        refine r_iconst hC dX6_goOnGood_67 ?_
        refine r_iadd hC dX6_goOnGood_68 ?_
        refine r_callV (As := [vI (x1 + 1)]) (st := []) hC cw_X6_93 rfl q_11.1 q_11.2 rfl rfl (Nat.le_of_ble_eq_true rfl) (by constructor <;> simp only [rmX6_goOnGood, rmX10_isGood] <;> omega) ⟨Nat.le_of_ble_eq_true rfl, Nat.le_of_ble_eq_true rfl⟩ dX6_goOnGood_69 (fun hk => mX10_isGood Y hF _ _ _ _ _ (kqO hk q_11) h) (fun v M_12 h => ?_)
        obtain ⟨r_13, rfl, h⟩ := h
        refine r_if_eq hC 91 rfl dX6_goOnGood_72 (by decide) (fun cq => ?_) (fun cq => ?_)
        · replace h := h.1 cq
          refine let_elim h (fun x3_14 e_15 h => ?_)
          refine r_iinc (lv' := [(3, vI x3_14), (4, vI x4_3), (0, vR Y.1 a0), (1, vI x1), (2, vI x2)]) hC 4 dX6_goOnGood_91 rfl (by decide) e_15 rfl ?_
          refine r_goto hC 16 dX6_goOnGood_94 (by decide) ?_
          refine r_sub [2, 3, 4, 0] rfl ?_
          exact ih _ _ h
        · replace h := h.2 cq
          refine r_aload_n hC 1 dX6_goOnGood_75 rfl rfl ?_
          have q_16 : 0 < (a0 - 12) ∧ M0 0 ((a0 - 12)) = kO 10 := lay_fs (a := a0) hL qa0 fm_6_1
          refine r_getRs (a' := (a0 - 12)) hC fg_X6_33 rfl hF fm_6_1 qa0.1 qa0.2 rfl dX6_goOnGood_76 ?_
          refine r_iload_n hC 2 dX6_goOnGood_79 rfl rfl ?_
          refine r_callV (As := [vI x1]) (st := []) hC cw_X6_97 rfl q_16.1 q_16.2 rfl rfl (Nat.le_of_ble_eq_true rfl) (by constructor <;> simp only [rmX6_goOnGood, rmX10_weigh] <;> omega) ⟨Nat.le_of_ble_eq_true rfl, Nat.le_of_ble_eq_true rfl⟩ dX6_goOnGood_80 (fun hk => mX10_weigh Y hF _ _ _ _ _ (kqO hk q_16) h) (fun v M_17 h => ?_)
          obtain ⟨rfl, h⟩ := h
          refine r_aload_n hC 1 dX6_goOnGood_83 rfl rfl ?_
          refine r_iload_n hC 2 dX6_goOnGood_84 rfl rfl ?_
          refine r_iconst hC dX6_goOnGood_85 ?_
          refine r_iadd hC dX6_goOnGood_86 ?_
          refine r_iload_n hC 3 dX6_goOnGood_87 rfl rfl ?_
          refine r_callV (As := [vI (x1 + 1), vI x2]) (st := []) hC cw_X6_80 rfl qa0.1 qa0.2 rfl rfl (Nat.le_of_ble_eq_true rfl) (by constructor <;> simp only [rmX6_goOnGood, rmX6_goOnGood] <;> omega) ⟨Nat.le_of_ble_eq_true rfl, Nat.le_of_ble_eq_true rfl⟩ dX6_goOnGood_88 (fun hk => hG0 _ _ _ _ (kqO hk qa0) h) (fun v M_18 h => ?_)
          obtain ⟨rfl, h⟩ := h
          refine let_elim h (fun x3_19 e_20 h => ?_)
          refine r_iinc (lv' := [(3, vI x3_19), (4, vI x4_3), (0, vR Y.1 a0), (1, vI x1), (2, vI x2)]) hC 4 dX6_goOnGood_91 rfl (by decide) e_20 rfl ?_
          refine r_goto hC 16 dX6_goOnGood_94 (by decide) ?_
          refine r_sub [2, 3, 4, 0] rfl ?_
          exact ih _ _ h
      · replace h := h.2 cq
        refine r_goto hC 91 dX6_goOnGood_49 (by decide) ?_
        refine let_elim h (fun x3_21 e_22 h => ?_)
        refine r_iinc (lv' := [(3, vI x3_21), (4, vI x4_3), (0, vR Y.1 a0), (1, vI x1), (2, vI x2)]) hC 4 dX6_goOnGood_91 rfl (by decide) e_22 rfl ?_
        refine r_goto hC 16 dX6_goOnGood_94 (by decide) ?_
        refine r_sub [2, 3, 4, 0] rfl ?_
        exact ih _ _ h
set_option maxHeartbeats 4000000 in
set_option maxRecDepth 100000 in
theorem mbX6_goOnGood (Y : Yx) (hF : Y.2.2.2.2 = true) (l : Launch) {Γ : Nat → List Int → Mem → (Int → Mem → Prop) → Prop} {d : Nat} (a0 : Nat) (x1 : Int) (x2 : Int) (hG0 : ∀ (x0 : Int) (x1 : Int) (M : Mem) (Q : Int → Mem → Prop), (0 < a0 ∧ M 0 a0 = kO 6) → Γ 0 [x0, x1] M Q → CT Y l yX6_goOnGood cX6_goOnGood 5 none (rmX6_goOnGood d) [vR Y.1 a0, vI x0, vI x1] M (QV (Q 0))) (M0 : Mem) (Q : Mem → Prop) (qa0 : 0 < a0 ∧ M0 0 a0 = kO 6) (h : wbX6_goOnGood Γ a0 x1 x2 M0 Q) : CT Y l yX6_goOnGood cX6_goOnGood 5 none (rmX6_goOnGood (d + 1)) [vR Y.1 a0, vI x1, vI x2] M0 (QV Q) := by
  unfold wbX6_goOnGood at h
  refine ct_intro (by decide) (Nat.le_of_ble_eq_true rfl) ?_
  intro X hXl hC hL0
  have hL := hL0 hF
  change OKX X Y RX6 cX6_goOnGood 5 none (rmX6_goOnGood (d + 1)) at hC
  subst hXl
  change WW X Y 5 (rmX6_goOnGood (d + 1)) (QV Q) M0 0 0 0 [(0, vR Y.1 a0), (1, vI x1), (2, vI x2)] [] M0
  refine r_iload_n hC 1 dX6_goOnGood_0 rfl rfl ?_
  refine r_aload_n hC 0 dX6_goOnGood_1 rfl rfl ?_
  refine r_getI hC fg_X6_41 rfl qa0.1 qa0.2 dX6_goOnGood_2 ?_
  refine r_icmp_lt hC 14 rfl rfl dX6_goOnGood_5 (by decide) (fun cq => ?_) (fun cq => ?_)
  · replace h := h.1 cq
    refine r_iconst hC dX6_goOnGood_14 ?_
    refine r_istore_n (lv' := [(3, vI 0), (0, vR Y.1 a0), (1, vI x1), (2, vI x2)]) hC dX6_goOnGood_15 rfl (by decide) rfl ?_
    refine r_sub [1, 2, 3, 0] rfl ?_
    obtain ⟨N_23, h⟩ := h
    refine tX6_goOnGood_L16 hC hF hL _ hG0 Q  _ _ qa0  N_23 _ _ h
  · replace h := h.2 cq
    refine r_aload_n hC 0 dX6_goOnGood_8 rfl rfl ?_
    refine r_iload_n hC 2 dX6_goOnGood_9 rfl rfl ?_
    refine r_callV (As := [vI x2]) (st := []) hC cw_X6_84 rfl qa0.1 qa0.2 rfl rfl (Nat.le_of_ble_eq_true rfl) (by constructor <;> simp only [rmX6_goOnGood, rmX6_takeGood] <;> omega) ⟨Nat.le_of_ble_eq_true rfl, Nat.le_of_ble_eq_true rfl⟩ dX6_goOnGood_10 (fun hk => mX6_takeGood Y hF _ _ _ _ _ (kqO hk qa0) h) (fun v M_24 h => ?_)
    obtain ⟨rfl, h⟩ := h
    exact r_vret hC (Nat.zero_le _) (Nat.zero_le _) dX6_goOnGood_13 ⟨rfl, h⟩
set_option maxHeartbeats 4000000 in
set_option maxRecDepth 100000 in
theorem mGX6_goOnGood (Y : Yx) (hF : Y.2.2.2.2 = true) (l : Launch) (a0 : Nat) : ∀ d : Nat, (∀ (x1 : Int) (x2 : Int) (M : Mem) (Q : Int → Mem → Prop), (0 < a0 ∧ M 0 a0 = kO 6) → wGX6_goOnGood a0 d 0 [x1, x2] M Q → CT Y l yX6_goOnGood cX6_goOnGood 5 none (rmX6_goOnGood d) [vR Y.1 a0, vI x1, vI x2] M (QV (Q 0))) := by
  intro d
  induction d with
  | zero => exact fun x1 x2 M Q f0 h => h.elim
  | succ d ih => exact fun x1 x2 M Q f0 h => mbX6_goOnGood Y hF l a0 x1 x2 ih M (Q 0) f0 h
set_option maxHeartbeats 4000000 in
set_option maxRecDepth 100000 in
theorem mX6_goOnGood (Y : Yx) (hF : Y.2.2.2.2 = true) (l : Launch) (a0 : Nat) (x1 : Int) (x2 : Int) (M0 : Mem) (Q : Mem → Prop) (qa0 : 0 < a0 ∧ M0 0 a0 = kO 6) (h : wX6_goOnGood a0 x1 x2 M0 Q) : CT Y l yX6_goOnGood cX6_goOnGood 5 none (rmX6_goOnGood 8) [vR Y.1 a0, vI x1, vI x2] M0 (QV Q) := (mGX6_goOnGood Y hF l a0 8) _ _ M0 (fun _ => Q) qa0 h
theorem dX6_find_0 : dec cX6_find 0 1 1 (.aload_n 0) := ⟨by decide +kernel, rfl⟩
theorem dX6_find_1 : dec cX6_find 1 3 4 (.getfield 62) := ⟨by decide +kernel, rfl⟩
theorem dX6_find_4 : dec cX6_find 4 3 7 (.ifCond .eq 12) := ⟨by decide +kernel, rfl⟩
theorem dX6_find_7 : dec cX6_find 7 1 8 (.aload_n 0) := ⟨by decide +kernel, rfl⟩
theorem dX6_find_8 : dec cX6_find 8 3 11 (.getfield 37) := ⟨by decide +kernel, rfl⟩
theorem dX6_find_11 : dec cX6_find 11 1 12 (.iload_n 1) := ⟨by decide +kernel, rfl⟩
theorem dX6_find_12 : dec cX6_find 12 3 15 (.if_icmp .ne 4) := ⟨by decide +kernel, rfl⟩
theorem dX6_find_15 : dec cX6_find 15 1 16 (.return_) := ⟨by decide +kernel, rfl⟩
theorem dX6_find_16 : dec cX6_find 16 1 17 (.aload_n 0) := ⟨by decide +kernel, rfl⟩
theorem dX6_find_17 : dec cX6_find 17 1 18 (.iload_n 1) := ⟨by decide +kernel, rfl⟩
theorem dX6_find_18 : dec cX6_find 18 3 21 (.invokevirtual 66) := ⟨by decide +kernel, rfl⟩
theorem dX6_find_21 : dec cX6_find 21 1 22 (.aload_n 0) := ⟨by decide +kernel, rfl⟩
theorem dX6_find_22 : dec cX6_find 22 3 25 (.getfield 29) := ⟨by decide +kernel, rfl⟩
theorem dX6_find_25 : dec cX6_find 25 3 28 (.invokevirtual 70) := ⟨by decide +kernel, rfl⟩
theorem dX6_find_28 : dec cX6_find 28 1 29 (.istore_n 2) := ⟨by decide +kernel, rfl⟩
theorem dX6_find_29 : dec cX6_find 29 1 30 (.iconst 0) := ⟨by decide +kernel, rfl⟩
theorem dX6_find_30 : dec cX6_find 30 1 31 (.istore_n 3) := ⟨by decide +kernel, rfl⟩
theorem dX6_find_31 : dec cX6_find 31 1 32 (.iload_n 3) := ⟨by decide +kernel, rfl⟩
theorem dX6_find_32 : dec cX6_find 32 1 33 (.aload_n 0) := ⟨by decide +kernel, rfl⟩
theorem dX6_find_33 : dec cX6_find 33 3 36 (.getfield 41) := ⟨by decide +kernel, rfl⟩
theorem dX6_find_36 : dec cX6_find 36 3 39 (.if_icmp .ge 28) := ⟨by decide +kernel, rfl⟩
theorem dX6_find_39 : dec cX6_find 39 1 40 (.aload_n 0) := ⟨by decide +kernel, rfl⟩
theorem dX6_find_40 : dec cX6_find 40 3 43 (.getfield 33) := ⟨by decide +kernel, rfl⟩
theorem dX6_find_43 : dec cX6_find 43 1 44 (.aload_n 0) := ⟨by decide +kernel, rfl⟩
theorem dX6_find_44 : dec cX6_find 44 3 47 (.getfield 41) := ⟨by decide +kernel, rfl⟩
theorem dX6_find_47 : dec cX6_find 47 1 48 (.iload_n 3) := ⟨by decide +kernel, rfl⟩
theorem dX6_find_48 : dec cX6_find 48 1 49 (.iload_n 2) := ⟨by decide +kernel, rfl⟩
theorem dX6_find_49 : dec cX6_find 49 3 52 (.invokevirtual 74) := ⟨by decide +kernel, rfl⟩
theorem dX6_find_52 : dec cX6_find 52 1 53 (.aload_n 0) := ⟨by decide +kernel, rfl⟩
theorem dX6_find_53 : dec cX6_find 53 1 54 (.iconst 0) := ⟨by decide +kernel, rfl⟩
theorem dX6_find_54 : dec cX6_find 54 1 55 (.iload_n 3) := ⟨by decide +kernel, rfl⟩
theorem dX6_find_55 : dec cX6_find 55 3 58 (.invokevirtual 80) := ⟨by decide +kernel, rfl⟩
theorem dX6_find_58 : dec cX6_find 58 3 61 (.iinc 3 1) := ⟨by decide +kernel, rfl⟩
theorem dX6_find_61 : dec cX6_find 61 3 64 (.goto (-30)) := ⟨by decide +kernel, rfl⟩
theorem dX6_find_64 : dec cX6_find 64 1 65 (.aload_n 0) := ⟨by decide +kernel, rfl⟩
theorem dX6_find_65 : dec cX6_find 65 1 66 (.iconst 1) := ⟨by decide +kernel, rfl⟩
theorem dX6_find_66 : dec cX6_find 66 3 69 (.putfield 62) := ⟨by decide +kernel, rfl⟩
theorem dX6_find_69 : dec cX6_find 69 1 70 (.return_) := ⟨by decide +kernel, rfl⟩
set_option maxHeartbeats 4000000 in
set_option maxRecDepth 100000 in
theorem tX6_find_L31 {X : Cx} {Y : Yx} {M0 : Mem} (hC : OKX X Y RX6 cX6_find 4 none rmX6_find) (hF : Y.2.2.2.2 = true) (hL : Lay M0) (Q : Mem → Prop) (E64 : Mem → Prop) (a0 : Nat) (x2 : Int) (qa0 : 0 < a0 ∧ M0 0 a0 = kO 6) (hE64 : ∀  (M : Mem), E64  M → WW X Y 4 rmX6_find (QV Q) M0 0 0 64 [(0, vR Y.1 a0)] [] M) : ∀ (N : Nat) (x3 : Int) (M : Mem) (_ : wX6_find_L31 Q E64 a0 x2 N x3 M), WW X Y 4 rmX6_find (QV Q) M0 0 0 31 [(0, vR Y.1 a0), (2, vI x2), (3, vI x3)] [] M := by
  intro N
  induction N with
  | zero =>
    intro x3 M h
    exact h.elim
  | succ N ih =>
    intro x3 M h
    unfold wX6_find_L31 at h
    refine r_iload_n hC 2 dX6_find_31 rfl rfl ?_
    refine r_aload_n hC 0 dX6_find_32 rfl rfl ?_
    refine r_getI hC fg_X6_41 rfl qa0.1 qa0.2 dX6_find_33 ?_
    refine r_icmp_ge hC 64 rfl rfl dX6_find_36 (by decide) (fun cq => ?_) (fun cq => ?_)
    · replace h := h.1 cq
      refine r_sub [0] rfl ?_
      exact hE64  _ h
    · replace h := h.2 cq
      refine r_aload_n hC 0 dX6_find_39 rfl rfl ?_
      have q_5 : 0 < (a0 - 12) ∧ M0 0 ((a0 - 12)) = kO 10 := lay_fs (a := a0) hL qa0 fm_6_1
      refine r_getRs (a' := (a0 - 12)) hC fg_X6_33 rfl hF fm_6_1 qa0.1 qa0.2 rfl dX6_find_40 ?_
      refine r_aload_n hC 0 dX6_find_43 rfl rfl ?_
      refine r_getI hC fg_X6_41 rfl qa0.1 qa0.2 dX6_find_44 ?_
      refine r_iload_n hC 2 dX6_find_47 rfl rfl ?_
      refine r_iload_n hC 1 dX6_find_48 rfl rfl ?_
      refine r_callV (As := [vI (M a0 5), vI x3, vI x2]) (st := []) hC cw_X6_74 rfl q_5.1 q_5.2 rfl rfl (Nat.le_of_ble_eq_true rfl) ⟨Nat.le_of_ble_eq_true rfl, Nat.le_of_ble_eq_true rfl⟩ ⟨Nat.le_of_ble_eq_true rfl, Nat.le_of_ble_eq_true rfl⟩ dX6_find_49 (fun hk => mX10_start Y hF _ _ _ _ _ _ _ (kqO hk q_5) h) (fun v M_6 h => ?_)
      obtain ⟨rfl, h⟩ := h
      refine r_aload_n hC 0 dX6_find_52 rfl rfl ?_
      refine r_iconst hC dX6_find_53 ?_
      refine r_iload_n hC 2 dX6_find_54 rfl rfl ?_
      refine r_callV (As := [vI 0, vI x3]) (st := []) hC cw_X6_80 rfl qa0.1 qa0.2 rfl rfl (Nat.le_of_ble_eq_true rfl) ⟨Nat.le_of_ble_eq_true rfl, Nat.le_of_ble_eq_true rfl⟩ ⟨Nat.le_of_ble_eq_true rfl, Nat.le_of_ble_eq_true rfl⟩ dX6_find_55 (fun hk => mX6_goOnGood Y hF _ _ _ _ _ _ (kqO hk qa0) h) (fun v M_7 h => ?_)
      obtain ⟨rfl, h⟩ := h
      refine let_elim h (fun x3_8 e_9 h => ?_)
      refine r_iinc (lv' := [(3, vI x3_8), (0, vR Y.1 a0), (2, vI x2)]) hC 2 dX6_find_58 rfl (by decide) e_9 rfl ?_
      refine r_goto hC 31 dX6_find_61 (by decide) ?_
      refine r_sub [1, 2, 0] rfl ?_
      exact ih _ _ h
set_option maxHeartbeats 4000000 in
set_option maxRecDepth 100000 in
theorem tX6_find_J16 {X : Cx} {Y : Yx} {M0 : Mem} (hC : OKX X Y RX6 cX6_find 4 none rmX6_find) (hF : Y.2.2.2.2 = true) (hL : Lay M0) (Q : Mem → Prop)   (a0 : Nat) (x1 : Int) (qa0 : 0 < a0 ∧ M0 0 a0 = kO 6)  (M : Mem) (h : wX6_find_J16 Q  a0 x1 M) : WW X Y 4 rmX6_find (QV Q) M0 0 0 16 [(0, vR Y.1 a0), (1, vI x1)] [] M := by
  unfold wX6_find_J16 at h
  refine r_aload_n hC 0 dX6_find_16 rfl rfl ?_
  refine r_iload_n hC 1 dX6_find_17 rfl rfl ?_
  refine r_callV (As := [vI x1]) (st := []) hC cw_X6_66 rfl qa0.1 qa0.2 rfl rfl (Nat.le_of_ble_eq_true rfl) ⟨Nat.le_of_ble_eq_true rfl, Nat.le_of_ble_eq_true rfl⟩ ⟨Nat.le_of_ble_eq_true rfl, Nat.le_of_ble_eq_true rfl⟩ dX6_find_18 (fun hk => mX6_gather Y hF _ _ _ _ _ (kqO hk qa0) h) (fun v M_1 h => ?_)
  obtain ⟨rfl, h⟩ := h
  refine r_aload_n hC 0 dX6_find_21 rfl rfl ?_
  have q_2 : 0 < (a0 - 101) ∧ M0 0 ((a0 - 101)) = kO 0 := lay_fs (a := a0) hL qa0 fm_6_0
  refine r_getRs (a' := (a0 - 101)) hC fg_X6_29 rfl hF fm_6_0 qa0.1 qa0.2 rfl dX6_find_22 ?_
  refine r_callV (As := []) (st := []) hC cw_X6_70 rfl q_2.1 q_2.2 rfl rfl (Nat.le_of_ble_eq_true rfl) ⟨Nat.le_of_ble_eq_true rfl, Nat.le_of_ble_eq_true rfl⟩ ⟨Nat.le_of_ble_eq_true rfl, Nat.le_of_ble_eq_true rfl⟩ dX6_find_25 (fun hk => mX0_likingsOn Y hF _ _ _ _ (kqO hk q_2) h) (fun v M_3 h => ?_)
  obtain ⟨r_4, rfl, h⟩ := h
  refine r_istore_n (lv' := [(2, vI r_4), (0, vR Y.1 a0), (1, vI x1)]) hC dX6_find_28 rfl (by decide) rfl ?_
  refine r_iconst hC dX6_find_29 ?_
  refine r_istore_n (lv' := [(3, vI 0), (2, vI r_4), (0, vR Y.1 a0), (1, vI x1)]) hC dX6_find_30 rfl (by decide) rfl ?_
  refine r_sub [2, 1, 0] rfl ?_
  obtain ⟨N_12, h⟩ := h
  refine tX6_find_L31 hC hF hL Q _ _ _ qa0 ?_ N_12 _ _ h
  · intro M_10 h
    refine r_aload_n hC 0 dX6_find_64 rfl rfl ?_
    refine r_iconst hC dX6_find_65 ?_
    refine r_putZ hC (Or.inr rfl) fp_X6_62 rfl qa0.1 qa0.2 dX6_find_66 ?_
    refine r_nameM h (fun M_11 h => ?_)
    exact r_vret hC (Nat.zero_le _) (Nat.zero_le _) dX6_find_69 ⟨rfl, h⟩
set_option maxHeartbeats 4000000 in
set_option maxRecDepth 100000 in
theorem mX6_find (Y : Yx) (hF : Y.2.2.2.2 = true) (l : Launch) (a0 : Nat) (x1 : Int) (M0 : Mem) (Q : Mem → Prop) (qa0 : 0 < a0 ∧ M0 0 a0 = kO 6) (h : wX6_find a0 x1 M0 Q) : CT Y l yX6_find cX6_find 4 none rmX6_find [vR Y.1 a0, vI x1] M0 (QV Q) := by
  unfold wX6_find at h
  refine ct_intro (by decide) (Nat.le_of_ble_eq_true rfl) ?_
  intro X hXl hC hL0
  have hL := hL0 hF
  change OKX X Y RX6 cX6_find 4 none rmX6_find at hC
  change WW X Y 4 rmX6_find (QV Q) M0 0 0 0 [(0, vR Y.1 a0), (1, vI x1)] [] M0
  refine r_aload_n hC 0 dX6_find_0 rfl rfl ?_
  refine r_getI hC fg_X6_62 rfl qa0.1 qa0.2 dX6_find_1 ?_
  refine r_if_eq hC 16 rfl dX6_find_4 (by decide) (fun cq => ?_) (fun cq => ?_)
  · replace h := h.1 cq
    refine r_sub [0, 1] rfl ?_
    exact tX6_find_J16 hC hF hL Q   _ _ qa0  _ h
  · replace h := h.2 cq
    refine r_aload_n hC 0 dX6_find_7 rfl rfl ?_
    refine r_getI hC fg_X6_37 rfl qa0.1 qa0.2 dX6_find_8 ?_
    refine r_iload_n hC 1 dX6_find_11 rfl rfl ?_
    refine r_icmp_ne hC 16 rfl rfl dX6_find_12 (by decide) (fun cq => ?_) (fun cq => ?_)
    · replace h := h.2 cq
      refine r_sub [0, 1] rfl ?_
      exact tX6_find_J16 hC hF hL Q   _ _ qa0  _ h
    · replace h := h.1 cq
      exact r_vret hC (Nat.zero_le _) (Nat.zero_le _) dX6_find_15 ⟨rfl, h⟩
theorem dX6_breakingsBegun_0 : dec cX6_breakingsBegun 0 1 1 (.aload_n 0) := ⟨by decide +kernel, rfl⟩
theorem dX6_breakingsBegun_1 : dec cX6_breakingsBegun 1 3 4 (.getfield 25) := ⟨by decide +kernel, rfl⟩
theorem dX6_breakingsBegun_4 : dec cX6_breakingsBegun 4 3 7 (.ifnonnull 12) := ⟨by decide +kernel, rfl⟩
theorem dX6_breakingsBegun_7 : dec cX6_breakingsBegun 7 1 8 (.aload_n 0) := ⟨by decide +kernel, rfl⟩
theorem dX6_breakingsBegun_8 : dec cX6_breakingsBegun 8 3 11 (.sipush 1024) := ⟨by decide +kernel, rfl⟩
theorem dX6_breakingsBegun_11 : dec cX6_breakingsBegun 11 2 13 (.newarray .boolean) := ⟨by decide +kernel, rfl⟩
theorem dX6_breakingsBegun_13 : dec cX6_breakingsBegun 13 3 16 (.putfield 25) := ⟨by decide +kernel, rfl⟩
theorem dX6_breakingsBegun_16 : dec cX6_breakingsBegun 16 1 17 (.iconst 0) := ⟨by decide +kernel, rfl⟩
theorem dX6_breakingsBegun_17 : dec cX6_breakingsBegun 17 1 18 (.istore_n 1) := ⟨by decide +kernel, rfl⟩
theorem dX6_breakingsBegun_18 : dec cX6_breakingsBegun 18 1 19 (.iload_n 1) := ⟨by decide +kernel, rfl⟩
theorem dX6_breakingsBegun_19 : dec cX6_breakingsBegun 19 1 20 (.aload_n 0) := ⟨by decide +kernel, rfl⟩
theorem dX6_breakingsBegun_20 : dec cX6_breakingsBegun 20 3 23 (.getfield 25) := ⟨by decide +kernel, rfl⟩
theorem dX6_breakingsBegun_23 : dec cX6_breakingsBegun 23 1 24 (.arraylength) := ⟨by decide +kernel, rfl⟩
theorem dX6_breakingsBegun_24 : dec cX6_breakingsBegun 24 3 27 (.if_icmp .ge 16) := ⟨by decide +kernel, rfl⟩
theorem dX6_breakingsBegun_27 : dec cX6_breakingsBegun 27 1 28 (.aload_n 0) := ⟨by decide +kernel, rfl⟩
theorem dX6_breakingsBegun_28 : dec cX6_breakingsBegun 28 3 31 (.getfield 25) := ⟨by decide +kernel, rfl⟩
theorem dX6_breakingsBegun_31 : dec cX6_breakingsBegun 31 1 32 (.iload_n 1) := ⟨by decide +kernel, rfl⟩
theorem dX6_breakingsBegun_32 : dec cX6_breakingsBegun 32 1 33 (.iconst 0) := ⟨by decide +kernel, rfl⟩
theorem dX6_breakingsBegun_33 : dec cX6_breakingsBegun 33 1 34 (.bastore) := ⟨by decide +kernel, rfl⟩
theorem dX6_breakingsBegun_34 : dec cX6_breakingsBegun 34 3 37 (.iinc 1 1) := ⟨by decide +kernel, rfl⟩
theorem dX6_breakingsBegun_37 : dec cX6_breakingsBegun 37 3 40 (.goto (-19)) := ⟨by decide +kernel, rfl⟩
theorem dX6_breakingsBegun_40 : dec cX6_breakingsBegun 40 1 41 (.aload_n 0) := ⟨by decide +kernel, rfl⟩
theorem dX6_breakingsBegun_41 : dec cX6_breakingsBegun 41 3 44 (.getfield 25) := ⟨by decide +kernel, rfl⟩
theorem dX6_breakingsBegun_44 : dec cX6_breakingsBegun 44 1 45 (.areturn) := ⟨by decide +kernel, rfl⟩
set_option maxHeartbeats 4000000 in
set_option maxRecDepth 100000 in
theorem tX6_breakingsBegun_L18 {X : Cx} {Y : Yx} {M0 : Mem} (hC : OKX X Y RX6 cX6_breakingsBegun 2 (some (.array .boolean)) rmX6_breakingsBegun) (hF : Y.2.2.2.2 = true) (hL : Lay M0) (Q : Nat → Mem → Prop)  (a0 : Nat) (qa0 : 0 < a0 ∧ M0 0 a0 = kO 6)  : ∀ (N : Nat) (Mb : Mem) (_ : KP M0 Mb) (_ : Lay Mb) (x1 : Int) (M : Mem) (_ : wX6_breakingsBegun_L18 Q  a0 N x1 M), WW X Y 2 rmX6_breakingsBegun (QA Y.1 Q) Mb 1 1024 18 [(0, vR Y.1 a0), (1, vI x1)] [] M := by
  intro N
  induction N with
  | zero =>
    intro Mb kp hL x1 M h
    exact h.elim
  | succ N ih =>
    intro Mb kp hL x1 M h
    unfold wX6_breakingsBegun_L18 at h
    have qa0 := kqO kp qa0
    refine r_iload_n hC 1 dX6_breakingsBegun_18 rfl rfl ?_
    refine r_aload_n hC 0 dX6_breakingsBegun_19 rfl rfl ?_
    refine r_getN hC fg_X6_25 rfl qa0.1 qa0.2 dX6_breakingsBegun_20 ?_
    obtain ⟨q_1, h⟩ := h
    refine r_base (fun hk hL0 => ?_)
    have kp := kp_tr kp hk
    have hL := hL0 hF
    have qa0 := kqO hk qa0
    rw [vN_R (q := (M a0 13).toNat) q_1.1 (by have := q_1.1; omega)]
    refine r_alen hC (by decide) q_1.1 q_1.2 (by decide) dX6_breakingsBegun_23 ?_
    refine r_icmp_ge hC 40 rfl bmL_1024 dX6_breakingsBegun_24 (by decide) (fun cq => ?_) (fun cq => ?_)
    · replace h := h.1 cq
      refine r_aload_n hC 0 dX6_breakingsBegun_40 rfl rfl ?_
      refine r_getN hC fg_X6_25 rfl qa0.1 qa0.2 dX6_breakingsBegun_41 ?_
      obtain ⟨q_2, h⟩ := h
      refine r_base (fun hk hL0 => ?_)
      have kp := kp_tr kp hk
      have hL := hL0 hF
      have qa0 := kqO hk qa0
      rw [vN_R (q := (M a0 13).toNat) q_2.1 (by have := q_2.1; omega)]
      exact r_aret hC (by first | exact Or.inl ⟨_, rfl⟩ | exact Or.inr ⟨_, rfl⟩) (Nat.le_of_ble_eq_true rfl) (Nat.le_of_ble_eq_true rfl) dX6_breakingsBegun_44 ⟨_, rfl, h⟩
    · replace h := h.2 cq
      refine r_aload_n hC 0 dX6_breakingsBegun_27 rfl rfl ?_
      refine r_getN hC fg_X6_25 rfl qa0.1 qa0.2 dX6_breakingsBegun_28 ?_
      obtain ⟨q_3, h⟩ := h
      refine r_base (fun hk hL0 => ?_)
      have kp := kp_tr kp hk
      have hL := hL0 hF
      have qa0 := kqO hk qa0
      rw [vN_R (q := (M a0 13).toNat) q_3.1 (by have := q_3.1; omega)]
      refine r_iload_n hC 1 dX6_breakingsBegun_31 rfl rfl ?_
      refine r_iconst hC dX6_breakingsBegun_32 ?_
      obtain ⟨i_4, h⟩ := h
      refine r_zast hC (Or.inl rfl) i_4 q_3.1 q_3.2 (by decide) dX6_breakingsBegun_33 ?_
      refine r_nameM h (fun M_5 h => ?_)
      refine let_elim h (fun x1_6 e_7 h => ?_)
      refine r_iinc (lv' := [(1, vI x1_6), (0, vR Y.1 a0)]) hC 1 dX6_breakingsBegun_34 rfl (by decide) e_7 rfl ?_
      refine r_goto hC 18 dX6_breakingsBegun_37 (by decide) ?_
      refine r_sub [1, 0] rfl ?_
      exact ih _ kp hL _ _ h
set_option maxHeartbeats 4000000 in
set_option maxRecDepth 100000 in
theorem tX6_breakingsBegun_J16 {X : Cx} {Y : Yx} {M0 : Mem} (hC : OKX X Y RX6 cX6_breakingsBegun 2 (some (.array .boolean)) rmX6_breakingsBegun) (hF : Y.2.2.2.2 = true) (hL : Lay M0) (Q : Nat → Mem → Prop)   (a0 : Nat) (qa0 : 0 < a0 ∧ M0 0 a0 = kO 6)  (M : Mem) (h : wX6_breakingsBegun_J16 Q  a0 M) : WW X Y 2 rmX6_breakingsBegun (QA Y.1 Q) M0 1 1024 16 [(0, vR Y.1 a0)] [] M := by
  unfold wX6_breakingsBegun_J16 at h
  refine r_iconst hC dX6_breakingsBegun_16 ?_
  refine r_istore_n (lv' := [(1, vI 0), (0, vR Y.1 a0)]) hC dX6_breakingsBegun_17 rfl (by decide) rfl ?_
  refine r_sub [1, 0] rfl ?_
  obtain ⟨N_8, h⟩ := h
  refine tX6_breakingsBegun_L18 hC hF hL Q  _ qa0  N_8 _ (fun _ _ _ => rfl) hL _ _ h
set_option maxHeartbeats 4000000 in
set_option maxRecDepth 100000 in
theorem mX6_breakingsBegun (Y : Yx) (hF : Y.2.2.2.2 = true) (l : Launch) (a0 : Nat) (M0 : Mem) (Q : Nat → Mem → Prop) (qa0 : 0 < a0 ∧ M0 0 a0 = kO 6) (h : wX6_breakingsBegun a0 M0 Q) : CT Y l yX6_breakingsBegun cX6_breakingsBegun 2 (some (.array .boolean)) rmX6_breakingsBegun [vR Y.1 a0] M0 (QA Y.1 Q) := by
  unfold wX6_breakingsBegun at h
  refine ct_intro (by decide) (Nat.le_of_ble_eq_true rfl) ?_
  intro X hXl hC hL0
  have hL := hL0 hF
  change OKX X Y RX6 cX6_breakingsBegun 2 (some (.array .boolean)) rmX6_breakingsBegun at hC
  change WW X Y 2 rmX6_breakingsBegun (QA Y.1 Q) M0 0 0 0 [(0, vR Y.1 a0)] [] M0
  refine r_aload_n hC 0 dX6_breakingsBegun_0 rfl rfl ?_
  refine r_getN hC fg_X6_25 rfl qa0.1 qa0.2 dX6_breakingsBegun_1 ?_
  refine r_ifnonnull hC 16 dX6_breakingsBegun_4 (by decide) (fun cq => ?_) (fun cq => ?_)
  · replace h := h.2 cq
    refine r_widen (n' := 1) (k' := 1024) (Nat.le_of_ble_eq_true rfl) (Nat.le_of_ble_eq_true rfl) ?_
    refine r_sub [0] rfl ?_
    exact tX6_breakingsBegun_J16 hC hF hL Q   _ qa0  _ h
  · replace h := h.1 cq
    refine r_aload_n hC 0 dX6_breakingsBegun_7 rfl rfl ?_
    refine r_sipush hC (by decide +kernel) dX6_breakingsBegun_8 ?_
    refine r_newarr (t := 2) (len := 1024) hC (by decide) rfl ac_2 rfl (by decide) (by decide +kernel) ⟨Nat.le_of_ble_eq_true rfl, Nat.le_of_ble_eq_true rfl⟩ dX6_breakingsBegun_11 ?_
    refine r_nameM h (fun M_9 h => ?_)
    obtain ⟨q_11, h⟩ := h
    refine r_base (fun hk hL0 => ?_)
    have hL := hL0 hF
    have qa0 := kqO hk qa0
    refine r_putN hC q_11.1 fp_X6_25 rfl (by first | exact Or.inl ⟨_, rfl⟩ | exact Or.inr ⟨_, rfl⟩) qa0.1 qa0.2 dX6_breakingsBegun_13 ?_
    refine r_nameM h (fun M_12 h => ?_)
    refine r_sub [0] rfl ?_
    exact tX6_breakingsBegun_J16 hC hF hL Q   _ qa0  _ h
theorem dX6_goOnAny_0 : dec cX6_goOnAny 0 1 1 (.iload_n 1) := ⟨by decide +kernel, rfl⟩
theorem dX6_goOnAny_1 : dec cX6_goOnAny 1 1 2 (.aload_n 0) := ⟨by decide +kernel, rfl⟩
theorem dX6_goOnAny_2 : dec cX6_goOnAny 2 3 5 (.getfield 41) := ⟨by decide +kernel, rfl⟩
theorem dX6_goOnAny_5 : dec cX6_goOnAny 5 3 8 (.if_icmp .lt 33) := ⟨by decide +kernel, rfl⟩
theorem dX6_goOnAny_8 : dec cX6_goOnAny 8 1 9 (.aload_n 0) := ⟨by decide +kernel, rfl⟩
theorem dX6_goOnAny_9 : dec cX6_goOnAny 9 3 12 (.getfield 33) := ⟨by decide +kernel, rfl⟩
theorem dX6_goOnAny_12 : dec cX6_goOnAny 12 3 15 (.getfield 153) := ⟨by decide +kernel, rfl⟩
theorem dX6_goOnAny_15 : dec cX6_goOnAny 15 1 16 (.aload_n 0) := ⟨by decide +kernel, rfl⟩
theorem dX6_goOnAny_16 : dec cX6_goOnAny 16 3 19 (.getfield 41) := ⟨by decide +kernel, rfl⟩
theorem dX6_goOnAny_19 : dec cX6_goOnAny 19 1 20 (.iaload) := ⟨by decide +kernel, rfl⟩
theorem dX6_goOnAny_20 : dec cX6_goOnAny 20 1 21 (.istore_n 3) := ⟨by decide +kernel, rfl⟩
theorem dX6_goOnAny_21 : dec cX6_goOnAny 21 1 22 (.iload_n 3) := ⟨by decide +kernel, rfl⟩
theorem dX6_goOnAny_22 : dec cX6_goOnAny 22 1 23 (.iconst 0) := ⟨by decide +kernel, rfl⟩
theorem dX6_goOnAny_23 : dec cX6_goOnAny 23 1 24 (.aload_n 2) := ⟨by decide +kernel, rfl⟩
theorem dX6_goOnAny_24 : dec cX6_goOnAny 24 1 25 (.arraylength) := ⟨by decide +kernel, rfl⟩
theorem dX6_goOnAny_25 : dec cX6_goOnAny 25 1 26 (.iconst 1) := ⟨by decide +kernel, rfl⟩
theorem dX6_goOnAny_26 : dec cX6_goOnAny 26 1 27 (.isub) := ⟨by decide +kernel, rfl⟩
theorem dX6_goOnAny_27 : dec cX6_goOnAny 27 3 30 (.invokestatic 156) := ⟨by decide +kernel, rfl⟩
theorem dX6_goOnAny_30 : dec cX6_goOnAny 30 3 33 (.ifCond .eq 7) := ⟨by decide +kernel, rfl⟩
theorem dX6_goOnAny_33 : dec cX6_goOnAny 33 1 34 (.aload_n 2) := ⟨by decide +kernel, rfl⟩
theorem dX6_goOnAny_34 : dec cX6_goOnAny 34 1 35 (.iload_n 3) := ⟨by decide +kernel, rfl⟩
theorem dX6_goOnAny_35 : dec cX6_goOnAny 35 1 36 (.iconst 1) := ⟨by decide +kernel, rfl⟩
theorem dX6_goOnAny_36 : dec cX6_goOnAny 36 1 37 (.bastore) := ⟨by decide +kernel, rfl⟩
theorem dX6_goOnAny_37 : dec cX6_goOnAny 37 1 38 (.return_) := ⟨by decide +kernel, rfl⟩
theorem dX6_goOnAny_38 : dec cX6_goOnAny 38 1 39 (.iconst 0) := ⟨by decide +kernel, rfl⟩
theorem dX6_goOnAny_39 : dec cX6_goOnAny 39 1 40 (.istore_n 3) := ⟨by decide +kernel, rfl⟩
theorem dX6_goOnAny_40 : dec cX6_goOnAny 40 1 41 (.iload_n 3) := ⟨by decide +kernel, rfl⟩
theorem dX6_goOnAny_41 : dec cX6_goOnAny 41 1 42 (.aload_n 0) := ⟨by decide +kernel, rfl⟩
theorem dX6_goOnAny_42 : dec cX6_goOnAny 42 3 45 (.getfield 41) := ⟨by decide +kernel, rfl⟩
theorem dX6_goOnAny_45 : dec cX6_goOnAny 45 3 48 (.if_icmp .ge 68) := ⟨by decide +kernel, rfl⟩
theorem dX6_goOnAny_48 : dec cX6_goOnAny 48 1 49 (.aload_n 0) := ⟨by decide +kernel, rfl⟩
theorem dX6_goOnAny_49 : dec cX6_goOnAny 49 3 52 (.getfield 9) := ⟨by decide +kernel, rfl⟩
theorem dX6_goOnAny_52 : dec cX6_goOnAny 52 1 53 (.iload_n 3) := ⟨by decide +kernel, rfl⟩
theorem dX6_goOnAny_53 : dec cX6_goOnAny 53 1 54 (.iaload) := ⟨by decide +kernel, rfl⟩
theorem dX6_goOnAny_54 : dec cX6_goOnAny 54 2 56 (.istore 4) := ⟨by decide +kernel, rfl⟩
theorem dX6_goOnAny_56 : dec cX6_goOnAny 56 1 57 (.aload_n 0) := ⟨by decide +kernel, rfl⟩
theorem dX6_goOnAny_57 : dec cX6_goOnAny 57 3 60 (.getfield 33) := ⟨by decide +kernel, rfl⟩
theorem dX6_goOnAny_60 : dec cX6_goOnAny 60 3 63 (.getfield 87) := ⟨by decide +kernel, rfl⟩
theorem dX6_goOnAny_63 : dec cX6_goOnAny 63 1 64 (.iload_n 1) := ⟨by decide +kernel, rfl⟩
theorem dX6_goOnAny_64 : dec cX6_goOnAny 64 1 65 (.iaload) := ⟨by decide +kernel, rfl⟩
theorem dX6_goOnAny_65 : dec cX6_goOnAny 65 2 67 (.iload 4) := ⟨by decide +kernel, rfl⟩
theorem dX6_goOnAny_67 : dec cX6_goOnAny 67 3 70 (.invokestatic 58) := ⟨by decide +kernel, rfl⟩
theorem dX6_goOnAny_70 : dec cX6_goOnAny 70 3 73 (.ifCond .eq 6) := ⟨by decide +kernel, rfl⟩
theorem dX6_goOnAny_73 : dec cX6_goOnAny 73 3 76 (.goto 34) := ⟨by decide +kernel, rfl⟩
theorem dX6_goOnAny_76 : dec cX6_goOnAny 76 1 77 (.aload_n 0) := ⟨by decide +kernel, rfl⟩
theorem dX6_goOnAny_77 : dec cX6_goOnAny 77 3 80 (.getfield 33) := ⟨by decide +kernel, rfl⟩
theorem dX6_goOnAny_80 : dec cX6_goOnAny 80 1 81 (.iload_n 1) := ⟨by decide +kernel, rfl⟩
theorem dX6_goOnAny_81 : dec cX6_goOnAny 81 2 83 (.iload 4) := ⟨by decide +kernel, rfl⟩
theorem dX6_goOnAny_83 : dec cX6_goOnAny 83 3 86 (.invokevirtual 90) := ⟨by decide +kernel, rfl⟩
theorem dX6_goOnAny_86 : dec cX6_goOnAny 86 1 87 (.aload_n 0) := ⟨by decide +kernel, rfl⟩
theorem dX6_goOnAny_87 : dec cX6_goOnAny 87 3 90 (.getfield 33) := ⟨by decide +kernel, rfl⟩
theorem dX6_goOnAny_90 : dec cX6_goOnAny 90 1 91 (.iload_n 1) := ⟨by decide +kernel, rfl⟩
theorem dX6_goOnAny_91 : dec cX6_goOnAny 91 1 92 (.iconst 1) := ⟨by decide +kernel, rfl⟩
theorem dX6_goOnAny_92 : dec cX6_goOnAny 92 1 93 (.iadd) := ⟨by decide +kernel, rfl⟩
theorem dX6_goOnAny_93 : dec cX6_goOnAny 93 3 96 (.invokevirtual 160) := ⟨by decide +kernel, rfl⟩
theorem dX6_goOnAny_96 : dec cX6_goOnAny 96 3 99 (.ifCond .eq 11) := ⟨by decide +kernel, rfl⟩
theorem dX6_goOnAny_99 : dec cX6_goOnAny 99 1 100 (.aload_n 0) := ⟨by decide +kernel, rfl⟩
theorem dX6_goOnAny_100 : dec cX6_goOnAny 100 1 101 (.iload_n 1) := ⟨by decide +kernel, rfl⟩
theorem dX6_goOnAny_101 : dec cX6_goOnAny 101 1 102 (.iconst 1) := ⟨by decide +kernel, rfl⟩
theorem dX6_goOnAny_102 : dec cX6_goOnAny 102 1 103 (.iadd) := ⟨by decide +kernel, rfl⟩
theorem dX6_goOnAny_103 : dec cX6_goOnAny 103 1 104 (.aload_n 2) := ⟨by decide +kernel, rfl⟩
theorem dX6_goOnAny_104 : dec cX6_goOnAny 104 3 107 (.invokevirtual 136) := ⟨by decide +kernel, rfl⟩
theorem dX6_goOnAny_107 : dec cX6_goOnAny 107 3 110 (.iinc 3 1) := ⟨by decide +kernel, rfl⟩
theorem dX6_goOnAny_110 : dec cX6_goOnAny 110 3 113 (.goto (-70)) := ⟨by decide +kernel, rfl⟩
theorem dX6_goOnAny_113 : dec cX6_goOnAny 113 1 114 (.return_) := ⟨by decide +kernel, rfl⟩
set_option maxHeartbeats 4000000 in
set_option maxRecDepth 100000 in
theorem tX6_goOnAny_L40 {X : Cx} {Y : Yx} {M0 : Mem} {Γ : Nat → List Int → Mem → (Int → Mem → Prop) → Prop} {d : Nat} (hC : OKX X Y RX6 cX6_goOnAny 5 none (rmX6_goOnAny (d + 1))) (hF : Y.2.2.2.2 = true) (hL : Lay M0) (a0 : Nat) (a2 : Nat) (hG0 : ∀ (x0 : Int) (M : Mem) (Q : Int → Mem → Prop), (0 < a0 ∧ M 0 a0 = kO 6) → (0 < a2 ∧ M 0 a2 = kA 2 1024) → Γ 0 [x0] M Q → CT Y X.2.1 yX6_goOnAny cX6_goOnAny 5 none (rmX6_goOnAny d) [vR Y.1 a0, vI x0, vR Y.1 a2] M (QV (Q 0))) (Q : Mem → Prop)  (x1 : Int) (qa0 : 0 < a0 ∧ M0 0 a0 = kO 6) (qa2 : 0 < a2 ∧ M0 0 a2 = kA 2 1024)  : ∀ (N : Nat) (x3 : Int) (M : Mem) (_ : wX6_goOnAny_L40 Γ Q  a0 x1 a2 N x3 M), WW X Y 5 (rmX6_goOnAny (d + 1)) (QV Q) M0 0 0 40 [(0, vR Y.1 a0), (1, vI x1), (2, vR Y.1 a2), (3, vI x3)] [] M := by
  intro N
  induction N with
  | zero =>
    intro x3 M h
    exact h.elim
  | succ N ih =>
    intro x3 M h
    unfold wX6_goOnAny_L40 at h
    refine r_iload_n hC 3 dX6_goOnAny_40 rfl rfl ?_
    refine r_aload_n hC 0 dX6_goOnAny_41 rfl rfl ?_
    refine r_getI hC fg_X6_41 rfl qa0.1 qa0.2 dX6_goOnAny_42 ?_
    refine r_icmp_ge hC 113 rfl rfl dX6_goOnAny_45 (by decide) (fun cq => ?_) (fun cq => ?_)
    · replace h := h.1 cq
      exact r_vret hC (Nat.zero_le _) (Nat.zero_le _) dX6_goOnAny_113 ⟨rfl, h⟩
    · replace h := h.2 cq
      refine r_aload_n hC 0 dX6_goOnAny_48 rfl rfl ?_
      have q_1 : 0 < a0 + 1 ∧ M0 0 (a0 + 1) = kA 0 12 := lay_f0 (a := a0) hL qa0 fm_6_2
      refine r_getR0 (a' := a0 + 1) hC fg_X6_9 rfl hF fm_6_2 qa0.1 qa0.2 rfl dX6_goOnAny_49 ?_
      refine r_iload_n hC 3 dX6_goOnAny_52 rfl rfl ?_
      obtain ⟨i_2, h⟩ := h
      refine r_iald hC i_2 q_1.1 q_1.2 (by decide) dX6_goOnAny_53 ?_
      refine r_nameI h (fun x4_3 h => ?_)
      refine r_istore (lv' := [(4, vI x4_3), (0, vR Y.1 a0), (1, vI x1), (2, vR Y.1 a2), (3, vI x3)]) hC dX6_goOnAny_54 (by decide) rfl ?_
      refine r_aload_n hC 1 dX6_goOnAny_56 rfl rfl ?_
      have q_4 : 0 < (a0 - 12) ∧ M0 0 ((a0 - 12)) = kO 10 := lay_fs (a := a0) hL qa0 fm_6_1
      refine r_getRs (a' := (a0 - 12)) hC fg_X6_33 rfl hF fm_6_1 qa0.1 qa0.2 rfl dX6_goOnAny_57 ?_
      have q_5 : 0 < (a0 - 12) + 5 ∧ M0 0 ((a0 - 12) + 5) = kA 0 13 := lay_f0 (a := (a0 - 12)) hL q_4 fm_10_8
      refine r_getR0 (a' := (a0 - 12) + 5) hC fg_X6_87 rfl hF fm_10_8 q_4.1 q_4.2 rfl dX6_goOnAny_60 ?_
      refine r_iload_n hC 2 dX6_goOnAny_63 rfl rfl ?_
      obtain ⟨i_6, h⟩ := h
      refine r_iald hC i_6 q_5.1 q_5.2 (by decide) dX6_goOnAny_64 ?_
      refine r_iload hC 0 dX6_goOnAny_65 rfl ?_
      refine r_callN (As := [vI (rd M ((a0 - 12) + 5) x1), vI x4_3]) (st := []) hC cw_X6_58 rfl rfl (Nat.le_of_ble_eq_true rfl) (by constructor <;> simp only [rmX6_goOnAny, rmX11_isIn] <;> omega) ⟨Nat.le_of_ble_eq_true rfl, Nat.le_of_ble_eq_true rfl⟩ dX6_goOnAny_67 (fun hk => mX11_isIn Y hF _ _ _ _ _  h) (fun v M_7 h => ?_)
      obtain ⟨r_8, rfl, h⟩ := h
      refine r_if_eq hC 76 rfl dX6_goOnAny_70 (by decide) (fun cq => ?_) (fun cq => ?_)
      · replace h := h.1 cq
        refine r_aload_n hC 1 dX6_goOnAny_76 rfl rfl ?_
        have q_9 : 0 < (a0 - 12) ∧ M0 0 ((a0 - 12)) = kO 10 := lay_fs (a := a0) hL qa0 fm_6_1
        refine r_getRs (a' := (a0 - 12)) hC fg_X6_33 rfl hF fm_6_1 qa0.1 qa0.2 rfl dX6_goOnAny_77 ?_
        refine r_iload_n hC 2 dX6_goOnAny_80 rfl rfl ?_
        refine r_iload hC 0 dX6_goOnAny_81 rfl ?_
        refine r_callV (As := [vI x1, vI x4_3]) (st := []) hC cw_X6_90 rfl q_9.1 q_9.2 rfl rfl (Nat.le_of_ble_eq_true rfl) (by constructor <;> simp only [rmX6_goOnAny, rmX10_step] <;> omega) ⟨Nat.le_of_ble_eq_true rfl, Nat.le_of_ble_eq_true rfl⟩ dX6_goOnAny_83 (fun hk => mX10_step Y hF _ _ _ _ _ _ (kqO hk q_9) h) (fun v M_10 h => ?_)
        obtain ⟨rfl, h⟩ := h
        refine r_aload_n hC 1 dX6_goOnAny_86 rfl rfl ?_
        have q_11 : 0 < (a0 - 12) ∧ M0 0 ((a0 - 12)) = kO 10 := lay_fs (a := a0) hL qa0 fm_6_1
        refine r_getRs (a' := (a0 - 12)) hC fg_X6_33 rfl hF fm_6_1 qa0.1 qa0.2 rfl dX6_goOnAny_87 ?_
        refine r_iload_n hC 2 dX6_goOnAny_90 rfl rfl ?_
        refine r_iconst hC dX6_goOnAny_91 ?_
        refine r_iadd hC dX6_goOnAny_92 ?_
        refine r_callV (As := [vI (x1 + 1)]) (st := []) hC cw_X6_160 rfl q_11.1 q_11.2 rfl rfl (Nat.le_of_ble_eq_true rfl) (by constructor <;> simp only [rmX6_goOnAny, rmX10_isNoneTooTired] <;> omega) ⟨Nat.le_of_ble_eq_true rfl, Nat.le_of_ble_eq_true rfl⟩ dX6_goOnAny_93 (fun hk => mX10_isNoneTooTired Y hF _ _ _ _ _ (kqO hk q_11) h) (fun v M_12 h => ?_)
        obtain ⟨r_13, rfl, h⟩ := h
        refine r_if_eq hC 107 rfl dX6_goOnAny_96 (by decide) (fun cq => ?_) (fun cq => ?_)
        · replace h := h.1 cq
          refine let_elim h (fun x3_14 e_15 h => ?_)
          refine r_iinc (lv' := [(3, vI x3_14), (4, vI x4_3), (0, vR Y.1 a0), (1, vI x1), (2, vR Y.1 a2)]) hC 4 dX6_goOnAny_107 rfl (by decide) e_15 rfl ?_
          refine r_goto hC 40 dX6_goOnAny_110 (by decide) ?_
          refine r_sub [2, 3, 4, 0] rfl ?_
          exact ih _ _ h
        · replace h := h.2 cq
          refine r_aload_n hC 1 dX6_goOnAny_99 rfl rfl ?_
          refine r_iload_n hC 2 dX6_goOnAny_100 rfl rfl ?_
          refine r_iconst hC dX6_goOnAny_101 ?_
          refine r_iadd hC dX6_goOnAny_102 ?_
          refine r_aload_n hC 3 dX6_goOnAny_103 rfl rfl ?_
          refine r_callV (As := [vI (x1 + 1), vR Y.1 a2]) (st := []) hC cw_X6_136 rfl qa0.1 qa0.2 rfl rfl (Nat.le_of_ble_eq_true rfl) (by constructor <;> simp only [rmX6_goOnAny, rmX6_goOnAny] <;> omega) ⟨Nat.le_of_ble_eq_true rfl, Nat.le_of_ble_eq_true rfl⟩ dX6_goOnAny_104 (fun hk => hG0 _ _ _ (kqO hk qa0) (kqA hk qa2) h) (fun v M_16 h => ?_)
          obtain ⟨rfl, h⟩ := h
          refine let_elim h (fun x3_17 e_18 h => ?_)
          refine r_iinc (lv' := [(3, vI x3_17), (4, vI x4_3), (0, vR Y.1 a0), (1, vI x1), (2, vR Y.1 a2)]) hC 4 dX6_goOnAny_107 rfl (by decide) e_18 rfl ?_
          refine r_goto hC 40 dX6_goOnAny_110 (by decide) ?_
          refine r_sub [2, 3, 4, 0] rfl ?_
          exact ih _ _ h
      · replace h := h.2 cq
        refine r_goto hC 107 dX6_goOnAny_73 (by decide) ?_
        refine let_elim h (fun x3_19 e_20 h => ?_)
        refine r_iinc (lv' := [(3, vI x3_19), (4, vI x4_3), (0, vR Y.1 a0), (1, vI x1), (2, vR Y.1 a2)]) hC 4 dX6_goOnAny_107 rfl (by decide) e_20 rfl ?_
        refine r_goto hC 40 dX6_goOnAny_110 (by decide) ?_
        refine r_sub [2, 3, 4, 0] rfl ?_
        exact ih _ _ h
set_option maxHeartbeats 4000000 in
set_option maxRecDepth 100000 in
theorem mbX6_goOnAny (Y : Yx) (hF : Y.2.2.2.2 = true) (l : Launch) {Γ : Nat → List Int → Mem → (Int → Mem → Prop) → Prop} {d : Nat} (a0 : Nat) (x1 : Int) (a2 : Nat) (hG0 : ∀ (x0 : Int) (M : Mem) (Q : Int → Mem → Prop), (0 < a0 ∧ M 0 a0 = kO 6) → (0 < a2 ∧ M 0 a2 = kA 2 1024) → Γ 0 [x0] M Q → CT Y l yX6_goOnAny cX6_goOnAny 5 none (rmX6_goOnAny d) [vR Y.1 a0, vI x0, vR Y.1 a2] M (QV (Q 0))) (M0 : Mem) (Q : Mem → Prop) (qa0 : 0 < a0 ∧ M0 0 a0 = kO 6) (qa2 : 0 < a2 ∧ M0 0 a2 = kA 2 1024) (h : wbX6_goOnAny Γ a0 x1 a2 M0 Q) : CT Y l yX6_goOnAny cX6_goOnAny 5 none (rmX6_goOnAny (d + 1)) [vR Y.1 a0, vI x1, vR Y.1 a2] M0 (QV Q) := by
  unfold wbX6_goOnAny at h
  refine ct_intro (by decide) (Nat.le_of_ble_eq_true rfl) ?_
  intro X hXl hC hL0
  have hL := hL0 hF
  change OKX X Y RX6 cX6_goOnAny 5 none (rmX6_goOnAny (d + 1)) at hC
  subst hXl
  change WW X Y 5 (rmX6_goOnAny (d + 1)) (QV Q) M0 0 0 0 [(0, vR Y.1 a0), (1, vI x1), (2, vR Y.1 a2)] [] M0
  refine r_iload_n hC 1 dX6_goOnAny_0 rfl rfl ?_
  refine r_aload_n hC 0 dX6_goOnAny_1 rfl rfl ?_
  refine r_getI hC fg_X6_41 rfl qa0.1 qa0.2 dX6_goOnAny_2 ?_
  refine r_icmp_lt hC 38 rfl rfl dX6_goOnAny_5 (by decide) (fun cq => ?_) (fun cq => ?_)
  · replace h := h.1 cq
    refine r_iconst hC dX6_goOnAny_38 ?_
    refine r_istore_n (lv' := [(3, vI 0), (0, vR Y.1 a0), (1, vI x1), (2, vR Y.1 a2)]) hC dX6_goOnAny_39 rfl (by decide) rfl ?_
    refine r_sub [1, 2, 3, 0] rfl ?_
    obtain ⟨N_21, h⟩ := h
    refine tX6_goOnAny_L40 hC hF hL _ _ hG0 Q  _ qa0 qa2  N_21 _ _ h
  · replace h := h.2 cq
    refine r_aload_n hC 0 dX6_goOnAny_8 rfl rfl ?_
    have q_22 : 0 < (a0 - 12) ∧ M0 0 ((a0 - 12)) = kO 10 := lay_fs (a := a0) hL qa0 fm_6_1
    refine r_getRs (a' := (a0 - 12)) hC fg_X6_33 rfl hF fm_6_1 qa0.1 qa0.2 rfl dX6_goOnAny_9 ?_
    have q_23 : 0 < (a0 - 12) + 6 ∧ M0 0 ((a0 - 12) + 6) = kA 0 13 := lay_f0 (a := (a0 - 12)) hL q_22 fm_10_9
    refine r_getR0 (a' := (a0 - 12) + 6) hC fg_X6_153 rfl hF fm_10_9 q_22.1 q_22.2 rfl dX6_goOnAny_12 ?_
    refine r_aload_n hC 0 dX6_goOnAny_15 rfl rfl ?_
    refine r_getI hC fg_X6_41 rfl qa0.1 qa0.2 dX6_goOnAny_16 ?_
    obtain ⟨i_24, h⟩ := h
    refine r_iald hC i_24 q_23.1 q_23.2 (by decide) dX6_goOnAny_19 ?_
    refine r_nameI h (fun x3_25 h => ?_)
    refine r_istore_n (lv' := [(3, vI x3_25), (0, vR Y.1 a0), (1, vI x1), (2, vR Y.1 a2)]) hC dX6_goOnAny_20 rfl (by decide) rfl ?_
    refine r_iload_n hC 0 dX6_goOnAny_21 rfl rfl ?_
    refine r_iconst hC dX6_goOnAny_22 ?_
    refine r_aload_n hC 3 dX6_goOnAny_23 rfl rfl ?_
    refine r_alen hC (by decide) qa2.1 qa2.2 (by decide) dX6_goOnAny_24 ?_
    refine r_iconst hC dX6_goOnAny_25 ?_
    refine r_isub hC dX6_goOnAny_26 ?_
    refine r_callN (As := [vI x3_25, vI 0, vI (1024 - 1)]) (st := []) hC cw_X6_156 rfl rfl (Nat.le_of_ble_eq_true rfl) (by constructor <;> simp only [rmX6_goOnAny, rmX11_within] <;> omega) ⟨Nat.le_of_ble_eq_true rfl, Nat.le_of_ble_eq_true rfl⟩ dX6_goOnAny_27 (fun hk => mX11_within Y hF _ _ _ _ _ _  h) (fun v M_26 h => ?_)
    obtain ⟨r_27, rfl, h⟩ := h
    refine r_if_eq hC 37 rfl dX6_goOnAny_30 (by decide) (fun cq => ?_) (fun cq => ?_)
    · replace h := h.1 cq
      exact r_vret hC (Nat.zero_le _) (Nat.zero_le _) dX6_goOnAny_37 ⟨rfl, h⟩
    · replace h := h.2 cq
      refine r_aload_n hC 3 dX6_goOnAny_33 rfl rfl ?_
      refine r_iload_n hC 0 dX6_goOnAny_34 rfl rfl ?_
      refine r_iconst hC dX6_goOnAny_35 ?_
      obtain ⟨i_28, h⟩ := h
      refine r_zast hC (Or.inr rfl) i_28 qa2.1 qa2.2 (by decide) dX6_goOnAny_36 ?_
      refine r_nameM h (fun M_29 h => ?_)
      exact r_vret hC (Nat.zero_le _) (Nat.zero_le _) dX6_goOnAny_37 ⟨rfl, h⟩
set_option maxHeartbeats 4000000 in
set_option maxRecDepth 100000 in
theorem mGX6_goOnAny (Y : Yx) (hF : Y.2.2.2.2 = true) (l : Launch) (a0 : Nat) (a2 : Nat) : ∀ d : Nat, (∀ (x1 : Int) (M : Mem) (Q : Int → Mem → Prop), (0 < a0 ∧ M 0 a0 = kO 6) → (0 < a2 ∧ M 0 a2 = kA 2 1024) → wGX6_goOnAny a0 a2 d 0 [x1] M Q → CT Y l yX6_goOnAny cX6_goOnAny 5 none (rmX6_goOnAny d) [vR Y.1 a0, vI x1, vR Y.1 a2] M (QV (Q 0))) := by
  intro d
  induction d with
  | zero => exact fun x1 M Q f0 f1 h => h.elim
  | succ d ih => exact fun x1 M Q f0 f1 h => mbX6_goOnAny Y hF l a0 x1 a2 ih M (Q 0) f0 f1 h
set_option maxHeartbeats 4000000 in
set_option maxRecDepth 100000 in
theorem mX6_goOnAny (Y : Yx) (hF : Y.2.2.2.2 = true) (l : Launch) (a0 : Nat) (x1 : Int) (a2 : Nat) (M0 : Mem) (Q : Mem → Prop) (qa0 : 0 < a0 ∧ M0 0 a0 = kO 6) (qa2 : 0 < a2 ∧ M0 0 a2 = kA 2 1024) (h : wX6_goOnAny a0 x1 a2 M0 Q) : CT Y l yX6_goOnAny cX6_goOnAny 5 none (rmX6_goOnAny 8) [vR Y.1 a0, vI x1, vR Y.1 a2] M0 (QV Q) := (mGX6_goOnAny Y hF l a0 a2 8) _ M0 (fun _ => Q) qa0 qa2 h
