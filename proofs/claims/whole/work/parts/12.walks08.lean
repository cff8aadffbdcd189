theorem dX6_moveLeast_0 : dec cX6_moveLeast 0 1 1 (.iconst 0) := ⟨by decide +kernel, rfl⟩
theorem dX6_moveLeast_1 : dec cX6_moveLeast 1 1 2 (.istore_n 3) := ⟨by decide +kernel, rfl⟩
theorem dX6_moveLeast_2 : dec cX6_moveLeast 2 1 3 (.iconst 0) := ⟨by decide +kernel, rfl⟩
theorem dX6_moveLeast_3 : dec cX6_moveLeast 3 2 5 (.istore 4) := ⟨by decide +kernel, rfl⟩
theorem dX6_moveLeast_5 : dec cX6_moveLeast 5 2 7 (.iload 4) := ⟨by decide +kernel, rfl⟩
theorem dX6_moveLeast_7 : dec cX6_moveLeast 7 1 8 (.aload_n 1) := ⟨by decide +kernel, rfl⟩
theorem dX6_moveLeast_8 : dec cX6_moveLeast 8 3 11 (.getfield 120) := ⟨by decide +kernel, rfl⟩
theorem dX6_moveLeast_11 : dec cX6_moveLeast 11 3 14 (.if_icmp .ge 40) := ⟨by decide +kernel, rfl⟩
theorem dX6_moveLeast_14 : dec cX6_moveLeast 14 1 15 (.aload_n 1) := ⟨by decide +kernel, rfl⟩
theorem dX6_moveLeast_15 : dec cX6_moveLeast 15 3 18 (.getfield 114) := ⟨by decide +kernel, rfl⟩
theorem dX6_moveLeast_18 : dec cX6_moveLeast 18 2 20 (.iload 4) := ⟨by decide +kernel, rfl⟩
theorem dX6_moveLeast_20 : dec cX6_moveLeast 20 1 21 (.iaload) := ⟨by decide +kernel, rfl⟩
theorem dX6_moveLeast_21 : dec cX6_moveLeast 21 2 23 (.istore 5) := ⟨by decide +kernel, rfl⟩
theorem dX6_moveLeast_23 : dec cX6_moveLeast 23 1 24 (.aload_n 0) := ⟨by decide +kernel, rfl⟩
theorem dX6_moveLeast_24 : dec cX6_moveLeast 24 3 27 (.getfield 22) := ⟨by decide +kernel, rfl⟩
theorem dX6_moveLeast_27 : dec cX6_moveLeast 27 2 29 (.iload 5) := ⟨by decide +kernel, rfl⟩
theorem dX6_moveLeast_29 : dec cX6_moveLeast 29 2 31 (.iload 4) := ⟨by decide +kernel, rfl⟩
theorem dX6_moveLeast_31 : dec cX6_moveLeast 31 1 32 (.iastore) := ⟨by decide +kernel, rfl⟩
theorem dX6_moveLeast_32 : dec cX6_moveLeast 32 2 34 (.iload 4) := ⟨by decide +kernel, rfl⟩
theorem dX6_moveLeast_34 : dec cX6_moveLeast 34 1 35 (.iload_n 2) := ⟨by decide +kernel, rfl⟩
theorem dX6_moveLeast_35 : dec cX6_moveLeast 35 3 38 (.if_icmp .eq 10) := ⟨by decide +kernel, rfl⟩
theorem dX6_moveLeast_38 : dec cX6_moveLeast 38 1 39 (.iload_n 3) := ⟨by decide +kernel, rfl⟩
theorem dX6_moveLeast_39 : dec cX6_moveLeast 39 1 40 (.iconst 1) := ⟨by decide +kernel, rfl⟩
theorem dX6_moveLeast_40 : dec cX6_moveLeast 40 2 42 (.iload 5) := ⟨by decide +kernel, rfl⟩
theorem dX6_moveLeast_42 : dec cX6_moveLeast 42 1 43 (.ishl) := ⟨by decide +kernel, rfl⟩
theorem dX6_moveLeast_43 : dec cX6_moveLeast 43 1 44 (.ior) := ⟨by decide +kernel, rfl⟩
theorem dX6_moveLeast_44 : dec cX6_moveLeast 44 1 45 (.istore_n 3) := ⟨by decide +kernel, rfl⟩
theorem dX6_moveLeast_45 : dec cX6_moveLeast 45 3 48 (.iinc 4 1) := ⟨by decide +kernel, rfl⟩
theorem dX6_moveLeast_48 : dec cX6_moveLeast 48 3 51 (.goto (-43)) := ⟨by decide +kernel, rfl⟩
theorem dX6_moveLeast_51 : dec cX6_moveLeast 51 1 52 (.aload_n 0) := ⟨by decide +kernel, rfl⟩
theorem dX6_moveLeast_52 : dec cX6_moveLeast 52 1 53 (.iconst 0) := ⟨by decide +kernel, rfl⟩
theorem dX6_moveLeast_53 : dec cX6_moveLeast 53 3 56 (.putfield 62) := ⟨by decide +kernel, rfl⟩
theorem dX6_moveLeast_56 : dec cX6_moveLeast 56 1 57 (.aload_n 0) := ⟨by decide +kernel, rfl⟩
theorem dX6_moveLeast_57 : dec cX6_moveLeast 57 1 58 (.iload_n 3) := ⟨by decide +kernel, rfl⟩
theorem dX6_moveLeast_58 : dec cX6_moveLeast 58 3 61 (.invokevirtual 66) := ⟨by decide +kernel, rfl⟩
theorem dX6_moveLeast_61 : dec cX6_moveLeast 61 1 62 (.iload_n 2) := ⟨by decide +kernel, rfl⟩
theorem dX6_moveLeast_62 : dec cX6_moveLeast 62 1 63 (.aload_n 1) := ⟨by decide +kernel, rfl⟩
theorem dX6_moveLeast_63 : dec cX6_moveLeast 63 3 66 (.getfield 123) := ⟨by decide +kernel, rfl⟩
theorem dX6_moveLeast_66 : dec cX6_moveLeast 66 3 69 (.if_icmp .ge 12) := ⟨by decide +kernel, rfl⟩
theorem dX6_moveLeast_69 : dec cX6_moveLeast 69 1 70 (.aload_n 1) := ⟨by decide +kernel, rfl⟩
theorem dX6_moveLeast_70 : dec cX6_moveLeast 70 3 73 (.getfield 123) := ⟨by decide +kernel, rfl⟩
theorem dX6_moveLeast_73 : dec cX6_moveLeast 73 1 74 (.iconst 1) := ⟨by decide +kernel, rfl⟩
theorem dX6_moveLeast_74 : dec cX6_moveLeast 74 1 75 (.isub) := ⟨by decide +kernel, rfl⟩
theorem dX6_moveLeast_75 : dec cX6_moveLeast 75 3 78 (.goto 7) := ⟨by decide +kernel, rfl⟩
theorem dX6_moveLeast_78 : dec cX6_moveLeast 78 1 79 (.aload_n 1) := ⟨by decide +kernel, rfl⟩
theorem dX6_moveLeast_79 : dec cX6_moveLeast 79 3 82 (.getfield 123) := ⟨by decide +kernel, rfl⟩
theorem dX6_moveLeast_82 : dec cX6_moveLeast 82 2 84 (.istore 4) := ⟨by decide +kernel, rfl⟩
theorem dX6_moveLeast_84 : dec cX6_moveLeast 84 2 86 (.iload 4) := ⟨by decide +kernel, rfl⟩
theorem dX6_moveLeast_86 : dec cX6_moveLeast 86 1 87 (.aload_n 0) := ⟨by decide +kernel, rfl⟩
theorem dX6_moveLeast_87 : dec cX6_moveLeast 87 3 90 (.getfield 41) := ⟨by decide +kernel, rfl⟩
theorem dX6_moveLeast_90 : dec cX6_moveLeast 90 3 93 (.if_icmp .lt 6) := ⟨by decide +kernel, rfl⟩
theorem dX6_moveLeast_93 : dec cX6_moveLeast 93 1 94 (.iconst 0) := ⟨by decide +kernel, rfl⟩
theorem dX6_moveLeast_94 : dec cX6_moveLeast 94 2 96 (.istore 4) := ⟨by decide +kernel, rfl⟩
theorem dX6_moveLeast_96 : dec cX6_moveLeast 96 1 97 (.aload_n 0) := ⟨by decide +kernel, rfl⟩
theorem dX6_moveLeast_97 : dec cX6_moveLeast 97 3 100 (.getfield 33) := ⟨by decide +kernel, rfl⟩
theorem dX6_moveLeast_100 : dec cX6_moveLeast 100 1 101 (.aload_n 0) := ⟨by decide +kernel, rfl⟩
theorem dX6_moveLeast_101 : dec cX6_moveLeast 101 3 104 (.getfield 41) := ⟨by decide +kernel, rfl⟩
theorem dX6_moveLeast_104 : dec cX6_moveLeast 104 2 106 (.iload 4) := ⟨by decide +kernel, rfl⟩
theorem dX6_moveLeast_106 : dec cX6_moveLeast 106 1 107 (.aload_n 0) := ⟨by decide +kernel, rfl⟩
theorem dX6_moveLeast_107 : dec cX6_moveLeast 107 3 110 (.getfield 29) := ⟨by decide +kernel, rfl⟩
theorem dX6_moveLeast_110 : dec cX6_moveLeast 110 3 113 (.invokevirtual 70) := ⟨by decide +kernel, rfl⟩
theorem dX6_moveLeast_113 : dec cX6_moveLeast 113 3 116 (.invokevirtual 74) := ⟨by decide +kernel, rfl⟩
theorem dX6_moveLeast_116 : dec cX6_moveLeast 116 1 117 (.aload_n 0) := ⟨by decide +kernel, rfl⟩
theorem dX6_moveLeast_117 : dec cX6_moveLeast 117 1 118 (.iconst 0) := ⟨by decide +kernel, rfl⟩
theorem dX6_moveLeast_118 : dec cX6_moveLeast 118 2 120 (.iload 4) := ⟨by decide +kernel, rfl⟩
theorem dX6_moveLeast_120 : dec cX6_moveLeast 120 1 121 (.iconst 0) := ⟨by decide +kernel, rfl⟩
theorem dX6_moveLeast_121 : dec cX6_moveLeast 121 3 124 (.invokevirtual 174) := ⟨by decide +kernel, rfl⟩
theorem dX6_moveLeast_124 : dec cX6_moveLeast 124 1 125 (.return_) := ⟨by decide +kernel, rfl⟩
set_option maxHeartbeats 4000000 in
set_option maxRecDepth 100000 in
theorem tX6_moveLeast_L5 {X : Cx} {Y : Yx} {M0 : Mem} (hC : OKX X Y RX6 cX6_moveLeast 6 none rmX6_moveLeast) (hF : Y.2.2.2.2 = true) (hL : Lay M0) (Q : Mem → Prop) (E51 : Int → Mem → Prop) (a0 : Nat) (a1 : Nat) (x2 : Int) (qa0 : 0 < a0 ∧ M0 0 a0 = kO 6) (qa1 : 0 < a1 ∧ M0 0 a1 = kO 5) (hE51 : ∀ (x3 : Int) (M : Mem), E51 x3 M → WW X Y 6 rmX6_moveLeast (QV Q) M0 0 0 51 [(0, vR Y.1 a0), (1, vR Y.1 a1), (2, vI x2), (3, vI x3)] [] M) : ∀ (N : Nat) (x3 : Int) (x4 : Int) (M : Mem) (_ : wX6_moveLeast_L5 Q E51 a0 a1 x2 N x3 x4 M), WW X Y 6 rmX6_moveLeast (QV Q) M0 0 0 5 [(0, vR Y.1 a0), (1, vR Y.1 a1), (2, vI x2), (3, vI x3), (4, vI x4)] [] M := by
  intro N
  induction N with
  | zero =>
    intro x3 x4 M h
    exact h.elim
  | succ N ih =>
    intro x3 x4 M h
    unfold wX6_moveLeast_L5 at h
    refine r_iload hC 4 dX6_moveLeast_5 rfl ?_
    refine r_aload_n hC 1 dX6_moveLeast_7 rfl rfl ?_
    refine r_getI hC fg_X6_120 rfl qa1.1 qa1.2 dX6_moveLeast_8 ?_
    refine r_icmp_ge hC 51 rfl rfl dX6_moveLeast_11 (by decide) (fun cq => ?_) (fun cq => ?_)
    · replace h := h.1 cq
      refine r_sub [0, 1, 2, 3] rfl ?_
      exact hE51 _ _ h
    · replace h := h.2 cq
      refine r_aload_n hC 1 dX6_moveLeast_14 rfl rfl ?_
      have q_1 : 0 < a1 + 1 ∧ M0 0 (a1 + 1) = kA 0 12 := lay_f0 (a := a1) hL qa1 fm_5_0
      refine r_getR0 (a' := a1 + 1) hC fg_X6_114 rfl hF fm_5_0 qa1.1 qa1.2 rfl dX6_moveLeast_15 ?_
      refine r_iload hC 4 dX6_moveLeast_18 rfl ?_
      obtain ⟨i_2, h⟩ := h
      refine r_iald hC i_2 q_1.1 q_1.2 (by decide) dX6_moveLeast_20 ?_
      refine r_nameI h (fun x5_3 h => ?_)
      refine r_istore (lv' := [(5, vI x5_3), (0, vR Y.1 a0), (1, vR Y.1 a1), (2, vI x2), (3, vI x3), (4, vI x4)]) hC dX6_moveLeast_21 (by decide) rfl ?_
      refine r_aload_n hC 1 dX6_moveLeast_23 rfl rfl ?_
      have q_4 : 0 < a0 + 4 ∧ M0 0 (a0 + 4) = kA 0 12 := lay_f0 (a := a0) hL qa0 fm_6_12
      refine r_getR0 (a' := a0 + 4) hC fg_X6_22 rfl hF fm_6_12 qa0.1 qa0.2 rfl dX6_moveLeast_24 ?_
      refine r_iload hC 0 dX6_moveLeast_27 rfl ?_
      refine r_iload hC 5 dX6_moveLeast_29 rfl ?_
      obtain ⟨i_5, h⟩ := h
      refine r_iast hC i_5 q_4.1 q_4.2 (by decide) dX6_moveLeast_31 ?_
      refine r_nameM h (fun M_6 h => ?_)
      refine r_iload hC 5 dX6_moveLeast_32 rfl ?_
      refine r_iload_n hC 3 dX6_moveLeast_34 rfl rfl ?_
      refine r_icmp_eq hC 45 rfl rfl dX6_moveLeast_35 (by decide) (fun cq => ?_) (fun cq => ?_)
      · replace h := h.1 cq
        refine let_elim h (fun x4_7 e_8 h => ?_)
        refine r_iinc (lv' := [(4, vI x4_7), (5, vI x5_3), (0, vR Y.1 a0), (1, vR Y.1 a1), (2, vI x2), (3, vI x3)]) hC 5 dX6_moveLeast_45 rfl (by decide) e_8 rfl ?_
        refine r_goto hC 5 dX6_moveLeast_48 (by decide) ?_
        refine r_sub [2, 3, 4, 5, 0] rfl ?_
        exact ih _ _ _ h
      · replace h := h.2 cq
        refine r_iload_n hC 4 dX6_moveLeast_38 rfl rfl ?_
        refine r_iconst hC dX6_moveLeast_39 ?_
        refine r_iload hC 0 dX6_moveLeast_40 rfl ?_
        refine r_ishl hC dX6_moveLeast_42 ?_
        refine r_ior hC dX6_moveLeast_43 ?_
        refine r_nameI h (fun x3_9 h => ?_)
        refine r_istore_n (lv' := [(3, vI x3_9), (5, vI x5_3), (0, vR Y.1 a0), (1, vR Y.1 a1), (2, vI x2), (4, vI x4)]) hC dX6_moveLeast_44 rfl (by decide) rfl ?_
        refine let_elim h (fun x4_10 e_11 h => ?_)
        refine r_iinc (lv' := [(4, vI x4_10), (3, vI x3_9), (5, vI x5_3), (0, vR Y.1 a0), (1, vR Y.1 a1), (2, vI x2)]) hC 5 dX6_moveLeast_45 rfl (by decide) e_11 rfl ?_
        refine r_goto hC 5 dX6_moveLeast_48 (by decide) ?_
        refine r_sub [3, 4, 5, 1, 0] rfl ?_
        exact ih _ _ _ h
set_option maxHeartbeats 4000000 in
set_option maxRecDepth 100000 in
theorem tX6_moveLeast_J96 {X : Cx} {Y : Yx} {M0 : Mem} (hC : OKX X Y RX6 cX6_moveLeast 6 none rmX6_moveLeast) (hF : Y.2.2.2.2 = true) (hL : Lay M0) (Q : Mem → Prop)   (a0 : Nat) (x4 : Int) (qa0 : 0 < a0 ∧ M0 0 a0 = kO 6)  (M : Mem) (h : wX6_moveLeast_J96 Q  a0 x4 M) : WW X Y 6 rmX6_moveLeast (QV Q) M0 0 0 96 [(0, vR Y.1 a0), (4, vI x4)] [] M := by
  unfold wX6_moveLeast_J96 at h
  refine r_aload_n hC 0 dX6_moveLeast_96 rfl rfl ?_
  have q_16 : 0 < (a0 - 12) ∧ M0 0 ((a0 - 12)) = kO 10 := lay_fs (a := a0) hL qa0 fm_6_1
  refine r_getRs (a' := (a0 - 12)) hC fg_X6_33 rfl hF fm_6_1 qa0.1 qa0.2 rfl dX6_moveLeast_97 ?_
  refine r_aload_n hC 0 dX6_moveLeast_100 rfl rfl ?_
  refine r_getI hC fg_X6_41 rfl qa0.1 qa0.2 dX6_moveLeast_101 ?_
  refine r_iload hC 1 dX6_moveLeast_104 rfl ?_
  refine r_aload_n hC 0 dX6_moveLeast_106 rfl rfl ?_
  have q_17 : 0 < (a0 - 101) ∧ M0 0 ((a0 - 101)) = kO 0 := lay_fs (a := a0) hL qa0 fm_6_0
  refine r_getRs (a' := (a0 - 101)) hC fg_X6_29 rfl hF fm_6_0 qa0.1 qa0.2 rfl dX6_moveLeast_107 ?_
  refine r_callV (As := []) (st := [vI x4, vI (M a0 5), vR Y.1 ((a0 - 12))]) hC cw_X6_70 rfl q_17.1 q_17.2 rfl rfl (Nat.le_of_ble_eq_true rfl) ⟨Nat.le_of_ble_eq_true rfl, Nat.le_of_ble_eq_true rfl⟩ ⟨Nat.le_of_ble_eq_true rfl, Nat.le_of_ble_eq_true rfl⟩ dX6_moveLeast_110 (fun hk => mX0_likingsOn Y hF _ _ _ _ (kqO hk q_17) h) (fun v M_18 h => ?_)
  obtain ⟨r_19, rfl, h⟩ := h
  refine r_callV (As := [vI (M a0 5), vI x4, vI r_19]) (st := []) hC cw_X6_74 rfl q_16.1 q_16.2 rfl rfl (Nat.le_of_ble_eq_true rfl) ⟨Nat.le_of_ble_eq_true rfl, Nat.le_of_ble_eq_true rfl⟩ ⟨Nat.le_of_ble_eq_true rfl, Nat.le_of_ble_eq_true rfl⟩ dX6_moveLeast_113 (fun hk => mX10_start Y hF _ _ _ _ _ _ _ (kqO hk q_16) h) (fun v M_20 h => ?_)
  obtain ⟨rfl, h⟩ := h
  refine r_aload_n hC 0 dX6_moveLeast_116 rfl rfl ?_
  refine r_iconst hC dX6_moveLeast_117 ?_
  refine r_iload hC 1 dX6_moveLeast_118 rfl ?_
  refine r_iconst hC dX6_moveLeast_120 ?_
  refine r_callV (As := [vI 0, vI x4, vI 0]) (st := []) hC cw_X6_174 rfl qa0.1 qa0.2 rfl rfl (Nat.le_of_ble_eq_true rfl) ⟨Nat.le_of_ble_eq_true rfl, Nat.le_of_ble_eq_true rfl⟩ ⟨Nat.le_of_ble_eq_true rfl, Nat.le_of_ble_eq_true rfl⟩ dX6_moveLeast_121 (fun hk => mX6_goOnMoving Y hF _ _ _ _ _ _ _ (kqO hk qa0) h) (fun v M_21 h => ?_)
  obtain ⟨rfl, h⟩ := h
  exact r_vret hC (Nat.zero_le _) (Nat.zero_le _) dX6_moveLeast_124 ⟨rfl, h⟩
set_option maxHeartbeats 4000000 in
set_option maxRecDepth 100000 in
theorem tX6_moveLeast_J82 {X : Cx} {Y : Yx} {M0 : Mem} (hC : OKX X Y RX6 cX6_moveLeast 6 none rmX6_moveLeast) (hF : Y.2.2.2.2 = true) (hL : Lay M0) (Q : Mem → Prop)   (a0 : Nat) (xs0 : Int) (qa0 : 0 < a0 ∧ M0 0 a0 = kO 6)  (M : Mem) (h : wX6_moveLeast_J82 Q  a0 xs0 M) : WW X Y 6 rmX6_moveLeast (QV Q) M0 0 0 82 [(0, vR Y.1 a0)] [vI xs0] M := by
  unfold wX6_moveLeast_J82 at h
  refine r_istore (lv' := [(4, vI xs0), (0, vR Y.1 a0)]) hC dX6_moveLeast_82 (by decide) rfl ?_
  refine r_iload hC 0 dX6_moveLeast_84 rfl ?_
  refine r_aload_n hC 1 dX6_moveLeast_86 rfl rfl ?_
  refine r_getI hC fg_X6_41 rfl qa0.1 qa0.2 dX6_moveLeast_87 ?_
  refine r_icmp_lt hC 96 rfl rfl dX6_moveLeast_90 (by decide) (fun cq => ?_) (fun cq => ?_)
  · replace h := h.1 cq
    refine r_sub [1, 0] rfl ?_
    exact tX6_moveLeast_J96 hC hF hL Q   _ _ qa0  _ h
  · replace h := h.2 cq
    refine r_iconst hC dX6_moveLeast_93 ?_
    refine r_istore (lv' := [(4, vI 0), (0, vR Y.1 a0)]) hC dX6_moveLeast_94 (by decide) rfl ?_
    refine r_sub [1, 0] rfl ?_
    exact tX6_moveLeast_J96 hC hF hL Q   _ _ qa0  _ h
set_option maxHeartbeats 4000000 in
set_option maxRecDepth 100000 in
theorem mX6_moveLeast (Y : Yx) (hF : Y.2.2.2.2 = true) (l : Launch) (a0 : Nat) (a1 : Nat) (x2 : Int) (M0 : Mem) (Q : Mem → Prop) (qa0 : 0 < a0 ∧ M0 0 a0 = kO 6) (qa1 : 0 < a1 ∧ M0 0 a1 = kO 5) (h : wX6_moveLeast a0 a1 x2 M0 Q) : CT Y l yX6_moveLeast cX6_moveLeast 6 none rmX6_moveLeast [vR Y.1 a0, vR Y.1 a1, vI x2] M0 (QV Q) := by
  unfold wX6_moveLeast at h
  refine ct_intro (by decide) (Nat.le_of_ble_eq_true rfl) ?_
  intro X hXl hC hL0
  have hL := hL0 hF
  change OKX X Y RX6 cX6_moveLeast 6 none rmX6_moveLeast at hC
  change WW X Y 6 rmX6_moveLeast (QV Q) M0 0 0 0 [(0, vR Y.1 a0), (1, vR Y.1 a1), (2, vI x2)] [] M0
  refine r_iconst hC dX6_moveLeast_0 ?_
  refine r_istore_n (lv' := [(3, vI 0), (0, vR Y.1 a0), (1, vR Y.1 a1), (2, vI x2)]) hC dX6_moveLeast_1 rfl (by decide) rfl ?_
  refine r_iconst hC dX6_moveLeast_2 ?_
  refine r_istore (lv' := [(4, vI 0), (3, vI 0), (0, vR Y.1 a0), (1, vR Y.1 a1), (2, vI x2)]) hC dX6_moveLeast_3 (by decide) rfl ?_
  refine r_sub [2, 3, 4, 1, 0] rfl ?_
  obtain ⟨N_22, h⟩ := h
  refine tX6_moveLeast_L5 hC hF hL Q _ _ _ _ qa0 qa1 ?_ N_22 _ _ _ h
  · intro x3_12 M_13 h
    refine r_aload_n hC 0 dX6_moveLeast_51 rfl rfl ?_
    refine r_iconst hC dX6_moveLeast_52 ?_
    refine r_putZ hC (Or.inl rfl) fp_X6_62 rfl qa0.1 qa0.2 dX6_moveLeast_53 ?_
    refine r_nameM h (fun M_14 h => ?_)
    refine r_aload_n hC 0 dX6_moveLeast_56 rfl rfl ?_
    refine r_iload_n hC 3 dX6_moveLeast_57 rfl rfl ?_
    refine r_callV (As := [vI x3_12]) (st := []) hC cw_X6_66 rfl qa0.1 qa0.2 rfl rfl (Nat.le_of_ble_eq_true rfl) ⟨Nat.le_of_ble_eq_true rfl, Nat.le_of_ble_eq_true rfl⟩ ⟨Nat.le_of_ble_eq_true rfl, Nat.le_of_ble_eq_true rfl⟩ dX6_moveLeast_58 (fun hk => mX6_gather Y hF _ _ _ _ _ (kqO hk qa0) h) (fun v M_15 h => ?_)
    obtain ⟨rfl, h⟩ := h
    refine r_iload_n hC 2 dX6_moveLeast_61 rfl rfl ?_
    refine r_aload_n hC 1 dX6_moveLeast_62 rfl rfl ?_
    refine r_getI hC fg_X6_123 rfl qa1.1 qa1.2 dX6_moveLeast_63 ?_
    refine r_icmp_ge hC 78 rfl rfl dX6_moveLeast_66 (by decide) (fun cq => ?_) (fun cq => ?_)
    · replace h := h.1 cq
      refine r_aload_n hC 1 dX6_moveLeast_78 rfl rfl ?_
      refine r_getI hC fg_X6_123 rfl qa1.1 qa1.2 dX6_moveLeast_79 ?_
      refine r_sub [0] rfl ?_
      exact tX6_moveLeast_J82 hC hF hL Q   _ _ qa0  _ h
    · replace h := h.2 cq
      refine r_aload_n hC 1 dX6_moveLeast_69 rfl rfl ?_
      refine r_getI hC fg_X6_123 rfl qa1.1 qa1.2 dX6_moveLeast_70 ?_
      refine r_iconst hC dX6_moveLeast_73 ?_
      refine r_isub hC dX6_moveLeast_74 ?_
      refine r_goto hC 82 dX6_moveLeast_75 (by decide) ?_
      refine r_sub [0] rfl ?_
      exact tX6_moveLeast_J82 hC hF hL Q   _ _ qa0  _ h
theorem dX7_init_0 : dec cX7_init 0 1 1 (.aload_n 0) := ⟨by decide +kernel, rfl⟩
theorem dX7_init_1 : dec cX7_init 1 3 4 (.invokespecial 3) := ⟨by decide +kernel, rfl⟩
theorem dX7_init_4 : dec cX7_init 4 1 5 (.aload_n 0) := ⟨by decide +kernel, rfl⟩
theorem dX7_init_5 : dec cX7_init 5 2 7 (.bipush 12) := ⟨by decide +kernel, rfl⟩
theorem dX7_init_7 : dec cX7_init 7 2 9 (.newarray .int) := ⟨by decide +kernel, rfl⟩
theorem dX7_init_9 : dec cX7_init 9 3 12 (.putfield 9) := ⟨by decide +kernel, rfl⟩
theorem dX7_init_12 : dec cX7_init 12 1 13 (.aload_n 0) := ⟨by decide +kernel, rfl⟩
theorem dX7_init_13 : dec cX7_init 13 2 15 (.bipush 12) := ⟨by decide +kernel, rfl⟩
theorem dX7_init_15 : dec cX7_init 15 2 17 (.newarray .int) := ⟨by decide +kernel, rfl⟩
theorem dX7_init_17 : dec cX7_init 17 3 20 (.putfield 15) := ⟨by decide +kernel, rfl⟩
theorem dX7_init_20 : dec cX7_init 20 1 21 (.aload_n 0) := ⟨by decide +kernel, rfl⟩
theorem dX7_init_21 : dec cX7_init 21 1 22 (.aconst_null) := ⟨by decide +kernel, rfl⟩
theorem dX7_init_22 : dec cX7_init 22 3 25 (.putfield 18) := ⟨by decide +kernel, rfl⟩
theorem dX7_init_25 : dec cX7_init 25 1 26 (.aload_n 0) := ⟨by decide +kernel, rfl⟩
theorem dX7_init_26 : dec cX7_init 26 1 27 (.aload_n 1) := ⟨by decide +kernel, rfl⟩
theorem dX7_init_27 : dec cX7_init 27 3 30 (.putfield 22) := ⟨by decide +kernel, rfl⟩
theorem dX7_init_30 : dec cX7_init 30 1 31 (.return_) := ⟨by decide +kernel, rfl⟩
set_option maxHeartbeats 4000000 in
set_option maxRecDepth 100000 in
theorem mX7_init (Y : Yx) (hF0 : Y.2.2.2.2 = false) (l : Launch) (a0 : Nat) (a1 : Nat) (M0 : Mem) (Q : Mem → Prop) (qa0 : 0 < a0 ∧ M0 0 a0 = kO 7) (qa1 : 0 < a1 ∧ M0 0 a1 = kO 0) (h : wX7_init a0 a1 M0 Q) : CT Y l yX7_init cX7_init 2 none rmX7_init [vR Y.1 a0, vR Y.1 a1] M0 (QV Q) := by
  unfold wX7_init at h
  refine ct_introI (by decide) (Nat.le_of_ble_eq_true rfl) ?_
  intro X hXl hC hN
  change OKX X Y RX7 cX7_init 2 none rmX7_init at hC
  change nameX X = "<init>" at hN
  change WW X Y 2 rmX7_init (QV Q) M0 0 0 0 [(0, vR Y.1 a0), (1, vR Y.1 a1)] [] M0
  refine r_aload_n hC 0 dX7_init_0 rfl rfl ?_
  refine r_objInit hC ob_X7_3 (Nat.le_of_ble_eq_true rfl) (Nat.le_of_ble_eq_true rfl) (Nat.le_of_ble_eq_true rfl) dX7_init_1 ?_
  refine r_aload_n hC 0 dX7_init_4 rfl rfl ?_
  refine r_bipush hC (by decide +kernel) dX7_init_5 ?_
  refine r_newarr (t := 0) (len := 12) hC (by decide) rfl ac_0 rfl (by decide) (by decide +kernel) ⟨Nat.le_of_ble_eq_true rfl, Nat.le_of_ble_eq_true rfl⟩ dX7_init_7 ?_
  refine r_widen (n' := 1) (k' := 12 * 1) (by omega) (by omega) ?_
  refine r_nameM h (fun M_2 h => ?_)
  obtain ⟨q_1, h⟩ := h
  refine r_base (fun hk hL0 => ?_)
  have qa0 := kqO hk qa0
  have qa1 := kqO hk qa1
  refine r_putF hC hN hF0 q_1.1 ff_X7_9 rfl (by first | exact Or.inl ⟨_, rfl⟩ | exact Or.inr ⟨_, rfl⟩) qa0.1 qa0.2 dX7_init_9 ?_
  refine r_nameM h (fun M_3 h => ?_)
  refine r_aload_n hC 0 dX7_init_12 rfl rfl ?_
  refine r_bipush hC (by decide +kernel) dX7_init_13 ?_
  refine r_newarr (t := 0) (len := 12) hC (by decide) rfl ac_0 rfl (by decide) (by decide +kernel) ⟨Nat.le_of_ble_eq_true rfl, Nat.le_of_ble_eq_true rfl⟩ dX7_init_15 ?_
  refine r_widen (n' := 2) (k' := 12 * 2) (by omega) (by omega) ?_
  refine r_nameM h (fun M_5 h => ?_)
  obtain ⟨q_4, h⟩ := h
  refine r_base (fun hk hL0 => ?_)
  have qa0 := kqO hk qa0
  have qa1 := kqO hk qa1
  refine r_putF hC hN hF0 q_4.1 ff_X7_15 rfl (by first | exact Or.inl ⟨_, rfl⟩ | exact Or.inr ⟨_, rfl⟩) qa0.1 qa0.2 dX7_init_17 ?_
  refine r_nameM h (fun M_6 h => ?_)
  refine r_aload_n hC 0 dX7_init_20 rfl rfl ?_
  refine r_null hC dX7_init_21 ?_
  refine r_put0 hC fp_X7_18 rfl (by first | exact Or.inl ⟨_, rfl⟩ | exact Or.inr ⟨_, rfl⟩) qa0.1 qa0.2 dX7_init_22 ?_
  refine r_nameM h (fun M_7 h => ?_)
  refine r_aload_n hC 0 dX7_init_25 rfl rfl ?_
  refine r_aload_n hC 1 dX7_init_26 rfl rfl ?_
  refine r_putF hC hN hF0 qa1.1 ff_X7_22 rfl (by first | exact Or.inl ⟨_, rfl⟩ | exact Or.inr ⟨_, rfl⟩) qa0.1 qa0.2 dX7_init_27 ?_
  refine r_nameM h (fun M_8 h => ?_)
  exact r_vret hC (by first | exact Nat.le_of_ble_eq_true rfl | (simp only [rmX7_init]; omega)) (by first | exact Nat.le_of_ble_eq_true rfl | (simp only [rmX7_init]; omega)) dX7_init_30 ⟨rfl, h⟩
theorem dX7_leastBy_0 : dec cX7_leastBy 0 1 1 (.iload_n 2) := ⟨by decide +kernel, rfl⟩
theorem dX7_leastBy_1 : dec cX7_leastBy 1 1 2 (.iconst 1) := ⟨by decide +kernel, rfl⟩
theorem dX7_leastBy_2 : dec cX7_leastBy 2 1 3 (.iload_n 3) := ⟨by decide +kernel, rfl⟩
theorem dX7_leastBy_3 : dec cX7_leastBy 3 1 4 (.ishl) := ⟨by decide +kernel, rfl⟩
theorem dX7_leastBy_4 : dec cX7_leastBy 4 1 5 (.iconst (-1)) := ⟨by decide +kernel, rfl⟩
theorem dX7_leastBy_5 : dec cX7_leastBy 5 1 6 (.ixor) := ⟨by decide +kernel, rfl⟩
theorem dX7_leastBy_6 : dec cX7_leastBy 6 1 7 (.iand) := ⟨by decide +kernel, rfl⟩
theorem dX7_leastBy_7 : dec cX7_leastBy 7 2 9 (.istore 5) := ⟨by decide +kernel, rfl⟩
theorem dX7_leastBy_9 : dec cX7_leastBy 9 1 10 (.aload_n 0) := ⟨by decide +kernel, rfl⟩
theorem dX7_leastBy_10 : dec cX7_leastBy 10 3 13 (.getfield 22) := ⟨by decide +kernel, rfl⟩
theorem dX7_leastBy_13 : dec cX7_leastBy 13 3 16 (.getfield 61) := ⟨by decide +kernel, rfl⟩
theorem dX7_leastBy_16 : dec cX7_leastBy 16 1 17 (.aload_n 0) := ⟨by decide +kernel, rfl⟩
theorem dX7_leastBy_17 : dec cX7_leastBy 17 3 20 (.getfield 15) := ⟨by decide +kernel, rfl⟩
theorem dX7_leastBy_20 : dec cX7_leastBy 20 1 21 (.iload_n 3) := ⟨by decide +kernel, rfl⟩
theorem dX7_leastBy_21 : dec cX7_leastBy 21 1 22 (.iaload) := ⟨by decide +kernel, rfl⟩
theorem dX7_leastBy_22 : dec cX7_leastBy 22 1 23 (.aaload) := ⟨by decide +kernel, rfl⟩
theorem dX7_leastBy_23 : dec cX7_leastBy 23 1 24 (.aload_n 0) := ⟨by decide +kernel, rfl⟩
theorem dX7_leastBy_24 : dec cX7_leastBy 24 3 27 (.getfield 22) := ⟨by decide +kernel, rfl⟩
theorem dX7_leastBy_27 : dec cX7_leastBy 27 3 30 (.getfield 61) := ⟨by decide +kernel, rfl⟩
theorem dX7_leastBy_30 : dec cX7_leastBy 30 1 31 (.aload_n 0) := ⟨by decide +kernel, rfl⟩
theorem dX7_leastBy_31 : dec cX7_leastBy 31 3 34 (.getfield 15) := ⟨by decide +kernel, rfl⟩
theorem dX7_leastBy_34 : dec cX7_leastBy 34 2 36 (.iload 4) := ⟨by decide +kernel, rfl⟩
theorem dX7_leastBy_36 : dec cX7_leastBy 36 1 37 (.iaload) := ⟨by decide +kernel, rfl⟩
theorem dX7_leastBy_37 : dec cX7_leastBy 37 1 38 (.aaload) := ⟨by decide +kernel, rfl⟩
theorem dX7_leastBy_38 : dec cX7_leastBy 38 3 41 (.invokevirtual 65) := ⟨by decide +kernel, rfl⟩
theorem dX7_leastBy_41 : dec cX7_leastBy 41 2 43 (.istore 6) := ⟨by decide +kernel, rfl⟩
theorem dX7_leastBy_43 : dec cX7_leastBy 43 2 45 (.iload 6) := ⟨by decide +kernel, rfl⟩
theorem dX7_leastBy_45 : dec cX7_leastBy 45 1 46 (.aload_n 1) := ⟨by decide +kernel, rfl⟩
theorem dX7_leastBy_46 : dec cX7_leastBy 46 2 48 (.iload 5) := ⟨by decide +kernel, rfl⟩
theorem dX7_leastBy_48 : dec cX7_leastBy 48 2 50 (.bipush 10) := ⟨by decide +kernel, rfl⟩
theorem dX7_leastBy_50 : dec cX7_leastBy 50 1 51 (.imul) := ⟨by decide +kernel, rfl⟩
theorem dX7_leastBy_51 : dec cX7_leastBy 51 2 53 (.iload 4) := ⟨by decide +kernel, rfl⟩
theorem dX7_leastBy_53 : dec cX7_leastBy 53 1 54 (.iadd) := ⟨by decide +kernel, rfl⟩
theorem dX7_leastBy_54 : dec cX7_leastBy 54 1 55 (.baload) := ⟨by decide +kernel, rfl⟩
theorem dX7_leastBy_55 : dec cX7_leastBy 55 1 56 (.iadd) := ⟨by decide +kernel, rfl⟩
theorem dX7_leastBy_56 : dec cX7_leastBy 56 1 57 (.ireturn) := ⟨by decide +kernel, rfl⟩
set_option maxHeartbeats 4000000 in
set_option maxRecDepth 100000 in
theorem mX7_leastBy (Y : Yx) (hF : Y.2.2.2.2 = true) (l : Launch) (a0 : Nat) (a1 : Nat) (x2 : Int) (x3 : Int) (x4 : Int) (M0 : Mem) (Q : Int → Mem → Prop) (qa0 : 0 < a0 ∧ M0 0 a0 = kO 7) (qa1 : 0 < a1 ∧ M0 0 a1 = kA 1 10240) (h : wX7_leastBy a0 a1 x2 x3 x4 M0 Q) : CT Y l yX7_leastBy cX7_leastBy 7 (some .int) rmX7_leastBy [vR Y.1 a0, vR Y.1 a1, vI x2, vI x3, vI x4] M0 (QI Q) := by
  unfold wX7_leastBy at h
  refine ct_intro (by decide) (Nat.le_of_ble_eq_true rfl) ?_
  intro X hXl hC hL0
  have hL := hL0 hF
  change OKX X Y RX7 cX7_leastBy 7 (some .int) rmX7_leastBy at hC
  change WW X Y 7 rmX7_leastBy (QI Q) M0 0 0 0 [(0, vR Y.1 a0), (1, vR Y.1 a1), (2, vI x2), (3, vI x3), (4, vI x4)] [] M0
  refine r_iload_n hC 2 dX7_leastBy_0 rfl rfl ?_
  refine r_iconst hC dX7_leastBy_1 ?_
  refine r_iload_n hC 3 dX7_leastBy_2 rfl rfl ?_
  refine r_ishl hC dX7_leastBy_3 ?_
  refine r_iconst hC dX7_leastBy_4 ?_
  refine r_ixor hC dX7_leastBy_5 ?_
  refine r_iand hC dX7_leastBy_6 ?_
  refine r_nameI h (fun x5_1 h => ?_)
  refine r_istore (lv' := [(5, vI x5_1), (0, vR Y.1 a0), (1, vR Y.1 a1), (2, vI x2), (3, vI x3), (4, vI x4)]) hC dX7_leastBy_7 (by decide) rfl ?_
  refine r_aload_n hC 1 dX7_leastBy_9 rfl rfl ?_
  have q_2 : 0 < (a0 - 106) ∧ M0 0 ((a0 - 106)) = kO 0 := lay_fs (a := a0) hL qa0 fm_7_0
  refine r_getRs (a' := (a0 - 106)) hC fg_X7_22 rfl hF fm_7_0 qa0.1 qa0.2 rfl dX7_leastBy_10 ?_
  have q_3 : 0 < (a0 - 106) + 1 ∧ M0 0 ((a0 - 106) + 1) = kA 4 12 := lay_f0 (a := (a0 - 106)) hL q_2 fm_0_0
  refine r_getR0 (a' := (a0 - 106) + 1) hC fg_X7_61 rfl hF fm_0_0 q_2.1 q_2.2 rfl dX7_leastBy_13 ?_
  refine r_aload_n hC 1 dX7_leastBy_16 rfl rfl ?_
  have q_4 : 0 < a0 + 2 ∧ M0 0 (a0 + 2) = kA 0 12 := lay_f0 (a := a0) hL qa0 fm_7_6
  refine r_getR0 (a' := a0 + 2) hC fg_X7_15 rfl hF fm_7_6 qa0.1 qa0.2 rfl dX7_leastBy_17 ?_
  refine r_iload_n hC 4 dX7_leastBy_20 rfl rfl ?_
  obtain ⟨i_5, h⟩ := h
  refine r_iald hC i_5 q_4.1 q_4.2 (by decide) dX7_leastBy_21 ?_
  obtain ⟨i_6, h⟩ := h
  have q_7 : 0 < (a0 - 106) + 9 + (bm (rd M0 (a0 + 2) x3)).toNat ∧ M0 0 ((a0 - 106) + 9 + (bm (rd M0 (a0 + 2) x3)).toNat) = kO 3 := lay_a4 (a := (a0 - 106) + 1) hL q_3 (inb_nat i_6)
  refine r_aald4 hC hF i_6 q_3.1 q_3.2 dX7_leastBy_22 ?_
  refine r_aload_n hC 1 dX7_leastBy_23 rfl rfl ?_
  have q_8 : 0 < (a0 - 106) ∧ M0 0 ((a0 - 106)) = kO 0 := lay_fs (a := a0) hL qa0 fm_7_0
  refine r_getRs (a' := (a0 - 106)) hC fg_X7_22 rfl hF fm_7_0 qa0.1 qa0.2 rfl dX7_leastBy_24 ?_
  have q_9 : 0 < (a0 - 106) + 1 ∧ M0 0 ((a0 - 106) + 1) = kA 4 12 := lay_f0 (a := (a0 - 106)) hL q_8 fm_0_0
  refine r_getR0 (a' := (a0 - 106) + 1) hC fg_X7_61 rfl hF fm_0_0 q_8.1 q_8.2 rfl dX7_leastBy_27 ?_
  refine r_aload_n hC 1 dX7_leastBy_30 rfl rfl ?_
  have q_10 : 0 < a0 + 2 ∧ M0 0 (a0 + 2) = kA 0 12 := lay_f0 (a := a0) hL qa0 fm_7_6
  refine r_getR0 (a' := a0 + 2) hC fg_X7_15 rfl hF fm_7_6 qa0.1 qa0.2 rfl dX7_leastBy_31 ?_
  refine r_iload hC 5 dX7_leastBy_34 rfl ?_
  obtain ⟨i_11, h⟩ := h
  refine r_iald hC i_11 q_10.1 q_10.2 (by decide) dX7_leastBy_36 ?_
  obtain ⟨i_12, h⟩ := h
  have q_13 : 0 < (a0 - 106) + 9 + (bm (rd M0 (a0 + 2) x4)).toNat ∧ M0 0 ((a0 - 106) + 9 + (bm (rd M0 (a0 + 2) x4)).toNat) = kO 3 := lay_a4 (a := (a0 - 106) + 1) hL q_9 (inb_nat i_12)
  refine r_aald4 hC hF i_12 q_9.1 q_9.2 dX7_leastBy_37 ?_
  refine r_callV (As := [vR Y.1 ((a0 - 106) + 9 + (bm (rd M0 (a0 + 2) x4)).toNat)]) (st := []) hC cw_X7_65 rfl q_7.1 q_7.2 rfl rfl (Nat.le_of_ble_eq_true rfl) ⟨Nat.le_of_ble_eq_true rfl, Nat.le_of_ble_eq_true rfl⟩ ⟨Nat.le_of_ble_eq_true rfl, Nat.le_of_ble_eq_true rfl⟩ dX7_leastBy_38 (fun hk => mX3_carriedTo Y hF _ _ _ _ _ (kqO hk q_7) (kqO hk q_13) h) (fun v M_14 h => ?_)
  obtain ⟨r_15, rfl, h⟩ := h
  refine r_istore (lv' := [(6, vI r_15), (5, vI x5_1), (0, vR Y.1 a0), (1, vR Y.1 a1), (2, vI x2), (3, vI x3), (4, vI x4)]) hC dX7_leastBy_41 (by decide) rfl ?_
  refine r_iload hC 0 dX7_leastBy_43 rfl ?_
  refine r_aload_n hC 3 dX7_leastBy_45 rfl rfl ?_
  refine r_iload hC 1 dX7_leastBy_46 rfl ?_
  refine r_bipush hC (by decide +kernel) dX7_leastBy_48 ?_
  refine r_imul hC dX7_leastBy_50 ?_
  refine r_iload hC 6 dX7_leastBy_51 rfl ?_
  refine r_iadd hC dX7_leastBy_53 ?_
  obtain ⟨i_16, h⟩ := h
  refine r_bald hC i_16 qa1.1 qa1.2 (by decide) dX7_leastBy_54 ?_
  refine r_iadd hC dX7_leastBy_55 ?_
  exact r_iret hC (Nat.zero_le _) (Nat.zero_le _) dX7_leastBy_56 ⟨_, rfl, h⟩
theorem dX7_nextOf_0 : dec cX7_nextOf 0 1 1 (.iload_n 2) := ⟨by decide +kernel, rfl⟩
theorem dX7_nextOf_1 : dec cX7_nextOf 1 1 2 (.iconst 1) := ⟨by decide +kernel, rfl⟩
theorem dX7_nextOf_2 : dec cX7_nextOf 2 1 3 (.iload_n 3) := ⟨by decide +kernel, rfl⟩
theorem dX7_nextOf_3 : dec cX7_nextOf 3 1 4 (.ishl) := ⟨by decide +kernel, rfl⟩
theorem dX7_nextOf_4 : dec cX7_nextOf 4 1 5 (.iconst (-1)) := ⟨by decide +kernel, rfl⟩
theorem dX7_nextOf_5 : dec cX7_nextOf 5 1 6 (.ixor) := ⟨by decide +kernel, rfl⟩
theorem dX7_nextOf_6 : dec cX7_nextOf 6 1 7 (.iand) := ⟨by decide +kernel, rfl⟩
theorem dX7_nextOf_7 : dec cX7_nextOf 7 2 9 (.istore 4) := ⟨by decide +kernel, rfl⟩
theorem dX7_nextOf_9 : dec cX7_nextOf 9 1 10 (.iconst (-1)) := ⟨by decide +kernel, rfl⟩
theorem dX7_nextOf_10 : dec cX7_nextOf 10 2 12 (.istore 5) := ⟨by decide +kernel, rfl⟩
theorem dX7_nextOf_12 : dec cX7_nextOf 12 1 13 (.iconst 0) := ⟨by decide +kernel, rfl⟩
theorem dX7_nextOf_13 : dec cX7_nextOf 13 2 15 (.istore 6) := ⟨by decide +kernel, rfl⟩
theorem dX7_nextOf_15 : dec cX7_nextOf 15 1 16 (.iconst 0) := ⟨by decide +kernel, rfl⟩
theorem dX7_nextOf_16 : dec cX7_nextOf 16 2 18 (.istore 7) := ⟨by decide +kernel, rfl⟩
theorem dX7_nextOf_18 : dec cX7_nextOf 18 2 20 (.iload 7) := ⟨by decide +kernel, rfl⟩
theorem dX7_nextOf_20 : dec cX7_nextOf 20 1 21 (.aload_n 0) := ⟨by decide +kernel, rfl⟩
theorem dX7_nextOf_21 : dec cX7_nextOf 21 3 24 (.getfield 34) := ⟨by decide +kernel, rfl⟩
theorem dX7_nextOf_24 : dec cX7_nextOf 24 3 27 (.if_icmp .ge 53) := ⟨by decide +kernel, rfl⟩
theorem dX7_nextOf_27 : dec cX7_nextOf 27 2 29 (.iload 4) := ⟨by decide +kernel, rfl⟩
theorem dX7_nextOf_29 : dec cX7_nextOf 29 2 31 (.iload 7) := ⟨by decide +kernel, rfl⟩
theorem dX7_nextOf_31 : dec cX7_nextOf 31 3 34 (.invokestatic 42) := ⟨by decide +kernel, rfl⟩
theorem dX7_nextOf_34 : dec cX7_nextOf 34 3 37 (.ifCond .ne 6) := ⟨by decide +kernel, rfl⟩
theorem dX7_nextOf_37 : dec cX7_nextOf 37 3 40 (.goto 34) := ⟨by decide +kernel, rfl⟩
theorem dX7_nextOf_40 : dec cX7_nextOf 40 1 41 (.aload_n 0) := ⟨by decide +kernel, rfl⟩
theorem dX7_nextOf_41 : dec cX7_nextOf 41 1 42 (.aload_n 1) := ⟨by decide +kernel, rfl⟩
theorem dX7_nextOf_42 : dec cX7_nextOf 42 1 43 (.iload_n 2) := ⟨by decide +kernel, rfl⟩
theorem dX7_nextOf_43 : dec cX7_nextOf 43 1 44 (.iload_n 3) := ⟨by decide +kernel, rfl⟩
theorem dX7_nextOf_44 : dec cX7_nextOf 44 2 46 (.iload 7) := ⟨by decide +kernel, rfl⟩
theorem dX7_nextOf_46 : dec cX7_nextOf 46 3 49 (.invokevirtual 57) := ⟨by decide +kernel, rfl⟩
theorem dX7_nextOf_49 : dec cX7_nextOf 49 2 51 (.istore 8) := ⟨by decide +kernel, rfl⟩
theorem dX7_nextOf_51 : dec cX7_nextOf 51 2 53 (.iload 5) := ⟨by decide +kernel, rfl⟩
theorem dX7_nextOf_53 : dec cX7_nextOf 53 3 56 (.ifCond .lt 10) := ⟨by decide +kernel, rfl⟩
theorem dX7_nextOf_56 : dec cX7_nextOf 56 2 58 (.iload 8) := ⟨by decide +kernel, rfl⟩
theorem dX7_nextOf_58 : dec cX7_nextOf 58 2 60 (.iload 6) := ⟨by decide +kernel, rfl⟩
theorem dX7_nextOf_60 : dec cX7_nextOf 60 3 63 (.if_icmp .ge 11) := ⟨by decide +kernel, rfl⟩
theorem dX7_nextOf_63 : dec cX7_nextOf 63 2 65 (.iload 7) := ⟨by decide +kernel, rfl⟩
theorem dX7_nextOf_65 : dec cX7_nextOf 65 2 67 (.istore 5) := ⟨by decide +kernel, rfl⟩
theorem dX7_nextOf_67 : dec cX7_nextOf 67 2 69 (.iload 8) := ⟨by decide +kernel, rfl⟩
theorem dX7_nextOf_69 : dec cX7_nextOf 69 2 71 (.istore 6) := ⟨by decide +kernel, rfl⟩
theorem dX7_nextOf_71 : dec cX7_nextOf 71 3 74 (.iinc 7 1) := ⟨by decide +kernel, rfl⟩
theorem dX7_nextOf_74 : dec cX7_nextOf 74 3 77 (.goto (-56)) := ⟨by decide +kernel, rfl⟩
theorem dX7_nextOf_77 : dec cX7_nextOf 77 2 79 (.iload 5) := ⟨by decide +kernel, rfl⟩
theorem dX7_nextOf_79 : dec cX7_nextOf 79 1 80 (.ireturn) := ⟨by decide +kernel, rfl⟩
set_option maxHeartbeats 4000000 in
set_option maxRecDepth 100000 in
theorem tX7_nextOf_J63 {X : Cx} {Y : Yx} {M0 : Mem} (hC : OKX X Y RX7 cX7_nextOf 9 (some .int) rmX7_nextOf) (hF : Y.2.2.2.2 = true) (hL : Lay M0) (Q : Int → Mem → Prop) (C18 : Int → Int → Int → Mem → Prop)  (a0 : Nat) (a1 : Nat) (x2 : Int) (x3 : Int) (x4 : Int) (x7 : Int) (x8 : Int) (qa0 : 0 < a0 ∧ M0 0 a0 = kO 7) (qa1 : 0 < a1 ∧ M0 0 a1 = kA 1 10240) (hC18 : ∀ (x5 : Int) (x6 : Int) (x7 : Int) (M : Mem), C18 x5 x6 x7 M → WW X Y 9 rmX7_nextOf (QI Q) M0 0 0 18 [(0, vR Y.1 a0), (1, vR Y.1 a1), (2, vI x2), (3, vI x3), (4, vI x4), (5, vI x5), (6, vI x6), (7, vI x7)] [] M) (M : Mem) (h : wX7_nextOf_J63 Q C18 a0 a1 x2 x3 x4 x7 x8 M) : WW X Y 9 rmX7_nextOf (QI Q) M0 0 0 63 [(0, vR Y.1 a0), (1, vR Y.1 a1), (2, vI x2), (3, vI x3), (4, vI x4), (7, vI x7), (8, vI x8)] [] M := by
  unfold wX7_nextOf_J63 at h
  refine r_iload hC 5 dX7_nextOf_63 rfl ?_
  refine r_istore (lv' := [(5, vI x7), (0, vR Y.1 a0), (1, vR Y.1 a1), (2, vI x2), (3, vI x3), (4, vI x4), (7, vI x7), (8, vI x8)]) hC dX7_nextOf_65 (by decide) rfl ?_
  refine r_iload hC 7 dX7_nextOf_67 rfl ?_
  refine r_istore (lv' := [(6, vI x8), (5, vI x7), (0, vR Y.1 a0), (1, vR Y.1 a1), (2, vI x2), (3, vI x3), (4, vI x4), (7, vI x7), (8, vI x8)]) hC dX7_nextOf_69 (by decide) rfl ?_
  refine let_elim h (fun x7_7 e_8 h => ?_)
  refine r_iinc (lv' := [(7, vI x7_7), (6, vI x8), (5, vI x7), (0, vR Y.1 a0), (1, vR Y.1 a1), (2, vI x2), (3, vI x3), (4, vI x4), (8, vI x8)]) hC 7 dX7_nextOf_71 rfl (by decide) e_8 rfl ?_
  refine r_goto hC 18 dX7_nextOf_74 (by decide) ?_
  refine r_sub [3, 4, 5, 6, 7, 2, 1, 0] rfl ?_
  exact hC18 _ _ _ _ h
set_option maxHeartbeats 4000000 in
set_option maxRecDepth 100000 in
theorem tX7_nextOf_L18 {X : Cx} {Y : Yx} {M0 : Mem} (hC : OKX X Y RX7 cX7_nextOf 9 (some .int) rmX7_nextOf) (hF : Y.2.2.2.2 = true) (hL : Lay M0) (Q : Int → Mem → Prop)  (a0 : Nat) (a1 : Nat) (x2 : Int) (x3 : Int) (x4 : Int) (qa0 : 0 < a0 ∧ M0 0 a0 = kO 7) (qa1 : 0 < a1 ∧ M0 0 a1 = kA 1 10240)  : ∀ (N : Nat) (x5 : Int) (x6 : Int) (x7 : Int) (M : Mem) (_ : wX7_nextOf_L18 Q  a0 a1 x2 x3 x4 N x5 x6 x7 M), WW X Y 9 rmX7_nextOf (QI Q) M0 0 0 18 [(0, vR Y.1 a0), (1, vR Y.1 a1), (2, vI x2), (3, vI x3), (4, vI x4), (5, vI x5), (6, vI x6), (7, vI x7)] [] M := by
  intro N
  induction N with
  | zero =>
    intro x5 x6 x7 M h
    exact h.elim
  | succ N ih =>
    intro x5 x6 x7 M h
    unfold wX7_nextOf_L18 at h
    refine r_iload hC 7 dX7_nextOf_18 rfl ?_
    refine r_aload_n hC 0 dX7_nextOf_20 rfl rfl ?_
    refine r_getI hC fg_X7_34 rfl qa0.1 qa0.2 dX7_nextOf_21 ?_
    refine r_icmp_ge hC 77 rfl rfl dX7_nextOf_24 (by decide) (fun cq => ?_) (fun cq => ?_)
    · replace h := h.1 cq
      refine r_iload hC 5 dX7_nextOf_77 rfl ?_
      exact r_iret hC (Nat.zero_le _) (Nat.zero_le _) dX7_nextOf_79 ⟨_, rfl, h⟩
    · replace h := h.2 cq
      refine r_iload hC 4 dX7_nextOf_27 rfl ?_
      refine r_iload hC 7 dX7_nextOf_29 rfl ?_
      refine r_callN (As := [vI x4, vI x7]) (st := []) hC cw_X7_42 rfl rfl (Nat.le_of_ble_eq_true rfl) ⟨Nat.le_of_ble_eq_true rfl, Nat.le_of_ble_eq_true rfl⟩ ⟨Nat.le_of_ble_eq_true rfl, Nat.le_of_ble_eq_true rfl⟩ dX7_nextOf_31 (fun hk => mX11_isIn Y hF _ _ _ _ _  h) (fun v M_3 h => ?_)
      obtain ⟨r_4, rfl, h⟩ := h
      refine r_if_ne hC 40 rfl dX7_nextOf_34 (by decide) (fun cq => ?_) (fun cq => ?_)
      · replace h := h.2 cq
        refine r_aload_n hC 0 dX7_nextOf_40 rfl rfl ?_
        refine r_aload_n hC 1 dX7_nextOf_41 rfl rfl ?_
        refine r_iload_n hC 2 dX7_nextOf_42 rfl rfl ?_
        refine r_iload_n hC 3 dX7_nextOf_43 rfl rfl ?_
        refine r_iload hC 7 dX7_nextOf_44 rfl ?_
        refine r_callV (As := [vR Y.1 a1, vI x2, vI x3, vI x7]) (st := []) hC cw_X7_57 rfl qa0.1 qa0.2 rfl rfl (Nat.le_of_ble_eq_true rfl) ⟨Nat.le_of_ble_eq_true rfl, Nat.le_of_ble_eq_true rfl⟩ ⟨Nat.le_of_ble_eq_true rfl, Nat.le_of_ble_eq_true rfl⟩ dX7_nextOf_46 (fun hk => mX7_leastBy Y hF _ _ _ _ _ _ _ _ (kqO hk qa0) (kqA hk qa1) h) (fun v M_5 h => ?_)
        obtain ⟨r_6, rfl, h⟩ := h
        refine r_istore (lv' := [(8, vI r_6), (0, vR Y.1 a0), (1, vR Y.1 a1), (2, vI x2), (3, vI x3), (4, vI x4), (5, vI x5), (6, vI x6), (7, vI x7)]) hC dX7_nextOf_49 (by decide) rfl ?_
        refine r_iload hC 6 dX7_nextOf_51 rfl ?_
        refine r_if_lt hC 63 rfl dX7_nextOf_53 (by decide) (fun cq => ?_) (fun cq => ?_)
        · replace h := h.1 cq
          refine r_sub [1, 2, 3, 4, 5, 8, 0] rfl ?_
          exact tX7_nextOf_J63 hC hF hL Q _  _ _ _ _ _ _ _ qa0 qa1 ih _ h
        · replace h := h.2 cq
          refine r_iload hC 0 dX7_nextOf_56 rfl ?_
          refine r_iload hC 7 dX7_nextOf_58 rfl ?_
          refine r_icmp_ge hC 71 rfl rfl dX7_nextOf_60 (by decide) (fun cq => ?_) (fun cq => ?_)
          · replace h := h.1 cq
            refine let_elim h (fun x7_9 e_10 h => ?_)
            refine r_iinc (lv' := [(7, vI x7_9), (8, vI r_6), (0, vR Y.1 a0), (1, vR Y.1 a1), (2, vI x2), (3, vI x3), (4, vI x4), (5, vI x5), (6, vI x6)]) hC 8 dX7_nextOf_71 rfl (by decide) e_10 rfl ?_
            refine r_goto hC 18 dX7_nextOf_74 (by decide) ?_
            refine r_sub [2, 3, 4, 5, 6, 7, 8, 0] rfl ?_
            exact ih _ _ _ _ h
          · replace h := h.2 cq
            refine r_sub [1, 2, 3, 4, 5, 8, 0] rfl ?_
            exact tX7_nextOf_J63 hC hF hL Q _  _ _ _ _ _ _ _ qa0 qa1 ih _ h
      · replace h := h.1 cq
        refine r_goto hC 71 dX7_nextOf_37 (by decide) ?_
        refine let_elim h (fun x7_11 e_12 h => ?_)
        refine r_iinc (lv' := [(7, vI x7_11), (0, vR Y.1 a0), (1, vR Y.1 a1), (2, vI x2), (3, vI x3), (4, vI x4), (5, vI x5), (6, vI x6)]) hC 7 dX7_nextOf_71 rfl (by decide) e_12 rfl ?_
        refine r_goto hC 18 dX7_nextOf_74 (by decide) ?_
        refine r_sub [1, 2, 3, 4, 5, 6, 7, 0] rfl ?_
        exact ih _ _ _ _ h
set_option maxHeartbeats 4000000 in
set_option maxRecDepth 100000 in
theorem mX7_nextOf (Y : Yx) (hF : Y.2.2.2.2 = true) (l : Launch) (a0 : Nat) (a1 : Nat) (x2 : Int) (x3 : Int) (M0 : Mem) (Q : Int → Mem → Prop) (qa0 : 0 < a0 ∧ M0 0 a0 = kO 7) (qa1 : 0 < a1 ∧ M0 0 a1 = kA 1 10240) (h : wX7_nextOf a0 a1 x2 x3 M0 Q) : CT Y l yX7_nextOf cX7_nextOf 9 (some .int) rmX7_nextOf [vR Y.1 a0, vR Y.1 a1, vI x2, vI x3] M0 (QI Q) := by
  unfold wX7_nextOf at h
  refine ct_intro (by decide) (Nat.le_of_ble_eq_true rfl) ?_
  intro X hXl hC hL0
  have hL := hL0 hF
  change OKX X Y RX7 cX7_nextOf 9 (some .int) rmX7_nextOf at hC
  change WW X Y 9 rmX7_nextOf (QI Q) M0 0 0 0 [(0, vR Y.1 a0), (1, vR Y.1 a1), (2, vI x2), (3, vI x3)] [] M0
  refine r_iload_n hC 2 dX7_nextOf_0 rfl rfl ?_
  refine r_iconst hC dX7_nextOf_1 ?_
  refine r_iload_n hC 3 dX7_nextOf_2 rfl rfl ?_
  refine r_ishl hC dX7_nextOf_3 ?_
  refine r_iconst hC dX7_nextOf_4 ?_
  refine r_ixor hC dX7_nextOf_5 ?_
  refine r_iand hC dX7_nextOf_6 ?_
  refine r_nameI h (fun x4_1 h => ?_)
  refine r_istore (lv' := [(4, vI x4_1), (0, vR Y.1 a0), (1, vR Y.1 a1), (2, vI x2), (3, vI x3)]) hC dX7_nextOf_7 (by decide) rfl ?_
  refine r_iconst hC dX7_nextOf_9 ?_
  refine r_nameI h (fun x5_2 h => ?_)
  refine r_istore (lv' := [(5, vI x5_2), (4, vI x4_1), (0, vR Y.1 a0), (1, vR Y.1 a1), (2, vI x2), (3, vI x3)]) hC dX7_nextOf_10 (by decide) rfl ?_
  refine r_iconst hC dX7_nextOf_12 ?_
  refine r_istore (lv' := [(6, vI 0), (5, vI x5_2), (4, vI x4_1), (0, vR Y.1 a0), (1, vR Y.1 a1), (2, vI x2), (3, vI x3)]) hC dX7_nextOf_13 (by decide) rfl ?_
  refine r_iconst hC dX7_nextOf_15 ?_
  refine r_istore (lv' := [(7, vI 0), (6, vI 0), (5, vI x5_2), (4, vI x4_1), (0, vR Y.1 a0), (1, vR Y.1 a1), (2, vI x2), (3, vI x3)]) hC dX7_nextOf_16 (by decide) rfl ?_
  refine r_sub [4, 5, 6, 7, 3, 2, 1, 0] rfl ?_
  obtain ⟨N_13, h⟩ := h
  refine tX7_nextOf_L18 hC hF hL Q  _ _ _ _ _ qa0 qa1  N_13 _ _ _ _ h
theorem dX7_fillLeast_0 : dec cX7_fillLeast 0 1 1 (.iconst 1) := ⟨by decide +kernel, rfl⟩
theorem dX7_fillLeast_1 : dec cX7_fillLeast 1 1 2 (.istore_n 2) := ⟨by decide +kernel, rfl⟩
theorem dX7_fillLeast_2 : dec cX7_fillLeast 2 1 3 (.iload_n 2) := ⟨by decide +kernel, rfl⟩
theorem dX7_fillLeast_3 : dec cX7_fillLeast 3 1 4 (.iconst 1) := ⟨by decide +kernel, rfl⟩
theorem dX7_fillLeast_4 : dec cX7_fillLeast 4 1 5 (.aload_n 0) := ⟨by decide +kernel, rfl⟩
theorem dX7_fillLeast_5 : dec cX7_fillLeast 5 3 8 (.getfield 34) := ⟨by decide +kernel, rfl⟩
theorem dX7_fillLeast_8 : dec cX7_fillLeast 8 1 9 (.ishl) := ⟨by decide +kernel, rfl⟩
theorem dX7_fillLeast_9 : dec cX7_fillLeast 9 3 12 (.if_icmp .ge 73) := ⟨by decide +kernel, rfl⟩
theorem dX7_fillLeast_12 : dec cX7_fillLeast 12 1 13 (.iconst 0) := ⟨by decide +kernel, rfl⟩
theorem dX7_fillLeast_13 : dec cX7_fillLeast 13 1 14 (.istore_n 3) := ⟨by decide +kernel, rfl⟩
theorem dX7_fillLeast_14 : dec cX7_fillLeast 14 1 15 (.iload_n 3) := ⟨by decide +kernel, rfl⟩
theorem dX7_fillLeast_15 : dec cX7_fillLeast 15 1 16 (.aload_n 0) := ⟨by decide +kernel, rfl⟩
theorem dX7_fillLeast_16 : dec cX7_fillLeast 16 3 19 (.getfield 34) := ⟨by decide +kernel, rfl⟩
theorem dX7_fillLeast_19 : dec cX7_fillLeast 19 3 22 (.if_icmp .ge 57) := ⟨by decide +kernel, rfl⟩
theorem dX7_fillLeast_22 : dec cX7_fillLeast 22 1 23 (.iload_n 2) := ⟨by decide +kernel, rfl⟩
theorem dX7_fillLeast_23 : dec cX7_fillLeast 23 1 24 (.iload_n 3) := ⟨by decide +kernel, rfl⟩
theorem dX7_fillLeast_24 : dec cX7_fillLeast 24 3 27 (.invokestatic 42) := ⟨by decide +kernel, rfl⟩
theorem dX7_fillLeast_27 : dec cX7_fillLeast 27 3 30 (.ifCond .eq 43) := ⟨by decide +kernel, rfl⟩
theorem dX7_fillLeast_30 : dec cX7_fillLeast 30 1 31 (.aload_n 0) := ⟨by decide +kernel, rfl⟩
theorem dX7_fillLeast_31 : dec cX7_fillLeast 31 1 32 (.aload_n 1) := ⟨by decide +kernel, rfl⟩
theorem dX7_fillLeast_32 : dec cX7_fillLeast 32 1 33 (.iload_n 2) := ⟨by decide +kernel, rfl⟩
theorem dX7_fillLeast_33 : dec cX7_fillLeast 33 1 34 (.iload_n 3) := ⟨by decide +kernel, rfl⟩
theorem dX7_fillLeast_34 : dec cX7_fillLeast 34 3 37 (.invokevirtual 53) := ⟨by decide +kernel, rfl⟩
theorem dX7_fillLeast_37 : dec cX7_fillLeast 37 2 39 (.istore 4) := ⟨by decide +kernel, rfl⟩
theorem dX7_fillLeast_39 : dec cX7_fillLeast 39 2 41 (.iload 4) := ⟨by decide +kernel, rfl⟩
theorem dX7_fillLeast_41 : dec cX7_fillLeast 41 3 44 (.ifCond .ge 7) := ⟨by decide +kernel, rfl⟩
theorem dX7_fillLeast_44 : dec cX7_fillLeast 44 1 45 (.iconst 0) := ⟨by decide +kernel, rfl⟩
theorem dX7_fillLeast_45 : dec cX7_fillLeast 45 3 48 (.goto 12) := ⟨by decide +kernel, rfl⟩
theorem dX7_fillLeast_48 : dec cX7_fillLeast 48 1 49 (.aload_n 0) := ⟨by decide +kernel, rfl⟩
theorem dX7_fillLeast_49 : dec cX7_fillLeast 49 1 50 (.aload_n 1) := ⟨by decide +kernel, rfl⟩
theorem dX7_fillLeast_50 : dec cX7_fillLeast 50 1 51 (.iload_n 2) := ⟨by decide +kernel, rfl⟩
theorem dX7_fillLeast_51 : dec cX7_fillLeast 51 1 52 (.iload_n 3) := ⟨by decide +kernel, rfl⟩
theorem dX7_fillLeast_52 : dec cX7_fillLeast 52 2 54 (.iload 4) := ⟨by decide +kernel, rfl⟩
theorem dX7_fillLeast_54 : dec cX7_fillLeast 54 3 57 (.invokevirtual 57) := ⟨by decide +kernel, rfl⟩
theorem dX7_fillLeast_57 : dec cX7_fillLeast 57 2 59 (.istore 5) := ⟨by decide +kernel, rfl⟩
theorem dX7_fillLeast_59 : dec cX7_fillLeast 59 1 60 (.aload_n 1) := ⟨by decide +kernel, rfl⟩
theorem dX7_fillLeast_60 : dec cX7_fillLeast 60 1 61 (.iload_n 2) := ⟨by decide +kernel, rfl⟩
theorem dX7_fillLeast_61 : dec cX7_fillLeast 61 2 63 (.bipush 10) := ⟨by decide +kernel, rfl⟩
theorem dX7_fillLeast_63 : dec cX7_fillLeast 63 1 64 (.imul) := ⟨by decide +kernel, rfl⟩
theorem dX7_fillLeast_64 : dec cX7_fillLeast 64 1 65 (.iload_n 3) := ⟨by decide +kernel, rfl⟩
theorem dX7_fillLeast_65 : dec cX7_fillLeast 65 1 66 (.iadd) := ⟨by decide +kernel, rfl⟩
theorem dX7_fillLeast_66 : dec cX7_fillLeast 66 2 68 (.iload 5) := ⟨by decide +kernel, rfl⟩
theorem dX7_fillLeast_68 : dec cX7_fillLeast 68 1 69 (.i2b) := ⟨by decide +kernel, rfl⟩
theorem dX7_fillLeast_69 : dec cX7_fillLeast 69 1 70 (.bastore) := ⟨by decide +kernel, rfl⟩
theorem dX7_fillLeast_70 : dec cX7_fillLeast 70 3 73 (.iinc 3 1) := ⟨by decide +kernel, rfl⟩
theorem dX7_fillLeast_73 : dec cX7_fillLeast 73 3 76 (.goto (-59)) := ⟨by decide +kernel, rfl⟩
theorem dX7_fillLeast_76 : dec cX7_fillLeast 76 3 79 (.iinc 2 1) := ⟨by decide +kernel, rfl⟩
theorem dX7_fillLeast_79 : dec cX7_fillLeast 79 3 82 (.goto (-77)) := ⟨by decide +kernel, rfl⟩
theorem dX7_fillLeast_82 : dec cX7_fillLeast 82 1 83 (.return_) := ⟨by decide +kernel, rfl⟩
set_option maxHeartbeats 4000000 in
set_option maxRecDepth 100000 in
theorem tX7_fillLeast_J57 {X : Cx} {Y : Yx} {M0 : Mem} (hC : OKX X Y RX7 cX7_fillLeast 6 none rmX7_fillLeast) (hF : Y.2.2.2.2 = true) (hL : Lay M0) (Q : Mem → Prop) (C14 : Int → Mem → Prop)  (a0 : Nat) (a1 : Nat) (x2 : Int) (x3 : Int) (xs0 : Int) (qa0 : 0 < a0 ∧ M0 0 a0 = kO 7) (qa1 : 0 < a1 ∧ M0 0 a1 = kA 1 10240) (hC14 : ∀ (x3 : Int) (M : Mem), C14 x3 M → WW X Y 6 rmX7_fillLeast (QV Q) M0 0 0 14 [(0, vR Y.1 a0), (1, vR Y.1 a1), (2, vI x2), (3, vI x3)] [] M) (M : Mem) (h : wX7_fillLeast_J57 Q C14 a0 a1 x2 x3 xs0 M) : WW X Y 6 rmX7_fillLeast (QV Q) M0 0 0 57 [(0, vR Y.1 a0), (1, vR Y.1 a1), (2, vI x2), (3, vI x3)] [vI xs0] M := by
  unfold wX7_fillLeast_J57 at h
  refine r_istore (lv' := [(5, vI xs0), (0, vR Y.1 a0), (1, vR Y.1 a1), (2, vI x2), (3, vI x3)]) hC dX7_fillLeast_57 (by decide) rfl ?_
  refine r_aload_n hC 2 dX7_fillLeast_59 rfl rfl ?_
  refine r_iload_n hC 3 dX7_fillLeast_60 rfl rfl ?_
  refine r_bipush hC (by decide +kernel) dX7_fillLeast_61 ?_
  refine r_imul hC dX7_fillLeast_63 ?_
  refine r_iload_n hC 4 dX7_fillLeast_64 rfl rfl ?_
  refine r_iadd hC dX7_fillLeast_65 ?_
  refine r_iload hC 0 dX7_fillLeast_66 rfl ?_
  refine r_i2b hC dX7_fillLeast_68 ?_
  obtain ⟨i_9, h⟩ := h
  refine r_bast hC i_9 qa1.1 qa1.2 (by decide) dX7_fillLeast_69 ?_
  refine r_nameM h (fun M_10 h => ?_)
  refine let_elim h (fun x3_11 e_12 h => ?_)
  refine r_iinc (lv' := [(3, vI x3_11), (5, vI xs0), (0, vR Y.1 a0), (1, vR Y.1 a1), (2, vI x2)]) hC 4 dX7_fillLeast_70 rfl (by decide) e_12 rfl ?_
  refine r_goto hC 14 dX7_fillLeast_73 (by decide) ?_
  refine r_sub [2, 3, 4, 0] rfl ?_
  exact hC14 _ _ h
set_option maxHeartbeats 4000000 in
set_option maxRecDepth 100000 in
theorem tX7_fillLeast_L14 {X : Cx} {Y : Yx} {M0 : Mem} (hC : OKX X Y RX7 cX7_fillLeast 6 none rmX7_fillLeast) (hF : Y.2.2.2.2 = true) (hL : Lay M0) (Q : Mem → Prop) (E76 : Mem → Prop) (a0 : Nat) (a1 : Nat) (x2 : Int) (qa0 : 0 < a0 ∧ M0 0 a0 = kO 7) (qa1 : 0 < a1 ∧ M0 0 a1 = kA 1 10240) (hE76 : ∀  (M : Mem), E76  M → WW X Y 6 rmX7_fillLeast (QV Q) M0 0 0 76 [(0, vR Y.1 a0), (1, vR Y.1 a1), (2, vI x2)] [] M) : ∀ (N : Nat) (x3 : Int) (M : Mem) (_ : wX7_fillLeast_L14 Q E76 a0 a1 x2 N x3 M), WW X Y 6 rmX7_fillLeast (QV Q) M0 0 0 14 [(0, vR Y.1 a0), (1, vR Y.1 a1), (2, vI x2), (3, vI x3)] [] M := by
  intro N
  induction N with
  | zero =>
    intro x3 M h
    exact h.elim
  | succ N ih =>
    intro x3 M h
    unfold wX7_fillLeast_L14 at h
    refine r_iload_n hC 3 dX7_fillLeast_14 rfl rfl ?_
    refine r_aload_n hC 0 dX7_fillLeast_15 rfl rfl ?_
    refine r_getI hC fg_X7_34 rfl qa0.1 qa0.2 dX7_fillLeast_16 ?_
    refine r_icmp_ge hC 76 rfl rfl dX7_fillLeast_19 (by decide) (fun cq => ?_) (fun cq => ?_)
    · replace h := h.1 cq
      refine r_sub [0, 1, 2] rfl ?_
      exact hE76  _ h
    · replace h := h.2 cq
      refine r_iload_n hC 2 dX7_fillLeast_22 rfl rfl ?_
      refine r_iload_n hC 3 dX7_fillLeast_23 rfl rfl ?_
      refine r_callN (As := [vI x2, vI x3]) (st := []) hC cw_X7_42 rfl rfl (Nat.le_of_ble_eq_true rfl) ⟨Nat.le_of_ble_eq_true rfl, Nat.le_of_ble_eq_true rfl⟩ ⟨Nat.le_of_ble_eq_true rfl, Nat.le_of_ble_eq_true rfl⟩ dX7_fillLeast_24 (fun hk => mX11_isIn Y hF _ _ _ _ _  h) (fun v M_1 h => ?_)
      obtain ⟨r_2, rfl, h⟩ := h
      refine r_if_eq hC 70 rfl dX7_fillLeast_27 (by decide) (fun cq => ?_) (fun cq => ?_)
      · replace h := h.1 cq
        refine let_elim h (fun x3_3 e_4 h => ?_)
        refine r_iinc (lv' := [(3, vI x3_3), (0, vR Y.1 a0), (1, vR Y.1 a1), (2, vI x2)]) hC 3 dX7_fillLeast_70 rfl (by decide) e_4 rfl ?_
        refine r_goto hC 14 dX7_fillLeast_73 (by decide) ?_
        refine r_sub [1, 2, 3, 0] rfl ?_
        exact ih _ _ h
      · replace h := h.2 cq
        refine r_aload_n hC 0 dX7_fillLeast_30 rfl rfl ?_
        refine r_aload_n hC 1 dX7_fillLeast_31 rfl rfl ?_
        refine r_iload_n hC 2 dX7_fillLeast_32 rfl rfl ?_
        refine r_iload_n hC 3 dX7_fillLeast_33 rfl rfl ?_
        refine r_callV (As := [vR Y.1 a1, vI x2, vI x3]) (st := []) hC cw_X7_53 rfl qa0.1 qa0.2 rfl rfl (Nat.le_of_ble_eq_true rfl) ⟨Nat.le_of_ble_eq_true rfl, Nat.le_of_ble_eq_true rfl⟩ ⟨Nat.le_of_ble_eq_true rfl, Nat.le_of_ble_eq_true rfl⟩ dX7_fillLeast_34 (fun hk => mX7_nextOf Y hF _ _ _ _ _ _ _ (kqO hk qa0) (kqA hk qa1) h) (fun v M_5 h => ?_)
        obtain ⟨r_6, rfl, h⟩ := h
        refine r_istore (lv' := [(4, vI r_6), (0, vR Y.1 a0), (1, vR Y.1 a1), (2, vI x2), (3, vI x3)]) hC dX7_fillLeast_37 (by decide) rfl ?_
        refine r_iload hC 0 dX7_fillLeast_39 rfl ?_
        refine r_if_ge hC 48 rfl dX7_fillLeast_41 (by decide) (fun cq => ?_) (fun cq => ?_)
        · replace h := h.1 cq
          refine r_aload_n hC 1 dX7_fillLeast_48 rfl rfl ?_
          refine r_aload_n hC 2 dX7_fillLeast_49 rfl rfl ?_
          refine r_iload_n hC 3 dX7_fillLeast_50 rfl rfl ?_
          refine r_iload_n hC 4 dX7_fillLeast_51 rfl rfl ?_
          refine r_iload hC 0 dX7_fillLeast_52 rfl ?_
          refine r_callV (As := [vR Y.1 a1, vI x2, vI x3, vI r_6]) (st := []) hC cw_X7_57 rfl qa0.1 qa0.2 rfl rfl (Nat.le_of_ble_eq_true rfl) ⟨Nat.le_of_ble_eq_true rfl, Nat.le_of_ble_eq_true rfl⟩ ⟨Nat.le_of_ble_eq_true rfl, Nat.le_of_ble_eq_true rfl⟩ dX7_fillLeast_54 (fun hk => mX7_leastBy Y hF _ _ _ _ _ _ _ _ (kqO hk qa0) (kqA hk qa1) h) (fun v M_7 h => ?_)
          obtain ⟨r_8, rfl, h⟩ := h
          refine r_sub [1, 2, 3, 4] rfl ?_
          exact tX7_fillLeast_J57 hC hF hL Q _  _ _ _ _ _ qa0 qa1 ih _ h
        · replace h := h.2 cq
          refine r_iconst hC dX7_fillLeast_44 ?_
          refine r_goto hC 57 dX7_fillLeast_45 (by decide) ?_
          refine r_sub [1, 2, 3, 4] rfl ?_
          exact tX7_fillLeast_J57 hC hF hL Q _  _ _ _ _ _ qa0 qa1 ih _ h
set_option maxHeartbeats 4000000 in
set_option maxRecDepth 100000 in
theorem tX7_fillLeast_L2 {X : Cx} {Y : Yx} {M0 : Mem} (hC : OKX X Y RX7 cX7_fillLeast 6 none rmX7_fillLeast) (hF : Y.2.2.2.2 = true) (hL : Lay M0) (Q : Mem → Prop)  (a0 : Nat) (a1 : Nat) (qa0 : 0 < a0 ∧ M0 0 a0 = kO 7) (qa1 : 0 < a1 ∧ M0 0 a1 = kA 1 10240)  : ∀ (N : Nat) (x2 : Int) (M : Mem) (_ : wX7_fillLeast_L2 Q  a0 a1 N x2 M), WW X Y 6 rmX7_fillLeast (QV Q) M0 0 0 2 [(0, vR Y.1 a0), (1, vR Y.1 a1), (2, vI x2)] [] M := by
  intro N
  induction N with
  | zero =>
    intro x2 M h
    exact h.elim
  | succ N ih =>
    intro x2 M h
    unfold wX7_fillLeast_L2 at h
    refine r_iload_n hC 2 dX7_fillLeast_2 rfl rfl ?_
    refine r_iconst hC dX7_fillLeast_3 ?_
    refine r_aload_n hC 0 dX7_fillLeast_4 rfl rfl ?_
    refine r_getI hC fg_X7_34 rfl qa0.1 qa0.2 dX7_fillLeast_5 ?_
    refine r_ishl hC dX7_fillLeast_8 ?_
    refine r_icmp_ge hC 82 rfl rfl dX7_fillLeast_9 (by decide) (fun cq => ?_) (fun cq => ?_)
    · replace h := h.1 cq
      exact r_vret hC (Nat.zero_le _) (Nat.zero_le _) dX7_fillLeast_82 ⟨rfl, h⟩
    · replace h := h.2 cq
      refine r_iconst hC dX7_fillLeast_12 ?_
      refine r_istore_n (lv' := [(3, vI 0), (0, vR Y.1 a0), (1, vR Y.1 a1), (2, vI x2)]) hC dX7_fillLeast_13 rfl (by decide) rfl ?_
      refine r_sub [1, 2, 3, 0] rfl ?_
      obtain ⟨N_16, h⟩ := h
      refine tX7_fillLeast_L14 hC hF hL Q _ _ _ _ qa0 qa1 ?_ N_16 _ _ h
      · intro M_13 h
        refine let_elim h (fun x2_14 e_15 h => ?_)
        refine r_iinc (lv' := [(2, vI x2_14), (0, vR Y.1 a0), (1, vR Y.1 a1)]) hC 2 dX7_fillLeast_76 rfl (by decide) e_15 rfl ?_
        refine r_goto hC 2 dX7_fillLeast_79 (by decide) ?_
        refine r_sub [1, 2, 0] rfl ?_
        exact ih _ _ h
set_option maxHeartbeats 4000000 in
set_option maxRecDepth 100000 in
theorem mX7_fillLeast (Y : Yx) (hF : Y.2.2.2.2 = true) (l : Launch) (a0 : Nat) (a1 : Nat) (M0 : Mem) (Q : Mem → Prop) (qa0 : 0 < a0 ∧ M0 0 a0 = kO 7) (qa1 : 0 < a1 ∧ M0 0 a1 = kA 1 10240) (h : wX7_fillLeast a0 a1 M0 Q) : CT Y l yX7_fillLeast cX7_fillLeast 6 none rmX7_fillLeast [vR Y.1 a0, vR Y.1 a1] M0 (QV Q) := by
  unfold wX7_fillLeast at h
  refine ct_intro (by decide) (Nat.le_of_ble_eq_true rfl) ?_
  intro X hXl hC hL0
  have hL := hL0 hF
  change OKX X Y RX7 cX7_fillLeast 6 none rmX7_fillLeast at hC
  change WW X Y 6 rmX7_fillLeast (QV Q) M0 0 0 0 [(0, vR Y.1 a0), (1, vR Y.1 a1)] [] M0
  refine r_iconst hC dX7_fillLeast_0 ?_
  refine r_istore_n (lv' := [(2, vI 1), (0, vR Y.1 a0), (1, vR Y.1 a1)]) hC dX7_fillLeast_1 rfl (by decide) rfl ?_
  refine r_sub [1, 2, 0] rfl ?_
  obtain ⟨N_17, h⟩ := h
  refine tX7_fillLeast_L2 hC hF hL Q  _ _ qa0 qa1  N_17 _ _ h
theorem dX7_readOrder_0 : dec cX7_readOrder 0 1 1 (.iconst 1) := ⟨by decide +kernel, rfl⟩
theorem dX7_readOrder_1 : dec cX7_readOrder 1 1 2 (.aload_n 0) := ⟨by decide +kernel, rfl⟩
theorem dX7_readOrder_2 : dec cX7_readOrder 2 3 5 (.getfield 34) := ⟨by decide +kernel, rfl⟩
theorem dX7_readOrder_5 : dec cX7_readOrder 5 1 6 (.ishl) := ⟨by decide +kernel, rfl⟩
theorem dX7_readOrder_6 : dec cX7_readOrder 6 1 7 (.iconst 1) := ⟨by decide +kernel, rfl⟩
theorem dX7_readOrder_7 : dec cX7_readOrder 7 1 8 (.isub) := ⟨by decide +kernel, rfl⟩
theorem dX7_readOrder_8 : dec cX7_readOrder 8 1 9 (.istore_n 2) := ⟨by decide +kernel, rfl⟩
theorem dX7_readOrder_9 : dec cX7_readOrder 9 1 10 (.iconst 0) := ⟨by decide +kernel, rfl⟩
theorem dX7_readOrder_10 : dec cX7_readOrder 10 1 11 (.istore_n 3) := ⟨by decide +kernel, rfl⟩
theorem dX7_readOrder_11 : dec cX7_readOrder 11 1 12 (.iconst 1) := ⟨by decide +kernel, rfl⟩
theorem dX7_readOrder_12 : dec cX7_readOrder 12 2 14 (.istore 4) := ⟨by decide +kernel, rfl⟩
theorem dX7_readOrder_14 : dec cX7_readOrder 14 2 16 (.iload 4) := ⟨by decide +kernel, rfl⟩
theorem dX7_readOrder_16 : dec cX7_readOrder 16 1 17 (.aload_n 0) := ⟨by decide +kernel, rfl⟩
theorem dX7_readOrder_17 : dec cX7_readOrder 17 3 20 (.getfield 34) := ⟨by decide +kernel, rfl⟩
theorem dX7_readOrder_20 : dec cX7_readOrder 20 3 23 (.if_icmp .ge 32) := ⟨by decide +kernel, rfl⟩
theorem dX7_readOrder_23 : dec cX7_readOrder 23 1 24 (.aload_n 1) := ⟨by decide +kernel, rfl⟩
theorem dX7_readOrder_24 : dec cX7_readOrder 24 1 25 (.iload_n 2) := ⟨by decide +kernel, rfl⟩
theorem dX7_readOrder_25 : dec cX7_readOrder 25 2 27 (.bipush 10) := ⟨by decide +kernel, rfl⟩
theorem dX7_readOrder_27 : dec cX7_readOrder 27 1 28 (.imul) := ⟨by decide +kernel, rfl⟩
theorem dX7_readOrder_28 : dec cX7_readOrder 28 2 30 (.iload 4) := ⟨by decide +kernel, rfl⟩
theorem dX7_readOrder_30 : dec cX7_readOrder 30 1 31 (.iadd) := ⟨by decide +kernel, rfl⟩
theorem dX7_readOrder_31 : dec cX7_readOrder 31 1 32 (.baload) := ⟨by decide +kernel, rfl⟩
theorem dX7_readOrder_32 : dec cX7_readOrder 32 1 33 (.aload_n 1) := ⟨by decide +kernel, rfl⟩
theorem dX7_readOrder_33 : dec cX7_readOrder 33 1 34 (.iload_n 2) := ⟨by decide +kernel, rfl⟩
theorem dX7_readOrder_34 : dec cX7_readOrder 34 2 36 (.bipush 10) := ⟨by decide +kernel, rfl⟩
theorem dX7_readOrder_36 : dec cX7_readOrder 36 1 37 (.imul) := ⟨by decide +kernel, rfl⟩
theorem dX7_readOrder_37 : dec cX7_readOrder 37 1 38 (.iload_n 3) := ⟨by decide +kernel, rfl⟩
theorem dX7_readOrder_38 : dec cX7_readOrder 38 1 39 (.iadd) := ⟨by decide +kernel, rfl⟩
theorem dX7_readOrder_39 : dec cX7_readOrder 39 1 40 (.baload) := ⟨by decide +kernel, rfl⟩
theorem dX7_readOrder_40 : dec cX7_readOrder 40 3 43 (.if_icmp .ge 6) := ⟨by decide +kernel, rfl⟩
theorem dX7_readOrder_43 : dec cX7_readOrder 43 2 45 (.iload 4) := ⟨by decide +kernel, rfl⟩
theorem dX7_readOrder_45 : dec cX7_readOrder 45 1 46 (.istore_n 3) := ⟨by decide +kernel, rfl⟩
theorem dX7_readOrder_46 : dec cX7_readOrder 46 3 49 (.iinc 4 1) := ⟨by decide +kernel, rfl⟩
theorem dX7_readOrder_49 : dec cX7_readOrder 49 3 52 (.goto (-35)) := ⟨by decide +kernel, rfl⟩
theorem dX7_readOrder_52 : dec cX7_readOrder 52 1 53 (.aload_n 0) := ⟨by decide +kernel, rfl⟩
theorem dX7_readOrder_53 : dec cX7_readOrder 53 1 54 (.aload_n 1) := ⟨by decide +kernel, rfl⟩
theorem dX7_readOrder_54 : dec cX7_readOrder 54 1 55 (.iload_n 2) := ⟨by decide +kernel, rfl⟩
theorem dX7_readOrder_55 : dec cX7_readOrder 55 2 57 (.bipush 10) := ⟨by decide +kernel, rfl⟩
theorem dX7_readOrder_57 : dec cX7_readOrder 57 1 58 (.imul) := ⟨by decide +kernel, rfl⟩
theorem dX7_readOrder_58 : dec cX7_readOrder 58 1 59 (.iload_n 3) := ⟨by decide +kernel, rfl⟩
theorem dX7_readOrder_59 : dec cX7_readOrder 59 1 60 (.iadd) := ⟨by decide +kernel, rfl⟩
theorem dX7_readOrder_60 : dec cX7_readOrder 60 1 61 (.baload) := ⟨by decide +kernel, rfl⟩
theorem dX7_readOrder_61 : dec cX7_readOrder 61 3 64 (.putfield 71) := ⟨by decide +kernel, rfl⟩
theorem dX7_readOrder_64 : dec cX7_readOrder 64 1 65 (.iconst 0) := ⟨by decide +kernel, rfl⟩
theorem dX7_readOrder_65 : dec cX7_readOrder 65 2 67 (.istore 4) := ⟨by decide +kernel, rfl⟩
theorem dX7_readOrder_67 : dec cX7_readOrder 67 2 69 (.iload 4) := ⟨by decide +kernel, rfl⟩
theorem dX7_readOrder_69 : dec cX7_readOrder 69 1 70 (.aload_n 0) := ⟨by decide +kernel, rfl⟩
theorem dX7_readOrder_70 : dec cX7_readOrder 70 3 73 (.getfield 34) := ⟨by decide +kernel, rfl⟩
theorem dX7_readOrder_73 : dec cX7_readOrder 73 3 76 (.if_icmp .ge 46) := ⟨by decide +kernel, rfl⟩
theorem dX7_readOrder_76 : dec cX7_readOrder 76 1 77 (.iload_n 3) := ⟨by decide +kernel, rfl⟩
theorem dX7_readOrder_77 : dec cX7_readOrder 77 3 80 (.ifCond .lt 42) := ⟨by decide +kernel, rfl⟩
theorem dX7_readOrder_80 : dec cX7_readOrder 80 1 81 (.aload_n 0) := ⟨by decide +kernel, rfl⟩
theorem dX7_readOrder_81 : dec cX7_readOrder 81 3 84 (.getfield 9) := ⟨by decide +kernel, rfl⟩
theorem dX7_readOrder_84 : dec cX7_readOrder 84 2 86 (.iload 4) := ⟨by decide +kernel, rfl⟩
theorem dX7_readOrder_86 : dec cX7_readOrder 86 1 87 (.aload_n 0) := ⟨by decide +kernel, rfl⟩
theorem dX7_readOrder_87 : dec cX7_readOrder 87 3 90 (.getfield 15) := ⟨by decide +kernel, rfl⟩
theorem dX7_readOrder_90 : dec cX7_readOrder 90 1 91 (.iload_n 3) := ⟨by decide +kernel, rfl⟩
theorem dX7_readOrder_91 : dec cX7_readOrder 91 1 92 (.iaload) := ⟨by decide +kernel, rfl⟩
theorem dX7_readOrder_92 : dec cX7_readOrder 92 1 93 (.iastore) := ⟨by decide +kernel, rfl⟩
theorem dX7_readOrder_93 : dec cX7_readOrder 93 1 94 (.aload_n 0) := ⟨by decide +kernel, rfl⟩
theorem dX7_readOrder_94 : dec cX7_readOrder 94 1 95 (.aload_n 1) := ⟨by decide +kernel, rfl⟩
theorem dX7_readOrder_95 : dec cX7_readOrder 95 1 96 (.iload_n 2) := ⟨by decide +kernel, rfl⟩
theorem dX7_readOrder_96 : dec cX7_readOrder 96 1 97 (.iload_n 3) := ⟨by decide +kernel, rfl⟩
theorem dX7_readOrder_97 : dec cX7_readOrder 97 3 100 (.invokevirtual 53) := ⟨by decide +kernel, rfl⟩
theorem dX7_readOrder_100 : dec cX7_readOrder 100 2 102 (.istore 5) := ⟨by decide +kernel, rfl⟩
theorem dX7_readOrder_102 : dec cX7_readOrder 102 1 103 (.iload_n 2) := ⟨by decide +kernel, rfl⟩
theorem dX7_readOrder_103 : dec cX7_readOrder 103 1 104 (.iconst 1) := ⟨by decide +kernel, rfl⟩
theorem dX7_readOrder_104 : dec cX7_readOrder 104 1 105 (.iload_n 3) := ⟨by decide +kernel, rfl⟩
theorem dX7_readOrder_105 : dec cX7_readOrder 105 1 106 (.ishl) := ⟨by decide +kernel, rfl⟩
theorem dX7_readOrder_106 : dec cX7_readOrder 106 1 107 (.iconst (-1)) := ⟨by decide +kernel, rfl⟩
theorem dX7_readOrder_107 : dec cX7_readOrder 107 1 108 (.ixor) := ⟨by decide +kernel, rfl⟩
theorem dX7_readOrder_108 : dec cX7_readOrder 108 1 109 (.iand) := ⟨by decide +kernel, rfl⟩
theorem dX7_readOrder_109 : dec cX7_readOrder 109 1 110 (.istore_n 2) := ⟨by decide +kernel, rfl⟩
theorem dX7_readOrder_110 : dec cX7_readOrder 110 2 112 (.iload 5) := ⟨by decide +kernel, rfl⟩
theorem dX7_readOrder_112 : dec cX7_readOrder 112 1 113 (.istore_n 3) := ⟨by decide +kernel, rfl⟩
theorem dX7_readOrder_113 : dec cX7_readOrder 113 3 116 (.iinc 4 1) := ⟨by decide +kernel, rfl⟩
theorem dX7_readOrder_116 : dec cX7_readOrder 116 3 119 (.goto (-49)) := ⟨by decide +kernel, rfl⟩
theorem dX7_readOrder_119 : dec cX7_readOrder 119 1 120 (.return_) := ⟨by decide +kernel, rfl⟩
set_option maxHeartbeats 4000000 in
set_option maxRecDepth 100000 in
theorem tX7_readOrder_L14 {X : Cx} {Y : Yx} {M0 : Mem} (hC : OKX X Y RX7 cX7_readOrder 6 none rmX7_readOrder) (hF : Y.2.2.2.2 = true) (hL : Lay M0) (Q : Mem → Prop) (E52 : Int → Mem → Prop) (a0 : Nat) (a1 : Nat) (x2 : Int) (qa0 : 0 < a0 ∧ M0 0 a0 = kO 7) (qa1 : 0 < a1 ∧ M0 0 a1 = kA 1 10240) (hE52 : ∀ (x3 : Int) (M : Mem), E52 x3 M → WW X Y 6 rmX7_readOrder (QV Q) M0 0 0 52 [(0, vR Y.1 a0), (1, vR Y.1 a1), (2, vI x2), (3, vI x3)] [] M) : ∀ (N : Nat) (x3 : Int) (x4 : Int) (M : Mem) (_ : wX7_readOrder_L14 Q E52 a0 a1 x2 N x3 x4 M), WW X Y 6 rmX7_readOrder (QV Q) M0 0 0 14 [(0, vR Y.1 a0), (1, vR Y.1 a1), (2, vI x2), (3, vI x3), (4, vI x4)] [] M := by
  intro N
  induction N with
  | zero =>
    intro x3 x4 M h
    exact h.elim
  | succ N ih =>
    intro x3 x4 M h
    unfold wX7_readOrder_L14 at h
    refine r_iload hC 4 dX7_readOrder_14 rfl ?_
    refine r_aload_n hC 0 dX7_readOrder_16 rfl rfl ?_
    refine r_getI hC fg_X7_34 rfl qa0.1 qa0.2 dX7_readOrder_17 ?_
    refine r_icmp_ge hC 52 rfl rfl dX7_readOrder_20 (by decide) (fun cq => ?_) (fun cq => ?_)
    · replace h := h.1 cq
      refine r_sub [0, 1, 2, 3] rfl ?_
      exact hE52 _ _ h
    · replace h := h.2 cq
      refine r_aload_n hC 1 dX7_readOrder_23 rfl rfl ?_
      refine r_iload_n hC 2 dX7_readOrder_24 rfl rfl ?_
      refine r_bipush hC (by decide +kernel) dX7_readOrder_25 ?_
      refine r_imul hC dX7_readOrder_27 ?_
      refine r_iload hC 4 dX7_readOrder_28 rfl ?_
      refine r_iadd hC dX7_readOrder_30 ?_
      obtain ⟨i_2, h⟩ := h
      refine r_bald hC i_2 qa1.1 qa1.2 (by decide) dX7_readOrder_31 ?_
      refine r_aload_n hC 1 dX7_readOrder_32 rfl rfl ?_
      refine r_iload_n hC 2 dX7_readOrder_33 rfl rfl ?_
      refine r_bipush hC (by decide +kernel) dX7_readOrder_34 ?_
      refine r_imul hC dX7_readOrder_36 ?_
      refine r_iload_n hC 3 dX7_readOrder_37 rfl rfl ?_
      refine r_iadd hC dX7_readOrder_38 ?_
      obtain ⟨i_3, h⟩ := h
      refine r_bald hC i_3 qa1.1 qa1.2 (by decide) dX7_readOrder_39 ?_
      refine r_icmp_ge hC 46 rfl rfl dX7_readOrder_40 (by decide) (fun cq => ?_) (fun cq => ?_)
      · replace h := h.1 cq
        refine let_elim h (fun x4_4 e_5 h => ?_)
        refine r_iinc (lv' := [(4, vI x4_4), (0, vR Y.1 a0), (1, vR Y.1 a1), (2, vI x2), (3, vI x3)]) hC 4 dX7_readOrder_46 rfl (by decide) e_5 rfl ?_
        refine r_goto hC 14 dX7_readOrder_49 (by decide) ?_
        refine r_sub [1, 2, 3, 4, 0] rfl ?_
        exact ih _ _ _ h
      · replace h := h.2 cq
        refine r_iload hC 4 dX7_readOrder_43 rfl ?_
        refine r_istore_n (lv' := [(3, vI x4), (0, vR Y.1 a0), (1, vR Y.1 a1), (2, vI x2), (4, vI x4)]) hC dX7_readOrder_45 rfl (by decide) rfl ?_
        refine let_elim h (fun x4_6 e_7 h => ?_)
        refine r_iinc (lv' := [(4, vI x4_6), (3, vI x4), (0, vR Y.1 a0), (1, vR Y.1 a1), (2, vI x2)]) hC 4 dX7_readOrder_46 rfl (by decide) e_7 rfl ?_
        refine r_goto hC 14 dX7_readOrder_49 (by decide) ?_
        refine r_sub [2, 3, 4, 1, 0] rfl ?_
        exact ih _ _ _ h
set_option maxHeartbeats 4000000 in
set_option maxRecDepth 100000 in
theorem tX7_readOrder_L67 {X : Cx} {Y : Yx} {M0 : Mem} (hC : OKX X Y RX7 cX7_readOrder 6 none rmX7_readOrder) (hF : Y.2.2.2.2 = true) (hL : Lay M0) (Q : Mem → Prop)  (a0 : Nat) (a1 : Nat) (qa0 : 0 < a0 ∧ M0 0 a0 = kO 7) (qa1 : 0 < a1 ∧ M0 0 a1 = kA 1 10240)  : ∀ (N : Nat) (x2 : Int) (x3 : Int) (x4 : Int) (M : Mem) (_ : wX7_readOrder_L67 Q  a0 a1 N x2 x3 x4 M), WW X Y 6 rmX7_readOrder (QV Q) M0 0 0 67 [(0, vR Y.1 a0), (1, vR Y.1 a1), (2, vI x2), (3, vI x3), (4, vI x4)] [] M := by
  intro N
  induction N with
  | zero =>
    intro x2 x3 x4 M h
    exact h.elim
  | succ N ih =>
    intro x2 x3 x4 M h
    unfold wX7_readOrder_L67 at h
    refine r_iload hC 4 dX7_readOrder_67 rfl ?_
    refine r_aload_n hC 0 dX7_readOrder_69 rfl rfl ?_
    refine r_getI hC fg_X7_34 rfl qa0.1 qa0.2 dX7_readOrder_70 ?_
    refine r_icmp_ge hC 119 rfl rfl dX7_readOrder_73 (by decide) (fun cq => ?_) (fun cq => ?_)
    · replace h := h.1 cq
      exact r_vret hC (Nat.zero_le _) (Nat.zero_le _) dX7_readOrder_119 ⟨rfl, h⟩
    · replace h := h.2 cq
      refine r_iload_n hC 3 dX7_readOrder_76 rfl rfl ?_
      refine r_if_lt hC 119 rfl dX7_readOrder_77 (by decide) (fun cq => ?_) (fun cq => ?_)
      · replace h := h.1 cq
        exact r_vret hC (Nat.zero_le _) (Nat.zero_le _) dX7_readOrder_119 ⟨rfl, h⟩
      · replace h := h.2 cq
        refine r_aload_n hC 0 dX7_readOrder_80 rfl rfl ?_
        have q_12 : 0 < a0 + 1 ∧ M0 0 (a0 + 1) = kA 0 12 := lay_f0 (a := a0) hL qa0 fm_7_5
        refine r_getR0 (a' := a0 + 1) hC fg_X7_9 rfl hF fm_7_5 qa0.1 qa0.2 rfl dX7_readOrder_81 ?_
        refine r_iload hC 4 dX7_readOrder_84 rfl ?_
        refine r_aload_n hC 0 dX7_readOrder_86 rfl rfl ?_
        have q_13 : 0 < a0 + 2 ∧ M0 0 (a0 + 2) = kA 0 12 := lay_f0 (a := a0) hL qa0 fm_7_6
        refine r_getR0 (a' := a0 + 2) hC fg_X7_15 rfl hF fm_7_6 qa0.1 qa0.2 rfl dX7_readOrder_87 ?_
        refine r_iload_n hC 3 dX7_readOrder_90 rfl rfl ?_
        obtain ⟨i_14, h⟩ := h
        refine r_iald hC i_14 q_13.1 q_13.2 (by decide) dX7_readOrder_91 ?_
        obtain ⟨i_15, h⟩ := h
        refine r_iast hC i_15 q_12.1 q_12.2 (by decide) dX7_readOrder_92 ?_
        refine r_nameM h (fun M_16 h => ?_)
        refine r_aload_n hC 0 dX7_readOrder_93 rfl rfl ?_
        refine r_aload_n hC 1 dX7_readOrder_94 rfl rfl ?_
        refine r_iload_n hC 2 dX7_readOrder_95 rfl rfl ?_
        refine r_iload_n hC 3 dX7_readOrder_96 rfl rfl ?_
        refine r_callV (As := [vR Y.1 a1, vI x2, vI x3]) (st := []) hC cw_X7_53 rfl qa0.1 qa0.2 rfl rfl (Nat.le_of_ble_eq_true rfl) ⟨Nat.le_of_ble_eq_true rfl, Nat.le_of_ble_eq_true rfl⟩ ⟨Nat.le_of_ble_eq_true rfl, Nat.le_of_ble_eq_true rfl⟩ dX7_readOrder_97 (fun hk => mX7_nextOf Y hF _ _ _ _ _ _ _ (kqO hk qa0) (kqA hk qa1) h) (fun v M_17 h => ?_)
        obtain ⟨r_18, rfl, h⟩ := h
        refine r_istore (lv' := [(5, vI r_18), (0, vR Y.1 a0), (1, vR Y.1 a1), (2, vI x2), (3, vI x3), (4, vI x4)]) hC dX7_readOrder_100 (by decide) rfl ?_
        refine r_iload_n hC 3 dX7_readOrder_102 rfl rfl ?_
        refine r_iconst hC dX7_readOrder_103 ?_
        refine r_iload_n hC 4 dX7_readOrder_104 rfl rfl ?_
        refine r_ishl hC dX7_readOrder_105 ?_
        refine r_iconst hC dX7_readOrder_106 ?_
        refine r_ixor hC dX7_readOrder_107 ?_
        refine r_iand hC dX7_readOrder_108 ?_
        refine r_nameI h (fun x2_19 h => ?_)
        refine r_istore_n (lv' := [(2, vI x2_19), (5, vI r_18), (0, vR Y.1 a0), (1, vR Y.1 a1), (3, vI x3), (4, vI x4)]) hC dX7_readOrder_109 rfl (by decide) rfl ?_
        refine r_iload hC 1 dX7_readOrder_110 rfl ?_
        refine r_istore_n (lv' := [(3, vI r_18), (2, vI x2_19), (5, vI r_18), (0, vR Y.1 a0), (1, vR Y.1 a1), (4, vI x4)]) hC dX7_readOrder_112 rfl (by decide) rfl ?_
        refine let_elim h (fun x4_20 e_21 h => ?_)
        refine r_iinc (lv' := [(4, vI x4_20), (3, vI r_18), (2, vI x2_19), (5, vI r_18), (0, vR Y.1 a0), (1, vR Y.1 a1)]) hC 5 dX7_readOrder_113 rfl (by decide) e_21 rfl ?_
        refine r_goto hC 67 dX7_readOrder_116 (by decide) ?_
        refine r_sub [4, 5, 2, 1, 0] rfl ?_
        exact ih _ _ _ _ h
set_option maxHeartbeats 4000000 in
set_option maxRecDepth 100000 in
theorem mX7_readOrder (Y : Yx) (hF : Y.2.2.2.2 = true) (l : Launch) (a0 : Nat) (a1 : Nat) (M0 : Mem) (Q : Mem → Prop) (qa0 : 0 < a0 ∧ M0 0 a0 = kO 7) (qa1 : 0 < a1 ∧ M0 0 a1 = kA 1 10240) (h : wX7_readOrder a0 a1 M0 Q) : CT Y l yX7_readOrder cX7_readOrder 6 none rmX7_readOrder [vR Y.1 a0, vR Y.1 a1] M0 (QV Q) := by
  unfold wX7_readOrder at h
  refine ct_intro (by decide) (Nat.le_of_ble_eq_true rfl) ?_
  intro X hXl hC hL0
  have hL := hL0 hF
  change OKX X Y RX7 cX7_readOrder 6 none rmX7_readOrder at hC
  change WW X Y 6 rmX7_readOrder (QV Q) M0 0 0 0 [(0, vR Y.1 a0), (1, vR Y.1 a1)] [] M0
  refine r_iconst hC dX7_readOrder_0 ?_
  refine r_aload_n hC 0 dX7_readOrder_1 rfl rfl ?_
  refine r_getI hC fg_X7_34 rfl qa0.1 qa0.2 dX7_readOrder_2 ?_
  refine r_ishl hC dX7_readOrder_5 ?_
  refine r_iconst hC dX7_readOrder_6 ?_
  refine r_isub hC dX7_readOrder_7 ?_
  refine r_nameI h (fun x2_1 h => ?_)
  refine r_istore_n (lv' := [(2, vI x2_1), (0, vR Y.1 a0), (1, vR Y.1 a1)]) hC dX7_readOrder_8 rfl (by decide) rfl ?_
  refine r_iconst hC dX7_readOrder_9 ?_
  refine r_istore_n (lv' := [(3, vI 0), (2, vI x2_1), (0, vR Y.1 a0), (1, vR Y.1 a1)]) hC dX7_readOrder_10 rfl (by decide) rfl ?_
  refine r_iconst hC dX7_readOrder_11 ?_
  refine r_istore (lv' := [(4, vI 1), (3, vI 0), (2, vI x2_1), (0, vR Y.1 a0), (1, vR Y.1 a1)]) hC dX7_readOrder_12 (by decide) rfl ?_
  refine r_sub [3, 4, 2, 1, 0] rfl ?_
  obtain ⟨N_23, h⟩ := h
  refine tX7_readOrder_L14 hC hF hL Q _ _ _ _ qa0 qa1 ?_ N_23 _ _ _ h
  · intro x3_8 M_9 h
    refine r_aload_n hC 0 dX7_readOrder_52 rfl rfl ?_
    refine r_aload_n hC 1 dX7_readOrder_53 rfl rfl ?_
    refine r_iload_n hC 2 dX7_readOrder_54 rfl rfl ?_
    refine r_bipush hC (by decide +kernel) dX7_readOrder_55 ?_
    refine r_imul hC dX7_readOrder_57 ?_
    refine r_iload_n hC 3 dX7_readOrder_58 rfl rfl ?_
    refine r_iadd hC dX7_readOrder_59 ?_
    obtain ⟨i_10, h⟩ := h
    refine r_bald hC i_10 qa1.1 qa1.2 (by decide) dX7_readOrder_60 ?_
    refine r_putI hC fp_X7_71 rfl qa0.1 qa0.2 dX7_readOrder_61 ?_
    refine r_nameM h (fun M_11 h => ?_)
    refine r_iconst hC dX7_readOrder_64 ?_
    refine r_istore (lv' := [(4, vI 0), (0, vR Y.1 a0), (1, vR Y.1 a1), (2, vI x2_1), (3, vI x3_8)]) hC dX7_readOrder_65 (by decide) rfl ?_
    refine r_sub [1, 2, 3, 4, 0] rfl ?_
    obtain ⟨N_22, h⟩ := h
    refine tX7_readOrder_L67 hC hF hL Q  _ _ qa0 qa1  N_22 _ _ _ _ h
theorem dX7_orderFewest_0 : dec cX7_orderFewest 0 1 1 (.aload_n 0) := ⟨by decide +kernel, rfl⟩
theorem dX7_orderFewest_1 : dec cX7_orderFewest 1 3 4 (.getfield 26) := ⟨by decide +kernel, rfl⟩
theorem dX7_orderFewest_4 : dec cX7_orderFewest 4 3 7 (.ifCond .eq 12) := ⟨by decide +kernel, rfl⟩
theorem dX7_orderFewest_7 : dec cX7_orderFewest 7 1 8 (.aload_n 0) := ⟨by decide +kernel, rfl⟩
theorem dX7_orderFewest_8 : dec cX7_orderFewest 8 3 11 (.getfield 30) := ⟨by decide +kernel, rfl⟩
theorem dX7_orderFewest_11 : dec cX7_orderFewest 11 1 12 (.iload_n 1) := ⟨by decide +kernel, rfl⟩
theorem dX7_orderFewest_12 : dec cX7_orderFewest 12 3 15 (.if_icmp .ne 4) := ⟨by decide +kernel, rfl⟩
theorem dX7_orderFewest_15 : dec cX7_orderFewest 15 1 16 (.return_) := ⟨by decide +kernel, rfl⟩
theorem dX7_orderFewest_16 : dec cX7_orderFewest 16 1 17 (.aload_n 0) := ⟨by decide +kernel, rfl⟩
theorem dX7_orderFewest_17 : dec cX7_orderFewest 17 1 18 (.iload_n 1) := ⟨by decide +kernel, rfl⟩
theorem dX7_orderFewest_18 : dec cX7_orderFewest 18 3 21 (.putfield 30) := ⟨by decide +kernel, rfl⟩
theorem dX7_orderFewest_21 : dec cX7_orderFewest 21 1 22 (.aload_n 0) := ⟨by decide +kernel, rfl⟩
theorem dX7_orderFewest_22 : dec cX7_orderFewest 22 1 23 (.iconst 0) := ⟨by decide +kernel, rfl⟩
theorem dX7_orderFewest_23 : dec cX7_orderFewest 23 3 26 (.putfield 34) := ⟨by decide +kernel, rfl⟩
theorem dX7_orderFewest_26 : dec cX7_orderFewest 26 1 27 (.iconst 0) := ⟨by decide +kernel, rfl⟩
theorem dX7_orderFewest_27 : dec cX7_orderFewest 27 1 28 (.istore_n 2) := ⟨by decide +kernel, rfl⟩
theorem dX7_orderFewest_28 : dec cX7_orderFewest 28 1 29 (.iload_n 2) := ⟨by decide +kernel, rfl⟩
theorem dX7_orderFewest_29 : dec cX7_orderFewest 29 1 30 (.aload_n 0) := ⟨by decide +kernel, rfl⟩
theorem dX7_orderFewest_30 : dec cX7_orderFewest 30 3 33 (.getfield 22) := ⟨by decide +kernel, rfl⟩
theorem dX7_orderFewest_33 : dec cX7_orderFewest 33 3 36 (.getfield 37) := ⟨by decide +kernel, rfl⟩
theorem dX7_orderFewest_36 : dec cX7_orderFewest 36 3 39 (.if_icmp .ge 49) := ⟨by decide +kernel, rfl⟩
theorem dX7_orderFewest_39 : dec cX7_orderFewest 39 1 40 (.aload_n 0) := ⟨by decide +kernel, rfl⟩
theorem dX7_orderFewest_40 : dec cX7_orderFewest 40 3 43 (.getfield 34) := ⟨by decide +kernel, rfl⟩
theorem dX7_orderFewest_43 : dec cX7_orderFewest 43 2 45 (.bipush 10) := ⟨by decide +kernel, rfl⟩
theorem dX7_orderFewest_45 : dec cX7_orderFewest 45 3 48 (.if_icmp .ge 40) := ⟨by decide +kernel, rfl⟩
theorem dX7_orderFewest_48 : dec cX7_orderFewest 48 1 49 (.aload_n 0) := ⟨by decide +kernel, rfl⟩
theorem dX7_orderFewest_49 : dec cX7_orderFewest 49 3 52 (.getfield 30) := ⟨by decide +kernel, rfl⟩
theorem dX7_orderFewest_52 : dec cX7_orderFewest 52 1 53 (.iload_n 2) := ⟨by decide +kernel, rfl⟩
theorem dX7_orderFewest_53 : dec cX7_orderFewest 53 3 56 (.invokestatic 42) := ⟨by decide +kernel, rfl⟩
theorem dX7_orderFewest_56 : dec cX7_orderFewest 56 3 59 (.ifCond .eq 23) := ⟨by decide +kernel, rfl⟩
theorem dX7_orderFewest_59 : dec cX7_orderFewest 59 1 60 (.aload_n 0) := ⟨by decide +kernel, rfl⟩
theorem dX7_orderFewest_60 : dec cX7_orderFewest 60 3 63 (.getfield 15) := ⟨by decide +kernel, rfl⟩
theorem dX7_orderFewest_63 : dec cX7_orderFewest 63 1 64 (.aload_n 0) := ⟨by decide +kernel, rfl⟩
theorem dX7_orderFewest_64 : dec cX7_orderFewest 64 3 67 (.getfield 34) := ⟨by decide +kernel, rfl⟩
theorem dX7_orderFewest_67 : dec cX7_orderFewest 67 1 68 (.iload_n 2) := ⟨by decide +kernel, rfl⟩
theorem dX7_orderFewest_68 : dec cX7_orderFewest 68 1 69 (.iastore) := ⟨by decide +kernel, rfl⟩
theorem dX7_orderFewest_69 : dec cX7_orderFewest 69 1 70 (.aload_n 0) := ⟨by decide +kernel, rfl⟩
theorem dX7_orderFewest_70 : dec cX7_orderFewest 70 1 71 (.dup) := ⟨by decide +kernel, rfl⟩
theorem dX7_orderFewest_71 : dec cX7_orderFewest 71 3 74 (.getfield 34) := ⟨by decide +kernel, rfl⟩
theorem dX7_orderFewest_74 : dec cX7_orderFewest 74 1 75 (.iconst 1) := ⟨by decide +kernel, rfl⟩
theorem dX7_orderFewest_75 : dec cX7_orderFewest 75 1 76 (.iadd) := ⟨by decide +kernel, rfl⟩
theorem dX7_orderFewest_76 : dec cX7_orderFewest 76 3 79 (.putfield 34) := ⟨by decide +kernel, rfl⟩
theorem dX7_orderFewest_79 : dec cX7_orderFewest 79 3 82 (.iinc 2 1) := ⟨by decide +kernel, rfl⟩
theorem dX7_orderFewest_82 : dec cX7_orderFewest 82 3 85 (.goto (-54)) := ⟨by decide +kernel, rfl⟩
theorem dX7_orderFewest_85 : dec cX7_orderFewest 85 1 86 (.aload_n 0) := ⟨by decide +kernel, rfl⟩
theorem dX7_orderFewest_86 : dec cX7_orderFewest 86 3 89 (.getfield 18) := ⟨by decide +kernel, rfl⟩
theorem dX7_orderFewest_89 : dec cX7_orderFewest 89 3 92 (.ifnonnull 12) := ⟨by decide +kernel, rfl⟩
theorem dX7_orderFewest_92 : dec cX7_orderFewest 92 1 93 (.aload_n 0) := ⟨by decide +kernel, rfl⟩
theorem dX7_orderFewest_93 : dec cX7_orderFewest 93 3 96 (.sipush 10240) := ⟨by decide +kernel, rfl⟩
theorem dX7_orderFewest_96 : dec cX7_orderFewest 96 2 98 (.newarray .byte) := ⟨by decide +kernel, rfl⟩
theorem dX7_orderFewest_98 : dec cX7_orderFewest 98 3 101 (.putfield 18) := ⟨by decide +kernel, rfl⟩
theorem dX7_orderFewest_101 : dec cX7_orderFewest 101 1 102 (.aload_n 0) := ⟨by decide +kernel, rfl⟩
theorem dX7_orderFewest_102 : dec cX7_orderFewest 102 1 103 (.aload_n 0) := ⟨by decide +kernel, rfl⟩
theorem dX7_orderFewest_103 : dec cX7_orderFewest 103 3 106 (.getfield 18) := ⟨by decide +kernel, rfl⟩
theorem dX7_orderFewest_106 : dec cX7_orderFewest 106 3 109 (.invokevirtual 46) := ⟨by decide +kernel, rfl⟩
theorem dX7_orderFewest_109 : dec cX7_orderFewest 109 1 110 (.aload_n 0) := ⟨by decide +kernel, rfl⟩
theorem dX7_orderFewest_110 : dec cX7_orderFewest 110 1 111 (.aload_n 0) := ⟨by decide +kernel, rfl⟩
theorem dX7_orderFewest_111 : dec cX7_orderFewest 111 3 114 (.getfield 18) := ⟨by decide +kernel, rfl⟩
theorem dX7_orderFewest_114 : dec cX7_orderFewest 114 3 117 (.invokevirtual 50) := ⟨by decide +kernel, rfl⟩
theorem dX7_orderFewest_117 : dec cX7_orderFewest 117 1 118 (.aload_n 0) := ⟨by decide +kernel, rfl⟩
theorem dX7_orderFewest_118 : dec cX7_orderFewest 118 1 119 (.iconst 1) := ⟨by decide +kernel, rfl⟩
theorem dX7_orderFewest_119 : dec cX7_orderFewest 119 3 122 (.putfield 26) := ⟨by decide +kernel, rfl⟩
theorem dX7_orderFewest_122 : dec cX7_orderFewest 122 1 123 (.return_) := ⟨by decide +kernel, rfl⟩
set_option maxHeartbeats 4000000 in
set_option maxRecDepth 100000 in
theorem tX7_orderFewest_L28 {X : Cx} {Y : Yx} {M0 : Mem} (hC : OKX X Y RX7 cX7_orderFewest 3 none rmX7_orderFewest) (hF : Y.2.2.2.2 = true) (hL : Lay M0) (Q : Mem → Prop) (E85 : Mem → Prop) (a0 : Nat) (qa0 : 0 < a0 ∧ M0 0 a0 = kO 7) (hE85 : ∀  (M : Mem), E85  M → WW X Y 3 rmX7_orderFewest (QV Q) M0 0 0 85 [(0, vR Y.1 a0)] [] M) : ∀ (N : Nat) (x2 : Int) (M : Mem) (_ : wX7_orderFewest_L28 Q E85 a0 N x2 M), WW X Y 3 rmX7_orderFewest (QV Q) M0 0 0 28 [(0, vR Y.1 a0), (2, vI x2)] [] M := by
  intro N
  induction N with
  | zero =>
    intro x2 M h
    exact h.elim
  | succ N ih =>
    intro x2 M h
    unfold wX7_orderFewest_L28 at h
    refine r_iload_n hC 1 dX7_orderFewest_28 rfl rfl ?_
    refine r_aload_n hC 0 dX7_orderFewest_29 rfl rfl ?_
    have q_3 : 0 < (a0 - 106) ∧ M0 0 ((a0 - 106)) = kO 0 := lay_fs (a := a0) hL qa0 fm_7_0
    refine r_getRs (a' := (a0 - 106)) hC fg_X7_22 rfl hF fm_7_0 qa0.1 qa0.2 rfl dX7_orderFewest_30 ?_
    refine r_getI hC fg_X7_37 rfl q_3.1 q_3.2 dX7_orderFewest_33 ?_
    refine r_icmp_ge hC 85 rfl rfl dX7_orderFewest_36 (by decide) (fun cq => ?_) (fun cq => ?_)
    · replace h := h.1 cq
      refine r_sub [0] rfl ?_
      exact hE85  _ h
    · replace h := h.2 cq
      refine r_aload_n hC 0 dX7_orderFewest_39 rfl rfl ?_
      refine r_getI hC fg_X7_34 rfl qa0.1 qa0.2 dX7_orderFewest_40 ?_
      refine r_bipush hC (by decide +kernel) dX7_orderFewest_43 ?_
      refine r_icmp_ge hC 85 rfl bmL_10 dX7_orderFewest_45 (by decide) (fun cq => ?_) (fun cq => ?_)
      · replace h := h.1 cq
        refine r_sub [0] rfl ?_
        exact hE85  _ h
      · replace h := h.2 cq
        refine r_aload_n hC 0 dX7_orderFewest_48 rfl rfl ?_
        refine r_getI hC fg_X7_30 rfl qa0.1 qa0.2 dX7_orderFewest_49 ?_
        refine r_iload_n hC 1 dX7_orderFewest_52 rfl rfl ?_
        refine r_callN (As := [vI (M a0 2), vI x2]) (st := []) hC cw_X7_42 rfl rfl (Nat.le_of_ble_eq_true rfl) ⟨Nat.le_of_ble_eq_true rfl, Nat.le_of_ble_eq_true rfl⟩ ⟨Nat.le_of_ble_eq_true rfl, Nat.le_of_ble_eq_true rfl⟩ dX7_orderFewest_53 (fun hk => mX11_isIn Y hF _ _ _ _ _  h) (fun v M_4 h => ?_)
        obtain ⟨r_5, rfl, h⟩ := h
        refine r_if_eq hC 79 rfl dX7_orderFewest_56 (by decide) (fun cq => ?_) (fun cq => ?_)
        · replace h := h.1 cq
          refine let_elim h (fun x2_6 e_7 h => ?_)
          refine r_iinc (lv' := [(2, vI x2_6), (0, vR Y.1 a0)]) hC 1 dX7_orderFewest_79 rfl (by decide) e_7 rfl ?_
          refine r_goto hC 28 dX7_orderFewest_82 (by decide) ?_
          refine r_sub [1, 0] rfl ?_
          exact ih _ _ h
        · replace h := h.2 cq
          refine r_aload_n hC 0 dX7_orderFewest_59 rfl rfl ?_
          have q_8 : 0 < a0 + 2 ∧ M0 0 (a0 + 2) = kA 0 12 := lay_f0 (a := a0) hL qa0 fm_7_6
          refine r_getR0 (a' := a0 + 2) hC fg_X7_15 rfl hF fm_7_6 qa0.1 qa0.2 rfl dX7_orderFewest_60 ?_
          refine r_aload_n hC 0 dX7_orderFewest_63 rfl rfl ?_
          refine r_getI hC fg_X7_34 rfl qa0.1 qa0.2 dX7_orderFewest_64 ?_
          refine r_iload_n hC 1 dX7_orderFewest_67 rfl rfl ?_
          obtain ⟨i_9, h⟩ := h
          refine r_iast hC i_9 q_8.1 q_8.2 (by decide) dX7_orderFewest_68 ?_
          refine r_nameM h (fun M_10 h => ?_)
          refine r_aload_n hC 0 dX7_orderFewest_69 rfl rfl ?_
          refine r_dup hC rfl dX7_orderFewest_70 ?_
          refine r_getI hC fg_X7_34 rfl qa0.1 qa0.2 dX7_orderFewest_71 ?_
          refine r_iconst hC dX7_orderFewest_74 ?_
          refine r_iadd hC dX7_orderFewest_75 ?_
          refine r_putI hC fp_X7_34 rfl qa0.1 qa0.2 dX7_orderFewest_76 ?_
          refine r_nameM h (fun M_11 h => ?_)
          refine let_elim h (fun x2_12 e_13 h => ?_)
          refine r_iinc (lv' := [(2, vI x2_12), (0, vR Y.1 a0)]) hC 1 dX7_orderFewest_79 rfl (by decide) e_13 rfl ?_
          refine r_goto hC 28 dX7_orderFewest_82 (by decide) ?_
          refine r_sub [1, 0] rfl ?_
          exact ih _ _ h
set_option maxHeartbeats 4000000 in
set_option maxRecDepth 100000 in
theorem tX7_orderFewest_J101 {X : Cx} {Y : Yx} {M0 : Mem} (hC : OKX X Y RX7 cX7_orderFewest 3 none rmX7_orderFewest) (hF : Y.2.2.2.2 = true) (hL : Lay M0) (Q : Mem → Prop)   (a0 : Nat) (qa0 : 0 < a0 ∧ M0 0 a0 = kO 7)  (M : Mem) (h : wX7_orderFewest_J101 Q  a0 M) : WW X Y 3 rmX7_orderFewest (QV Q) M0 1 10240 101 [(0, vR Y.1 a0)] [] M := by
  unfold wX7_orderFewest_J101 at h
  refine r_aload_n hC 0 dX7_orderFewest_101 rfl rfl ?_
  refine r_aload_n hC 0 dX7_orderFewest_102 rfl rfl ?_
  refine r_getN hC fg_X7_18 rfl qa0.1 qa0.2 dX7_orderFewest_103 ?_
  obtain ⟨q_15, h⟩ := h
  refine r_base (fun hk hL0 => ?_)
  have hL := hL0 hF
  have qa0 := kqO hk qa0
  rw [vN_R (q := (M a0 7).toNat) q_15.1 (by have := q_15.1; omega)]
  refine r_callV (As := [vR Y.1 ((M a0 7).toNat)]) (st := []) hC cw_X7_46 rfl qa0.1 qa0.2 rfl rfl (Nat.le_of_ble_eq_true rfl) ⟨Nat.le_of_ble_eq_true rfl, Nat.le_of_ble_eq_true rfl⟩ ⟨Nat.le_of_ble_eq_true rfl, Nat.le_of_ble_eq_true rfl⟩ dX7_orderFewest_106 (fun hk => mX7_fillLeast Y hF _ _ _ _ _ (kqO hk qa0) (kqA hk q_15) h) (fun v M_16 h => ?_)
  obtain ⟨rfl, h⟩ := h
  refine r_aload_n hC 0 dX7_orderFewest_109 rfl rfl ?_
  refine r_aload_n hC 0 dX7_orderFewest_110 rfl rfl ?_
  refine r_getN hC fg_X7_18 rfl qa0.1 qa0.2 dX7_orderFewest_111 ?_
  obtain ⟨q_17, h⟩ := h
  refine r_base (fun hk hL0 => ?_)
  have hL := hL0 hF
  have qa0 := kqO hk qa0
  rw [vN_R (q := (M_16 a0 7).toNat) q_17.1 (by have := q_17.1; omega)]
  refine r_callV (As := [vR Y.1 ((M_16 a0 7).toNat)]) (st := []) hC cw_X7_50 rfl qa0.1 qa0.2 rfl rfl (Nat.le_of_ble_eq_true rfl) ⟨Nat.le_of_ble_eq_true rfl, Nat.le_of_ble_eq_true rfl⟩ ⟨Nat.le_of_ble_eq_true rfl, Nat.le_of_ble_eq_true rfl⟩ dX7_orderFewest_114 (fun hk => mX7_readOrder Y hF _ _ _ _ _ (kqO hk qa0) (kqA hk q_17) h) (fun v M_18 h => ?_)
  obtain ⟨rfl, h⟩ := h
  refine r_aload_n hC 0 dX7_orderFewest_117 rfl rfl ?_
  refine r_iconst hC dX7_orderFewest_118 ?_
  refine r_putZ hC (Or.inr rfl) fp_X7_26 rfl qa0.1 qa0.2 dX7_orderFewest_119 ?_
  refine r_nameM h (fun M_19 h => ?_)
  exact r_vret hC (Nat.le_of_ble_eq_true rfl) (Nat.le_of_ble_eq_true rfl) dX7_orderFewest_122 ⟨rfl, h⟩
set_option maxHeartbeats 4000000 in
set_option maxRecDepth 100000 in
theorem tX7_orderFewest_J85 {X : Cx} {Y : Yx} {M0 : Mem} (hC : OKX X Y RX7 cX7_orderFewest 3 none rmX7_orderFewest) (hF : Y.2.2.2.2 = true) (hL : Lay M0) (Q : Mem → Prop)   (a0 : Nat) (qa0 : 0 < a0 ∧ M0 0 a0 = kO 7)  (M : Mem) (h : wX7_orderFewest_J85 Q  a0 M) : WW X Y 3 rmX7_orderFewest (QV Q) M0 0 0 85 [(0, vR Y.1 a0)] [] M := by
  unfold wX7_orderFewest_J85 at h
  refine r_aload_n hC 0 dX7_orderFewest_85 rfl rfl ?_
  refine r_getN hC fg_X7_18 rfl qa0.1 qa0.2 dX7_orderFewest_86 ?_
  refine r_ifnonnull hC 101 dX7_orderFewest_89 (by decide) (fun cq => ?_) (fun cq => ?_)
  · replace h := h.2 cq
    refine r_widen (n' := 1) (k' := 10240) (Nat.le_of_ble_eq_true rfl) (Nat.le_of_ble_eq_true rfl) ?_
    refine r_sub [0] rfl ?_
    exact tX7_orderFewest_J101 hC hF hL Q   _ qa0  _ h
  · replace h := h.1 cq
    refine r_aload_n hC 0 dX7_orderFewest_92 rfl rfl ?_
    refine r_sipush hC (by decide +kernel) dX7_orderFewest_93 ?_
    refine r_newarr (t := 1) (len := 10240) hC (by decide) rfl ac_1 rfl (by decide) (by decide +kernel) ⟨Nat.le_of_ble_eq_true rfl, Nat.le_of_ble_eq_true rfl⟩ dX7_orderFewest_96 ?_
    refine r_nameM h (fun M_20 h => ?_)
    obtain ⟨q_22, h⟩ := h
    refine r_base (fun hk hL0 => ?_)
    have hL := hL0 hF
    have qa0 := kqO hk qa0
    refine r_putN hC q_22.1 fp_X7_18 rfl (by first | exact Or.inl ⟨_, rfl⟩ | exact Or.inr ⟨_, rfl⟩) qa0.1 qa0.2 dX7_orderFewest_98 ?_
    refine r_nameM h (fun M_23 h => ?_)
    refine r_sub [0] rfl ?_
    exact tX7_orderFewest_J101 hC hF hL Q   _ qa0  _ h
set_option maxHeartbeats 4000000 in
set_option maxRecDepth 100000 in
theorem tX7_orderFewest_J16 {X : Cx} {Y : Yx} {M0 : Mem} (hC : OKX X Y RX7 cX7_orderFewest 3 none rmX7_orderFewest) (hF : Y.2.2.2.2 = true) (hL : Lay M0) (Q : Mem → Prop)   (a0 : Nat) (x1 : Int) (qa0 : 0 < a0 ∧ M0 0 a0 = kO 7)  (M : Mem) (h : wX7_orderFewest_J16 Q  a0 x1 M) : WW X Y 3 rmX7_orderFewest (QV Q) M0 0 0 16 [(0, vR Y.1 a0), (1, vI x1)] [] M := by
  unfold wX7_orderFewest_J16 at h
  refine r_aload_n hC 0 dX7_orderFewest_16 rfl rfl ?_
  refine r_iload_n hC 1 dX7_orderFewest_17 rfl rfl ?_
  refine r_putI hC fp_X7_30 rfl qa0.1 qa0.2 dX7_orderFewest_18 ?_
  refine r_nameM h (fun M_1 h => ?_)
  refine r_aload_n hC 0 dX7_orderFewest_21 rfl rfl ?_
  refine r_iconst hC dX7_orderFewest_22 ?_
  refine r_putI hC fp_X7_34 rfl qa0.1 qa0.2 dX7_orderFewest_23 ?_
  refine r_nameM h (fun M_2 h => ?_)
  refine r_iconst hC dX7_orderFewest_26 ?_
  refine r_istore_n (lv' := [(2, vI 0), (0, vR Y.1 a0), (1, vI x1)]) hC dX7_orderFewest_27 rfl (by decide) rfl ?_
  refine r_sub [1, 0] rfl ?_
  obtain ⟨N_24, h⟩ := h
  refine tX7_orderFewest_L28 hC hF hL Q _ _ qa0 ?_ N_24 _ _ h
  · intro M_14 h
    refine r_sub [0] rfl ?_
    exact tX7_orderFewest_J85 hC hF hL Q   _ qa0  _ h
set_option maxHeartbeats 4000000 in
set_option maxRecDepth 100000 in
theorem mX7_orderFewest (Y : Yx) (hF : Y.2.2.2.2 = true) (l : Launch) (a0 : Nat) (x1 : Int) (M0 : Mem) (Q : Mem → Prop) (qa0 : 0 < a0 ∧ M0 0 a0 = kO 7) (h : wX7_orderFewest a0 x1 M0 Q) : CT Y l yX7_orderFewest cX7_orderFewest 3 none rmX7_orderFewest [vR Y.1 a0, vI x1] M0 (QV Q) := by
  unfold wX7_orderFewest at h
  refine ct_intro (by decide) (Nat.le_of_ble_eq_true rfl) ?_
  intro X hXl hC hL0
  have hL := hL0 hF
  change OKX X Y RX7 cX7_orderFewest 3 none rmX7_orderFewest at hC
  change WW X Y 3 rmX7_orderFewest (QV Q) M0 0 0 0 [(0, vR Y.1 a0), (1, vI x1)] [] M0
  refine r_aload_n hC 0 dX7_orderFewest_0 rfl rfl ?_
  refine r_getI hC fg_X7_26 rfl qa0.1 qa0.2 dX7_orderFewest_1 ?_
  refine r_if_eq hC 16 rfl dX7_orderFewest_4 (by decide) (fun cq => ?_) (fun cq => ?_)
  · replace h := h.1 cq
    refine r_sub [0, 1] rfl ?_
    exact tX7_orderFewest_J16 hC hF hL Q   _ _ qa0  _ h
  · replace h := h.2 cq
    refine r_aload_n hC 0 dX7_orderFewest_7 rfl rfl ?_
    refine r_getI hC fg_X7_30 rfl qa0.1 qa0.2 dX7_orderFewest_8 ?_
    refine r_iload_n hC 1 dX7_orderFewest_11 rfl rfl ?_
    refine r_icmp_ne hC 16 rfl rfl dX7_orderFewest_12 (by decide) (fun cq => ?_) (fun cq => ?_)
    · replace h := h.2 cq
      refine r_sub [0, 1] rfl ?_
      exact tX7_orderFewest_J16 hC hF hL Q   _ _ qa0  _ h
    · replace h := h.1 cq
      exact r_vret hC (Nat.zero_le _) (Nat.zero_le _) dX7_orderFewest_15 ⟨rfl, h⟩
theorem dJ9_abs_0f7a4_0 : dec cJ9_abs_0f7a4 0 1 1 (.iload_n 0) := ⟨by decide +kernel, rfl⟩
theorem dJ9_abs_0f7a4_1 : dec cJ9_abs_0f7a4 1 3 4 (.ifCond .ge 8) := ⟨by decide +kernel, rfl⟩
theorem dJ9_abs_0f7a4_4 : dec cJ9_abs_0f7a4 4 1 5 (.iload_n 0) := ⟨by decide +kernel, rfl⟩
theorem dJ9_abs_0f7a4_5 : dec cJ9_abs_0f7a4 5 1 6 (.ineg) := ⟨by decide +kernel, rfl⟩
theorem dJ9_abs_0f7a4_6 : dec cJ9_abs_0f7a4 6 3 9 (.goto 4) := ⟨by decide +kernel, rfl⟩
theorem dJ9_abs_0f7a4_9 : dec cJ9_abs_0f7a4 9 1 10 (.iload_n 0) := ⟨by decide +kernel, rfl⟩
theorem dJ9_abs_0f7a4_10 : dec cJ9_abs_0f7a4 10 1 11 (.ireturn) := ⟨by decide +kernel, rfl⟩
set_option maxHeartbeats 4000000 in
set_option maxRecDepth 100000 in
theorem mJ9_abs_0f7a4 (Y : Yx) (hF : Y.2.2.2.2 = true) (l : Launch) (x0 : Int) (M0 : Mem) (Q : Int → Mem → Prop)  (h : wJ9_abs_0f7a4 x0 M0 Q) : CT Y l yJ9_abs_0f7a4 cJ9_abs_0f7a4 1 (some .int) rmJ9_abs_0f7a4 [vI x0] M0 (QI Q) := by
  unfold wJ9_abs_0f7a4 at h
  refine ct_intro (by decide +kernel) (Nat.le_of_ble_eq_true rfl) ?_
  intro X hXl hC hL0
  have hL := hL0 hF
  change OKX X Y RJ9 cJ9_abs_0f7a4 1 (some .int) rmJ9_abs_0f7a4 at hC
  change WW X Y 1 rmJ9_abs_0f7a4 (QI Q) M0 0 0 0 [(0, vI x0)] [] M0
  refine r_iload_n hC 0 dJ9_abs_0f7a4_0 rfl rfl ?_
  refine r_if_ge hC 9 rfl dJ9_abs_0f7a4_1 (by decide) (fun cq => ?_) (fun cq => ?_)
  · replace h := h.1 cq
    refine r_iload_n hC 0 dJ9_abs_0f7a4_9 rfl rfl ?_
    exact r_iret hC (Nat.zero_le _) (Nat.zero_le _) dJ9_abs_0f7a4_10 ⟨_, rfl, h⟩
  · replace h := h.2 cq
    refine r_iload_n hC 0 dJ9_abs_0f7a4_4 rfl rfl ?_
    refine r_ineg hC dJ9_abs_0f7a4_5 ?_
    refine r_goto hC 10 dJ9_abs_0f7a4_6 (by decide) ?_
    exact r_iret hC (Nat.zero_le _) (Nat.zero_le _) dJ9_abs_0f7a4_10 ⟨_, rfl, h⟩
