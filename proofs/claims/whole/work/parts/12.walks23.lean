theorem dX12_moved_0 : dec cX12_moved 0 1 1 (.iconst 0) := ⟨by decide +kernel, rfl⟩
theorem dX12_moved_1 : dec cX12_moved 1 1 2 (.istore_n 2) := ⟨by decide +kernel, rfl⟩
theorem dX12_moved_2 : dec cX12_moved 2 1 3 (.iconst 0) := ⟨by decide +kernel, rfl⟩
theorem dX12_moved_3 : dec cX12_moved 3 1 4 (.istore_n 3) := ⟨by decide +kernel, rfl⟩
theorem dX12_moved_4 : dec cX12_moved 4 1 5 (.iload_n 3) := ⟨by decide +kernel, rfl⟩
theorem dX12_moved_5 : dec cX12_moved 5 1 6 (.iload_n 1) := ⟨by decide +kernel, rfl⟩
theorem dX12_moved_6 : dec cX12_moved 6 3 9 (.if_icmp .ge 58) := ⟨by decide +kernel, rfl⟩
theorem dX12_moved_9 : dec cX12_moved 9 1 10 (.iload_n 3) := ⟨by decide +kernel, rfl⟩
theorem dX12_moved_10 : dec cX12_moved 10 1 11 (.iconst 1) := ⟨by decide +kernel, rfl⟩
theorem dX12_moved_11 : dec cX12_moved 11 1 12 (.iadd) := ⟨by decide +kernel, rfl⟩
theorem dX12_moved_12 : dec cX12_moved 12 2 14 (.istore 4) := ⟨by decide +kernel, rfl⟩
theorem dX12_moved_14 : dec cX12_moved 14 2 16 (.iload 4) := ⟨by decide +kernel, rfl⟩
theorem dX12_moved_16 : dec cX12_moved 16 1 17 (.iload_n 1) := ⟨by decide +kernel, rfl⟩
theorem dX12_moved_17 : dec cX12_moved 17 3 20 (.if_icmp .ge 41) := ⟨by decide +kernel, rfl⟩
theorem dX12_moved_20 : dec cX12_moved 20 1 21 (.iload_n 2) := ⟨by decide +kernel, rfl⟩
theorem dX12_moved_21 : dec cX12_moved 21 1 22 (.aload_n 0) := ⟨by decide +kernel, rfl⟩
theorem dX12_moved_22 : dec cX12_moved 22 1 23 (.aload_n 0) := ⟨by decide +kernel, rfl⟩
theorem dX12_moved_23 : dec cX12_moved 23 3 26 (.getfield 56) := ⟨by decide +kernel, rfl⟩
theorem dX12_moved_26 : dec cX12_moved 26 1 27 (.iload_n 3) := ⟨by decide +kernel, rfl⟩
theorem dX12_moved_27 : dec cX12_moved 27 1 28 (.iaload) := ⟨by decide +kernel, rfl⟩
theorem dX12_moved_28 : dec cX12_moved 28 3 31 (.invokevirtual 174) := ⟨by decide +kernel, rfl⟩
theorem dX12_moved_31 : dec cX12_moved 31 1 32 (.aload_n 0) := ⟨by decide +kernel, rfl⟩
theorem dX12_moved_32 : dec cX12_moved 32 1 33 (.aload_n 0) := ⟨by decide +kernel, rfl⟩
theorem dX12_moved_33 : dec cX12_moved 33 3 36 (.getfield 56) := ⟨by decide +kernel, rfl⟩
theorem dX12_moved_36 : dec cX12_moved 36 2 38 (.iload 4) := ⟨by decide +kernel, rfl⟩
theorem dX12_moved_38 : dec cX12_moved 38 1 39 (.iaload) := ⟨by decide +kernel, rfl⟩
theorem dX12_moved_39 : dec cX12_moved 39 3 42 (.invokevirtual 174) := ⟨by decide +kernel, rfl⟩
theorem dX12_moved_42 : dec cX12_moved 42 3 45 (.if_icmp .le 7) := ⟨by decide +kernel, rfl⟩
theorem dX12_moved_45 : dec cX12_moved 45 1 46 (.iconst 1) := ⟨by decide +kernel, rfl⟩
theorem dX12_moved_46 : dec cX12_moved 46 3 49 (.goto 4) := ⟨by decide +kernel, rfl⟩
theorem dX12_moved_49 : dec cX12_moved 49 1 50 (.iconst 0) := ⟨by decide +kernel, rfl⟩
theorem dX12_moved_50 : dec cX12_moved 50 1 51 (.iadd) := ⟨by decide +kernel, rfl⟩
theorem dX12_moved_51 : dec cX12_moved 51 1 52 (.istore_n 2) := ⟨by decide +kernel, rfl⟩
theorem dX12_moved_52 : dec cX12_moved 52 3 55 (.iinc 4 1) := ⟨by decide +kernel, rfl⟩
theorem dX12_moved_55 : dec cX12_moved 55 3 58 (.goto (-41)) := ⟨by decide +kernel, rfl⟩
theorem dX12_moved_58 : dec cX12_moved 58 3 61 (.iinc 3 1) := ⟨by decide +kernel, rfl⟩
theorem dX12_moved_61 : dec cX12_moved 61 3 64 (.goto (-57)) := ⟨by decide +kernel, rfl⟩
theorem dX12_moved_64 : dec cX12_moved 64 1 65 (.iload_n 2) := ⟨by decide +kernel, rfl⟩
theorem dX12_moved_65 : dec cX12_moved 65 1 66 (.ireturn) := ⟨by decide +kernel, rfl⟩
set_option maxHeartbeats 4000000 in
set_option maxRecDepth 100000 in
theorem tX12_moved_J50 {X : Cx} {Y : Yx} {M0 : Mem} (hC : OKX X Y RX12 cX12_moved 5 (some .int) rmX12_moved) (hF : Y.2.2.2.2 = true) (hL : Lay M0) (Q : Int → Mem → Prop) (C14 : Int → Int → Mem → Prop)  (a0 : Nat) (x1 : Int) (x3 : Int) (x4 : Int) (xs0 : Int) (xs1 : Int) (qa0 : 0 < a0 ∧ M0 0 a0 = kO 12) (hC14 : ∀ (x2 : Int) (x4 : Int) (M : Mem), C14 x2 x4 M → WW X Y 5 rmX12_moved (QI Q) M0 0 0 14 [(0, vR Y.1 a0), (1, vI x1), (2, vI x2), (3, vI x3), (4, vI x4)] [] M) (M : Mem) (h : wX12_moved_J50 Q C14 a0 x1 x3 x4 xs0 xs1 M) : WW X Y 5 rmX12_moved (QI Q) M0 0 0 50 [(0, vR Y.1 a0), (1, vI x1), (3, vI x3), (4, vI x4)] [vI xs0, vI xs1] M := by
  unfold wX12_moved_J50 at h
  refine r_iadd hC dX12_moved_50 ?_
  refine r_nameI h (fun x2_10 h => ?_)
  refine r_istore_n (lv' := [(2, vI x2_10), (0, vR Y.1 a0), (1, vI x1), (3, vI x3), (4, vI x4)]) hC dX12_moved_51 rfl (by decide) rfl ?_
  refine let_elim h (fun x4_11 e_12 h => ?_)
  refine r_iinc (lv' := [(4, vI x4_11), (2, vI x2_10), (0, vR Y.1 a0), (1, vI x1), (3, vI x3)]) hC 4 dX12_moved_52 rfl (by decide) e_12 rfl ?_
  refine r_goto hC 14 dX12_moved_55 (by decide) ?_
  refine r_sub [2, 3, 1, 4, 0] rfl ?_
  exact hC14 _ _ _ h
set_option maxHeartbeats 4000000 in
set_option maxRecDepth 100000 in
theorem tX12_moved_L14 {X : Cx} {Y : Yx} {M0 : Mem} (hC : OKX X Y RX12 cX12_moved 5 (some .int) rmX12_moved) (hF : Y.2.2.2.2 = true) (hL : Lay M0) (Q : Int → Mem → Prop) (E58 : Int → Mem → Prop) (a0 : Nat) (x1 : Int) (x3 : Int) (qa0 : 0 < a0 ∧ M0 0 a0 = kO 12) (hE58 : ∀ (x2 : Int) (M : Mem), E58 x2 M → WW X Y 5 rmX12_moved (QI Q) M0 0 0 58 [(0, vR Y.1 a0), (1, vI x1), (2, vI x2), (3, vI x3)] [] M) : ∀ (N : Nat) (x2 : Int) (x4 : Int) (M : Mem) (_ : wX12_moved_L14 Q E58 a0 x1 x3 N x2 x4 M), WW X Y 5 rmX12_moved (QI Q) M0 0 0 14 [(0, vR Y.1 a0), (1, vI x1), (2, vI x2), (3, vI x3), (4, vI x4)] [] M := by
  intro N
  induction N with
  | zero =>
    intro x2 x4 M h
    exact h.elim
  | succ N ih =>
    intro x2 x4 M h
    unfold wX12_moved_L14 at h
    refine r_iload hC 4 dX12_moved_14 rfl ?_
    refine r_iload_n hC 1 dX12_moved_16 rfl rfl ?_
    refine r_icmp_ge hC 58 rfl rfl dX12_moved_17 (by decide) (fun cq => ?_) (fun cq => ?_)
    · replace h := h.1 cq
      refine r_sub [0, 1, 2, 3] rfl ?_
      exact hE58 _ _ h
    · replace h := h.2 cq
      refine r_iload_n hC 2 dX12_moved_20 rfl rfl ?_
      refine r_aload_n hC 0 dX12_moved_21 rfl rfl ?_
      refine r_aload_n hC 0 dX12_moved_22 rfl rfl ?_
      have q_2 : 0 < a0 + 16 ∧ M0 0 (a0 + 16) = kA 0 12 := lay_f0 (a := a0) hL qa0 fm_12_30
      refine r_getR0 (a' := a0 + 16) hC fg_X12_56 rfl hF fm_12_30 qa0.1 qa0.2 rfl dX12_moved_23 ?_
      refine r_iload_n hC 3 dX12_moved_26 rfl rfl ?_
      obtain ⟨i_3, h⟩ := h
      refine r_iald hC i_3 q_2.1 q_2.2 (by decide) dX12_moved_27 ?_
      refine r_callV (As := [vI (rd M (a0 + 16) x3)]) (st := [vI x2]) hC cw_X12_174 rfl qa0.1 qa0.2 rfl rfl (Nat.le_of_ble_eq_true rfl) ⟨Nat.le_of_ble_eq_true rfl, Nat.le_of_ble_eq_true rfl⟩ ⟨Nat.le_of_ble_eq_true rfl, Nat.le_of_ble_eq_true rfl⟩ dX12_moved_28 (fun hk => mX12_placeOf Y hF _ _ _ _ _ (kqO hk qa0) h) (fun v M_4 h => ?_)
      obtain ⟨r_5, rfl, h⟩ := h
      refine r_aload_n hC 0 dX12_moved_31 rfl rfl ?_
      refine r_aload_n hC 0 dX12_moved_32 rfl rfl ?_
      have q_6 : 0 < a0 + 16 ∧ M0 0 (a0 + 16) = kA 0 12 := lay_f0 (a := a0) hL qa0 fm_12_30
      refine r_getR0 (a' := a0 + 16) hC fg_X12_56 rfl hF fm_12_30 qa0.1 qa0.2 rfl dX12_moved_33 ?_
      refine r_iload hC 4 dX12_moved_36 rfl ?_
      obtain ⟨i_7, h⟩ := h
      refine r_iald hC i_7 q_6.1 q_6.2 (by decide) dX12_moved_38 ?_
      refine r_callV (As := [vI (rd M_4 (a0 + 16) x4)]) (st := [vI r_5, vI x2]) hC cw_X12_174 rfl qa0.1 qa0.2 rfl rfl (Nat.le_of_ble_eq_true rfl) ⟨Nat.le_of_ble_eq_true rfl, Nat.le_of_ble_eq_true rfl⟩ ⟨Nat.le_of_ble_eq_true rfl, Nat.le_of_ble_eq_true rfl⟩ dX12_moved_39 (fun hk => mX12_placeOf Y hF _ _ _ _ _ (kqO hk qa0) h) (fun v M_8 h => ?_)
      obtain ⟨r_9, rfl, h⟩ := h
      refine r_icmp_le hC 49 rfl rfl dX12_moved_42 (by decide) (fun cq => ?_) (fun cq => ?_)
      · replace h := h.1 cq
        refine r_iconst hC dX12_moved_49 ?_
        refine r_sub [0, 1, 3, 4] rfl ?_
        exact tX12_moved_J50 hC hF hL Q _  _ _ _ _ _ _ qa0 ih _ h
      · replace h := h.2 cq
        refine r_iconst hC dX12_moved_45 ?_
        refine r_goto hC 50 dX12_moved_46 (by decide) ?_
        refine r_sub [0, 1, 3, 4] rfl ?_
        exact tX12_moved_J50 hC hF hL Q _  _ _ _ _ _ _ qa0 ih _ h
set_option maxHeartbeats 4000000 in
set_option maxRecDepth 100000 in
theorem tX12_moved_L4 {X : Cx} {Y : Yx} {M0 : Mem} (hC : OKX X Y RX12 cX12_moved 5 (some .int) rmX12_moved) (hF : Y.2.2.2.2 = true) (hL : Lay M0) (Q : Int → Mem → Prop)  (a0 : Nat) (x1 : Int) (qa0 : 0 < a0 ∧ M0 0 a0 = kO 12)  : ∀ (N : Nat) (x2 : Int) (x3 : Int) (M : Mem) (_ : wX12_moved_L4 Q  a0 x1 N x2 x3 M), WW X Y 5 rmX12_moved (QI Q) M0 0 0 4 [(0, vR Y.1 a0), (1, vI x1), (2, vI x2), (3, vI x3)] [] M := by
  intro N
  induction N with
  | zero =>
    intro x2 x3 M h
    exact h.elim
  | succ N ih =>
    intro x2 x3 M h
    unfold wX12_moved_L4 at h
    refine r_iload_n hC 3 dX12_moved_4 rfl rfl ?_
    refine r_iload_n hC 1 dX12_moved_5 rfl rfl ?_
    refine r_icmp_ge hC 64 rfl rfl dX12_moved_6 (by decide) (fun cq => ?_) (fun cq => ?_)
    · replace h := h.1 cq
      refine r_iload_n hC 2 dX12_moved_64 rfl rfl ?_
      exact r_iret hC (Nat.zero_le _) (Nat.zero_le _) dX12_moved_65 ⟨_, rfl, h⟩
    · replace h := h.2 cq
      refine r_iload_n hC 3 dX12_moved_9 rfl rfl ?_
      refine r_iconst hC dX12_moved_10 ?_
      refine r_iadd hC dX12_moved_11 ?_
      refine r_nameI h (fun x4_1 h => ?_)
      refine r_istore (lv' := [(4, vI x4_1), (0, vR Y.1 a0), (1, vI x1), (2, vI x2), (3, vI x3)]) hC dX12_moved_12 (by decide) rfl ?_
      refine r_sub [1, 2, 3, 4, 0] rfl ?_
      obtain ⟨N_17, h⟩ := h
      refine tX12_moved_L14 hC hF hL Q _ _ _ _ qa0 ?_ N_17 _ _ _ h
      · intro x2_13 M_14 h
        refine let_elim h (fun x3_15 e_16 h => ?_)
        refine r_iinc (lv' := [(3, vI x3_15), (0, vR Y.1 a0), (1, vI x1), (2, vI x2_13)]) hC 3 dX12_moved_58 rfl (by decide) e_16 rfl ?_
        refine r_goto hC 4 dX12_moved_61 (by decide) ?_
        refine r_sub [1, 2, 3, 0] rfl ?_
        exact ih _ _ _ h
set_option maxHeartbeats 4000000 in
set_option maxRecDepth 100000 in
theorem mX12_moved (Y : Yx) (hF : Y.2.2.2.2 = true) (l : Launch) (a0 : Nat) (x1 : Int) (M0 : Mem) (Q : Int → Mem → Prop) (qa0 : 0 < a0 ∧ M0 0 a0 = kO 12) (h : wX12_moved a0 x1 M0 Q) : CT Y l yX12_moved cX12_moved 5 (some .int) rmX12_moved [vR Y.1 a0, vI x1] M0 (QI Q) := by
  unfold wX12_moved at h
  refine ct_intro (by decide) (Nat.le_of_ble_eq_true rfl) ?_
  intro X hXl hC hL0
  have hL := hL0 hF
  change OKX X Y RX12 cX12_moved 5 (some .int) rmX12_moved at hC
  change WW X Y 5 rmX12_moved (QI Q) M0 0 0 0 [(0, vR Y.1 a0), (1, vI x1)] [] M0
  refine r_iconst hC dX12_moved_0 ?_
  refine r_istore_n (lv' := [(2, vI 0), (0, vR Y.1 a0), (1, vI x1)]) hC dX12_moved_1 rfl (by decide) rfl ?_
  refine r_iconst hC dX12_moved_2 ?_
  refine r_istore_n (lv' := [(3, vI 0), (2, vI 0), (0, vR Y.1 a0), (1, vI x1)]) hC dX12_moved_3 rfl (by decide) rfl ?_
  refine r_sub [2, 3, 1, 0] rfl ?_
  obtain ⟨N_18, h⟩ := h
  refine tX12_moved_L4 hC hF hL Q  _ _ qa0  N_18 _ _ _ h
theorem dX12_ill_0 : dec cX12_ill 0 1 1 (.iload_n 1) := ⟨by decide +kernel, rfl⟩
theorem dX12_ill_1 : dec cX12_ill 1 3 4 (.invokestatic 214) := ⟨by decide +kernel, rfl⟩
theorem dX12_ill_4 : dec cX12_ill 4 3 7 (.ifCond .eq 10) := ⟨by decide +kernel, rfl⟩
theorem dX12_ill_7 : dec cX12_ill 7 2 9 (.iload 4) := ⟨by decide +kernel, rfl⟩
theorem dX12_ill_9 : dec cX12_ill 9 2 11 (.bipush (-2)) := ⟨by decide +kernel, rfl⟩
theorem dX12_ill_11 : dec cX12_ill 11 3 14 (.if_icmp .ge 9) := ⟨by decide +kernel, rfl⟩
theorem dX12_ill_14 : dec cX12_ill 14 1 15 (.aload_n 0) := ⟨by decide +kernel, rfl⟩
theorem dX12_ill_15 : dec cX12_ill 15 1 16 (.iconst 1) := ⟨by decide +kernel, rfl⟩
theorem dX12_ill_16 : dec cX12_ill 16 3 19 (.invokevirtual 83) := ⟨by decide +kernel, rfl⟩
theorem dX12_ill_19 : dec cX12_ill 19 1 20 (.ireturn) := ⟨by decide +kernel, rfl⟩
theorem dX12_ill_20 : dec cX12_ill 20 1 21 (.aload_n 0) := ⟨by decide +kernel, rfl⟩
theorem dX12_ill_21 : dec cX12_ill 21 1 22 (.iload_n 1) := ⟨by decide +kernel, rfl⟩
theorem dX12_ill_22 : dec cX12_ill 22 1 23 (.iload_n 2) := ⟨by decide +kernel, rfl⟩
theorem dX12_ill_23 : dec cX12_ill 23 3 26 (.invokevirtual 217) := ⟨by decide +kernel, rfl⟩
theorem dX12_ill_26 : dec cX12_ill 26 2 28 (.istore 5) := ⟨by decide +kernel, rfl⟩
theorem dX12_ill_28 : dec cX12_ill 28 2 30 (.iload 5) := ⟨by decide +kernel, rfl⟩
theorem dX12_ill_30 : dec cX12_ill 30 3 33 (.ifCond .le 10) := ⟨by decide +kernel, rfl⟩
theorem dX12_ill_33 : dec cX12_ill 33 1 34 (.aload_n 0) := ⟨by decide +kernel, rfl⟩
theorem dX12_ill_34 : dec cX12_ill 34 2 36 (.iload 5) := ⟨by decide +kernel, rfl⟩
theorem dX12_ill_36 : dec cX12_ill 36 3 39 (.invokevirtual 83) := ⟨by decide +kernel, rfl⟩
theorem dX12_ill_39 : dec cX12_ill 39 1 40 (.ireturn) := ⟨by decide +kernel, rfl⟩
theorem dX12_ill_40 : dec cX12_ill 40 1 41 (.aload_n 0) := ⟨by decide +kernel, rfl⟩
theorem dX12_ill_41 : dec cX12_ill 41 3 44 (.getfield 162) := ⟨by decide +kernel, rfl⟩
theorem dX12_ill_44 : dec cX12_ill 44 1 45 (.iconst 2) := ⟨by decide +kernel, rfl⟩
theorem dX12_ill_45 : dec cX12_ill 45 2 47 (.bipush 7) := ⟨by decide +kernel, rfl⟩
theorem dX12_ill_47 : dec cX12_ill 47 3 50 (.invokestatic 79) := ⟨by decide +kernel, rfl⟩
theorem dX12_ill_50 : dec cX12_ill 50 3 53 (.ifCond .ne 9) := ⟨by decide +kernel, rfl⟩
theorem dX12_ill_53 : dec cX12_ill 53 1 54 (.aload_n 0) := ⟨by decide +kernel, rfl⟩
theorem dX12_ill_54 : dec cX12_ill 54 1 55 (.iconst 5) := ⟨by decide +kernel, rfl⟩
theorem dX12_ill_55 : dec cX12_ill 55 3 58 (.invokevirtual 83) := ⟨by decide +kernel, rfl⟩
theorem dX12_ill_58 : dec cX12_ill 58 1 59 (.ireturn) := ⟨by decide +kernel, rfl⟩
theorem dX12_ill_59 : dec cX12_ill 59 1 60 (.iload_n 3) := ⟨by decide +kernel, rfl⟩
theorem dX12_ill_60 : dec cX12_ill 60 1 61 (.iconst 0) := ⟨by decide +kernel, rfl⟩
theorem dX12_ill_61 : dec cX12_ill 61 1 62 (.aload_n 0) := ⟨by decide +kernel, rfl⟩
theorem dX12_ill_62 : dec cX12_ill 62 3 65 (.getfield 162) := ⟨by decide +kernel, rfl⟩
theorem dX12_ill_65 : dec cX12_ill 65 1 66 (.iconst 1) := ⟨by decide +kernel, rfl⟩
theorem dX12_ill_66 : dec cX12_ill 66 1 67 (.isub) := ⟨by decide +kernel, rfl⟩
theorem dX12_ill_67 : dec cX12_ill 67 3 70 (.invokestatic 79) := ⟨by decide +kernel, rfl⟩
theorem dX12_ill_70 : dec cX12_ill 70 3 73 (.ifCond .ne 9) := ⟨by decide +kernel, rfl⟩
theorem dX12_ill_73 : dec cX12_ill 73 1 74 (.aload_n 0) := ⟨by decide +kernel, rfl⟩
theorem dX12_ill_74 : dec cX12_ill 74 1 75 (.iconst 1) := ⟨by decide +kernel, rfl⟩
theorem dX12_ill_75 : dec cX12_ill 75 3 78 (.invokevirtual 83) := ⟨by decide +kernel, rfl⟩
theorem dX12_ill_78 : dec cX12_ill 78 1 79 (.ireturn) := ⟨by decide +kernel, rfl⟩
theorem dX12_ill_79 : dec cX12_ill 79 1 80 (.iconst 0) := ⟨by decide +kernel, rfl⟩
theorem dX12_ill_80 : dec cX12_ill 80 2 82 (.istore 6) := ⟨by decide +kernel, rfl⟩
theorem dX12_ill_82 : dec cX12_ill 82 1 83 (.iconst 0) := ⟨by decide +kernel, rfl⟩
theorem dX12_ill_83 : dec cX12_ill 83 2 85 (.istore 7) := ⟨by decide +kernel, rfl⟩
theorem dX12_ill_85 : dec cX12_ill 85 1 86 (.iconst 0) := ⟨by decide +kernel, rfl⟩
theorem dX12_ill_86 : dec cX12_ill 86 2 88 (.istore 8) := ⟨by decide +kernel, rfl⟩
theorem dX12_ill_88 : dec cX12_ill 88 2 90 (.iload 8) := ⟨by decide +kernel, rfl⟩
theorem dX12_ill_90 : dec cX12_ill 90 1 91 (.aload_n 0) := ⟨by decide +kernel, rfl⟩
theorem dX12_ill_91 : dec cX12_ill 91 3 94 (.getfield 162) := ⟨by decide +kernel, rfl⟩
theorem dX12_ill_94 : dec cX12_ill 94 3 97 (.if_icmp .ge 46) := ⟨by decide +kernel, rfl⟩
theorem dX12_ill_97 : dec cX12_ill 97 2 99 (.iload 8) := ⟨by decide +kernel, rfl⟩
theorem dX12_ill_99 : dec cX12_ill 99 1 100 (.iload_n 3) := ⟨by decide +kernel, rfl⟩
theorem dX12_ill_100 : dec cX12_ill 100 3 103 (.if_icmp .eq 34) := ⟨by decide +kernel, rfl⟩
theorem dX12_ill_103 : dec cX12_ill 103 1 104 (.aload_n 0) := ⟨by decide +kernel, rfl⟩
theorem dX12_ill_104 : dec cX12_ill 104 3 107 (.getfield 56) := ⟨by decide +kernel, rfl⟩
theorem dX12_ill_107 : dec cX12_ill 107 2 109 (.iload 6) := ⟨by decide +kernel, rfl⟩
theorem dX12_ill_109 : dec cX12_ill 109 1 110 (.aload_n 0) := ⟨by decide +kernel, rfl⟩
theorem dX12_ill_110 : dec cX12_ill 110 3 113 (.getfield 28) := ⟨by decide +kernel, rfl⟩
theorem dX12_ill_113 : dec cX12_ill 113 2 115 (.iload 8) := ⟨by decide +kernel, rfl⟩
theorem dX12_ill_115 : dec cX12_ill 115 1 116 (.iaload) := ⟨by decide +kernel, rfl⟩
theorem dX12_ill_116 : dec cX12_ill 116 1 117 (.iastore) := ⟨by decide +kernel, rfl⟩
theorem dX12_ill_117 : dec cX12_ill 117 2 119 (.iload 7) := ⟨by decide +kernel, rfl⟩
theorem dX12_ill_119 : dec cX12_ill 119 1 120 (.iconst 1) := ⟨by decide +kernel, rfl⟩
theorem dX12_ill_120 : dec cX12_ill 120 1 121 (.aload_n 0) := ⟨by decide +kernel, rfl⟩
theorem dX12_ill_121 : dec cX12_ill 121 3 124 (.getfield 28) := ⟨by decide +kernel, rfl⟩
theorem dX12_ill_124 : dec cX12_ill 124 2 126 (.iload 8) := ⟨by decide +kernel, rfl⟩
theorem dX12_ill_126 : dec cX12_ill 126 1 127 (.iaload) := ⟨by decide +kernel, rfl⟩
theorem dX12_ill_127 : dec cX12_ill 127 1 128 (.ishl) := ⟨by decide +kernel, rfl⟩
theorem dX12_ill_128 : dec cX12_ill 128 1 129 (.ior) := ⟨by decide +kernel, rfl⟩
theorem dX12_ill_129 : dec cX12_ill 129 2 131 (.istore 7) := ⟨by decide +kernel, rfl⟩
theorem dX12_ill_131 : dec cX12_ill 131 3 134 (.iinc 6 1) := ⟨by decide +kernel, rfl⟩
theorem dX12_ill_134 : dec cX12_ill 134 3 137 (.iinc 8 1) := ⟨by decide +kernel, rfl⟩
theorem dX12_ill_137 : dec cX12_ill 137 3 140 (.goto (-49)) := ⟨by decide +kernel, rfl⟩
theorem dX12_ill_140 : dec cX12_ill 140 1 141 (.iload_n 2) := ⟨by decide +kernel, rfl⟩
theorem dX12_ill_141 : dec cX12_ill 141 1 142 (.iload_n 3) := ⟨by decide +kernel, rfl⟩
theorem dX12_ill_142 : dec cX12_ill 142 1 143 (.iload_n 2) := ⟨by decide +kernel, rfl⟩
theorem dX12_ill_143 : dec cX12_ill 143 3 146 (.if_icmp .ge 7) := ⟨by decide +kernel, rfl⟩
theorem dX12_ill_146 : dec cX12_ill 146 1 147 (.iconst 1) := ⟨by decide +kernel, rfl⟩
theorem dX12_ill_147 : dec cX12_ill 147 3 150 (.goto 4) := ⟨by decide +kernel, rfl⟩
theorem dX12_ill_150 : dec cX12_ill 150 1 151 (.iconst 0) := ⟨by decide +kernel, rfl⟩
theorem dX12_ill_151 : dec cX12_ill 151 1 152 (.isub) := ⟨by decide +kernel, rfl⟩
theorem dX12_ill_152 : dec cX12_ill 152 2 154 (.istore 8) := ⟨by decide +kernel, rfl⟩
theorem dX12_ill_154 : dec cX12_ill 154 1 155 (.iload_n 2) := ⟨by decide +kernel, rfl⟩
theorem dX12_ill_155 : dec cX12_ill 155 3 158 (.ifCond .le 20) := ⟨by decide +kernel, rfl⟩
theorem dX12_ill_158 : dec cX12_ill 158 2 160 (.iload 8) := ⟨by decide +kernel, rfl⟩
theorem dX12_ill_160 : dec cX12_ill 160 3 163 (.ifCond .le 15) := ⟨by decide +kernel, rfl⟩
theorem dX12_ill_163 : dec cX12_ill 163 2 165 (.iload 8) := ⟨by decide +kernel, rfl⟩
theorem dX12_ill_165 : dec cX12_ill 165 2 167 (.iload 6) := ⟨by decide +kernel, rfl⟩
theorem dX12_ill_167 : dec cX12_ill 167 3 170 (.if_icmp .ge 8) := ⟨by decide +kernel, rfl⟩
theorem dX12_ill_170 : dec cX12_ill 170 2 172 (.iload 8) := ⟨by decide +kernel, rfl⟩
theorem dX12_ill_172 : dec cX12_ill 172 3 175 (.goto 4) := ⟨by decide +kernel, rfl⟩
theorem dX12_ill_175 : dec cX12_ill 175 1 176 (.iconst 0) := ⟨by decide +kernel, rfl⟩
theorem dX12_ill_176 : dec cX12_ill 176 2 178 (.istore 9) := ⟨by decide +kernel, rfl⟩
theorem dX12_ill_178 : dec cX12_ill 178 1 179 (.iconst (-1)) := ⟨by decide +kernel, rfl⟩
theorem dX12_ill_179 : dec cX12_ill 179 2 181 (.istore 10) := ⟨by decide +kernel, rfl⟩
theorem dX12_ill_181 : dec cX12_ill 181 1 182 (.aload_n 0) := ⟨by decide +kernel, rfl⟩
theorem dX12_ill_182 : dec cX12_ill 182 2 184 (.iload 7) := ⟨by decide +kernel, rfl⟩
theorem dX12_ill_184 : dec cX12_ill 184 3 187 (.invokevirtual 254) := ⟨by decide +kernel, rfl⟩
theorem dX12_ill_187 : dec cX12_ill 187 1 188 (.aload_n 0) := ⟨by decide +kernel, rfl⟩
theorem dX12_ill_188 : dec cX12_ill 188 2 190 (.iload 9) := ⟨by decide +kernel, rfl⟩
theorem dX12_ill_190 : dec cX12_ill 190 3 193 (.putfield 159) := ⟨by decide +kernel, rfl⟩
theorem dX12_ill_193 : dec cX12_ill 193 1 194 (.iconst 1) := ⟨by decide +kernel, rfl⟩
theorem dX12_ill_194 : dec cX12_ill 194 2 196 (.istore 11) := ⟨by decide +kernel, rfl⟩
theorem dX12_ill_196 : dec cX12_ill 196 2 198 (.iload 11) := ⟨by decide +kernel, rfl⟩
theorem dX12_ill_198 : dec cX12_ill 198 3 201 (.ifCond .eq 76) := ⟨by decide +kernel, rfl⟩
theorem dX12_ill_201 : dec cX12_ill 201 1 202 (.aload_n 0) := ⟨by decide +kernel, rfl⟩
theorem dX12_ill_202 : dec cX12_ill 202 3 205 (.invokevirtual 211) := ⟨by decide +kernel, rfl⟩
theorem dX12_ill_205 : dec cX12_ill 205 1 206 (.aload_n 0) := ⟨by decide +kernel, rfl⟩
theorem dX12_ill_206 : dec cX12_ill 206 3 209 (.invokevirtual 228) := ⟨by decide +kernel, rfl⟩
theorem dX12_ill_209 : dec cX12_ill 209 3 212 (.ifCond .eq 56) := ⟨by decide +kernel, rfl⟩
theorem dX12_ill_212 : dec cX12_ill 212 1 213 (.aload_n 0) := ⟨by decide +kernel, rfl⟩
theorem dX12_ill_213 : dec cX12_ill 213 2 215 (.iload 6) := ⟨by decide +kernel, rfl⟩
theorem dX12_ill_215 : dec cX12_ill 215 3 218 (.invokevirtual 292) := ⟨by decide +kernel, rfl⟩
theorem dX12_ill_218 : dec cX12_ill 218 2 220 (.istore 12) := ⟨by decide +kernel, rfl⟩
theorem dX12_ill_220 : dec cX12_ill 220 1 221 (.aload_n 0) := ⟨by decide +kernel, rfl⟩
theorem dX12_ill_221 : dec cX12_ill 221 3 224 (.invokevirtual 220) := ⟨by decide +kernel, rfl⟩
theorem dX12_ill_224 : dec cX12_ill 224 2 226 (.lstore 13) := ⟨by decide +kernel, rfl⟩
theorem dX12_ill_226 : dec cX12_ill 226 2 228 (.iload 10) := ⟨by decide +kernel, rfl⟩
theorem dX12_ill_228 : dec cX12_ill 228 3 231 (.ifCond .lt 27) := ⟨by decide +kernel, rfl⟩
theorem dX12_ill_231 : dec cX12_ill 231 2 233 (.iload 12) := ⟨by decide +kernel, rfl⟩
theorem dX12_ill_233 : dec cX12_ill 233 2 235 (.iload 10) := ⟨by decide +kernel, rfl⟩
theorem dX12_ill_235 : dec cX12_ill 235 3 238 (.if_icmp .lt 20) := ⟨by decide +kernel, rfl⟩
theorem dX12_ill_238 : dec cX12_ill 238 2 240 (.iload 12) := ⟨by decide +kernel, rfl⟩
theorem dX12_ill_240 : dec cX12_ill 240 2 242 (.iload 10) := ⟨by decide +kernel, rfl⟩
theorem dX12_ill_242 : dec cX12_ill 242 3 245 (.if_icmp .ne 23) := ⟨by decide +kernel, rfl⟩
theorem dX12_ill_245 : dec cX12_ill 245 2 247 (.lload 13) := ⟨by decide +kernel, rfl⟩
theorem dX12_ill_247 : dec cX12_ill 247 1 248 (.aload_n 0) := ⟨by decide +kernel, rfl⟩
theorem dX12_ill_248 : dec cX12_ill 248 3 251 (.getfield 240) := ⟨by decide +kernel, rfl⟩
theorem dX12_ill_251 : dec cX12_ill 251 1 252 (.lcmp) := ⟨by decide +kernel, rfl⟩
theorem dX12_ill_252 : dec cX12_ill 252 3 255 (.ifCond .le 13) := ⟨by decide +kernel, rfl⟩
theorem dX12_ill_255 : dec cX12_ill 255 2 257 (.iload 12) := ⟨by decide +kernel, rfl⟩
theorem dX12_ill_257 : dec cX12_ill 257 2 259 (.istore 10) := ⟨by decide +kernel, rfl⟩
theorem dX12_ill_259 : dec cX12_ill 259 1 260 (.aload_n 0) := ⟨by decide +kernel, rfl⟩
theorem dX12_ill_260 : dec cX12_ill 260 2 262 (.lload 13) := ⟨by decide +kernel, rfl⟩
theorem dX12_ill_262 : dec cX12_ill 262 3 265 (.invokevirtual 250) := ⟨by decide +kernel, rfl⟩
theorem dX12_ill_265 : dec cX12_ill 265 1 266 (.aload_n 0) := ⟨by decide +kernel, rfl⟩
theorem dX12_ill_266 : dec cX12_ill 266 3 269 (.invokevirtual 261) := ⟨by decide +kernel, rfl⟩
theorem dX12_ill_269 : dec cX12_ill 269 2 271 (.istore 11) := ⟨by decide +kernel, rfl⟩
theorem dX12_ill_271 : dec cX12_ill 271 3 274 (.goto (-75)) := ⟨by decide +kernel, rfl⟩
theorem dX12_ill_274 : dec cX12_ill 274 2 276 (.iload 10) := ⟨by decide +kernel, rfl⟩
theorem dX12_ill_276 : dec cX12_ill 276 3 279 (.ifCond .lt 10) := ⟨by decide +kernel, rfl⟩
theorem dX12_ill_279 : dec cX12_ill 279 2 281 (.iload 4) := ⟨by decide +kernel, rfl⟩
theorem dX12_ill_281 : dec cX12_ill 281 2 283 (.iload 6) := ⟨by decide +kernel, rfl⟩
theorem dX12_ill_283 : dec cX12_ill 283 3 286 (.if_icmp .lt 9) := ⟨by decide +kernel, rfl⟩
theorem dX12_ill_286 : dec cX12_ill 286 1 287 (.aload_n 0) := ⟨by decide +kernel, rfl⟩
theorem dX12_ill_287 : dec cX12_ill 287 1 288 (.iconst 2) := ⟨by decide +kernel, rfl⟩
theorem dX12_ill_288 : dec cX12_ill 288 3 291 (.invokevirtual 83) := ⟨by decide +kernel, rfl⟩
theorem dX12_ill_291 : dec cX12_ill 291 1 292 (.ireturn) := ⟨by decide +kernel, rfl⟩
theorem dX12_ill_292 : dec cX12_ill 292 2 294 (.iload 4) := ⟨by decide +kernel, rfl⟩
theorem dX12_ill_294 : dec cX12_ill 294 1 295 (.iconst (-1)) := ⟨by decide +kernel, rfl⟩
theorem dX12_ill_295 : dec cX12_ill 295 3 298 (.if_icmp .ne 8) := ⟨by decide +kernel, rfl⟩
theorem dX12_ill_298 : dec cX12_ill 298 2 300 (.iload 10) := ⟨by decide +kernel, rfl⟩
theorem dX12_ill_300 : dec cX12_ill 300 3 303 (.goto 22) := ⟨by decide +kernel, rfl⟩
theorem dX12_ill_303 : dec cX12_ill 303 2 305 (.iload 4) := ⟨by decide +kernel, rfl⟩
theorem dX12_ill_305 : dec cX12_ill 305 2 307 (.bipush (-2)) := ⟨by decide +kernel, rfl⟩
theorem dX12_ill_307 : dec cX12_ill 307 3 310 (.if_icmp .ne 8) := ⟨by decide +kernel, rfl⟩
theorem dX12_ill_310 : dec cX12_ill 310 2 312 (.iload 9) := ⟨by decide +kernel, rfl⟩
theorem dX12_ill_312 : dec cX12_ill 312 3 315 (.goto 10) := ⟨by decide +kernel, rfl⟩
theorem dX12_ill_315 : dec cX12_ill 315 1 316 (.aload_n 0) := ⟨by decide +kernel, rfl⟩
theorem dX12_ill_316 : dec cX12_ill 316 3 319 (.getfield 40) := ⟨by decide +kernel, rfl⟩
theorem dX12_ill_319 : dec cX12_ill 319 2 321 (.iload 4) := ⟨by decide +kernel, rfl⟩
theorem dX12_ill_321 : dec cX12_ill 321 1 322 (.iaload) := ⟨by decide +kernel, rfl⟩
theorem dX12_ill_322 : dec cX12_ill 322 1 323 (.ireturn) := ⟨by decide +kernel, rfl⟩
set_option maxHeartbeats 4000000 in
set_option maxRecDepth 100000 in
theorem tX12_ill_J14 {X : Cx} {Y : Yx} {M0 : Mem} (hC : OKX X Y RX12 cX12_ill 15 (some .int) rmX12_ill) (hF : Y.2.2.2.2 = true) (hL : Lay M0) (Q : Int → Mem → Prop)   (a0 : Nat) (qa0 : 0 < a0 ∧ M0 0 a0 = kO 12)  (M : Mem) (h : wX12_ill_J14 Q  a0 M) : WW X Y 15 rmX12_ill (QI Q) M0 0 0 14 [(0, vR Y.1 a0)] [] M := by
  unfold wX12_ill_J14 at h
  refine r_aload_n hC 0 dX12_ill_14 rfl rfl ?_
  refine r_iconst hC dX12_ill_15 ?_
  refine r_callV (As := [vI 1]) (st := []) hC cw_X12_83 rfl qa0.1 qa0.2 rfl rfl (Nat.le_of_ble_eq_true rfl) ⟨Nat.le_of_ble_eq_true rfl, Nat.le_of_ble_eq_true rfl⟩ ⟨Nat.le_of_ble_eq_true rfl, Nat.le_of_ble_eq_true rfl⟩ dX12_ill_16 (fun hk => mX12_error Y hF _ _ _ _ _ (kqO hk qa0) h) (fun v M_3 h => ?_)
  obtain ⟨r_4, rfl, h⟩ := h
  exact r_iret hC (Nat.zero_le _) (Nat.zero_le _) dX12_ill_19 ⟨_, rfl, h⟩
set_option maxHeartbeats 4000000 in
set_option maxRecDepth 100000 in
theorem tX12_ill_L88 {X : Cx} {Y : Yx} {M0 : Mem} (hC : OKX X Y RX12 cX12_ill 15 (some .int) rmX12_ill) (hF : Y.2.2.2.2 = true) (hL : Lay M0) (Q : Int → Mem → Prop) (E140 : Int → Int → Mem → Prop) (a0 : Nat) (x2 : Int) (x3 : Int) (x4 : Int) (qa0 : 0 < a0 ∧ M0 0 a0 = kO 12) (hE140 : ∀ (x6 : Int) (x7 : Int) (M : Mem), E140 x6 x7 M → WW X Y 15 rmX12_ill (QI Q) M0 0 0 140 [(0, vR Y.1 a0), (2, vI x2), (3, vI x3), (4, vI x4), (6, vI x6), (7, vI x7)] [] M) : ∀ (N : Nat) (x6 : Int) (x7 : Int) (x8 : Int) (M : Mem) (_ : wX12_ill_L88 Q E140 a0 x2 x3 x4 N x6 x7 x8 M), WW X Y 15 rmX12_ill (QI Q) M0 0 0 88 [(0, vR Y.1 a0), (2, vI x2), (3, vI x3), (4, vI x4), (6, vI x6), (7, vI x7), (8, vI x8)] [] M := by
  intro N
  induction N with
  | zero =>
    intro x6 x7 x8 M h
    exact h.elim
  | succ N ih =>
    intro x6 x7 x8 M h
    unfold wX12_ill_L88 at h
    refine r_iload hC 6 dX12_ill_88 rfl ?_
    refine r_aload_n hC 0 dX12_ill_90 rfl rfl ?_
    refine r_getI hC fg_X12_162 rfl qa0.1 qa0.2 dX12_ill_91 ?_
    refine r_icmp_ge hC 140 rfl rfl dX12_ill_94 (by decide) (fun cq => ?_) (fun cq => ?_)
    · replace h := h.1 cq
      refine r_sub [0, 1, 2, 3, 4, 5] rfl ?_
      exact hE140 _ _ _ h
    · replace h := h.2 cq
      refine r_iload hC 6 dX12_ill_97 rfl ?_
      refine r_iload_n hC 2 dX12_ill_99 rfl rfl ?_
      refine r_icmp_eq hC 134 rfl rfl dX12_ill_100 (by decide) (fun cq => ?_) (fun cq => ?_)
      · replace h := h.1 cq
        refine let_elim h (fun x8_11 e_12 h => ?_)
        refine r_iinc (lv' := [(8, vI x8_11), (0, vR Y.1 a0), (2, vI x2), (3, vI x3), (4, vI x4), (6, vI x6), (7, vI x7)]) hC 6 dX12_ill_134 rfl (by decide) e_12 rfl ?_
        refine r_goto hC 88 dX12_ill_137 (by decide) ?_
        refine r_sub [1, 2, 3, 4, 5, 6, 0] rfl ?_
        exact ih _ _ _ _ h
      · replace h := h.2 cq
        refine r_aload_n hC 0 dX12_ill_103 rfl rfl ?_
        have q_13 : 0 < a0 + 16 ∧ M0 0 (a0 + 16) = kA 0 12 := lay_f0 (a := a0) hL qa0 fm_12_30
        refine r_getR0 (a' := a0 + 16) hC fg_X12_56 rfl hF fm_12_30 qa0.1 qa0.2 rfl dX12_ill_104 ?_
        refine r_iload hC 4 dX12_ill_107 rfl ?_
        refine r_aload_n hC 0 dX12_ill_109 rfl rfl ?_
        have q_14 : 0 < a0 + 7 ∧ M0 0 (a0 + 7) = kA 0 12 := lay_f0 (a := a0) hL qa0 fm_12_12
        refine r_getR0 (a' := a0 + 7) hC fg_X12_28 rfl hF fm_12_12 qa0.1 qa0.2 rfl dX12_ill_110 ?_
        refine r_iload hC 6 dX12_ill_113 rfl ?_
        obtain ⟨i_15, h⟩ := h
        refine r_iald hC i_15 q_14.1 q_14.2 (by decide) dX12_ill_115 ?_
        obtain ⟨i_16, h⟩ := h
        refine r_iast hC i_16 q_13.1 q_13.2 (by decide) dX12_ill_116 ?_
        refine r_nameM h (fun M_17 h => ?_)
        refine r_iload hC 5 dX12_ill_117 rfl ?_
        refine r_iconst hC dX12_ill_119 ?_
        refine r_aload_n hC 0 dX12_ill_120 rfl rfl ?_
        have q_18 : 0 < a0 + 7 ∧ M0 0 (a0 + 7) = kA 0 12 := lay_f0 (a := a0) hL qa0 fm_12_12
        refine r_getR0 (a' := a0 + 7) hC fg_X12_28 rfl hF fm_12_12 qa0.1 qa0.2 rfl dX12_ill_121 ?_
        refine r_iload hC 6 dX12_ill_124 rfl ?_
        obtain ⟨i_19, h⟩ := h
        refine r_iald hC i_19 q_18.1 q_18.2 (by decide) dX12_ill_126 ?_
        refine r_ishl hC dX12_ill_127 ?_
        refine r_ior hC dX12_ill_128 ?_
        refine r_nameI h (fun x7_20 h => ?_)
        refine r_istore (lv' := [(7, vI x7_20), (0, vR Y.1 a0), (2, vI x2), (3, vI x3), (4, vI x4), (6, vI x6), (8, vI x8)]) hC dX12_ill_129 (by decide) rfl ?_
        refine let_elim h (fun x6_21 e_22 h => ?_)
        refine r_iinc (lv' := [(6, vI x6_21), (7, vI x7_20), (0, vR Y.1 a0), (2, vI x2), (3, vI x3), (4, vI x4), (8, vI x8)]) hC 5 dX12_ill_131 rfl (by decide) e_22 rfl ?_
        refine let_elim h (fun x8_23 e_24 h => ?_)
        refine r_iinc (lv' := [(8, vI x8_23), (6, vI x6_21), (7, vI x7_20), (0, vR Y.1 a0), (2, vI x2), (3, vI x3), (4, vI x4)]) hC 6 dX12_ill_134 rfl (by decide) e_24 rfl ?_
        refine r_goto hC 88 dX12_ill_137 (by decide) ?_
        refine r_sub [3, 4, 5, 6, 1, 2, 0] rfl ?_
        exact ih _ _ _ _ h
set_option maxHeartbeats 4000000 in
set_option maxRecDepth 100000 in
theorem tX12_ill_J265 {X : Cx} {Y : Yx} {M0 : Mem} (hC : OKX X Y RX12 cX12_ill 15 (some .int) rmX12_ill) (hF : Y.2.2.2.2 = true) (hL : Lay M0) (Q : Int → Mem → Prop) (C196 : Int → Int → Mem → Prop)  (a0 : Nat) (x4 : Int) (x6 : Int) (x9 : Int) (x10 : Int) (qa0 : 0 < a0 ∧ M0 0 a0 = kO 12) (hC196 : ∀ (x10 : Int) (x11 : Int) (M : Mem), C196 x10 x11 M → WW X Y 15 rmX12_ill (QI Q) M0 0 0 196 [(0, vR Y.1 a0), (4, vI x4), (6, vI x6), (9, vI x9), (10, vI x10), (11, vI x11)] [] M) (M : Mem) (h : wX12_ill_J265 Q C196 a0 x4 x6 x9 x10 M) : WW X Y 15 rmX12_ill (QI Q) M0 0 0 265 [(0, vR Y.1 a0), (4, vI x4), (6, vI x6), (9, vI x9), (10, vI x10)] [] M := by
  unfold wX12_ill_J265 at h
  refine r_aload_n hC 0 dX12_ill_265 rfl rfl ?_
  refine r_callV (As := []) (st := []) hC cw_X12_261 rfl qa0.1 qa0.2 rfl rfl (Nat.le_of_ble_eq_true rfl) ⟨Nat.le_of_ble_eq_true rfl, Nat.le_of_ble_eq_true rfl⟩ ⟨Nat.le_of_ble_eq_true rfl, Nat.le_of_ble_eq_true rfl⟩ dX12_ill_266 (fun hk => mX12_nextOrder Y hF _ _ _ _ (kqO hk qa0) h) (fun v M_35 h => ?_)
  obtain ⟨r_36, rfl, h⟩ := h
  refine r_istore (lv' := [(11, vI r_36), (0, vR Y.1 a0), (4, vI x4), (6, vI x6), (9, vI x9), (10, vI x10)]) hC dX12_ill_269 (by decide) rfl ?_
  refine r_goto hC 196 dX12_ill_271 (by decide) ?_
  refine r_sub [1, 2, 3, 4, 5, 0] rfl ?_
  exact hC196 _ _ _ h
set_option maxHeartbeats 4000000 in
set_option maxRecDepth 100000 in
theorem tX12_ill_J255 {X : Cx} {Y : Yx} {M0 : Mem} (hC : OKX X Y RX12 cX12_ill 15 (some .int) rmX12_ill) (hF : Y.2.2.2.2 = true) (hL : Lay M0) (Q : Int → Mem → Prop) (C196 : Int → Int → Mem → Prop)  (a0 : Nat) (x4 : Int) (x6 : Int) (x9 : Int) (x12 : Int) (l13 : Int) (qa0 : 0 < a0 ∧ M0 0 a0 = kO 12) (hC196 : ∀ (x10 : Int) (x11 : Int) (M : Mem), C196 x10 x11 M → WW X Y 15 rmX12_ill (QI Q) M0 0 0 196 [(0, vR Y.1 a0), (4, vI x4), (6, vI x6), (9, vI x9), (10, vI x10), (11, vI x11)] [] M) (M : Mem) (h : wX12_ill_J255 Q C196 a0 x4 x6 x9 x12 l13 M) : WW X Y 15 rmX12_ill (QI Q) M0 0 0 255 [(0, vR Y.1 a0), (4, vI x4), (6, vI x6), (9, vI x9), (12, vI x12), (13, vL l13)] [] M := by
  unfold wX12_ill_J255 at h
  refine r_iload hC 4 dX12_ill_255 rfl ?_
  refine r_istore (lv' := [(10, vI x12), (0, vR Y.1 a0), (4, vI x4), (6, vI x6), (9, vI x9), (12, vI x12), (13, vL l13)]) hC dX12_ill_257 (by decide) rfl ?_
  refine r_aload_n hC 1 dX12_ill_259 rfl rfl ?_
  refine r_lload hC 6 dX12_ill_260 rfl ?_
  refine r_callV (As := [vL l13]) (st := []) hC cw_X12_250 rfl qa0.1 qa0.2 rfl rfl (Nat.le_of_ble_eq_true rfl) ⟨Nat.le_of_ble_eq_true rfl, Nat.le_of_ble_eq_true rfl⟩ ⟨Nat.le_of_ble_eq_true rfl, Nat.le_of_ble_eq_true rfl⟩ dX12_ill_262 (fun hk => mX12_isBest Y hF _ _ _ _ _ (kqO hk qa0) h) (fun v M_41 h => ?_)
  obtain ⟨rfl, h⟩ := h
  refine r_sub [1, 2, 3, 4, 0] rfl ?_
  exact tX12_ill_J265 hC hF hL Q _  _ _ _ _ _ qa0 hC196 _ h
set_option maxHeartbeats 4000000 in
set_option maxRecDepth 100000 in
theorem tX12_ill_L196 {X : Cx} {Y : Yx} {M0 : Mem} (hC : OKX X Y RX12 cX12_ill 15 (some .int) rmX12_ill) (hF : Y.2.2.2.2 = true) (hL : Lay M0) (Q : Int → Mem → Prop) (E274 : Int → Mem → Prop) (a0 : Nat) (x4 : Int) (x6 : Int) (x9 : Int) (qa0 : 0 < a0 ∧ M0 0 a0 = kO 12) (hE274 : ∀ (x10 : Int) (M : Mem), E274 x10 M → WW X Y 15 rmX12_ill (QI Q) M0 0 0 274 [(0, vR Y.1 a0), (4, vI x4), (6, vI x6), (9, vI x9), (10, vI x10)] [] M) : ∀ (N : Nat) (x10 : Int) (x11 : Int) (M : Mem) (_ : wX12_ill_L196 Q E274 a0 x4 x6 x9 N x10 x11 M), WW X Y 15 rmX12_ill (QI Q) M0 0 0 196 [(0, vR Y.1 a0), (4, vI x4), (6, vI x6), (9, vI x9), (10, vI x10), (11, vI x11)] [] M := by
  intro N
  induction N with
  | zero =>
    intro x10 x11 M h
    exact h.elim
  | succ N ih =>
    intro x10 x11 M h
    unfold wX12_ill_L196 at h
    refine r_iload hC 5 dX12_ill_196 rfl ?_
    refine r_if_eq hC 274 rfl dX12_ill_198 (by decide) (fun cq => ?_) (fun cq => ?_)
    · replace h := h.1 cq
      refine r_sub [0, 1, 2, 3, 4] rfl ?_
      exact hE274 _ _ h
    · replace h := h.2 cq
      refine r_aload_n hC 0 dX12_ill_201 rfl rfl ?_
      refine r_callV (As := []) (st := []) hC cw_X12_211 rfl qa0.1 qa0.2 rfl rfl (Nat.le_of_ble_eq_true rfl) ⟨Nat.le_of_ble_eq_true rfl, Nat.le_of_ble_eq_true rfl⟩ ⟨Nat.le_of_ble_eq_true rfl, Nat.le_of_ble_eq_true rfl⟩ dX12_ill_202 (fun hk => mX12_layRow Y hF _ _ _ _ (kqO hk qa0) h) (fun v M_32 h => ?_)
      obtain ⟨rfl, h⟩ := h
      refine r_aload_n hC 0 dX12_ill_205 rfl rfl ?_
      refine r_callV (As := []) (st := []) hC cw_X12_228 rfl qa0.1 qa0.2 rfl rfl (Nat.le_of_ble_eq_true rfl) ⟨Nat.le_of_ble_eq_true rfl, Nat.le_of_ble_eq_true rfl⟩ ⟨Nat.le_of_ble_eq_true rfl, Nat.le_of_ble_eq_true rfl⟩ dX12_ill_206 (fun hk => mX12_isGood Y hF _ _ _ _ (kqO hk qa0) h) (fun v M_33 h => ?_)
      obtain ⟨r_34, rfl, h⟩ := h
      refine r_if_eq hC 265 rfl dX12_ill_209 (by decide) (fun cq => ?_) (fun cq => ?_)
      · replace h := h.1 cq
        refine r_sub [0, 1, 2, 3, 4] rfl ?_
        exact tX12_ill_J265 hC hF hL Q _  _ _ _ _ _ qa0 ih _ h
      · replace h := h.2 cq
        refine r_aload_n hC 0 dX12_ill_212 rfl rfl ?_
        refine r_iload hC 2 dX12_ill_213 rfl ?_
        refine r_callV (As := [vI x6]) (st := []) hC cw_X12_292 rfl qa0.1 qa0.2 rfl rfl (Nat.le_of_ble_eq_true rfl) ⟨Nat.le_of_ble_eq_true rfl, Nat.le_of_ble_eq_true rfl⟩ ⟨Nat.le_of_ble_eq_true rfl, Nat.le_of_ble_eq_true rfl⟩ dX12_ill_215 (fun hk => mX12_moved Y hF _ _ _ _ _ (kqO hk qa0) h) (fun v M_37 h => ?_)
        obtain ⟨r_38, rfl, h⟩ := h
        refine r_istore (lv' := [(12, vI r_38), (0, vR Y.1 a0), (4, vI x4), (6, vI x6), (9, vI x9), (10, vI x10), (11, vI x11)]) hC dX12_ill_218 (by decide) rfl ?_
        refine r_aload_n hC 1 dX12_ill_220 rfl rfl ?_
        refine r_callV (As := []) (st := []) hC cw_X12_220 rfl qa0.1 qa0.2 rfl rfl (Nat.le_of_ble_eq_true rfl) ⟨Nat.le_of_ble_eq_true rfl, Nat.le_of_ble_eq_true rfl⟩ ⟨Nat.le_of_ble_eq_true rfl, Nat.le_of_ble_eq_true rfl⟩ dX12_ill_221 (fun hk => mX12_worthNow Y hF _ _ _ _ (kqO hk qa0) h) (fun v M_39 h => ?_)
        obtain ⟨r_40, rfl, h⟩ := h
        refine r_lstore (lv' := [(13, vL r_40), (12, vI r_38), (0, vR Y.1 a0), (4, vI x4), (6, vI x6), (9, vI x9), (10, vI x10), (11, vI x11)]) hC dX12_ill_224 (by decide) rfl ?_
        refine r_iload hC 6 dX12_ill_226 rfl ?_
        refine r_if_lt hC 255 rfl dX12_ill_228 (by decide) (fun cq => ?_) (fun cq => ?_)
        · replace h := h.1 cq
          refine r_sub [2, 3, 4, 5, 1, 0] rfl ?_
          exact tX12_ill_J255 hC hF hL Q _  _ _ _ _ _ _ qa0 ih _ h
        · replace h := h.2 cq
          refine r_iload hC 1 dX12_ill_231 rfl ?_
          refine r_iload hC 6 dX12_ill_233 rfl ?_
          refine r_icmp_lt hC 255 rfl rfl dX12_ill_235 (by decide) (fun cq => ?_) (fun cq => ?_)
          · replace h := h.1 cq
            refine r_sub [2, 3, 4, 5, 1, 0] rfl ?_
            exact tX12_ill_J255 hC hF hL Q _  _ _ _ _ _ _ qa0 ih _ h
          · replace h := h.2 cq
            refine r_iload hC 1 dX12_ill_238 rfl ?_
            refine r_iload hC 6 dX12_ill_240 rfl ?_
            refine r_icmp_ne hC 265 rfl rfl dX12_ill_242 (by decide) (fun cq => ?_) (fun cq => ?_)
            · replace h := h.2 cq
              refine r_sub [2, 3, 4, 5, 6] rfl ?_
              exact tX12_ill_J265 hC hF hL Q _  _ _ _ _ _ qa0 ih _ h
            · replace h := h.1 cq
              refine r_lload hC 0 dX12_ill_245 rfl ?_
              refine r_aload_n hC 2 dX12_ill_247 rfl rfl ?_
              refine r_getL hC fg_X12_240 rfl qa0.1 qa0.2 dX12_ill_248 ?_
              refine r_lcmp hC dX12_ill_251 ?_
              refine r_if_le hC 265 rfl dX12_ill_252 (by decide) (fun cq => ?_) (fun cq => ?_)
              · replace h := h.1 cq
                refine r_sub [2, 3, 4, 5, 6] rfl ?_
                exact tX12_ill_J265 hC hF hL Q _  _ _ _ _ _ qa0 ih _ h
              · replace h := h.2 cq
                refine r_sub [2, 3, 4, 5, 1, 0] rfl ?_
                exact tX12_ill_J255 hC hF hL Q _  _ _ _ _ _ _ qa0 ih _ h
set_option maxHeartbeats 4000000 in
set_option maxRecDepth 100000 in
theorem tX12_ill_J286 {X : Cx} {Y : Yx} {M0 : Mem} (hC : OKX X Y RX12 cX12_ill 15 (some .int) rmX12_ill) (hF : Y.2.2.2.2 = true) (hL : Lay M0) (Q : Int → Mem → Prop)   (a0 : Nat) (qa0 : 0 < a0 ∧ M0 0 a0 = kO 12)  (M : Mem) (h : wX12_ill_J286 Q  a0 M) : WW X Y 15 rmX12_ill (QI Q) M0 0 0 286 [(0, vR Y.1 a0)] [] M := by
  unfold wX12_ill_J286 at h
  refine r_aload_n hC 0 dX12_ill_286 rfl rfl ?_
  refine r_iconst hC dX12_ill_287 ?_
  refine r_callV (As := [vI 2]) (st := []) hC cw_X12_83 rfl qa0.1 qa0.2 rfl rfl (Nat.le_of_ble_eq_true rfl) ⟨Nat.le_of_ble_eq_true rfl, Nat.le_of_ble_eq_true rfl⟩ ⟨Nat.le_of_ble_eq_true rfl, Nat.le_of_ble_eq_true rfl⟩ dX12_ill_288 (fun hk => mX12_error Y hF _ _ _ _ _ (kqO hk qa0) h) (fun v M_44 h => ?_)
  obtain ⟨r_45, rfl, h⟩ := h
  exact r_iret hC (Nat.zero_le _) (Nat.zero_le _) dX12_ill_291 ⟨_, rfl, h⟩
set_option maxHeartbeats 4000000 in
set_option maxRecDepth 100000 in
theorem tX12_ill_J176 {X : Cx} {Y : Yx} {M0 : Mem} (hC : OKX X Y RX12 cX12_ill 15 (some .int) rmX12_ill) (hF : Y.2.2.2.2 = true) (hL : Lay M0) (Q : Int → Mem → Prop)   (a0 : Nat) (x4 : Int) (x6 : Int) (x7 : Int) (xs0 : Int) (qa0 : 0 < a0 ∧ M0 0 a0 = kO 12)  (M : Mem) (h : wX12_ill_J176 Q  a0 x4 x6 x7 xs0 M) : WW X Y 15 rmX12_ill (QI Q) M0 0 0 176 [(0, vR Y.1 a0), (4, vI x4), (6, vI x6), (7, vI x7)] [vI xs0] M := by
  unfold wX12_ill_J176 at h
  refine r_istore (lv' := [(9, vI xs0), (0, vR Y.1 a0), (4, vI x4), (6, vI x6), (7, vI x7)]) hC dX12_ill_176 (by decide) rfl ?_
  refine r_iconst hC dX12_ill_178 ?_
  refine r_nameI h (fun x10_29 h => ?_)
  refine r_istore (lv' := [(10, vI x10_29), (9, vI xs0), (0, vR Y.1 a0), (4, vI x4), (6, vI x6), (7, vI x7)]) hC dX12_ill_179 (by decide) rfl ?_
  refine r_aload_n hC 2 dX12_ill_181 rfl rfl ?_
  refine r_iload hC 5 dX12_ill_182 rfl ?_
  refine r_callV (As := [vI x7]) (st := []) hC cw_X12_254 rfl qa0.1 qa0.2 rfl rfl (Nat.le_of_ble_eq_true rfl) ⟨Nat.le_of_ble_eq_true rfl, Nat.le_of_ble_eq_true rfl⟩ ⟨Nat.le_of_ble_eq_true rfl, Nat.le_of_ble_eq_true rfl⟩ dX12_ill_184 (fun hk => mX12_firstOrder Y hF _ _ _ _ _ (kqO hk qa0) h) (fun v M_30 h => ?_)
  obtain ⟨rfl, h⟩ := h
  refine r_aload_n hC 2 dX12_ill_187 rfl rfl ?_
  refine r_iload hC 1 dX12_ill_188 rfl ?_
  refine r_putI hC fp_X12_159 rfl qa0.1 qa0.2 dX12_ill_190 ?_
  refine r_nameM h (fun M_31 h => ?_)
  refine r_iconst hC dX12_ill_193 ?_
  refine r_istore (lv' := [(11, vI 1), (10, vI x10_29), (9, vI xs0), (0, vR Y.1 a0), (4, vI x4), (6, vI x6), (7, vI x7)]) hC dX12_ill_194 (by decide) rfl ?_
  refine r_sub [3, 4, 5, 2, 1, 0] rfl ?_
  obtain ⟨N_48, h⟩ := h
  refine tX12_ill_L196 hC hF hL Q _ _ _ _ _ qa0 ?_ N_48 _ _ _ h
  · intro x10_42 M_43 h
    refine r_iload hC 4 dX12_ill_274 rfl ?_
    refine r_if_lt hC 286 rfl dX12_ill_276 (by decide) (fun cq => ?_) (fun cq => ?_)
    · replace h := h.1 cq
      refine r_sub [0] rfl ?_
      exact tX12_ill_J286 hC hF hL Q   _ qa0  _ h
    · replace h := h.2 cq
      refine r_iload hC 1 dX12_ill_279 rfl ?_
      refine r_iload hC 2 dX12_ill_281 rfl ?_
      refine r_icmp_lt hC 292 rfl rfl dX12_ill_283 (by decide) (fun cq => ?_) (fun cq => ?_)
      · replace h := h.1 cq
        refine r_iload hC 1 dX12_ill_292 rfl ?_
        refine r_iconst hC dX12_ill_294 ?_
        refine r_icmp_ne hC 303 rfl bmL_m1 dX12_ill_295 (by decide) (fun cq => ?_) (fun cq => ?_)
        · replace h := h.2 cq
          refine r_iload hC 1 dX12_ill_303 rfl ?_
          refine r_bipush hC (by decide +kernel) dX12_ill_305 ?_
          refine r_icmp_ne hC 315 rfl bmL_m2 dX12_ill_307 (by decide) (fun cq => ?_) (fun cq => ?_)
          · replace h := h.2 cq
            refine r_aload_n hC 0 dX12_ill_315 rfl rfl ?_
            have q_46 : 0 < a0 + 11 ∧ M0 0 (a0 + 11) = kA 0 12 := lay_f0 (a := a0) hL qa0 fm_12_18
            refine r_getR0 (a' := a0 + 11) hC fg_X12_40 rfl hF fm_12_18 qa0.1 qa0.2 rfl dX12_ill_316 ?_
            refine r_iload hC 1 dX12_ill_319 rfl ?_
            obtain ⟨i_47, h⟩ := h
            refine r_iald hC i_47 q_46.1 q_46.2 (by decide) dX12_ill_321 ?_
            exact r_iret hC (Nat.zero_le _) (Nat.zero_le _) dX12_ill_322 ⟨_, rfl, h⟩
          · replace h := h.1 cq
            refine r_iload hC 3 dX12_ill_310 rfl ?_
            refine r_goto hC 322 dX12_ill_312 (by decide) ?_
            exact r_iret hC (Nat.zero_le _) (Nat.zero_le _) dX12_ill_322 ⟨_, rfl, h⟩
        · replace h := h.1 cq
          refine r_iload hC 4 dX12_ill_298 rfl ?_
          refine r_goto hC 322 dX12_ill_300 (by decide) ?_
          exact r_iret hC (Nat.zero_le _) (Nat.zero_le _) dX12_ill_322 ⟨_, rfl, h⟩
      · replace h := h.2 cq
        refine r_sub [0] rfl ?_
        exact tX12_ill_J286 hC hF hL Q   _ qa0  _ h
set_option maxHeartbeats 4000000 in
set_option maxRecDepth 100000 in
theorem tX12_ill_J175 {X : Cx} {Y : Yx} {M0 : Mem} (hC : OKX X Y RX12 cX12_ill 15 (some .int) rmX12_ill) (hF : Y.2.2.2.2 = true) (hL : Lay M0) (Q : Int → Mem → Prop)   (a0 : Nat) (x4 : Int) (x6 : Int) (x7 : Int) (qa0 : 0 < a0 ∧ M0 0 a0 = kO 12)  (M : Mem) (h : wX12_ill_J175 Q  a0 x4 x6 x7 M) : WW X Y 15 rmX12_ill (QI Q) M0 0 0 175 [(0, vR Y.1 a0), (4, vI x4), (6, vI x6), (7, vI x7)] [] M := by
  unfold wX12_ill_J175 at h
  refine r_iconst hC dX12_ill_175 ?_
  refine r_sub [0, 1, 2, 3] rfl ?_
  exact tX12_ill_J176 hC hF hL Q   _ _ _ _ _ qa0  _ h
set_option maxHeartbeats 4000000 in
set_option maxRecDepth 100000 in
theorem tX12_ill_J151 {X : Cx} {Y : Yx} {M0 : Mem} (hC : OKX X Y RX12 cX12_ill 15 (some .int) rmX12_ill) (hF : Y.2.2.2.2 = true) (hL : Lay M0) (Q : Int → Mem → Prop)   (a0 : Nat) (x2 : Int) (x4 : Int) (x6 : Int) (x7 : Int) (xs0 : Int) (xs1 : Int) (qa0 : 0 < a0 ∧ M0 0 a0 = kO 12)  (M : Mem) (h : wX12_ill_J151 Q  a0 x2 x4 x6 x7 xs0 xs1 M) : WW X Y 15 rmX12_ill (QI Q) M0 0 0 151 [(0, vR Y.1 a0), (2, vI x2), (4, vI x4), (6, vI x6), (7, vI x7)] [vI xs0, vI xs1] M := by
  unfold wX12_ill_J151 at h
  refine r_isub hC dX12_ill_151 ?_
  refine r_nameI h (fun x8_28 h => ?_)
  refine r_istore (lv' := [(8, vI x8_28), (0, vR Y.1 a0), (2, vI x2), (4, vI x4), (6, vI x6), (7, vI x7)]) hC dX12_ill_152 (by decide) rfl ?_
  refine r_iload_n hC 2 dX12_ill_154 rfl rfl ?_
  refine r_if_le hC 175 rfl dX12_ill_155 (by decide) (fun cq => ?_) (fun cq => ?_)
  · replace h := h.1 cq
    refine r_sub [1, 3, 4, 5] rfl ?_
    exact tX12_ill_J175 hC hF hL Q   _ _ _ _ qa0  _ h
  · replace h := h.2 cq
    refine r_iload hC 0 dX12_ill_158 rfl ?_
    refine r_if_le hC 175 rfl dX12_ill_160 (by decide) (fun cq => ?_) (fun cq => ?_)
    · replace h := h.1 cq
      refine r_sub [1, 3, 4, 5] rfl ?_
      exact tX12_ill_J175 hC hF hL Q   _ _ _ _ qa0  _ h
    · replace h := h.2 cq
      refine r_iload hC 0 dX12_ill_163 rfl ?_
      refine r_iload hC 4 dX12_ill_165 rfl ?_
      refine r_icmp_ge hC 175 rfl rfl dX12_ill_167 (by decide) (fun cq => ?_) (fun cq => ?_)
      · replace h := h.1 cq
        refine r_sub [1, 3, 4, 5] rfl ?_
        exact tX12_ill_J175 hC hF hL Q   _ _ _ _ qa0  _ h
      · replace h := h.2 cq
        refine r_iload hC 0 dX12_ill_170 rfl ?_
        refine r_goto hC 176 dX12_ill_172 (by decide) ?_
        refine r_sub [1, 3, 4, 5] rfl ?_
        exact tX12_ill_J176 hC hF hL Q   _ _ _ _ _ qa0  _ h
set_option maxHeartbeats 4000000 in
set_option maxRecDepth 100000 in
theorem mX12_ill (Y : Yx) (hF : Y.2.2.2.2 = true) (l : Launch) (a0 : Nat) (x1 : Int) (x2 : Int) (x3 : Int) (x4 : Int) (M0 : Mem) (Q : Int → Mem → Prop) (qa0 : 0 < a0 ∧ M0 0 a0 = kO 12) (h : wX12_ill a0 x1 x2 x3 x4 M0 Q) : CT Y l yX12_ill cX12_ill 15 (some .int) rmX12_ill [vR Y.1 a0, vI x1, vI x2, vI x3, vI x4] M0 (QI Q) := by
  unfold wX12_ill at h
  refine ct_intro (by decide) (Nat.le_of_ble_eq_true rfl) ?_
  intro X hXl hC hL0
  have hL := hL0 hF
  change OKX X Y RX12 cX12_ill 15 (some .int) rmX12_ill at hC
  change WW X Y 15 rmX12_ill (QI Q) M0 0 0 0 [(0, vR Y.1 a0), (1, vI x1), (2, vI x2), (3, vI x3), (4, vI x4)] [] M0
  refine r_iload_n hC 1 dX12_ill_0 rfl rfl ?_
  refine r_callS (As := [vI x1]) (st := []) hC cw_X12_214 rfl rfl (Nat.le_of_ble_eq_true rfl) ⟨Nat.le_of_ble_eq_true rfl, Nat.le_of_ble_eq_true rfl⟩ ⟨Nat.le_of_ble_eq_true rfl, Nat.le_of_ble_eq_true rfl⟩ dX12_ill_1 (fun hk => mX12_isSheet Y hF _ _ _ _  h) (fun v M_1 h => ?_)
  obtain ⟨r_2, rfl, h⟩ := h
  refine r_if_eq hC 14 rfl dX12_ill_4 (by decide) (fun cq => ?_) (fun cq => ?_)
  · replace h := h.1 cq
    refine r_sub [0] rfl ?_
    exact tX12_ill_J14 hC hF hL Q   _ qa0  _ h
  · replace h := h.2 cq
    refine r_iload hC 4 dX12_ill_7 rfl ?_
    refine r_bipush hC (by decide +kernel) dX12_ill_9 ?_
    refine r_icmp_ge hC 20 rfl bmL_m2 dX12_ill_11 (by decide) (fun cq => ?_) (fun cq => ?_)
    · replace h := h.1 cq
      refine r_aload_n hC 0 dX12_ill_20 rfl rfl ?_
      refine r_iload_n hC 1 dX12_ill_21 rfl rfl ?_
      refine r_iload_n hC 2 dX12_ill_22 rfl rfl ?_
      refine r_callV (As := [vI x1, vI x2]) (st := []) hC cw_X12_217 rfl qa0.1 qa0.2 rfl rfl (Nat.le_of_ble_eq_true rfl) ⟨Nat.le_of_ble_eq_true rfl, Nat.le_of_ble_eq_true rfl⟩ ⟨Nat.le_of_ble_eq_true rfl, Nat.le_of_ble_eq_true rfl⟩ dX12_ill_23 (fun hk => mX12_take Y hF _ _ _ _ _ _ (kqO hk qa0) h) (fun v M_5 h => ?_)
      obtain ⟨r_6, rfl, h⟩ := h
      refine r_istore (lv' := [(5, vI r_6), (0, vR Y.1 a0), (1, vI x1), (2, vI x2), (3, vI x3), (4, vI x4)]) hC dX12_ill_26 (by decide) rfl ?_
      refine r_iload hC 0 dX12_ill_28 rfl ?_
      refine r_if_le hC 40 rfl dX12_ill_30 (by decide) (fun cq => ?_) (fun cq => ?_)
      · replace h := h.1 cq
        refine r_aload_n hC 1 dX12_ill_40 rfl rfl ?_
        refine r_getI hC fg_X12_162 rfl qa0.1 qa0.2 dX12_ill_41 ?_
        refine r_iconst hC dX12_ill_44 ?_
        refine r_bipush hC (by decide +kernel) dX12_ill_45 ?_
        refine r_callS (As := [vI (M_5 a0 13), vI 2, vI 7]) (st := []) hC cw_X12_79 rfl rfl (Nat.le_of_ble_eq_true rfl) ⟨Nat.le_of_ble_eq_true rfl, Nat.le_of_ble_eq_true rfl⟩ ⟨Nat.le_of_ble_eq_true rfl, Nat.le_of_ble_eq_true rfl⟩ dX12_ill_47 (fun hk => mX12_in Y hF _ _ _ _ _ _  h) (fun v M_7 h => ?_)
        obtain ⟨r_8, rfl, h⟩ := h
        refine r_if_ne hC 59 rfl dX12_ill_50 (by decide) (fun cq => ?_) (fun cq => ?_)
        · replace h := h.2 cq
          refine r_iload_n hC 4 dX12_ill_59 rfl rfl ?_
          refine r_iconst hC dX12_ill_60 ?_
          refine r_aload_n hC 1 dX12_ill_61 rfl rfl ?_
          refine r_getI hC fg_X12_162 rfl qa0.1 qa0.2 dX12_ill_62 ?_
          refine r_iconst hC dX12_ill_65 ?_
          refine r_isub hC dX12_ill_66 ?_
          refine r_callS (As := [vI x3, vI 0, vI ((M_7 a0 13) - 1)]) (st := []) hC cw_X12_79 rfl rfl (Nat.le_of_ble_eq_true rfl) ⟨Nat.le_of_ble_eq_true rfl, Nat.le_of_ble_eq_true rfl⟩ ⟨Nat.le_of_ble_eq_true rfl, Nat.le_of_ble_eq_true rfl⟩ dX12_ill_67 (fun hk => mX12_in Y hF _ _ _ _ _ _  h) (fun v M_9 h => ?_)
          obtain ⟨r_10, rfl, h⟩ := h
          refine r_if_ne hC 79 rfl dX12_ill_70 (by decide) (fun cq => ?_) (fun cq => ?_)
          · replace h := h.2 cq
            refine r_iconst hC dX12_ill_79 ?_
            refine r_istore (lv' := [(6, vI 0), (5, vI r_6), (0, vR Y.1 a0), (1, vI x1), (2, vI x2), (3, vI x3), (4, vI x4)]) hC dX12_ill_80 (by decide) rfl ?_
            refine r_iconst hC dX12_ill_82 ?_
            refine r_istore (lv' := [(7, vI 0), (6, vI 0), (5, vI r_6), (0, vR Y.1 a0), (1, vI x1), (2, vI x2), (3, vI x3), (4, vI x4)]) hC dX12_ill_83 (by decide) rfl ?_
            refine r_iconst hC dX12_ill_85 ?_
            refine r_istore (lv' := [(8, vI 0), (7, vI 0), (6, vI 0), (5, vI r_6), (0, vR Y.1 a0), (1, vI x1), (2, vI x2), (3, vI x3), (4, vI x4)]) hC dX12_ill_86 (by decide) rfl ?_
            refine r_sub [4, 6, 7, 8, 2, 1, 0] rfl ?_
            obtain ⟨N_49, h⟩ := h
            refine tX12_ill_L88 hC hF hL Q _ _ _ _ _ qa0 ?_ N_49 _ _ _ _ h
            · intro x6_25 x7_26 M_27 h
              refine r_iload_n hC 1 dX12_ill_140 rfl rfl ?_
              refine r_iload_n hC 2 dX12_ill_141 rfl rfl ?_
              refine r_iload_n hC 1 dX12_ill_142 rfl rfl ?_
              refine r_icmp_ge hC 150 rfl rfl dX12_ill_143 (by decide) (fun cq => ?_) (fun cq => ?_)
              · replace h := h.1 cq
                refine r_iconst hC dX12_ill_150 ?_
                refine r_sub [0, 1, 3, 4, 5] rfl ?_
                exact tX12_ill_J151 hC hF hL Q   _ _ _ _ _ _ _ qa0  _ h
              · replace h := h.2 cq
                refine r_iconst hC dX12_ill_146 ?_
                refine r_goto hC 151 dX12_ill_147 (by decide) ?_
                refine r_sub [0, 1, 3, 4, 5] rfl ?_
                exact tX12_ill_J151 hC hF hL Q   _ _ _ _ _ _ _ qa0  _ h
          · replace h := h.1 cq
            refine r_aload_n hC 1 dX12_ill_73 rfl rfl ?_
            refine r_iconst hC dX12_ill_74 ?_
            refine r_callV (As := [vI 1]) (st := []) hC cw_X12_83 rfl qa0.1 qa0.2 rfl rfl (Nat.le_of_ble_eq_true rfl) ⟨Nat.le_of_ble_eq_true rfl, Nat.le_of_ble_eq_true rfl⟩ ⟨Nat.le_of_ble_eq_true rfl, Nat.le_of_ble_eq_true rfl⟩ dX12_ill_75 (fun hk => mX12_error Y hF _ _ _ _ _ (kqO hk qa0) h) (fun v M_50 h => ?_)
            obtain ⟨r_51, rfl, h⟩ := h
            exact r_iret hC (Nat.zero_le _) (Nat.zero_le _) dX12_ill_78 ⟨_, rfl, h⟩
        · replace h := h.1 cq
          refine r_aload_n hC 1 dX12_ill_53 rfl rfl ?_
          refine r_iconst hC dX12_ill_54 ?_
          refine r_callV (As := [vI 5]) (st := []) hC cw_X12_83 rfl qa0.1 qa0.2 rfl rfl (Nat.le_of_ble_eq_true rfl) ⟨Nat.le_of_ble_eq_true rfl, Nat.le_of_ble_eq_true rfl⟩ ⟨Nat.le_of_ble_eq_true rfl, Nat.le_of_ble_eq_true rfl⟩ dX12_ill_55 (fun hk => mX12_error Y hF _ _ _ _ _ (kqO hk qa0) h) (fun v M_52 h => ?_)
          obtain ⟨r_53, rfl, h⟩ := h
          exact r_iret hC (Nat.zero_le _) (Nat.zero_le _) dX12_ill_58 ⟨_, rfl, h⟩
      · replace h := h.2 cq
        refine r_aload_n hC 1 dX12_ill_33 rfl rfl ?_
        refine r_iload hC 0 dX12_ill_34 rfl ?_
        refine r_callV (As := [vI r_6]) (st := []) hC cw_X12_83 rfl qa0.1 qa0.2 rfl rfl (Nat.le_of_ble_eq_true rfl) ⟨Nat.le_of_ble_eq_true rfl, Nat.le_of_ble_eq_true rfl⟩ ⟨Nat.le_of_ble_eq_true rfl, Nat.le_of_ble_eq_true rfl⟩ dX12_ill_36 (fun hk => mX12_error Y hF _ _ _ _ _ (kqO hk qa0) h) (fun v M_54 h => ?_)
        obtain ⟨r_55, rfl, h⟩ := h
        exact r_iret hC (Nat.zero_le _) (Nat.zero_le _) dX12_ill_39 ⟨_, rfl, h⟩
    · replace h := h.2 cq
      refine r_sub [0] rfl ?_
      exact tX12_ill_J14 hC hF hL Q   _ qa0  _ h
theorem dX12_two_0 : dec cX12_two 0 1 1 (.iload_n 1) := ⟨by decide +kernel, rfl⟩
theorem dX12_two_1 : dec cX12_two 1 1 2 (.iconst 1) := ⟨by decide +kernel, rfl⟩
theorem dX12_two_2 : dec cX12_two 2 3 5 (.sipush 999) := ⟨by decide +kernel, rfl⟩
theorem dX12_two_5 : dec cX12_two 5 3 8 (.invokestatic 79) := ⟨by decide +kernel, rfl⟩
theorem dX12_two_8 : dec cX12_two 8 3 11 (.ifCond .ne 9) := ⟨by decide +kernel, rfl⟩
theorem dX12_two_11 : dec cX12_two 11 1 12 (.aload_n 0) := ⟨by decide +kernel, rfl⟩
theorem dX12_two_12 : dec cX12_two 12 1 13 (.iconst 1) := ⟨by decide +kernel, rfl⟩
theorem dX12_two_13 : dec cX12_two 13 3 16 (.invokevirtual 83) := ⟨by decide +kernel, rfl⟩
theorem dX12_two_16 : dec cX12_two 16 1 17 (.ireturn) := ⟨by decide +kernel, rfl⟩
theorem dX12_two_17 : dec cX12_two 17 1 18 (.iconst (-1)) := ⟨by decide +kernel, rfl⟩
theorem dX12_two_18 : dec cX12_two 18 1 19 (.istore_n 2) := ⟨by decide +kernel, rfl⟩
theorem dX12_two_19 : dec cX12_two 19 1 20 (.iconst 0) := ⟨by decide +kernel, rfl⟩
theorem dX12_two_20 : dec cX12_two 20 1 21 (.istore_n 3) := ⟨by decide +kernel, rfl⟩
theorem dX12_two_21 : dec cX12_two 21 1 22 (.iconst 0) := ⟨by decide +kernel, rfl⟩
theorem dX12_two_22 : dec cX12_two 22 2 24 (.istore 4) := ⟨by decide +kernel, rfl⟩
theorem dX12_two_24 : dec cX12_two 24 2 26 (.iload 4) := ⟨by decide +kernel, rfl⟩
theorem dX12_two_26 : dec cX12_two 26 1 27 (.iconst 1) := ⟨by decide +kernel, rfl⟩
theorem dX12_two_27 : dec cX12_two 27 1 28 (.aload_n 0) := ⟨by decide +kernel, rfl⟩
theorem dX12_two_28 : dec cX12_two 28 3 31 (.getfield 7) := ⟨by decide +kernel, rfl⟩
theorem dX12_two_31 : dec cX12_two 31 1 32 (.iconst 0) := ⟨by decide +kernel, rfl⟩
theorem dX12_two_32 : dec cX12_two 32 1 33 (.iaload) := ⟨by decide +kernel, rfl⟩
theorem dX12_two_33 : dec cX12_two 33 1 34 (.ishl) := ⟨by decide +kernel, rfl⟩
theorem dX12_two_34 : dec cX12_two 34 3 37 (.if_icmp .ge 169) := ⟨by decide +kernel, rfl⟩
theorem dX12_two_37 : dec cX12_two 37 1 38 (.iconst 0) := ⟨by decide +kernel, rfl⟩
theorem dX12_two_38 : dec cX12_two 38 2 40 (.istore 5) := ⟨by decide +kernel, rfl⟩
theorem dX12_two_40 : dec cX12_two 40 1 41 (.iconst 0) := ⟨by decide +kernel, rfl⟩
theorem dX12_two_41 : dec cX12_two 41 2 43 (.istore 6) := ⟨by decide +kernel, rfl⟩
theorem dX12_two_43 : dec cX12_two 43 1 44 (.iconst 0) := ⟨by decide +kernel, rfl⟩
theorem dX12_two_44 : dec cX12_two 44 2 46 (.istore 7) := ⟨by decide +kernel, rfl⟩
theorem dX12_two_46 : dec cX12_two 46 1 47 (.iconst 0) := ⟨by decide +kernel, rfl⟩
theorem dX12_two_47 : dec cX12_two 47 2 49 (.istore 8) := ⟨by decide +kernel, rfl⟩
theorem dX12_two_49 : dec cX12_two 49 2 51 (.iload 8) := ⟨by decide +kernel, rfl⟩
theorem dX12_two_51 : dec cX12_two 51 1 52 (.aload_n 0) := ⟨by decide +kernel, rfl⟩
theorem dX12_two_52 : dec cX12_two 52 3 55 (.getfield 7) := ⟨by decide +kernel, rfl⟩
theorem dX12_two_55 : dec cX12_two 55 1 56 (.iconst 0) := ⟨by decide +kernel, rfl⟩
theorem dX12_two_56 : dec cX12_two 56 1 57 (.iaload) := ⟨by decide +kernel, rfl⟩
theorem dX12_two_57 : dec cX12_two 57 3 60 (.if_icmp .ge 97) := ⟨by decide +kernel, rfl⟩
theorem dX12_two_60 : dec cX12_two 60 2 62 (.iload 4) := ⟨by decide +kernel, rfl⟩
theorem dX12_two_62 : dec cX12_two 62 2 64 (.iload 8) := ⟨by decide +kernel, rfl⟩
theorem dX12_two_64 : dec cX12_two 64 1 65 (.ishr) := ⟨by decide +kernel, rfl⟩
theorem dX12_two_65 : dec cX12_two 65 1 66 (.iconst 1) := ⟨by decide +kernel, rfl⟩
theorem dX12_two_66 : dec cX12_two 66 1 67 (.iand) := ⟨by decide +kernel, rfl⟩
theorem dX12_two_67 : dec cX12_two 67 1 68 (.iconst 1) := ⟨by decide +kernel, rfl⟩
theorem dX12_two_68 : dec cX12_two 68 3 71 (.if_icmp .ne 7) := ⟨by decide +kernel, rfl⟩
theorem dX12_two_71 : dec cX12_two 71 1 72 (.iconst 1) := ⟨by decide +kernel, rfl⟩
theorem dX12_two_72 : dec cX12_two 72 3 75 (.goto 4) := ⟨by decide +kernel, rfl⟩
theorem dX12_two_75 : dec cX12_two 75 1 76 (.iconst 0) := ⟨by decide +kernel, rfl⟩
theorem dX12_two_76 : dec cX12_two 76 2 78 (.istore 9) := ⟨by decide +kernel, rfl⟩
theorem dX12_two_78 : dec cX12_two 78 2 80 (.iload 5) := ⟨by decide +kernel, rfl⟩
theorem dX12_two_80 : dec cX12_two 80 2 82 (.iload 9) := ⟨by decide +kernel, rfl⟩
theorem dX12_two_82 : dec cX12_two 82 3 85 (.ifCond .eq 13) := ⟨by decide +kernel, rfl⟩
theorem dX12_two_85 : dec cX12_two 85 1 86 (.aload_n 0) := ⟨by decide +kernel, rfl⟩
theorem dX12_two_86 : dec cX12_two 86 2 88 (.iload 8) := ⟨by decide +kernel, rfl⟩
theorem dX12_two_88 : dec cX12_two 88 1 89 (.iconst 0) := ⟨by decide +kernel, rfl⟩
theorem dX12_two_89 : dec cX12_two 89 3 92 (.invokevirtual 91) := ⟨by decide +kernel, rfl⟩
theorem dX12_two_92 : dec cX12_two 92 3 95 (.goto 4) := ⟨by decide +kernel, rfl⟩
theorem dX12_two_95 : dec cX12_two 95 1 96 (.iconst 0) := ⟨by decide +kernel, rfl⟩
theorem dX12_two_96 : dec cX12_two 96 1 97 (.iadd) := ⟨by decide +kernel, rfl⟩
theorem dX12_two_97 : dec cX12_two 97 2 99 (.istore 5) := ⟨by decide +kernel, rfl⟩
theorem dX12_two_99 : dec cX12_two 99 2 101 (.iload 6) := ⟨by decide +kernel, rfl⟩
theorem dX12_two_101 : dec cX12_two 101 2 103 (.iload 9) := ⟨by decide +kernel, rfl⟩
theorem dX12_two_103 : dec cX12_two 103 3 106 (.ifCond .eq 7) := ⟨by decide +kernel, rfl⟩
theorem dX12_two_106 : dec cX12_two 106 1 107 (.iconst 0) := ⟨by decide +kernel, rfl⟩
theorem dX12_two_107 : dec cX12_two 107 3 110 (.goto 10) := ⟨by decide +kernel, rfl⟩
theorem dX12_two_110 : dec cX12_two 110 1 111 (.aload_n 0) := ⟨by decide +kernel, rfl⟩
theorem dX12_two_111 : dec cX12_two 111 2 113 (.iload 8) := ⟨by decide +kernel, rfl⟩
theorem dX12_two_113 : dec cX12_two 113 1 114 (.iconst 0) := ⟨by decide +kernel, rfl⟩
theorem dX12_two_114 : dec cX12_two 114 3 117 (.invokevirtual 91) := ⟨by decide +kernel, rfl⟩
theorem dX12_two_117 : dec cX12_two 117 1 118 (.iadd) := ⟨by decide +kernel, rfl⟩
theorem dX12_two_118 : dec cX12_two 118 2 120 (.istore 6) := ⟨by decide +kernel, rfl⟩
theorem dX12_two_120 : dec cX12_two 120 2 122 (.iload 7) := ⟨by decide +kernel, rfl⟩
theorem dX12_two_122 : dec cX12_two 122 2 124 (.iload 9) := ⟨by decide +kernel, rfl⟩
theorem dX12_two_124 : dec cX12_two 124 3 127 (.ifCond .eq 13) := ⟨by decide +kernel, rfl⟩
theorem dX12_two_127 : dec cX12_two 127 1 128 (.aload_n 0) := ⟨by decide +kernel, rfl⟩
theorem dX12_two_128 : dec cX12_two 128 2 130 (.iload 8) := ⟨by decide +kernel, rfl⟩
theorem dX12_two_130 : dec cX12_two 130 1 131 (.iconst 2) := ⟨by decide +kernel, rfl⟩
theorem dX12_two_131 : dec cX12_two 131 3 134 (.invokevirtual 91) := ⟨by decide +kernel, rfl⟩
theorem dX12_two_134 : dec cX12_two 134 3 137 (.goto 11) := ⟨by decide +kernel, rfl⟩
theorem dX12_two_137 : dec cX12_two 137 1 138 (.aload_n 0) := ⟨by decide +kernel, rfl⟩
theorem dX12_two_138 : dec cX12_two 138 2 140 (.iload 8) := ⟨by decide +kernel, rfl⟩
theorem dX12_two_140 : dec cX12_two 140 1 141 (.iconst 2) := ⟨by decide +kernel, rfl⟩
theorem dX12_two_141 : dec cX12_two 141 3 144 (.invokevirtual 91) := ⟨by decide +kernel, rfl⟩
theorem dX12_two_144 : dec cX12_two 144 1 145 (.ineg) := ⟨by decide +kernel, rfl⟩
theorem dX12_two_145 : dec cX12_two 145 1 146 (.iadd) := ⟨by decide +kernel, rfl⟩
theorem dX12_two_146 : dec cX12_two 146 2 148 (.istore 7) := ⟨by decide +kernel, rfl⟩
theorem dX12_two_148 : dec cX12_two 148 3 151 (.iinc 8 1) := ⟨by decide +kernel, rfl⟩
theorem dX12_two_151 : dec cX12_two 151 3 154 (.goto (-102)) := ⟨by decide +kernel, rfl⟩
theorem dX12_two_154 : dec cX12_two 154 2 156 (.iload 7) := ⟨by decide +kernel, rfl⟩
theorem dX12_two_156 : dec cX12_two 156 3 159 (.ifCond .ge 9) := ⟨by decide +kernel, rfl⟩
theorem dX12_two_159 : dec cX12_two 159 2 161 (.iload 7) := ⟨by decide +kernel, rfl⟩
theorem dX12_two_161 : dec cX12_two 161 1 162 (.ineg) := ⟨by decide +kernel, rfl⟩
theorem dX12_two_162 : dec cX12_two 162 3 165 (.goto 5) := ⟨by decide +kernel, rfl⟩
theorem dX12_two_165 : dec cX12_two 165 2 167 (.iload 7) := ⟨by decide +kernel, rfl⟩
theorem dX12_two_167 : dec cX12_two 167 2 169 (.istore 7) := ⟨by decide +kernel, rfl⟩
theorem dX12_two_169 : dec cX12_two 169 2 171 (.iload 5) := ⟨by decide +kernel, rfl⟩
theorem dX12_two_171 : dec cX12_two 171 1 172 (.iload_n 1) := ⟨by decide +kernel, rfl⟩
theorem dX12_two_172 : dec cX12_two 172 3 175 (.if_icmp .gt 25) := ⟨by decide +kernel, rfl⟩
theorem dX12_two_175 : dec cX12_two 175 2 177 (.iload 6) := ⟨by decide +kernel, rfl⟩
theorem dX12_two_177 : dec cX12_two 177 1 178 (.iload_n 1) := ⟨by decide +kernel, rfl⟩
theorem dX12_two_178 : dec cX12_two 178 3 181 (.if_icmp .gt 19) := ⟨by decide +kernel, rfl⟩
theorem dX12_two_181 : dec cX12_two 181 1 182 (.iload_n 2) := ⟨by decide +kernel, rfl⟩
theorem dX12_two_182 : dec cX12_two 182 3 185 (.ifCond .lt 9) := ⟨by decide +kernel, rfl⟩
theorem dX12_two_185 : dec cX12_two 185 2 187 (.iload 7) := ⟨by decide +kernel, rfl⟩
theorem dX12_two_187 : dec cX12_two 187 1 188 (.iload_n 3) := ⟨by decide +kernel, rfl⟩
theorem dX12_two_188 : dec cX12_two 188 3 191 (.if_icmp .ge 9) := ⟨by decide +kernel, rfl⟩
theorem dX12_two_191 : dec cX12_two 191 2 193 (.iload 4) := ⟨by decide +kernel, rfl⟩
theorem dX12_two_193 : dec cX12_two 193 1 194 (.istore_n 2) := ⟨by decide +kernel, rfl⟩
theorem dX12_two_194 : dec cX12_two 194 2 196 (.iload 7) := ⟨by decide +kernel, rfl⟩
theorem dX12_two_196 : dec cX12_two 196 1 197 (.istore_n 3) := ⟨by decide +kernel, rfl⟩
theorem dX12_two_197 : dec cX12_two 197 3 200 (.iinc 4 1) := ⟨by decide +kernel, rfl⟩
theorem dX12_two_200 : dec cX12_two 200 3 203 (.goto (-176)) := ⟨by decide +kernel, rfl⟩
theorem dX12_two_203 : dec cX12_two 203 1 204 (.iload_n 2) := ⟨by decide +kernel, rfl⟩
theorem dX12_two_204 : dec cX12_two 204 3 207 (.ifCond .ge 11) := ⟨by decide +kernel, rfl⟩
theorem dX12_two_207 : dec cX12_two 207 1 208 (.aload_n 0) := ⟨by decide +kernel, rfl⟩
theorem dX12_two_208 : dec cX12_two 208 1 209 (.iconst 2) := ⟨by decide +kernel, rfl⟩
theorem dX12_two_209 : dec cX12_two 209 3 212 (.invokevirtual 83) := ⟨by decide +kernel, rfl⟩
theorem dX12_two_212 : dec cX12_two 212 3 215 (.goto 4) := ⟨by decide +kernel, rfl⟩
theorem dX12_two_215 : dec cX12_two 215 1 216 (.iload_n 2) := ⟨by decide +kernel, rfl⟩
theorem dX12_two_216 : dec cX12_two 216 1 217 (.ireturn) := ⟨by decide +kernel, rfl⟩
set_option maxHeartbeats 4000000 in
set_option maxRecDepth 100000 in
theorem tX12_two_J145 {X : Cx} {Y : Yx} {M0 : Mem} (hC : OKX X Y RX12 cX12_two 10 (some .int) rmX12_two) (hF : Y.2.2.2.2 = true) (hL : Lay M0) (Q : Int → Mem → Prop) (C49 : Int → Int → Int → Int → Mem → Prop)  (a0 : Nat) (x1 : Int) (x2 : Int) (x3 : Int) (x4 : Int) (x5 : Int) (x6 : Int) (x8 : Int) (xs0 : Int) (xs1 : Int) (qa0 : 0 < a0 ∧ M0 0 a0 = kO 12) (hC49 : ∀ (x5 : Int) (x6 : Int) (x7 : Int) (x8 : Int) (M : Mem), C49 x5 x6 x7 x8 M → WW X Y 10 rmX12_two (QI Q) M0 0 0 49 [(0, vR Y.1 a0), (1, vI x1), (2, vI x2), (3, vI x3), (4, vI x4), (5, vI x5), (6, vI x6), (7, vI x7), (8, vI x8)] [] M) (M : Mem) (h : wX12_two_J145 Q C49 a0 x1 x2 x3 x4 x5 x6 x8 xs0 xs1 M) : WW X Y 10 rmX12_two (QI Q) M0 0 0 145 [(0, vR Y.1 a0), (1, vI x1), (2, vI x2), (3, vI x3), (4, vI x4), (5, vI x5), (6, vI x6), (8, vI x8)] [vI xs0, vI xs1] M := by
  unfold wX12_two_J145 at h
  refine r_iadd hC dX12_two_145 ?_
  refine r_nameI h (fun x7_12 h => ?_)
  refine r_istore (lv' := [(7, vI x7_12), (0, vR Y.1 a0), (1, vI x1), (2, vI x2), (3, vI x3), (4, vI x4), (5, vI x5), (6, vI x6), (8, vI x8)]) hC dX12_two_146 (by decide) rfl ?_
  refine let_elim h (fun x8_13 e_14 h => ?_)
  refine r_iinc (lv' := [(8, vI x8_13), (7, vI x7_12), (0, vR Y.1 a0), (1, vI x1), (2, vI x2), (3, vI x3), (4, vI x4), (5, vI x5), (6, vI x6)]) hC 8 dX12_two_148 rfl (by decide) e_14 rfl ?_
  refine r_goto hC 49 dX12_two_151 (by decide) ?_
  refine r_sub [2, 3, 4, 5, 6, 7, 8, 1, 0] rfl ?_
  exact hC49 _ _ _ _ _ h
set_option maxHeartbeats 4000000 in
set_option maxRecDepth 100000 in
theorem tX12_two_J117 {X : Cx} {Y : Yx} {M0 : Mem} (hC : OKX X Y RX12 cX12_two 10 (some .int) rmX12_two) (hF : Y.2.2.2.2 = true) (hL : Lay M0) (Q : Int → Mem → Prop) (C49 : Int → Int → Int → Int → Mem → Prop)  (a0 : Nat) (x1 : Int) (x2 : Int) (x3 : Int) (x4 : Int) (x5 : Int) (x7 : Int) (x8 : Int) (x9 : Int) (xs0 : Int) (xs1 : Int) (qa0 : 0 < a0 ∧ M0 0 a0 = kO 12) (hC49 : ∀ (x5 : Int) (x6 : Int) (x7 : Int) (x8 : Int) (M : Mem), C49 x5 x6 x7 x8 M → WW X Y 10 rmX12_two (QI Q) M0 0 0 49 [(0, vR Y.1 a0), (1, vI x1), (2, vI x2), (3, vI x3), (4, vI x4), (5, vI x5), (6, vI x6), (7, vI x7), (8, vI x8)] [] M) (M : Mem) (h : wX12_two_J117 Q C49 a0 x1 x2 x3 x4 x5 x7 x8 x9 xs0 xs1 M) : WW X Y 10 rmX12_two (QI Q) M0 0 0 117 [(0, vR Y.1 a0), (1, vI x1), (2, vI x2), (3, vI x3), (4, vI x4), (5, vI x5), (7, vI x7), (8, vI x8), (9, vI x9)] [vI xs0, vI xs1] M := by
  unfold wX12_two_J117 at h
  refine r_iadd hC dX12_two_117 ?_
  refine r_nameI h (fun x6_9 h => ?_)
  refine r_istore (lv' := [(6, vI x6_9), (0, vR Y.1 a0), (1, vI x1), (2, vI x2), (3, vI x3), (4, vI x4), (5, vI x5), (7, vI x7), (8, vI x8), (9, vI x9)]) hC dX12_two_118 (by decide) rfl ?_
  refine r_iload hC 7 dX12_two_120 rfl ?_
  refine r_iload hC 9 dX12_two_122 rfl ?_
  refine r_if_eq hC 137 rfl dX12_two_124 (by decide) (fun cq => ?_) (fun cq => ?_)
  · replace h := h.1 cq
    refine r_aload_n hC 1 dX12_two_137 rfl rfl ?_
    refine r_iload hC 8 dX12_two_138 rfl ?_
    refine r_iconst hC dX12_two_140 ?_
    refine r_callV (As := [vI x8, vI 2]) (st := [vI x7]) hC cw_X12_91 rfl qa0.1 qa0.2 rfl rfl (Nat.le_of_ble_eq_true rfl) ⟨Nat.le_of_ble_eq_true rfl, Nat.le_of_ble_eq_true rfl⟩ ⟨Nat.le_of_ble_eq_true rfl, Nat.le_of_ble_eq_true rfl⟩ dX12_two_141 (fun hk => mX12_of Y hF _ _ _ _ _ _ (kqO hk qa0) h) (fun v M_10 h => ?_)
    obtain ⟨r_11, rfl, h⟩ := h
    refine r_ineg hC dX12_two_144 ?_
    refine r_sub [1, 2, 3, 4, 5, 6, 0, 8] rfl ?_
    exact tX12_two_J145 hC hF hL Q _  _ _ _ _ _ _ _ _ _ _ qa0 hC49 _ h
  · replace h := h.2 cq
    refine r_aload_n hC 1 dX12_two_127 rfl rfl ?_
    refine r_iload hC 8 dX12_two_128 rfl ?_
    refine r_iconst hC dX12_two_130 ?_
    refine r_callV (As := [vI x8, vI 2]) (st := [vI x7]) hC cw_X12_91 rfl qa0.1 qa0.2 rfl rfl (Nat.le_of_ble_eq_true rfl) ⟨Nat.le_of_ble_eq_true rfl, Nat.le_of_ble_eq_true rfl⟩ ⟨Nat.le_of_ble_eq_true rfl, Nat.le_of_ble_eq_true rfl⟩ dX12_two_131 (fun hk => mX12_of Y hF _ _ _ _ _ _ (kqO hk qa0) h) (fun v M_15 h => ?_)
    obtain ⟨r_16, rfl, h⟩ := h
    refine r_goto hC 145 dX12_two_134 (by decide) ?_
    refine r_sub [1, 2, 3, 4, 5, 6, 0, 8] rfl ?_
    exact tX12_two_J145 hC hF hL Q _  _ _ _ _ _ _ _ _ _ _ qa0 hC49 _ h
set_option maxHeartbeats 4000000 in
set_option maxRecDepth 100000 in
theorem tX12_two_J96 {X : Cx} {Y : Yx} {M0 : Mem} (hC : OKX X Y RX12 cX12_two 10 (some .int) rmX12_two) (hF : Y.2.2.2.2 = true) (hL : Lay M0) (Q : Int → Mem → Prop) (C49 : Int → Int → Int → Int → Mem → Prop)  (a0 : Nat) (x1 : Int) (x2 : Int) (x3 : Int) (x4 : Int) (x6 : Int) (x7 : Int) (x8 : Int) (x9 : Int) (xs0 : Int) (xs1 : Int) (qa0 : 0 < a0 ∧ M0 0 a0 = kO 12) (hC49 : ∀ (x5 : Int) (x6 : Int) (x7 : Int) (x8 : Int) (M : Mem), C49 x5 x6 x7 x8 M → WW X Y 10 rmX12_two (QI Q) M0 0 0 49 [(0, vR Y.1 a0), (1, vI x1), (2, vI x2), (3, vI x3), (4, vI x4), (5, vI x5), (6, vI x6), (7, vI x7), (8, vI x8)] [] M) (M : Mem) (h : wX12_two_J96 Q C49 a0 x1 x2 x3 x4 x6 x7 x8 x9 xs0 xs1 M) : WW X Y 10 rmX12_two (QI Q) M0 0 0 96 [(0, vR Y.1 a0), (1, vI x1), (2, vI x2), (3, vI x3), (4, vI x4), (6, vI x6), (7, vI x7), (8, vI x8), (9, vI x9)] [vI xs0, vI xs1] M := by
  unfold wX12_two_J96 at h
  refine r_iadd hC dX12_two_96 ?_
  refine r_nameI h (fun x5_6 h => ?_)
  refine r_istore (lv' := [(5, vI x5_6), (0, vR Y.1 a0), (1, vI x1), (2, vI x2), (3, vI x3), (4, vI x4), (6, vI x6), (7, vI x7), (8, vI x8), (9, vI x9)]) hC dX12_two_97 (by decide) rfl ?_
  refine r_iload hC 6 dX12_two_99 rfl ?_
  refine r_iload hC 9 dX12_two_101 rfl ?_
  refine r_if_eq hC 110 rfl dX12_two_103 (by decide) (fun cq => ?_) (fun cq => ?_)
  · replace h := h.1 cq
    refine r_aload_n hC 1 dX12_two_110 rfl rfl ?_
    refine r_iload hC 8 dX12_two_111 rfl ?_
    refine r_iconst hC dX12_two_113 ?_
    refine r_callV (As := [vI x8, vI 0]) (st := [vI x6]) hC cw_X12_91 rfl qa0.1 qa0.2 rfl rfl (Nat.le_of_ble_eq_true rfl) ⟨Nat.le_of_ble_eq_true rfl, Nat.le_of_ble_eq_true rfl⟩ ⟨Nat.le_of_ble_eq_true rfl, Nat.le_of_ble_eq_true rfl⟩ dX12_two_114 (fun hk => mX12_of Y hF _ _ _ _ _ _ (kqO hk qa0) h) (fun v M_7 h => ?_)
    obtain ⟨r_8, rfl, h⟩ := h
    refine r_sub [1, 2, 3, 4, 5, 0, 7, 8, 9] rfl ?_
    exact tX12_two_J117 hC hF hL Q _  _ _ _ _ _ _ _ _ _ _ _ qa0 hC49 _ h
  · replace h := h.2 cq
    refine r_iconst hC dX12_two_106 ?_
    refine r_goto hC 117 dX12_two_107 (by decide) ?_
    refine r_sub [1, 2, 3, 4, 5, 0, 7, 8, 9] rfl ?_
    exact tX12_two_J117 hC hF hL Q _  _ _ _ _ _ _ _ _ _ _ _ qa0 hC49 _ h
set_option maxHeartbeats 4000000 in
set_option maxRecDepth 100000 in
theorem tX12_two_J76 {X : Cx} {Y : Yx} {M0 : Mem} (hC : OKX X Y RX12 cX12_two 10 (some .int) rmX12_two) (hF : Y.2.2.2.2 = true) (hL : Lay M0) (Q : Int → Mem → Prop) (C49 : Int → Int → Int → Int → Mem → Prop)  (a0 : Nat) (x1 : Int) (x2 : Int) (x3 : Int) (x4 : Int) (x5 : Int) (x6 : Int) (x7 : Int) (x8 : Int) (xs0 : Int) (qa0 : 0 < a0 ∧ M0 0 a0 = kO 12) (hC49 : ∀ (x5 : Int) (x6 : Int) (x7 : Int) (x8 : Int) (M : Mem), C49 x5 x6 x7 x8 M → WW X Y 10 rmX12_two (QI Q) M0 0 0 49 [(0, vR Y.1 a0), (1, vI x1), (2, vI x2), (3, vI x3), (4, vI x4), (5, vI x5), (6, vI x6), (7, vI x7), (8, vI x8)] [] M) (M : Mem) (h : wX12_two_J76 Q C49 a0 x1 x2 x3 x4 x5 x6 x7 x8 xs0 M) : WW X Y 10 rmX12_two (QI Q) M0 0 0 76 [(0, vR Y.1 a0), (1, vI x1), (2, vI x2), (3, vI x3), (4, vI x4), (5, vI x5), (6, vI x6), (7, vI x7), (8, vI x8)] [vI xs0] M := by
  unfold wX12_two_J76 at h
  refine r_istore (lv' := [(9, vI xs0), (0, vR Y.1 a0), (1, vI x1), (2, vI x2), (3, vI x3), (4, vI x4), (5, vI x5), (6, vI x6), (7, vI x7), (8, vI x8)]) hC dX12_two_76 (by decide) rfl ?_
  refine r_iload hC 6 dX12_two_78 rfl ?_
  refine r_iload hC 0 dX12_two_80 rfl ?_
  refine r_if_eq hC 95 rfl dX12_two_82 (by decide) (fun cq => ?_) (fun cq => ?_)
  · replace h := h.1 cq
    refine r_iconst hC dX12_two_95 ?_
    refine r_sub [1, 2, 3, 4, 5, 7, 8, 9, 0] rfl ?_
    exact tX12_two_J96 hC hF hL Q _  _ _ _ _ _ _ _ _ _ _ _ qa0 hC49 _ h
  · replace h := h.2 cq
    refine r_aload_n hC 1 dX12_two_85 rfl rfl ?_
    refine r_iload hC 9 dX12_two_86 rfl ?_
    refine r_iconst hC dX12_two_88 ?_
    refine r_callV (As := [vI x8, vI 0]) (st := [vI x5]) hC cw_X12_91 rfl qa0.1 qa0.2 rfl rfl (Nat.le_of_ble_eq_true rfl) ⟨Nat.le_of_ble_eq_true rfl, Nat.le_of_ble_eq_true rfl⟩ ⟨Nat.le_of_ble_eq_true rfl, Nat.le_of_ble_eq_true rfl⟩ dX12_two_89 (fun hk => mX12_of Y hF _ _ _ _ _ _ (kqO hk qa0) h) (fun v M_17 h => ?_)
    obtain ⟨r_18, rfl, h⟩ := h
    refine r_goto hC 96 dX12_two_92 (by decide) ?_
    refine r_sub [1, 2, 3, 4, 5, 7, 8, 9, 0] rfl ?_
    exact tX12_two_J96 hC hF hL Q _  _ _ _ _ _ _ _ _ _ _ _ qa0 hC49 _ h
set_option maxHeartbeats 4000000 in
set_option maxRecDepth 100000 in
theorem tX12_two_L49 {X : Cx} {Y : Yx} {M0 : Mem} (hC : OKX X Y RX12 cX12_two 10 (some .int) rmX12_two) (hF : Y.2.2.2.2 = true) (hL : Lay M0) (Q : Int → Mem → Prop) (E154 : Int → Int → Int → Mem → Prop) (a0 : Nat) (x1 : Int) (x2 : Int) (x3 : Int) (x4 : Int) (qa0 : 0 < a0 ∧ M0 0 a0 = kO 12) (hE154 : ∀ (x5 : Int) (x6 : Int) (x7 : Int) (M : Mem), E154 x5 x6 x7 M → WW X Y 10 rmX12_two (QI Q) M0 0 0 154 [(0, vR Y.1 a0), (1, vI x1), (2, vI x2), (3, vI x3), (4, vI x4), (5, vI x5), (6, vI x6), (7, vI x7)] [] M) : ∀ (N : Nat) (x5 : Int) (x6 : Int) (x7 : Int) (x8 : Int) (M : Mem) (_ : wX12_two_L49 Q E154 a0 x1 x2 x3 x4 N x5 x6 x7 x8 M), WW X Y 10 rmX12_two (QI Q) M0 0 0 49 [(0, vR Y.1 a0), (1, vI x1), (2, vI x2), (3, vI x3), (4, vI x4), (5, vI x5), (6, vI x6), (7, vI x7), (8, vI x8)] [] M := by
  intro N
  induction N with
  | zero =>
    intro x5 x6 x7 x8 M h
    exact h.elim
  | succ N ih =>
    intro x5 x6 x7 x8 M h
    unfold wX12_two_L49 at h
    refine r_iload hC 8 dX12_two_49 rfl ?_
    refine r_aload_n hC 0 dX12_two_51 rfl rfl ?_
    have q_5 : 0 < a0 + 1 ∧ M0 0 (a0 + 1) = kA 0 1522 := lay_f0 (a := a0) hL qa0 fm_12_0
    refine r_getR0 (a' := a0 + 1) hC fg_X12_7 rfl hF fm_12_0 qa0.1 qa0.2 rfl dX12_two_52 ?_
    refine r_iconst hC dX12_two_55 ?_
    refine r_iald hC ⟨by decide +kernel, by decide +kernel⟩ q_5.1 q_5.2 (by decide) dX12_two_56 ?_
    refine r_icmp_ge hC 154 rfl rfl dX12_two_57 (by decide) (fun cq => ?_) (fun cq => ?_)
    · replace h := h.1 cq
      refine r_sub [0, 1, 2, 3, 4, 5, 6, 7] rfl ?_
      exact hE154 _ _ _ _ h
    · replace h := h.2 cq
      refine r_iload hC 4 dX12_two_60 rfl ?_
      refine r_iload hC 8 dX12_two_62 rfl ?_
      refine r_ishr hC dX12_two_64 ?_
      refine r_iconst hC dX12_two_65 ?_
      refine r_iand hC dX12_two_66 ?_
      refine r_iconst hC dX12_two_67 ?_
      refine r_icmp_ne hC 75 rfl bmL_1 dX12_two_68 (by decide) (fun cq => ?_) (fun cq => ?_)
      · replace h := h.2 cq
        refine r_iconst hC dX12_two_75 ?_
        refine r_sub [0, 1, 2, 3, 4, 5, 6, 7, 8] rfl ?_
        exact tX12_two_J76 hC hF hL Q _  _ _ _ _ _ _ _ _ _ _ qa0 ih _ h
      · replace h := h.1 cq
        refine r_iconst hC dX12_two_71 ?_
        refine r_goto hC 76 dX12_two_72 (by decide) ?_
        refine r_sub [0, 1, 2, 3, 4, 5, 6, 7, 8] rfl ?_
        exact tX12_two_J76 hC hF hL Q _  _ _ _ _ _ _ _ _ _ _ qa0 ih _ h
set_option maxHeartbeats 4000000 in
set_option maxRecDepth 100000 in
theorem tX12_two_J191 {X : Cx} {Y : Yx} {M0 : Mem} (hC : OKX X Y RX12 cX12_two 10 (some .int) rmX12_two) (hF : Y.2.2.2.2 = true) (hL : Lay M0) (Q : Int → Mem → Prop) (C24 : Int → Int → Int → Mem → Prop)  (a0 : Nat) (x1 : Int) (x4 : Int) (x7 : Int) (qa0 : 0 < a0 ∧ M0 0 a0 = kO 12) (hC24 : ∀ (x2 : Int) (x3 : Int) (x4 : Int) (M : Mem), C24 x2 x3 x4 M → WW X Y 10 rmX12_two (QI Q) M0 0 0 24 [(0, vR Y.1 a0), (1, vI x1), (2, vI x2), (3, vI x3), (4, vI x4)] [] M) (M : Mem) (h : wX12_two_J191 Q C24 a0 x1 x4 x7 M) : WW X Y 10 rmX12_two (QI Q) M0 0 0 191 [(0, vR Y.1 a0), (1, vI x1), (4, vI x4), (7, vI x7)] [] M := by
  unfold wX12_two_J191 at h
  refine r_iload hC 2 dX12_two_191 rfl ?_
  refine r_istore_n (lv' := [(2, vI x4), (0, vR Y.1 a0), (1, vI x1), (4, vI x4), (7, vI x7)]) hC dX12_two_193 rfl (by decide) rfl ?_
  refine r_iload hC 4 dX12_two_194 rfl ?_
  refine r_istore_n (lv' := [(3, vI x7), (2, vI x4), (0, vR Y.1 a0), (1, vI x1), (4, vI x4), (7, vI x7)]) hC dX12_two_196 rfl (by decide) rfl ?_
  refine let_elim h (fun x4_27 e_28 h => ?_)
  refine r_iinc (lv' := [(4, vI x4_27), (3, vI x7), (2, vI x4), (0, vR Y.1 a0), (1, vI x1), (7, vI x7)]) hC 4 dX12_two_197 rfl (by decide) e_28 rfl ?_
  refine r_goto hC 24 dX12_two_200 (by decide) ?_
  refine r_sub [3, 4, 2, 1, 0] rfl ?_
  exact hC24 _ _ _ _ h
set_option maxHeartbeats 4000000 in
set_option maxRecDepth 100000 in
theorem tX12_two_J167 {X : Cx} {Y : Yx} {M0 : Mem} (hC : OKX X Y RX12 cX12_two 10 (some .int) rmX12_two) (hF : Y.2.2.2.2 = true) (hL : Lay M0) (Q : Int → Mem → Prop) (C24 : Int → Int → Int → Mem → Prop)  (a0 : Nat) (x1 : Int) (x2 : Int) (x3 : Int) (x4 : Int) (x5 : Int) (x6 : Int) (xs0 : Int) (qa0 : 0 < a0 ∧ M0 0 a0 = kO 12) (hC24 : ∀ (x2 : Int) (x3 : Int) (x4 : Int) (M : Mem), C24 x2 x3 x4 M → WW X Y 10 rmX12_two (QI Q) M0 0 0 24 [(0, vR Y.1 a0), (1, vI x1), (2, vI x2), (3, vI x3), (4, vI x4)] [] M) (M : Mem) (h : wX12_two_J167 Q C24 a0 x1 x2 x3 x4 x5 x6 xs0 M) : WW X Y 10 rmX12_two (QI Q) M0 0 0 167 [(0, vR Y.1 a0), (1, vI x1), (2, vI x2), (3, vI x3), (4, vI x4), (5, vI x5), (6, vI x6)] [vI xs0] M := by
  unfold wX12_two_J167 at h
  refine r_istore (lv' := [(7, vI xs0), (0, vR Y.1 a0), (1, vI x1), (2, vI x2), (3, vI x3), (4, vI x4), (5, vI x5), (6, vI x6)]) hC dX12_two_167 (by decide) rfl ?_
  refine r_iload hC 6 dX12_two_169 rfl ?_
  refine r_iload_n hC 2 dX12_two_171 rfl rfl ?_
  refine r_icmp_gt hC 197 rfl rfl dX12_two_172 (by decide) (fun cq => ?_) (fun cq => ?_)
  · replace h := h.1 cq
    refine let_elim h (fun x4_23 e_24 h => ?_)
    refine r_iinc (lv' := [(4, vI x4_23), (7, vI xs0), (0, vR Y.1 a0), (1, vI x1), (2, vI x2), (3, vI x3), (5, vI x5), (6, vI x6)]) hC 5 dX12_two_197 rfl (by decide) e_24 rfl ?_
    refine r_goto hC 24 dX12_two_200 (by decide) ?_
    refine r_sub [2, 3, 4, 5, 0] rfl ?_
    exact hC24 _ _ _ _ h
  · replace h := h.2 cq
    refine r_iload hC 7 dX12_two_175 rfl ?_
    refine r_iload_n hC 2 dX12_two_177 rfl rfl ?_
    refine r_icmp_gt hC 197 rfl rfl dX12_two_178 (by decide) (fun cq => ?_) (fun cq => ?_)
    · replace h := h.1 cq
      refine let_elim h (fun x4_25 e_26 h => ?_)
      refine r_iinc (lv' := [(4, vI x4_25), (7, vI xs0), (0, vR Y.1 a0), (1, vI x1), (2, vI x2), (3, vI x3), (5, vI x5), (6, vI x6)]) hC 5 dX12_two_197 rfl (by decide) e_26 rfl ?_
      refine r_goto hC 24 dX12_two_200 (by decide) ?_
      refine r_sub [2, 3, 4, 5, 0] rfl ?_
      exact hC24 _ _ _ _ h
    · replace h := h.2 cq
      refine r_iload_n hC 3 dX12_two_181 rfl rfl ?_
      refine r_if_lt hC 191 rfl dX12_two_182 (by decide) (fun cq => ?_) (fun cq => ?_)
      · replace h := h.1 cq
        refine r_sub [1, 2, 5, 0] rfl ?_
        exact tX12_two_J191 hC hF hL Q _  _ _ _ _ qa0 hC24 _ h
      · replace h := h.2 cq
        refine r_iload hC 0 dX12_two_185 rfl ?_
        refine r_iload_n hC 4 dX12_two_187 rfl rfl ?_
        refine r_icmp_ge hC 197 rfl rfl dX12_two_188 (by decide) (fun cq => ?_) (fun cq => ?_)
        · replace h := h.1 cq
          refine let_elim h (fun x4_29 e_30 h => ?_)
          refine r_iinc (lv' := [(4, vI x4_29), (7, vI xs0), (0, vR Y.1 a0), (1, vI x1), (2, vI x2), (3, vI x3), (5, vI x5), (6, vI x6)]) hC 5 dX12_two_197 rfl (by decide) e_30 rfl ?_
          refine r_goto hC 24 dX12_two_200 (by decide) ?_
          refine r_sub [2, 3, 4, 5, 0] rfl ?_
          exact hC24 _ _ _ _ h
        · replace h := h.2 cq
          refine r_sub [1, 2, 5, 0] rfl ?_
          exact tX12_two_J191 hC hF hL Q _  _ _ _ _ qa0 hC24 _ h
set_option maxHeartbeats 4000000 in
set_option maxRecDepth 100000 in
theorem tX12_two_L24 {X : Cx} {Y : Yx} {M0 : Mem} (hC : OKX X Y RX12 cX12_two 10 (some .int) rmX12_two) (hF : Y.2.2.2.2 = true) (hL : Lay M0) (Q : Int → Mem → Prop) (E203 : Int → Mem → Prop) (a0 : Nat) (x1 : Int) (qa0 : 0 < a0 ∧ M0 0 a0 = kO 12) (hE203 : ∀ (x2 : Int) (M : Mem), E203 x2 M → WW X Y 10 rmX12_two (QI Q) M0 0 0 203 [(0, vR Y.1 a0), (2, vI x2)] [] M) : ∀ (N : Nat) (x2 : Int) (x3 : Int) (x4 : Int) (M : Mem) (_ : wX12_two_L24 Q E203 a0 x1 N x2 x3 x4 M), WW X Y 10 rmX12_two (QI Q) M0 0 0 24 [(0, vR Y.1 a0), (1, vI x1), (2, vI x2), (3, vI x3), (4, vI x4)] [] M := by
  intro N
  induction N with
  | zero =>
    intro x2 x3 x4 M h
    exact h.elim
  | succ N ih =>
    intro x2 x3 x4 M h
    unfold wX12_two_L24 at h
    refine r_iload hC 4 dX12_two_24 rfl ?_
    refine r_iconst hC dX12_two_26 ?_
    refine r_aload_n hC 0 dX12_two_27 rfl rfl ?_
    have q_4 : 0 < a0 + 1 ∧ M0 0 (a0 + 1) = kA 0 1522 := lay_f0 (a := a0) hL qa0 fm_12_0
    refine r_getR0 (a' := a0 + 1) hC fg_X12_7 rfl hF fm_12_0 qa0.1 qa0.2 rfl dX12_two_28 ?_
    refine r_iconst hC dX12_two_31 ?_
    refine r_iald hC ⟨by decide +kernel, by decide +kernel⟩ q_4.1 q_4.2 (by decide) dX12_two_32 ?_
    refine r_ishl hC dX12_two_33 ?_
    refine r_icmp_ge hC 203 rfl rfl dX12_two_34 (by decide) (fun cq => ?_) (fun cq => ?_)
    · replace h := h.1 cq
      refine r_sub [0, 2] rfl ?_
      exact hE203 _ _ h
    · replace h := h.2 cq
      refine r_iconst hC dX12_two_37 ?_
      refine r_istore (lv' := [(5, vI 0), (0, vR Y.1 a0), (1, vI x1), (2, vI x2), (3, vI x3), (4, vI x4)]) hC dX12_two_38 (by decide) rfl ?_
      refine r_iconst hC dX12_two_40 ?_
      refine r_istore (lv' := [(6, vI 0), (5, vI 0), (0, vR Y.1 a0), (1, vI x1), (2, vI x2), (3, vI x3), (4, vI x4)]) hC dX12_two_41 (by decide) rfl ?_
      refine r_iconst hC dX12_two_43 ?_
      refine r_istore (lv' := [(7, vI 0), (6, vI 0), (5, vI 0), (0, vR Y.1 a0), (1, vI x1), (2, vI x2), (3, vI x3), (4, vI x4)]) hC dX12_two_44 (by decide) rfl ?_
      refine r_iconst hC dX12_two_46 ?_
      refine r_istore (lv' := [(8, vI 0), (7, vI 0), (6, vI 0), (5, vI 0), (0, vR Y.1 a0), (1, vI x1), (2, vI x2), (3, vI x3), (4, vI x4)]) hC dX12_two_47 (by decide) rfl ?_
      refine r_sub [4, 5, 6, 7, 8, 3, 2, 1, 0] rfl ?_
      obtain ⟨N_31, h⟩ := h
      refine tX12_two_L49 hC hF hL Q _ _ _ _ _ _ qa0 ?_ N_31 _ _ _ _ _ h
      · intro x5_19 x6_20 x7_21 M_22 h
        refine r_iload hC 7 dX12_two_154 rfl ?_
        refine r_if_ge hC 165 rfl dX12_two_156 (by decide) (fun cq => ?_) (fun cq => ?_)
        · replace h := h.1 cq
          refine r_iload hC 7 dX12_two_165 rfl ?_
          refine r_sub [0, 1, 2, 3, 4, 5, 6] rfl ?_
          exact tX12_two_J167 hC hF hL Q _  _ _ _ _ _ _ _ _ qa0 ih _ h
        · replace h := h.2 cq
          refine r_iload hC 7 dX12_two_159 rfl ?_
          refine r_ineg hC dX12_two_161 ?_
          refine r_goto hC 167 dX12_two_162 (by decide) ?_
          refine r_sub [0, 1, 2, 3, 4, 5, 6] rfl ?_
          exact tX12_two_J167 hC hF hL Q _  _ _ _ _ _ _ _ _ qa0 ih _ h
set_option maxHeartbeats 4000000 in
set_option maxRecDepth 100000 in
theorem mX12_two (Y : Yx) (hF : Y.2.2.2.2 = true) (l : Launch) (a0 : Nat) (x1 : Int) (M0 : Mem) (Q : Int → Mem → Prop) (qa0 : 0 < a0 ∧ M0 0 a0 = kO 12) (h : wX12_two a0 x1 M0 Q) : CT Y l yX12_two cX12_two 10 (some .int) rmX12_two [vR Y.1 a0, vI x1] M0 (QI Q) := by
  unfold wX12_two at h
  refine ct_intro (by decide) (Nat.le_of_ble_eq_true rfl) ?_
  intro X hXl hC hL0
  have hL := hL0 hF
  change OKX X Y RX12 cX12_two 10 (some .int) rmX12_two at hC
  change WW X Y 10 rmX12_two (QI Q) M0 0 0 0 [(0, vR Y.1 a0), (1, vI x1)] [] M0
  refine r_iload_n hC 1 dX12_two_0 rfl rfl ?_
  refine r_iconst hC dX12_two_1 ?_
  refine r_sipush hC (by decide +kernel) dX12_two_2 ?_
  refine r_callS (As := [vI x1, vI 1, vI 999]) (st := []) hC cw_X12_79 rfl rfl (Nat.le_of_ble_eq_true rfl) ⟨Nat.le_of_ble_eq_true rfl, Nat.le_of_ble_eq_true rfl⟩ ⟨Nat.le_of_ble_eq_true rfl, Nat.le_of_ble_eq_true rfl⟩ dX12_two_5 (fun hk => mX12_in Y hF _ _ _ _ _ _  h) (fun v M_1 h => ?_)
  obtain ⟨r_2, rfl, h⟩ := h
  refine r_if_ne hC 17 rfl dX12_two_8 (by decide) (fun cq => ?_) (fun cq => ?_)
  · replace h := h.2 cq
    refine r_iconst hC dX12_two_17 ?_
    refine r_nameI h (fun x2_3 h => ?_)
    refine r_istore_n (lv' := [(2, vI x2_3), (0, vR Y.1 a0), (1, vI x1)]) hC dX12_two_18 rfl (by decide) rfl ?_
    refine r_iconst hC dX12_two_19 ?_
    refine r_istore_n (lv' := [(3, vI 0), (2, vI x2_3), (0, vR Y.1 a0), (1, vI x1)]) hC dX12_two_20 rfl (by decide) rfl ?_
    refine r_iconst hC dX12_two_21 ?_
    refine r_istore (lv' := [(4, vI 0), (3, vI 0), (2, vI x2_3), (0, vR Y.1 a0), (1, vI x1)]) hC dX12_two_22 (by decide) rfl ?_
    refine r_sub [3, 4, 2, 1, 0] rfl ?_
    obtain ⟨N_36, h⟩ := h
    refine tX12_two_L24 hC hF hL Q _ _ _ qa0 ?_ N_36 _ _ _ _ h
    · intro x2_32 M_33 h
      refine r_iload_n hC 1 dX12_two_203 rfl rfl ?_
      refine r_if_ge hC 215 rfl dX12_two_204 (by decide) (fun cq => ?_) (fun cq => ?_)
      · replace h := h.1 cq
        refine r_iload_n hC 1 dX12_two_215 rfl rfl ?_
        exact r_iret hC (Nat.zero_le _) (Nat.zero_le _) dX12_two_216 ⟨_, rfl, h⟩
      · replace h := h.2 cq
        refine r_aload_n hC 0 dX12_two_207 rfl rfl ?_
        refine r_iconst hC dX12_two_208 ?_
        refine r_callV (As := [vI 2]) (st := []) hC cw_X12_83 rfl qa0.1 qa0.2 rfl rfl (Nat.le_of_ble_eq_true rfl) ⟨Nat.le_of_ble_eq_true rfl, Nat.le_of_ble_eq_true rfl⟩ ⟨Nat.le_of_ble_eq_true rfl, Nat.le_of_ble_eq_true rfl⟩ dX12_two_209 (fun hk => mX12_error Y hF _ _ _ _ _ (kqO hk qa0) h) (fun v M_34 h => ?_)
        obtain ⟨r_35, rfl, h⟩ := h
        refine r_goto hC 216 dX12_two_212 (by decide) ?_
        exact r_iret hC (Nat.zero_le _) (Nat.zero_le _) dX12_two_216 ⟨_, rfl, h⟩
  · replace h := h.1 cq
    refine r_aload_n hC 0 dX12_two_11 rfl rfl ?_
    refine r_iconst hC dX12_two_12 ?_
    refine r_callV (As := [vI 1]) (st := []) hC cw_X12_83 rfl qa0.1 qa0.2 rfl rfl (Nat.le_of_ble_eq_true rfl) ⟨Nat.le_of_ble_eq_true rfl, Nat.le_of_ble_eq_true rfl⟩ ⟨Nat.le_of_ble_eq_true rfl, Nat.le_of_ble_eq_true rfl⟩ dX12_two_13 (fun hk => mX12_error Y hF _ _ _ _ _ (kqO hk qa0) h) (fun v M_37 h => ?_)
    obtain ⟨r_38, rfl, h⟩ := h
    exact r_iret hC (Nat.zero_le _) (Nat.zero_le _) dX12_two_16 ⟨_, rfl, h⟩
theorem dX12_keepRow_0 : dec cX12_keepRow 0 1 1 (.aload_n 0) := ⟨by decide +kernel, rfl⟩
theorem dX12_keepRow_1 : dec cX12_keepRow 1 3 4 (.getfield 7) := ⟨by decide +kernel, rfl⟩
theorem dX12_keepRow_4 : dec cX12_keepRow 4 1 5 (.iload_n 1) := ⟨by decide +kernel, rfl⟩
theorem dX12_keepRow_5 : dec cX12_keepRow 5 1 6 (.aload_n 0) := ⟨by decide +kernel, rfl⟩
theorem dX12_keepRow_6 : dec cX12_keepRow 6 3 9 (.getfield 162) := ⟨by decide +kernel, rfl⟩
theorem dX12_keepRow_9 : dec cX12_keepRow 9 1 10 (.iastore) := ⟨by decide +kernel, rfl⟩
theorem dX12_keepRow_10 : dec cX12_keepRow 10 1 11 (.iconst 0) := ⟨by decide +kernel, rfl⟩
theorem dX12_keepRow_11 : dec cX12_keepRow 11 1 12 (.istore_n 2) := ⟨by decide +kernel, rfl⟩
theorem dX12_keepRow_12 : dec cX12_keepRow 12 1 13 (.iload_n 2) := ⟨by decide +kernel, rfl⟩
theorem dX12_keepRow_13 : dec cX12_keepRow 13 1 14 (.aload_n 0) := ⟨by decide +kernel, rfl⟩
theorem dX12_keepRow_14 : dec cX12_keepRow 14 3 17 (.getfield 162) := ⟨by decide +kernel, rfl⟩
theorem dX12_keepRow_17 : dec cX12_keepRow 17 3 20 (.if_icmp .ge 25) := ⟨by decide +kernel, rfl⟩
theorem dX12_keepRow_20 : dec cX12_keepRow 20 1 21 (.aload_n 0) := ⟨by decide +kernel, rfl⟩
theorem dX12_keepRow_21 : dec cX12_keepRow 21 3 24 (.getfield 7) := ⟨by decide +kernel, rfl⟩
theorem dX12_keepRow_24 : dec cX12_keepRow 24 1 25 (.iload_n 1) := ⟨by decide +kernel, rfl⟩
theorem dX12_keepRow_25 : dec cX12_keepRow 25 1 26 (.iconst 1) := ⟨by decide +kernel, rfl⟩
theorem dX12_keepRow_26 : dec cX12_keepRow 26 1 27 (.iadd) := ⟨by decide +kernel, rfl⟩
theorem dX12_keepRow_27 : dec cX12_keepRow 27 1 28 (.iload_n 2) := ⟨by decide +kernel, rfl⟩
theorem dX12_keepRow_28 : dec cX12_keepRow 28 1 29 (.iadd) := ⟨by decide +kernel, rfl⟩
theorem dX12_keepRow_29 : dec cX12_keepRow 29 1 30 (.aload_n 0) := ⟨by decide +kernel, rfl⟩
theorem dX12_keepRow_30 : dec cX12_keepRow 30 3 33 (.getfield 28) := ⟨by decide +kernel, rfl⟩
theorem dX12_keepRow_33 : dec cX12_keepRow 33 1 34 (.iload_n 2) := ⟨by decide +kernel, rfl⟩
theorem dX12_keepRow_34 : dec cX12_keepRow 34 1 35 (.iaload) := ⟨by decide +kernel, rfl⟩
theorem dX12_keepRow_35 : dec cX12_keepRow 35 1 36 (.iastore) := ⟨by decide +kernel, rfl⟩
theorem dX12_keepRow_36 : dec cX12_keepRow 36 3 39 (.iinc 2 1) := ⟨by decide +kernel, rfl⟩
theorem dX12_keepRow_39 : dec cX12_keepRow 39 3 42 (.goto (-27)) := ⟨by decide +kernel, rfl⟩
theorem dX12_keepRow_42 : dec cX12_keepRow 42 1 43 (.return_) := ⟨by decide +kernel, rfl⟩
set_option maxHeartbeats 4000000 in
set_option maxRecDepth 100000 in
theorem tX12_keepRow_L12 {X : Cx} {Y : Yx} {M0 : Mem} (hC : OKX X Y RX12 cX12_keepRow 3 none rmX12_keepRow) (hF : Y.2.2.2.2 = true) (hL : Lay M0) (Q : Mem → Prop)  (a0 : Nat) (x1 : Int) (qa0 : 0 < a0 ∧ M0 0 a0 = kO 12)  : ∀ (N : Nat) (x2 : Int) (M : Mem) (_ : wX12_keepRow_L12 Q  a0 x1 N x2 M), WW X Y 3 rmX12_keepRow (QV Q) M0 0 0 12 [(0, vR Y.1 a0), (1, vI x1), (2, vI x2)] [] M := by
  intro N
  induction N with
  | zero =>
    intro x2 M h
    exact h.elim
  | succ N ih =>
    intro x2 M h
    unfold wX12_keepRow_L12 at h
    refine r_iload_n hC 2 dX12_keepRow_12 rfl rfl ?_
    refine r_aload_n hC 0 dX12_keepRow_13 rfl rfl ?_
    refine r_getI hC fg_X12_162 rfl qa0.1 qa0.2 dX12_keepRow_14 ?_
    refine r_icmp_ge hC 42 rfl rfl dX12_keepRow_17 (by decide) (fun cq => ?_) (fun cq => ?_)
    · replace h := h.1 cq
      exact r_vret hC (Nat.zero_le _) (Nat.zero_le _) dX12_keepRow_42 ⟨rfl, h⟩
    · replace h := h.2 cq
      refine r_aload_n hC 0 dX12_keepRow_20 rfl rfl ?_
      have q_4 : 0 < a0 + 1 ∧ M0 0 (a0 + 1) = kA 0 1522 := lay_f0 (a := a0) hL qa0 fm_12_0
      refine r_getR0 (a' := a0 + 1) hC fg_X12_7 rfl hF fm_12_0 qa0.1 qa0.2 rfl dX12_keepRow_21 ?_
      refine r_iload_n hC 1 dX12_keepRow_24 rfl rfl ?_
      refine r_iconst hC dX12_keepRow_25 ?_
      refine r_iadd hC dX12_keepRow_26 ?_
      refine r_iload_n hC 2 dX12_keepRow_27 rfl rfl ?_
      refine r_iadd hC dX12_keepRow_28 ?_
      refine r_aload_n hC 0 dX12_keepRow_29 rfl rfl ?_
      have q_5 : 0 < a0 + 7 ∧ M0 0 (a0 + 7) = kA 0 12 := lay_f0 (a := a0) hL qa0 fm_12_12
      refine r_getR0 (a' := a0 + 7) hC fg_X12_28 rfl hF fm_12_12 qa0.1 qa0.2 rfl dX12_keepRow_30 ?_
      refine r_iload_n hC 2 dX12_keepRow_33 rfl rfl ?_
      obtain ⟨i_6, h⟩ := h
      refine r_iald hC i_6 q_5.1 q_5.2 (by decide) dX12_keepRow_34 ?_
      obtain ⟨i_7, h⟩ := h
      refine r_iast hC i_7 q_4.1 q_4.2 (by decide) dX12_keepRow_35 ?_
      refine r_nameM h (fun M_8 h => ?_)
      refine let_elim h (fun x2_9 e_10 h => ?_)
      refine r_iinc (lv' := [(2, vI x2_9), (0, vR Y.1 a0), (1, vI x1)]) hC 2 dX12_keepRow_36 rfl (by decide) e_10 rfl ?_
      refine r_goto hC 12 dX12_keepRow_39 (by decide) ?_
      refine r_sub [1, 2, 0] rfl ?_
      exact ih _ _ h
set_option maxHeartbeats 4000000 in
set_option maxRecDepth 100000 in
theorem mX12_keepRow (Y : Yx) (hF : Y.2.2.2.2 = true) (l : Launch) (a0 : Nat) (x1 : Int) (M0 : Mem) (Q : Mem → Prop) (qa0 : 0 < a0 ∧ M0 0 a0 = kO 12) (h : wX12_keepRow a0 x1 M0 Q) : CT Y l yX12_keepRow cX12_keepRow 3 none rmX12_keepRow [vR Y.1 a0, vI x1] M0 (QV Q) := by
  unfold wX12_keepRow at h
  refine ct_intro (by decide) (Nat.le_of_ble_eq_true rfl) ?_
  intro X hXl hC hL0
  have hL := hL0 hF
  change OKX X Y RX12 cX12_keepRow 3 none rmX12_keepRow at hC
  change WW X Y 3 rmX12_keepRow (QV Q) M0 0 0 0 [(0, vR Y.1 a0), (1, vI x1)] [] M0
  refine r_aload_n hC 0 dX12_keepRow_0 rfl rfl ?_
  have q_1 : 0 < a0 + 1 ∧ M0 0 (a0 + 1) = kA 0 1522 := lay_f0 (a := a0) hL qa0 fm_12_0
  refine r_getR0 (a' := a0 + 1) hC fg_X12_7 rfl hF fm_12_0 qa0.1 qa0.2 rfl dX12_keepRow_1 ?_
  refine r_iload_n hC 1 dX12_keepRow_4 rfl rfl ?_
  refine r_aload_n hC 0 dX12_keepRow_5 rfl rfl ?_
  refine r_getI hC fg_X12_162 rfl qa0.1 qa0.2 dX12_keepRow_6 ?_
  obtain ⟨i_2, h⟩ := h
  refine r_iast hC i_2 q_1.1 q_1.2 (by decide) dX12_keepRow_9 ?_
  refine r_nameM h (fun M_3 h => ?_)
  refine r_iconst hC dX12_keepRow_10 ?_
  refine r_istore_n (lv' := [(2, vI 0), (0, vR Y.1 a0), (1, vI x1)]) hC dX12_keepRow_11 rfl (by decide) rfl ?_
  refine r_sub [1, 2, 0] rfl ?_
  obtain ⟨N_11, h⟩ := h
  refine tX12_keepRow_L12 hC hF hL Q  _ _ qa0  N_11 _ _ h
