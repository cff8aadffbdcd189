theorem dX12_error_0 : dec cX12_error 0 1 1 (.aload_n 0) := ⟨by decide +kernel, rfl⟩
theorem dX12_error_1 : dec cX12_error 1 3 4 (.getfield 16) := ⟨by decide +kernel, rfl⟩
theorem dX12_error_4 : dec cX12_error 4 1 5 (.iload_n 1) := ⟨by decide +kernel, rfl⟩
theorem dX12_error_5 : dec cX12_error 5 1 6 (.dup2) := ⟨by decide +kernel, rfl⟩
theorem dX12_error_6 : dec cX12_error 6 1 7 (.iaload) := ⟨by decide +kernel, rfl⟩
theorem dX12_error_7 : dec cX12_error 7 1 8 (.iconst 1) := ⟨by decide +kernel, rfl⟩
theorem dX12_error_8 : dec cX12_error 8 1 9 (.iadd) := ⟨by decide +kernel, rfl⟩
theorem dX12_error_9 : dec cX12_error 9 1 10 (.iastore) := ⟨by decide +kernel, rfl⟩
theorem dX12_error_10 : dec cX12_error 10 2 12 (.ldc 78) := ⟨by decide +kernel, rfl⟩
theorem dX12_error_12 : dec cX12_error 12 1 13 (.iload_n 1) := ⟨by decide +kernel, rfl⟩
theorem dX12_error_13 : dec cX12_error 13 1 14 (.isub) := ⟨by decide +kernel, rfl⟩
theorem dX12_error_14 : dec cX12_error 14 1 15 (.ireturn) := ⟨by decide +kernel, rfl⟩
set_option maxHeartbeats 4000000 in
set_option maxRecDepth 100000 in
theorem mX12_error (Y : Yx) (l : Launch) (a0 : Nat) (x1 : Int) (M0 : Mem) (Q : Int → Mem → Prop) (qa0 : 0 < a0 ∧ M0 0 a0 = kO 12) (h : wX12_error a0 x1 M0 Q) : CT Y l yX12_error cX12_error 2 (some .int) rmX12_error [vR Y.1 a0, vI x1] M0 (QI Q) := by
  unfold wX12_error at h
  refine ct_intro (by decide) (Nat.le_of_ble_eq_true rfl) ?_
  intro X hXl hC hL
  change OKX X Y RX12 cX12_error 2 (some .int) rmX12_error at hC
  change WW X Y 2 rmX12_error (QI Q) M0 0 0 0 [(0, vR Y.1 a0), (1, vI x1)] [] M0
  refine r_aload_n hC 0 dX12_error_0 rfl rfl ?_
  have q_1 : 0 < a0 + 3 ∧ M0 0 (a0 + 3) = kA 0 7 := lay_f0 hL qa0 fm_12_3
  refine r_getR0 (a' := a0 + 3) hC fg_X12_16 rfl fm_12_3 qa0.1 qa0.2 rfl dX12_error_1 ?_
  refine r_iload_n hC 1 dX12_error_4 rfl rfl ?_
  refine r_dup2 hC rfl rfl dX12_error_5 ?_
  obtain ⟨i_2, h⟩ := h
  refine r_iald hC i_2 q_1.1 q_1.2 (by decide) dX12_error_6 ?_
  refine r_iconst hC dX12_error_7 ?_
  refine r_iadd hC dX12_error_8 ?_
  obtain ⟨i_3, h⟩ := h
  refine r_iast hC i_3 q_1.1 q_1.2 (by decide) dX12_error_9 ?_
  refine r_nameM h (fun M_4 h => ?_)
  refine r_ldc hC kc_X12_78 dX12_error_10 ?_
  refine r_iload_n hC 1 dX12_error_12 rfl rfl ?_
  refine r_isub hC dX12_error_13 ?_
  exact r_iret hC (by decide) (by decide) dX12_error_14 ⟨_, rfl, h⟩
theorem dX12_in_0 : dec cX12_in 0 1 1 (.iload_n 0) := ⟨by decide +kernel, rfl⟩
theorem dX12_in_1 : dec cX12_in 1 1 2 (.iload_n 1) := ⟨by decide +kernel, rfl⟩
theorem dX12_in_2 : dec cX12_in 2 3 5 (.if_icmp .lt 12) := ⟨by decide +kernel, rfl⟩
theorem dX12_in_5 : dec cX12_in 5 1 6 (.iload_n 0) := ⟨by decide +kernel, rfl⟩
theorem dX12_in_6 : dec cX12_in 6 1 7 (.iload_n 2) := ⟨by decide +kernel, rfl⟩
theorem dX12_in_7 : dec cX12_in 7 3 10 (.if_icmp .gt 7) := ⟨by decide +kernel, rfl⟩
theorem dX12_in_10 : dec cX12_in 10 1 11 (.iconst 1) := ⟨by decide +kernel, rfl⟩
theorem dX12_in_11 : dec cX12_in 11 3 14 (.goto 4) := ⟨by decide +kernel, rfl⟩
theorem dX12_in_14 : dec cX12_in 14 1 15 (.iconst 0) := ⟨by decide +kernel, rfl⟩
theorem dX12_in_15 : dec cX12_in 15 1 16 (.ireturn) := ⟨by decide +kernel, rfl⟩
set_option maxHeartbeats 4000000 in
set_option maxRecDepth 100000 in
theorem mX12_in (Y : Yx) (l : Launch) (x0 : Int) (x1 : Int) (x2 : Int) (M0 : Mem) (Q : Int → Mem → Prop)  (h : wX12_in x0 x1 x2 M0 Q) : CT Y l yX12_in cX12_in 3 (some .boolean) rmX12_in [vI x0, vI x1, vI x2] M0 (QI Q) := by
  unfold wX12_in at h
  refine ct_intro (by decide) (Nat.le_of_ble_eq_true rfl) ?_
  intro X hXl hC hL
  change OKX X Y RX12 cX12_in 3 (some .boolean) rmX12_in at hC
  change WW X Y 3 rmX12_in (QI Q) M0 0 0 0 [(0, vI x0), (1, vI x1), (2, vI x2)] [] M0
  refine r_iload_n hC 0 dX12_in_0 rfl rfl ?_
  refine r_iload_n hC 1 dX12_in_1 rfl rfl ?_
  refine r_icmp_lt hC 14 rfl rfl dX12_in_2 (by decide) (fun c => ?_) (fun c => ?_)
  · replace h := h.1 c
    refine r_iconst hC dX12_in_14 ?_
    exact r_zret hC (Or.inl rfl) (by decide) (by decide) dX12_in_15 ⟨_, rfl, h⟩
  · replace h := h.2 c
    refine r_iload_n hC 0 dX12_in_5 rfl rfl ?_
    refine r_iload_n hC 2 dX12_in_6 rfl rfl ?_
    refine r_icmp_gt hC 14 rfl rfl dX12_in_7 (by decide) (fun c => ?_) (fun c => ?_)
    · replace h := h.1 c
      refine r_iconst hC dX12_in_14 ?_
      exact r_zret hC (Or.inl rfl) (by decide) (by decide) dX12_in_15 ⟨_, rfl, h⟩
    · replace h := h.2 c
      refine r_iconst hC dX12_in_10 ?_
      refine r_goto hC 15 dX12_in_11 (by decide) ?_
      exact r_zret hC (Or.inr rfl) (by decide) (by decide) dX12_in_15 ⟨_, rfl, h⟩
theorem dX12_ones_0 : dec cX12_ones 0 1 1 (.iconst 0) := ⟨by decide +kernel, rfl⟩
theorem dX12_ones_1 : dec cX12_ones 1 1 2 (.istore_n 1) := ⟨by decide +kernel, rfl⟩
theorem dX12_ones_2 : dec cX12_ones 2 1 3 (.iconst 0) := ⟨by decide +kernel, rfl⟩
theorem dX12_ones_3 : dec cX12_ones 3 1 4 (.istore_n 2) := ⟨by decide +kernel, rfl⟩
theorem dX12_ones_4 : dec cX12_ones 4 1 5 (.iload_n 2) := ⟨by decide +kernel, rfl⟩
theorem dX12_ones_5 : dec cX12_ones 5 2 7 (.bipush 12) := ⟨by decide +kernel, rfl⟩
theorem dX12_ones_7 : dec cX12_ones 7 3 10 (.if_icmp .ge 17) := ⟨by decide +kernel, rfl⟩
theorem dX12_ones_10 : dec cX12_ones 10 1 11 (.iload_n 1) := ⟨by decide +kernel, rfl⟩
theorem dX12_ones_11 : dec cX12_ones 11 1 12 (.iload_n 0) := ⟨by decide +kernel, rfl⟩
theorem dX12_ones_12 : dec cX12_ones 12 1 13 (.iload_n 2) := ⟨by decide +kernel, rfl⟩
theorem dX12_ones_13 : dec cX12_ones 13 1 14 (.ishr) := ⟨by decide +kernel, rfl⟩
theorem dX12_ones_14 : dec cX12_ones 14 1 15 (.iconst 1) := ⟨by decide +kernel, rfl⟩
theorem dX12_ones_15 : dec cX12_ones 15 1 16 (.iand) := ⟨by decide +kernel, rfl⟩
theorem dX12_ones_16 : dec cX12_ones 16 1 17 (.iadd) := ⟨by decide +kernel, rfl⟩
theorem dX12_ones_17 : dec cX12_ones 17 1 18 (.istore_n 1) := ⟨by decide +kernel, rfl⟩
theorem dX12_ones_18 : dec cX12_ones 18 3 21 (.iinc 2 1) := ⟨by decide +kernel, rfl⟩
theorem dX12_ones_21 : dec cX12_ones 21 3 24 (.goto (-17)) := ⟨by decide +kernel, rfl⟩
theorem dX12_ones_24 : dec cX12_ones 24 1 25 (.iload_n 1) := ⟨by decide +kernel, rfl⟩
theorem dX12_ones_25 : dec cX12_ones 25 1 26 (.ireturn) := ⟨by decide +kernel, rfl⟩
set_option maxHeartbeats 4000000 in
set_option maxRecDepth 100000 in
theorem tX12_ones_L4 {X : Cx} {Y : Yx} {M0 : Mem} (hC : OKX X Y RX12 cX12_ones 3 (some .int) rmX12_ones) (hL : Lay M0) (Q : Int → Mem → Prop)  (x0 : Int)   : ∀ (N : Nat) (x1 : Int) (x2 : Int) (M : Mem) (_ : wX12_ones_L4 Q  x0 N x1 x2 M), WW X Y 3 rmX12_ones (QI Q) M0 0 0 4 [(0, vI x0), (1, vI x1), (2, vI x2)] [] M := by
  intro N
  induction N with
  | zero =>
    intro x1 x2 M h
    exact h.elim
  | succ N ih =>
    intro x1 x2 M h
    unfold wX12_ones_L4 at h
    refine r_iload_n hC 2 dX12_ones_4 rfl rfl ?_
    refine r_bipush hC (by decide +kernel) dX12_ones_5 ?_
    refine r_icmp_ge hC 24 rfl bmL_12 dX12_ones_7 (by decide) (fun c => ?_) (fun c => ?_)
    · replace h := h.1 c
      refine r_iload_n hC 1 dX12_ones_24 rfl rfl ?_
      exact r_iret hC (by decide) (by decide) dX12_ones_25 ⟨_, rfl, h⟩
    · replace h := h.2 c
      refine r_iload_n hC 1 dX12_ones_10 rfl rfl ?_
      refine r_iload_n hC 0 dX12_ones_11 rfl rfl ?_
      refine r_iload_n hC 2 dX12_ones_12 rfl rfl ?_
      refine r_ishr hC dX12_ones_13 ?_
      refine r_iconst hC dX12_ones_14 ?_
      refine r_iand hC dX12_ones_15 ?_
      refine r_iadd hC dX12_ones_16 ?_
      refine r_nameI h (fun x1_1 h => ?_)
      refine r_istore_n (lv' := [(1, vI x1_1), (0, vI x0), (2, vI x2)]) hC dX12_ones_17 rfl (by decide) rfl ?_
      refine let_elim h (fun x2_2 e_3 h => ?_)
      refine r_iinc (lv' := [(2, vI x2_2), (1, vI x1_1), (0, vI x0)]) hC 2 dX12_ones_18 rfl (by decide) e_3 rfl ?_
      refine r_goto hC 4 dX12_ones_21 (by decide) ?_
      refine r_sub [2, 1, 0] rfl ?_
      exact ih _ _ _ h
set_option maxHeartbeats 4000000 in
set_option maxRecDepth 100000 in
theorem mX12_ones (Y : Yx) (l : Launch) (x0 : Int) (M0 : Mem) (Q : Int → Mem → Prop)  (h : wX12_ones x0 M0 Q) : CT Y l yX12_ones cX12_ones 3 (some .int) rmX12_ones [vI x0] M0 (QI Q) := by
  unfold wX12_ones at h
  refine ct_intro (by decide) (Nat.le_of_ble_eq_true rfl) ?_
  intro X hXl hC hL
  change OKX X Y RX12 cX12_ones 3 (some .int) rmX12_ones at hC
  change WW X Y 3 rmX12_ones (QI Q) M0 0 0 0 [(0, vI x0)] [] M0
  refine r_iconst hC dX12_ones_0 ?_
  refine r_istore_n (lv' := [(1, vI 0), (0, vI x0)]) hC dX12_ones_1 rfl (by decide) rfl ?_
  refine r_iconst hC dX12_ones_2 ?_
  refine r_istore_n (lv' := [(2, vI 0), (1, vI 0), (0, vI x0)]) hC dX12_ones_3 rfl (by decide) rfl ?_
  refine r_sub [2, 1, 0] rfl ?_
  obtain ⟨N_4, h⟩ := h
  refine tX12_ones_L4 hC hL Q  _   N_4 _ _ _ h
theorem dX12_of_0 : dec cX12_of 0 1 1 (.aload_n 0) := ⟨by decide +kernel, rfl⟩
theorem dX12_of_1 : dec cX12_of 1 3 4 (.getfield 7) := ⟨by decide +kernel, rfl⟩
theorem dX12_of_4 : dec cX12_of 4 2 6 (.bipush 20) := ⟨by decide +kernel, rfl⟩
theorem dX12_of_6 : dec cX12_of 6 2 8 (.bipush 6) := ⟨by decide +kernel, rfl⟩
theorem dX12_of_8 : dec cX12_of 8 1 9 (.iload_n 1) := ⟨by decide +kernel, rfl⟩
theorem dX12_of_9 : dec cX12_of 9 1 10 (.imul) := ⟨by decide +kernel, rfl⟩
theorem dX12_of_10 : dec cX12_of 10 1 11 (.iadd) := ⟨by decide +kernel, rfl⟩
theorem dX12_of_11 : dec cX12_of 11 1 12 (.iload_n 2) := ⟨by decide +kernel, rfl⟩
theorem dX12_of_12 : dec cX12_of 12 1 13 (.iadd) := ⟨by decide +kernel, rfl⟩
theorem dX12_of_13 : dec cX12_of 13 1 14 (.iaload) := ⟨by decide +kernel, rfl⟩
theorem dX12_of_14 : dec cX12_of 14 1 15 (.ireturn) := ⟨by decide +kernel, rfl⟩
set_option maxHeartbeats 4000000 in
set_option maxRecDepth 100000 in
theorem mX12_of (Y : Yx) (l : Launch) (a0 : Nat) (x1 : Int) (x2 : Int) (M0 : Mem) (Q : Int → Mem → Prop) (qa0 : 0 < a0 ∧ M0 0 a0 = kO 12) (h : wX12_of a0 x1 x2 M0 Q) : CT Y l yX12_of cX12_of 3 (some .int) rmX12_of [vR Y.1 a0, vI x1, vI x2] M0 (QI Q) := by
  unfold wX12_of at h
  refine ct_intro (by decide) (Nat.le_of_ble_eq_true rfl) ?_
  intro X hXl hC hL
  change OKX X Y RX12 cX12_of 3 (some .int) rmX12_of at hC
  change WW X Y 3 rmX12_of (QI Q) M0 0 0 0 [(0, vR Y.1 a0), (1, vI x1), (2, vI x2)] [] M0
  refine r_aload_n hC 0 dX12_of_0 rfl rfl ?_
  have q_1 : 0 < a0 + 1 ∧ M0 0 (a0 + 1) = kA 0 1522 := lay_f0 hL qa0 fm_12_0
  refine r_getR0 (a' := a0 + 1) hC fg_X12_7 rfl fm_12_0 qa0.1 qa0.2 rfl dX12_of_1 ?_
  refine r_bipush hC (by decide +kernel) dX12_of_4 ?_
  refine r_bipush hC (by decide +kernel) dX12_of_6 ?_
  refine r_iload_n hC 1 dX12_of_8 rfl rfl ?_
  refine r_imul hC dX12_of_9 ?_
  refine r_iadd hC dX12_of_10 ?_
  refine r_iload_n hC 2 dX12_of_11 rfl rfl ?_
  refine r_iadd hC dX12_of_12 ?_
  obtain ⟨i_2, h⟩ := h
  refine r_iald hC i_2 q_1.1 q_1.2 (by decide) dX12_of_13 ?_
  exact r_iret hC (by decide) (by decide) dX12_of_14 ⟨_, rfl, h⟩
theorem dX12_carried_0 : dec cX12_carried 0 1 1 (.aload_n 0) := ⟨by decide +kernel, rfl⟩
theorem dX12_carried_1 : dec cX12_carried 1 1 2 (.iload_n 1) := ⟨by decide +kernel, rfl⟩
theorem dX12_carried_2 : dec cX12_carried 2 1 3 (.iconst 4) := ⟨by decide +kernel, rfl⟩
theorem dX12_carried_3 : dec cX12_carried 3 3 6 (.invokevirtual 91) := ⟨by decide +kernel, rfl⟩
theorem dX12_carried_6 : dec cX12_carried 6 1 7 (.aload_n 0) := ⟨by decide +kernel, rfl⟩
theorem dX12_carried_7 : dec cX12_carried 7 1 8 (.iload_n 2) := ⟨by decide +kernel, rfl⟩
theorem dX12_carried_8 : dec cX12_carried 8 1 9 (.iconst 4) := ⟨by decide +kernel, rfl⟩
theorem dX12_carried_9 : dec cX12_carried 9 3 12 (.invokevirtual 91) := ⟨by decide +kernel, rfl⟩
theorem dX12_carried_12 : dec cX12_carried 12 1 13 (.ixor) := ⟨by decide +kernel, rfl⟩
theorem dX12_carried_13 : dec cX12_carried 13 3 16 (.invokestatic 156) := ⟨by decide +kernel, rfl⟩
theorem dX12_carried_16 : dec cX12_carried 16 1 17 (.ireturn) := ⟨by decide +kernel, rfl⟩
set_option maxHeartbeats 4000000 in
set_option maxRecDepth 100000 in
theorem mX12_carried (Y : Yx) (l : Launch) (a0 : Nat) (x1 : Int) (x2 : Int) (M0 : Mem) (Q : Int → Mem → Prop) (qa0 : 0 < a0 ∧ M0 0 a0 = kO 12) (h : wX12_carried a0 x1 x2 M0 Q) : CT Y l yX12_carried cX12_carried 3 (some .int) rmX12_carried [vR Y.1 a0, vI x1, vI x2] M0 (QI Q) := by
  unfold wX12_carried at h
  refine ct_intro (by decide) (Nat.le_of_ble_eq_true rfl) ?_
  intro X hXl hC hL
  change OKX X Y RX12 cX12_carried 3 (some .int) rmX12_carried at hC
  change WW X Y 3 rmX12_carried (QI Q) M0 0 0 0 [(0, vR Y.1 a0), (1, vI x1), (2, vI x2)] [] M0
  refine r_aload_n hC 0 dX12_carried_0 rfl rfl ?_
  refine r_iload_n hC 1 dX12_carried_1 rfl rfl ?_
  refine r_iconst hC dX12_carried_2 ?_
  refine r_callV (As := [vI x1, vI 4]) (st := []) hC cw_X12_91 rfl qa0.1 qa0.2 rfl rfl (Nat.le_of_ble_eq_true rfl) ⟨Nat.le_of_ble_eq_true rfl, Nat.le_of_ble_eq_true rfl⟩ ⟨Nat.le_of_ble_eq_true rfl, Nat.le_of_ble_eq_true rfl⟩ dX12_carried_3 (fun hk => mX12_of Y _ _ _ _ _ _ (kqO hk qa0) h) (fun v M_1 h => ?_)
  obtain ⟨r_2, rfl, h⟩ := h
  refine r_aload_n hC 0 dX12_carried_6 rfl rfl ?_
  refine r_iload_n hC 2 dX12_carried_7 rfl rfl ?_
  refine r_iconst hC dX12_carried_8 ?_
  refine r_callV (As := [vI x2, vI 4]) (st := [vI r_2]) hC cw_X12_91 rfl qa0.1 qa0.2 rfl rfl (Nat.le_of_ble_eq_true rfl) ⟨Nat.le_of_ble_eq_true rfl, Nat.le_of_ble_eq_true rfl⟩ ⟨Nat.le_of_ble_eq_true rfl, Nat.le_of_ble_eq_true rfl⟩ dX12_carried_9 (fun hk => mX12_of Y _ _ _ _ _ _ (kqO hk qa0) h) (fun v M_3 h => ?_)
  obtain ⟨r_4, rfl, h⟩ := h
  refine r_ixor hC dX12_carried_12 ?_
  refine r_callS (As := [vI (iXor r_2 r_4)]) (st := []) hC cw_X12_156 rfl rfl (Nat.le_of_ble_eq_true rfl) ⟨Nat.le_of_ble_eq_true rfl, Nat.le_of_ble_eq_true rfl⟩ ⟨Nat.le_of_ble_eq_true rfl, Nat.le_of_ble_eq_true rfl⟩ dX12_carried_13 (fun hk => mX12_ones Y _ _ _ _  h) (fun v M_5 h => ?_)
  obtain ⟨r_6, rfl, h⟩ := h
  exact r_iret hC (by decide) (by decide) dX12_carried_16 ⟨_, rfl, h⟩
theorem dX12_isApart_0 : dec cX12_isApart 0 1 1 (.aload_n 0) := ⟨by decide +kernel, rfl⟩
theorem dX12_isApart_1 : dec cX12_isApart 1 3 4 (.getfield 159) := ⟨by decide +kernel, rfl⟩
theorem dX12_isApart_4 : dec cX12_isApart 4 3 7 (.ifCond .le 15) := ⟨by decide +kernel, rfl⟩
theorem dX12_isApart_7 : dec cX12_isApart 7 1 8 (.iload_n 1) := ⟨by decide +kernel, rfl⟩
theorem dX12_isApart_8 : dec cX12_isApart 8 1 9 (.aload_n 0) := ⟨by decide +kernel, rfl⟩
theorem dX12_isApart_9 : dec cX12_isApart 9 3 12 (.getfield 159) := ⟨by decide +kernel, rfl⟩
theorem dX12_isApart_12 : dec cX12_isApart 12 3 15 (.if_icmp .ne 7) := ⟨by decide +kernel, rfl⟩
theorem dX12_isApart_15 : dec cX12_isApart 15 1 16 (.iconst 1) := ⟨by decide +kernel, rfl⟩
theorem dX12_isApart_16 : dec cX12_isApart 16 3 19 (.goto 4) := ⟨by decide +kernel, rfl⟩
theorem dX12_isApart_19 : dec cX12_isApart 19 1 20 (.iconst 0) := ⟨by decide +kernel, rfl⟩
theorem dX12_isApart_20 : dec cX12_isApart 20 1 21 (.ireturn) := ⟨by decide +kernel, rfl⟩
set_option maxHeartbeats 4000000 in
set_option maxRecDepth 100000 in
theorem mX12_isApart (Y : Yx) (l : Launch) (a0 : Nat) (x1 : Int) (M0 : Mem) (Q : Int → Mem → Prop) (qa0 : 0 < a0 ∧ M0 0 a0 = kO 12) (h : wX12_isApart a0 x1 M0 Q) : CT Y l yX12_isApart cX12_isApart 2 (some .boolean) rmX12_isApart [vR Y.1 a0, vI x1] M0 (QI Q) := by
  unfold wX12_isApart at h
  refine ct_intro (by decide) (Nat.le_of_ble_eq_true rfl) ?_
  intro X hXl hC hL
  change OKX X Y RX12 cX12_isApart 2 (some .boolean) rmX12_isApart at hC
  change WW X Y 2 rmX12_isApart (QI Q) M0 0 0 0 [(0, vR Y.1 a0), (1, vI x1)] [] M0
  refine r_aload_n hC 0 dX12_isApart_0 rfl rfl ?_
  refine r_getI hC fg_X12_159 rfl qa0.1 qa0.2 dX12_isApart_1 ?_
  refine r_if_le hC 19 rfl dX12_isApart_4 (by decide) (fun c => ?_) (fun c => ?_)
  · replace h := h.1 c
    refine r_iconst hC dX12_isApart_19 ?_
    exact r_zret hC (Or.inl rfl) (by decide) (by decide) dX12_isApart_20 ⟨_, rfl, h⟩
  · replace h := h.2 c
    refine r_iload_n hC 1 dX12_isApart_7 rfl rfl ?_
    refine r_aload_n hC 0 dX12_isApart_8 rfl rfl ?_
    refine r_getI hC fg_X12_159 rfl qa0.1 qa0.2 dX12_isApart_9 ?_
    refine r_icmp_ne hC 19 rfl rfl dX12_isApart_12 (by decide) (fun c => ?_) (fun c => ?_)
    · replace h := h.2 c
      refine r_iconst hC dX12_isApart_19 ?_
      exact r_zret hC (Or.inl rfl) (by decide) (by decide) dX12_isApart_20 ⟨_, rfl, h⟩
    · replace h := h.1 c
      refine r_iconst hC dX12_isApart_15 ?_
      refine r_goto hC 20 dX12_isApart_16 (by decide) ?_
      exact r_zret hC (Or.inr rfl) (by decide) (by decide) dX12_isApart_20 ⟨_, rfl, h⟩
theorem dX12_less_0 : dec cX12_less 0 1 1 (.iload_n 1) := ⟨by decide +kernel, rfl⟩
theorem dX12_less_1 : dec cX12_less 1 1 2 (.iload_n 2) := ⟨by decide +kernel, rfl⟩
theorem dX12_less_2 : dec cX12_less 2 1 3 (.aload_n 0) := ⟨by decide +kernel, rfl⟩
theorem dX12_less_3 : dec cX12_less 3 3 6 (.getfield 7) := ⟨by decide +kernel, rfl⟩
theorem dX12_less_6 : dec cX12_less 6 2 8 (.bipush 7) := ⟨by decide +kernel, rfl⟩
theorem dX12_less_8 : dec cX12_less 8 1 9 (.iaload) := ⟨by decide +kernel, rfl⟩
theorem dX12_less_9 : dec cX12_less 9 1 10 (.imul) := ⟨by decide +kernel, rfl⟩
theorem dX12_less_10 : dec cX12_less 10 1 11 (.isub) := ⟨by decide +kernel, rfl⟩
theorem dX12_less_11 : dec cX12_less 11 1 12 (.istore_n 3) := ⟨by decide +kernel, rfl⟩
theorem dX12_less_12 : dec cX12_less 12 1 13 (.iload_n 3) := ⟨by decide +kernel, rfl⟩
theorem dX12_less_13 : dec cX12_less 13 3 16 (.ifCond .ge 7) := ⟨by decide +kernel, rfl⟩
theorem dX12_less_16 : dec cX12_less 16 1 17 (.iconst 0) := ⟨by decide +kernel, rfl⟩
theorem dX12_less_17 : dec cX12_less 17 3 20 (.goto 4) := ⟨by decide +kernel, rfl⟩
theorem dX12_less_20 : dec cX12_less 20 1 21 (.iload_n 3) := ⟨by decide +kernel, rfl⟩
theorem dX12_less_21 : dec cX12_less 21 1 22 (.ireturn) := ⟨by decide +kernel, rfl⟩
set_option maxHeartbeats 4000000 in
set_option maxRecDepth 100000 in
theorem mX12_less (Y : Yx) (l : Launch) (a0 : Nat) (x1 : Int) (x2 : Int) (M0 : Mem) (Q : Int → Mem → Prop) (qa0 : 0 < a0 ∧ M0 0 a0 = kO 12) (h : wX12_less a0 x1 x2 M0 Q) : CT Y l yX12_less cX12_less 4 (some .int) rmX12_less [vR Y.1 a0, vI x1, vI x2] M0 (QI Q) := by
  unfold wX12_less at h
  refine ct_intro (by decide) (Nat.le_of_ble_eq_true rfl) ?_
  intro X hXl hC hL
  change OKX X Y RX12 cX12_less 4 (some .int) rmX12_less at hC
  change WW X Y 4 rmX12_less (QI Q) M0 0 0 0 [(0, vR Y.1 a0), (1, vI x1), (2, vI x2)] [] M0
  refine r_iload_n hC 1 dX12_less_0 rfl rfl ?_
  refine r_iload_n hC 2 dX12_less_1 rfl rfl ?_
  refine r_aload_n hC 0 dX12_less_2 rfl rfl ?_
  have q_1 : 0 < a0 + 1 ∧ M0 0 (a0 + 1) = kA 0 1522 := lay_f0 hL qa0 fm_12_0
  refine r_getR0 (a' := a0 + 1) hC fg_X12_7 rfl fm_12_0 qa0.1 qa0.2 rfl dX12_less_3 ?_
  refine r_bipush hC (by decide +kernel) dX12_less_6 ?_
  refine r_iald hC ⟨by decide +kernel, by decide +kernel⟩ q_1.1 q_1.2 (by decide) dX12_less_8 ?_
  refine r_imul hC dX12_less_9 ?_
  refine r_isub hC dX12_less_10 ?_
  refine r_nameI h (fun x3_2 h => ?_)
  refine r_istore_n (lv' := [(3, vI x3_2), (0, vR Y.1 a0), (1, vI x1), (2, vI x2)]) hC dX12_less_11 rfl (by decide) rfl ?_
  refine r_iload_n hC 0 dX12_less_12 rfl rfl ?_
  refine r_if_ge hC 20 rfl dX12_less_13 (by decide) (fun c => ?_) (fun c => ?_)
  · replace h := h.1 c
    refine r_iload_n hC 0 dX12_less_20 rfl rfl ?_
    exact r_iret hC (by decide) (by decide) dX12_less_21 ⟨_, rfl, h⟩
  · replace h := h.2 c
    refine r_iconst hC dX12_less_16 ?_
    refine r_goto hC 21 dX12_less_17 (by decide) ?_
    exact r_iret hC (by decide) (by decide) dX12_less_21 ⟨_, rfl, h⟩
theorem dX12_layRow_0 : dec cX12_layRow 0 1 1 (.iconst 0) := ⟨by decide +kernel, rfl⟩
theorem dX12_layRow_1 : dec cX12_layRow 1 1 2 (.istore_n 1) := ⟨by decide +kernel, rfl⟩
theorem dX12_layRow_2 : dec cX12_layRow 2 1 3 (.iload_n 1) := ⟨by decide +kernel, rfl⟩
theorem dX12_layRow_3 : dec cX12_layRow 3 1 4 (.aload_n 0) := ⟨by decide +kernel, rfl⟩
theorem dX12_layRow_4 : dec cX12_layRow 4 3 7 (.getfield 162) := ⟨by decide +kernel, rfl⟩
theorem dX12_layRow_7 : dec cX12_layRow 7 3 10 (.if_icmp .ge 232) := ⟨by decide +kernel, rfl⟩
theorem dX12_layRow_10 : dec cX12_layRow 10 1 11 (.iload_n 1) := ⟨by decide +kernel, rfl⟩
theorem dX12_layRow_11 : dec cX12_layRow 11 3 14 (.ifCond .ne 7) := ⟨by decide +kernel, rfl⟩
theorem dX12_layRow_14 : dec cX12_layRow 14 1 15 (.iconst 0) := ⟨by decide +kernel, rfl⟩
theorem dX12_layRow_15 : dec cX12_layRow 15 3 18 (.goto 47) := ⟨by decide +kernel, rfl⟩
theorem dX12_layRow_18 : dec cX12_layRow 18 1 19 (.aload_n 0) := ⟨by decide +kernel, rfl⟩
theorem dX12_layRow_19 : dec cX12_layRow 19 1 20 (.iload_n 1) := ⟨by decide +kernel, rfl⟩
theorem dX12_layRow_20 : dec cX12_layRow 20 3 23 (.invokevirtual 165) := ⟨by decide +kernel, rfl⟩
theorem dX12_layRow_23 : dec cX12_layRow 23 3 26 (.ifCond .eq 13) := ⟨by decide +kernel, rfl⟩
theorem dX12_layRow_26 : dec cX12_layRow 26 1 27 (.aload_n 0) := ⟨by decide +kernel, rfl⟩
theorem dX12_layRow_27 : dec cX12_layRow 27 3 30 (.getfield 7) := ⟨by decide +kernel, rfl⟩
theorem dX12_layRow_30 : dec cX12_layRow 30 2 32 (.bipush 8) := ⟨by decide +kernel, rfl⟩
theorem dX12_layRow_32 : dec cX12_layRow 32 1 33 (.iaload) := ⟨by decide +kernel, rfl⟩
theorem dX12_layRow_33 : dec cX12_layRow 33 3 36 (.goto 29) := ⟨by decide +kernel, rfl⟩
theorem dX12_layRow_36 : dec cX12_layRow 36 1 37 (.aload_n 0) := ⟨by decide +kernel, rfl⟩
theorem dX12_layRow_37 : dec cX12_layRow 37 1 38 (.aload_n 0) := ⟨by decide +kernel, rfl⟩
theorem dX12_layRow_38 : dec cX12_layRow 38 3 41 (.getfield 28) := ⟨by decide +kernel, rfl⟩
theorem dX12_layRow_41 : dec cX12_layRow 41 1 42 (.iload_n 1) := ⟨by decide +kernel, rfl⟩
theorem dX12_layRow_42 : dec cX12_layRow 42 1 43 (.iconst 1) := ⟨by decide +kernel, rfl⟩
theorem dX12_layRow_43 : dec cX12_layRow 43 1 44 (.isub) := ⟨by decide +kernel, rfl⟩
theorem dX12_layRow_44 : dec cX12_layRow 44 1 45 (.iaload) := ⟨by decide +kernel, rfl⟩
theorem dX12_layRow_45 : dec cX12_layRow 45 1 46 (.aload_n 0) := ⟨by decide +kernel, rfl⟩
theorem dX12_layRow_46 : dec cX12_layRow 46 3 49 (.getfield 28) := ⟨by decide +kernel, rfl⟩
theorem dX12_layRow_49 : dec cX12_layRow 49 1 50 (.iload_n 1) := ⟨by decide +kernel, rfl⟩
theorem dX12_layRow_50 : dec cX12_layRow 50 1 51 (.iaload) := ⟨by decide +kernel, rfl⟩
theorem dX12_layRow_51 : dec cX12_layRow 51 3 54 (.invokevirtual 168) := ⟨by decide +kernel, rfl⟩
theorem dX12_layRow_54 : dec cX12_layRow 54 1 55 (.aload_n 0) := ⟨by decide +kernel, rfl⟩
theorem dX12_layRow_55 : dec cX12_layRow 55 3 58 (.getfield 7) := ⟨by decide +kernel, rfl⟩
theorem dX12_layRow_58 : dec cX12_layRow 58 2 60 (.bipush 6) := ⟨by decide +kernel, rfl⟩
theorem dX12_layRow_60 : dec cX12_layRow 60 1 61 (.iaload) := ⟨by decide +kernel, rfl⟩
theorem dX12_layRow_61 : dec cX12_layRow 61 1 62 (.imul) := ⟨by decide +kernel, rfl⟩
theorem dX12_layRow_62 : dec cX12_layRow 62 1 63 (.istore_n 2) := ⟨by decide +kernel, rfl⟩
theorem dX12_layRow_63 : dec cX12_layRow 63 1 64 (.aload_n 0) := ⟨by decide +kernel, rfl⟩
theorem dX12_layRow_64 : dec cX12_layRow 64 3 67 (.getfield 31) := ⟨by decide +kernel, rfl⟩
theorem dX12_layRow_67 : dec cX12_layRow 67 1 68 (.iload_n 1) := ⟨by decide +kernel, rfl⟩
theorem dX12_layRow_68 : dec cX12_layRow 68 1 69 (.iload_n 1) := ⟨by decide +kernel, rfl⟩
theorem dX12_layRow_69 : dec cX12_layRow 69 3 72 (.ifCond .ne 7) := ⟨by decide +kernel, rfl⟩
theorem dX12_layRow_72 : dec cX12_layRow 72 1 73 (.iconst 0) := ⟨by decide +kernel, rfl⟩
theorem dX12_layRow_73 : dec cX12_layRow 73 3 76 (.goto 13) := ⟨by decide +kernel, rfl⟩
theorem dX12_layRow_76 : dec cX12_layRow 76 1 77 (.aload_n 0) := ⟨by decide +kernel, rfl⟩
theorem dX12_layRow_77 : dec cX12_layRow 77 3 80 (.getfield 34) := ⟨by decide +kernel, rfl⟩
theorem dX12_layRow_80 : dec cX12_layRow 80 1 81 (.iload_n 1) := ⟨by decide +kernel, rfl⟩
theorem dX12_layRow_81 : dec cX12_layRow 81 1 82 (.iconst 1) := ⟨by decide +kernel, rfl⟩
theorem dX12_layRow_82 : dec cX12_layRow 82 1 83 (.isub) := ⟨by decide +kernel, rfl⟩
theorem dX12_layRow_83 : dec cX12_layRow 83 1 84 (.iaload) := ⟨by decide +kernel, rfl⟩
theorem dX12_layRow_84 : dec cX12_layRow 84 1 85 (.iload_n 2) := ⟨by decide +kernel, rfl⟩
theorem dX12_layRow_85 : dec cX12_layRow 85 1 86 (.iadd) := ⟨by decide +kernel, rfl⟩
theorem dX12_layRow_86 : dec cX12_layRow 86 1 87 (.iastore) := ⟨by decide +kernel, rfl⟩
theorem dX12_layRow_87 : dec cX12_layRow 87 1 88 (.aload_n 0) := ⟨by decide +kernel, rfl⟩
theorem dX12_layRow_88 : dec cX12_layRow 88 3 91 (.getfield 34) := ⟨by decide +kernel, rfl⟩
theorem dX12_layRow_91 : dec cX12_layRow 91 1 92 (.iload_n 1) := ⟨by decide +kernel, rfl⟩
theorem dX12_layRow_92 : dec cX12_layRow 92 1 93 (.aload_n 0) := ⟨by decide +kernel, rfl⟩
theorem dX12_layRow_93 : dec cX12_layRow 93 3 96 (.getfield 31) := ⟨by decide +kernel, rfl⟩
theorem dX12_layRow_96 : dec cX12_layRow 96 1 97 (.iload_n 1) := ⟨by decide +kernel, rfl⟩
theorem dX12_layRow_97 : dec cX12_layRow 97 1 98 (.iaload) := ⟨by decide +kernel, rfl⟩
theorem dX12_layRow_98 : dec cX12_layRow 98 1 99 (.aload_n 0) := ⟨by decide +kernel, rfl⟩
theorem dX12_layRow_99 : dec cX12_layRow 99 1 100 (.aload_n 0) := ⟨by decide +kernel, rfl⟩
theorem dX12_layRow_100 : dec cX12_layRow 100 3 103 (.getfield 28) := ⟨by decide +kernel, rfl⟩
theorem dX12_layRow_103 : dec cX12_layRow 103 1 104 (.iload_n 1) := ⟨by decide +kernel, rfl⟩
theorem dX12_layRow_104 : dec cX12_layRow 104 1 105 (.iaload) := ⟨by decide +kernel, rfl⟩
theorem dX12_layRow_105 : dec cX12_layRow 105 1 106 (.iconst 0) := ⟨by decide +kernel, rfl⟩
theorem dX12_layRow_106 : dec cX12_layRow 106 3 109 (.invokevirtual 91) := ⟨by decide +kernel, rfl⟩
theorem dX12_layRow_109 : dec cX12_layRow 109 1 110 (.iadd) := ⟨by decide +kernel, rfl⟩
theorem dX12_layRow_110 : dec cX12_layRow 110 1 111 (.iastore) := ⟨by decide +kernel, rfl⟩
theorem dX12_layRow_111 : dec cX12_layRow 111 1 112 (.iconst 0) := ⟨by decide +kernel, rfl⟩
theorem dX12_layRow_112 : dec cX12_layRow 112 1 113 (.istore_n 3) := ⟨by decide +kernel, rfl⟩
theorem dX12_layRow_113 : dec cX12_layRow 113 1 114 (.iload_n 3) := ⟨by decide +kernel, rfl⟩
theorem dX12_layRow_114 : dec cX12_layRow 114 2 116 (.bipush 8) := ⟨by decide +kernel, rfl⟩
theorem dX12_layRow_116 : dec cX12_layRow 116 3 119 (.if_icmp .ge 117) := ⟨by decide +kernel, rfl⟩
theorem dX12_layRow_119 : dec cX12_layRow 119 1 120 (.iload_n 1) := ⟨by decide +kernel, rfl⟩
theorem dX12_layRow_120 : dec cX12_layRow 120 3 123 (.ifCond .ne 7) := ⟨by decide +kernel, rfl⟩
theorem dX12_layRow_123 : dec cX12_layRow 123 1 124 (.iconst 0) := ⟨by decide +kernel, rfl⟩
theorem dX12_layRow_124 : dec cX12_layRow 124 3 127 (.goto 16) := ⟨by decide +kernel, rfl⟩
theorem dX12_layRow_127 : dec cX12_layRow 127 1 128 (.aload_n 0) := ⟨by decide +kernel, rfl⟩
theorem dX12_layRow_128 : dec cX12_layRow 128 3 131 (.getfield 37) := ⟨by decide +kernel, rfl⟩
theorem dX12_layRow_131 : dec cX12_layRow 131 2 133 (.bipush 8) := ⟨by decide +kernel, rfl⟩
theorem dX12_layRow_133 : dec cX12_layRow 133 1 134 (.iload_n 1) := ⟨by decide +kernel, rfl⟩
theorem dX12_layRow_134 : dec cX12_layRow 134 1 135 (.iconst 1) := ⟨by decide +kernel, rfl⟩
theorem dX12_layRow_135 : dec cX12_layRow 135 1 136 (.isub) := ⟨by decide +kernel, rfl⟩
theorem dX12_layRow_136 : dec cX12_layRow 136 1 137 (.imul) := ⟨by decide +kernel, rfl⟩
theorem dX12_layRow_137 : dec cX12_layRow 137 1 138 (.iload_n 3) := ⟨by decide +kernel, rfl⟩
theorem dX12_layRow_138 : dec cX12_layRow 138 1 139 (.iadd) := ⟨by decide +kernel, rfl⟩
theorem dX12_layRow_139 : dec cX12_layRow 139 1 140 (.iaload) := ⟨by decide +kernel, rfl⟩
theorem dX12_layRow_140 : dec cX12_layRow 140 2 142 (.istore 4) := ⟨by decide +kernel, rfl⟩
theorem dX12_layRow_142 : dec cX12_layRow 142 1 143 (.aload_n 0) := ⟨by decide +kernel, rfl⟩
theorem dX12_layRow_143 : dec cX12_layRow 143 2 145 (.iload 4) := ⟨by decide +kernel, rfl⟩
theorem dX12_layRow_145 : dec cX12_layRow 145 1 146 (.iload_n 2) := ⟨by decide +kernel, rfl⟩
theorem dX12_layRow_146 : dec cX12_layRow 146 3 149 (.invokevirtual 171) := ⟨by decide +kernel, rfl⟩
theorem dX12_layRow_149 : dec cX12_layRow 149 2 151 (.istore 5) := ⟨by decide +kernel, rfl⟩
theorem dX12_layRow_151 : dec cX12_layRow 151 1 152 (.aload_n 0) := ⟨by decide +kernel, rfl⟩
theorem dX12_layRow_152 : dec cX12_layRow 152 1 153 (.aload_n 0) := ⟨by decide +kernel, rfl⟩
theorem dX12_layRow_153 : dec cX12_layRow 153 3 156 (.getfield 28) := ⟨by decide +kernel, rfl⟩
theorem dX12_layRow_156 : dec cX12_layRow 156 1 157 (.iload_n 1) := ⟨by decide +kernel, rfl⟩
theorem dX12_layRow_157 : dec cX12_layRow 157 1 158 (.iaload) := ⟨by decide +kernel, rfl⟩
theorem dX12_layRow_158 : dec cX12_layRow 158 1 159 (.iconst 3) := ⟨by decide +kernel, rfl⟩
theorem dX12_layRow_159 : dec cX12_layRow 159 3 162 (.invokevirtual 91) := ⟨by decide +kernel, rfl⟩
theorem dX12_layRow_162 : dec cX12_layRow 162 1 163 (.iload_n 3) := ⟨by decide +kernel, rfl⟩
theorem dX12_layRow_163 : dec cX12_layRow 163 1 164 (.ishr) := ⟨by decide +kernel, rfl⟩
theorem dX12_layRow_164 : dec cX12_layRow 164 1 165 (.iconst 1) := ⟨by decide +kernel, rfl⟩
theorem dX12_layRow_165 : dec cX12_layRow 165 1 166 (.iand) := ⟨by decide +kernel, rfl⟩
theorem dX12_layRow_166 : dec cX12_layRow 166 1 167 (.iconst 1) := ⟨by decide +kernel, rfl⟩
theorem dX12_layRow_167 : dec cX12_layRow 167 3 170 (.if_icmp .ne 7) := ⟨by decide +kernel, rfl⟩
theorem dX12_layRow_170 : dec cX12_layRow 170 1 171 (.iconst 1) := ⟨by decide +kernel, rfl⟩
theorem dX12_layRow_171 : dec cX12_layRow 171 3 174 (.goto 4) := ⟨by decide +kernel, rfl⟩
theorem dX12_layRow_174 : dec cX12_layRow 174 1 175 (.iconst 0) := ⟨by decide +kernel, rfl⟩
theorem dX12_layRow_175 : dec cX12_layRow 175 2 177 (.istore 6) := ⟨by decide +kernel, rfl⟩
theorem dX12_layRow_177 : dec cX12_layRow 177 1 178 (.aload_n 0) := ⟨by decide +kernel, rfl⟩
theorem dX12_layRow_178 : dec cX12_layRow 178 3 181 (.getfield 37) := ⟨by decide +kernel, rfl⟩
theorem dX12_layRow_181 : dec cX12_layRow 181 2 183 (.bipush 8) := ⟨by decide +kernel, rfl⟩
theorem dX12_layRow_183 : dec cX12_layRow 183 1 184 (.iload_n 1) := ⟨by decide +kernel, rfl⟩
theorem dX12_layRow_184 : dec cX12_layRow 184 1 185 (.imul) := ⟨by decide +kernel, rfl⟩
theorem dX12_layRow_185 : dec cX12_layRow 185 1 186 (.iload_n 3) := ⟨by decide +kernel, rfl⟩
theorem dX12_layRow_186 : dec cX12_layRow 186 1 187 (.iadd) := ⟨by decide +kernel, rfl⟩
theorem dX12_layRow_187 : dec cX12_layRow 187 2 189 (.iload 6) := ⟨by decide +kernel, rfl⟩
theorem dX12_layRow_189 : dec cX12_layRow 189 3 192 (.ifCond .eq 20) := ⟨by decide +kernel, rfl⟩
theorem dX12_layRow_192 : dec cX12_layRow 192 2 194 (.iload 5) := ⟨by decide +kernel, rfl⟩
theorem dX12_layRow_194 : dec cX12_layRow 194 1 195 (.aload_n 0) := ⟨by decide +kernel, rfl⟩
theorem dX12_layRow_195 : dec cX12_layRow 195 1 196 (.aload_n 0) := ⟨by decide +kernel, rfl⟩
theorem dX12_layRow_196 : dec cX12_layRow 196 3 199 (.getfield 28) := ⟨by decide +kernel, rfl⟩
theorem dX12_layRow_199 : dec cX12_layRow 199 1 200 (.iload_n 1) := ⟨by decide +kernel, rfl⟩
theorem dX12_layRow_200 : dec cX12_layRow 200 1 201 (.iaload) := ⟨by decide +kernel, rfl⟩
theorem dX12_layRow_201 : dec cX12_layRow 201 1 202 (.iconst 5) := ⟨by decide +kernel, rfl⟩
theorem dX12_layRow_202 : dec cX12_layRow 202 3 205 (.invokevirtual 91) := ⟨by decide +kernel, rfl⟩
theorem dX12_layRow_205 : dec cX12_layRow 205 1 206 (.iadd) := ⟨by decide +kernel, rfl⟩
theorem dX12_layRow_206 : dec cX12_layRow 206 3 209 (.goto 20) := ⟨by decide +kernel, rfl⟩
theorem dX12_layRow_209 : dec cX12_layRow 209 1 210 (.aload_n 0) := ⟨by decide +kernel, rfl⟩
theorem dX12_layRow_210 : dec cX12_layRow 210 2 212 (.iload 5) := ⟨by decide +kernel, rfl⟩
theorem dX12_layRow_212 : dec cX12_layRow 212 1 213 (.aload_n 0) := ⟨by decide +kernel, rfl⟩
theorem dX12_layRow_213 : dec cX12_layRow 213 1 214 (.aload_n 0) := ⟨by decide +kernel, rfl⟩
theorem dX12_layRow_214 : dec cX12_layRow 214 3 217 (.getfield 28) := ⟨by decide +kernel, rfl⟩
theorem dX12_layRow_217 : dec cX12_layRow 217 1 218 (.iload_n 1) := ⟨by decide +kernel, rfl⟩
theorem dX12_layRow_218 : dec cX12_layRow 218 1 219 (.iaload) := ⟨by decide +kernel, rfl⟩
theorem dX12_layRow_219 : dec cX12_layRow 219 1 220 (.iconst 0) := ⟨by decide +kernel, rfl⟩
theorem dX12_layRow_220 : dec cX12_layRow 220 3 223 (.invokevirtual 91) := ⟨by decide +kernel, rfl⟩
theorem dX12_layRow_223 : dec cX12_layRow 223 3 226 (.invokevirtual 171) := ⟨by decide +kernel, rfl⟩
theorem dX12_layRow_226 : dec cX12_layRow 226 1 227 (.iastore) := ⟨by decide +kernel, rfl⟩
theorem dX12_layRow_227 : dec cX12_layRow 227 3 230 (.iinc 3 1) := ⟨by decide +kernel, rfl⟩
theorem dX12_layRow_230 : dec cX12_layRow 230 3 233 (.goto (-117)) := ⟨by decide +kernel, rfl⟩
theorem dX12_layRow_233 : dec cX12_layRow 233 3 236 (.iinc 1 1) := ⟨by decide +kernel, rfl⟩
theorem dX12_layRow_236 : dec cX12_layRow 236 3 239 (.goto (-234)) := ⟨by decide +kernel, rfl⟩
theorem dX12_layRow_239 : dec cX12_layRow 239 1 240 (.return_) := ⟨by decide +kernel, rfl⟩
set_option maxHeartbeats 4000000 in
set_option maxRecDepth 100000 in
theorem tX12_layRow_J226 {X : Cx} {Y : Yx} {M0 : Mem} (hC : OKX X Y RX12 cX12_layRow 7 none rmX12_layRow) (hL : Lay M0) (Q : Mem → Prop) (C113 : Int → Mem → Prop)  (a0 : Nat) (x1 : Int) (x2 : Int) (x3 : Int) (xs0 : Int) (xs1 : Int) (as2 : Nat) (qa0 : 0 < a0 ∧ M0 0 a0 = kO 12) (qas2 : 0 < as2 ∧ M0 0 as2 = kA 0 96) (hC113 : ∀ (x3 : Int) (M : Mem), C113 x3 M → WW X Y 7 rmX12_layRow (QV Q) M0 0 0 113 [(0, vR Y.1 a0), (1, vI x1), (2, vI x2), (3, vI x3)] [] M) (M : Mem) (h : wX12_layRow_J226 Q C113 a0 x1 x2 x3 xs0 xs1 as2 M) : WW X Y 7 rmX12_layRow (QV Q) M0 0 0 226 [(0, vR Y.1 a0), (1, vI x1), (2, vI x2), (3, vI x3)] [vI xs0, vI xs1, vR Y.1 as2] M := by
  unfold wX12_layRow_J226 at h
  obtain ⟨i_39, h⟩ := h
  refine r_iast hC i_39 qas2.1 qas2.2 (by decide) dX12_layRow_226 ?_
  refine r_nameM h (fun M_40 h => ?_)
  refine let_elim h (fun x3_41 e_42 h => ?_)
  refine r_iinc (lv' := [(3, vI x3_41), (0, vR Y.1 a0), (1, vI x1), (2, vI x2)]) hC 3 dX12_layRow_227 rfl (by decide) e_42 rfl ?_
  refine r_goto hC 113 dX12_layRow_230 (by decide) ?_
  refine r_sub [1, 2, 3, 0] rfl ?_
  exact hC113 _ _ h
set_option maxHeartbeats 4000000 in
set_option maxRecDepth 100000 in
theorem tX12_layRow_J175 {X : Cx} {Y : Yx} {M0 : Mem} (hC : OKX X Y RX12 cX12_layRow 7 none rmX12_layRow) (hL : Lay M0) (Q : Mem → Prop) (C113 : Int → Mem → Prop)  (a0 : Nat) (x1 : Int) (x2 : Int) (x3 : Int) (x5 : Int) (xs0 : Int) (qa0 : 0 < a0 ∧ M0 0 a0 = kO 12) (hC113 : ∀ (x3 : Int) (M : Mem), C113 x3 M → WW X Y 7 rmX12_layRow (QV Q) M0 0 0 113 [(0, vR Y.1 a0), (1, vI x1), (2, vI x2), (3, vI x3)] [] M) (M : Mem) (h : wX12_layRow_J175 Q C113 a0 x1 x2 x3 x5 xs0 M) : WW X Y 7 rmX12_layRow (QV Q) M0 0 0 175 [(0, vR Y.1 a0), (1, vI x1), (2, vI x2), (3, vI x3), (5, vI x5)] [vI xs0] M := by
  unfold wX12_layRow_J175 at h
  refine r_istore (lv' := [(6, vI xs0), (0, vR Y.1 a0), (1, vI x1), (2, vI x2), (3, vI x3), (5, vI x5)]) hC dX12_layRow_175 (by decide) rfl ?_
  refine r_aload_n hC 1 dX12_layRow_177 rfl rfl ?_
  have q_32 : 0 < a0 + 10 ∧ M0 0 (a0 + 10) = kA 0 96 := lay_f0 hL qa0 fm_12_17
  refine r_getR0 (a' := a0 + 10) hC fg_X12_37 rfl fm_12_17 qa0.1 qa0.2 rfl dX12_layRow_178 ?_
  refine r_bipush hC (by decide +kernel) dX12_layRow_181 ?_
  refine r_iload_n hC 2 dX12_layRow_183 rfl rfl ?_
  refine r_imul hC dX12_layRow_184 ?_
  refine r_iload_n hC 4 dX12_layRow_185 rfl rfl ?_
  refine r_iadd hC dX12_layRow_186 ?_
  refine r_iload hC 0 dX12_layRow_187 rfl ?_
  refine r_if_eq hC 209 rfl dX12_layRow_189 (by decide) (fun c => ?_) (fun c => ?_)
  · replace h := h.1 c
    refine r_aload_n hC 1 dX12_layRow_209 rfl rfl ?_
    refine r_iload hC 5 dX12_layRow_210 rfl ?_
    refine r_aload_n hC 1 dX12_layRow_212 rfl rfl ?_
    refine r_aload_n hC 1 dX12_layRow_213 rfl rfl ?_
    have q_33 : 0 < a0 + 7 ∧ M0 0 (a0 + 7) = kA 0 12 := lay_f0 hL qa0 fm_12_12
    refine r_getR0 (a' := a0 + 7) hC fg_X12_28 rfl fm_12_12 qa0.1 qa0.2 rfl dX12_layRow_214 ?_
    refine r_iload_n hC 2 dX12_layRow_217 rfl rfl ?_
    obtain ⟨i_34, h⟩ := h
    refine r_iald hC i_34 q_33.1 q_33.2 (by decide) dX12_layRow_218 ?_
    refine r_iconst hC dX12_layRow_219 ?_
    refine r_callV (As := [vI (rd M (a0 + 7) x1), vI 0]) (st := [vI x5, vR Y.1 a0, vI ((8 * x1) + x3), vR Y.1 (a0 + 10)]) hC cw_X12_91 rfl qa0.1 qa0.2 rfl rfl (Nat.le_of_ble_eq_true rfl) ⟨Nat.le_of_ble_eq_true rfl, Nat.le_of_ble_eq_true rfl⟩ ⟨Nat.le_of_ble_eq_true rfl, Nat.le_of_ble_eq_true rfl⟩ dX12_layRow_220 (fun hk => mX12_of Y _ _ _ _ _ _ (kqO hk qa0) h) (fun v M_35 h => ?_)
    obtain ⟨r_36, rfl, h⟩ := h
    refine r_callV (As := [vI x5, vI r_36]) (st := [vI ((8 * x1) + x3), vR Y.1 (a0 + 10)]) hC cw_X12_171 rfl qa0.1 qa0.2 rfl rfl (Nat.le_of_ble_eq_true rfl) ⟨Nat.le_of_ble_eq_true rfl, Nat.le_of_ble_eq_true rfl⟩ ⟨Nat.le_of_ble_eq_true rfl, Nat.le_of_ble_eq_true rfl⟩ dX12_layRow_223 (fun hk => mX12_less Y _ _ _ _ _ _ (kqO hk qa0) h) (fun v M_37 h => ?_)
    obtain ⟨r_38, rfl, h⟩ := h
    refine r_sub [1, 2, 3, 4] rfl ?_
    exact tX12_layRow_J226 hC hL Q _  _ _ _ _ _ _ _ qa0 q_32 hC113 _ h
  · replace h := h.2 c
    refine r_iload hC 5 dX12_layRow_192 rfl ?_
    refine r_aload_n hC 1 dX12_layRow_194 rfl rfl ?_
    refine r_aload_n hC 1 dX12_layRow_195 rfl rfl ?_
    have q_43 : 0 < a0 + 7 ∧ M0 0 (a0 + 7) = kA 0 12 := lay_f0 hL qa0 fm_12_12
    refine r_getR0 (a' := a0 + 7) hC fg_X12_28 rfl fm_12_12 qa0.1 qa0.2 rfl dX12_layRow_196 ?_
    refine r_iload_n hC 2 dX12_layRow_199 rfl rfl ?_
    obtain ⟨i_44, h⟩ := h
    refine r_iald hC i_44 q_43.1 q_43.2 (by decide) dX12_layRow_200 ?_
    refine r_iconst hC dX12_layRow_201 ?_
    refine r_callV (As := [vI (rd M (a0 + 7) x1), vI 5]) (st := [vI x5, vI ((8 * x1) + x3), vR Y.1 (a0 + 10)]) hC cw_X12_91 rfl qa0.1 qa0.2 rfl rfl (Nat.le_of_ble_eq_true rfl) ⟨Nat.le_of_ble_eq_true rfl, Nat.le_of_ble_eq_true rfl⟩ ⟨Nat.le_of_ble_eq_true rfl, Nat.le_of_ble_eq_true rfl⟩ dX12_layRow_202 (fun hk => mX12_of Y _ _ _ _ _ _ (kqO hk qa0) h) (fun v M_45 h => ?_)
    obtain ⟨r_46, rfl, h⟩ := h
    refine r_iadd hC dX12_layRow_205 ?_
    refine r_goto hC 226 dX12_layRow_206 (by decide) ?_
    refine r_sub [1, 2, 3, 4] rfl ?_
    exact tX12_layRow_J226 hC hL Q _  _ _ _ _ _ _ _ qa0 q_32 hC113 _ h
set_option maxHeartbeats 4000000 in
set_option maxRecDepth 100000 in
theorem tX12_layRow_J140 {X : Cx} {Y : Yx} {M0 : Mem} (hC : OKX X Y RX12 cX12_layRow 7 none rmX12_layRow) (hL : Lay M0) (Q : Mem → Prop) (C113 : Int → Mem → Prop)  (a0 : Nat) (x1 : Int) (x2 : Int) (x3 : Int) (xs0 : Int) (qa0 : 0 < a0 ∧ M0 0 a0 = kO 12) (hC113 : ∀ (x3 : Int) (M : Mem), C113 x3 M → WW X Y 7 rmX12_layRow (QV Q) M0 0 0 113 [(0, vR Y.1 a0), (1, vI x1), (2, vI x2), (3, vI x3)] [] M) (M : Mem) (h : wX12_layRow_J140 Q C113 a0 x1 x2 x3 xs0 M) : WW X Y 7 rmX12_layRow (QV Q) M0 0 0 140 [(0, vR Y.1 a0), (1, vI x1), (2, vI x2), (3, vI x3)] [vI xs0] M := by
  unfold wX12_layRow_J140 at h
  refine r_istore (lv' := [(4, vI xs0), (0, vR Y.1 a0), (1, vI x1), (2, vI x2), (3, vI x3)]) hC dX12_layRow_140 (by decide) rfl ?_
  refine r_aload_n hC 1 dX12_layRow_142 rfl rfl ?_
  refine r_iload hC 0 dX12_layRow_143 rfl ?_
  refine r_iload_n hC 3 dX12_layRow_145 rfl rfl ?_
  refine r_callV (As := [vI xs0, vI x2]) (st := []) hC cw_X12_171 rfl qa0.1 qa0.2 rfl rfl (Nat.le_of_ble_eq_true rfl) ⟨Nat.le_of_ble_eq_true rfl, Nat.le_of_ble_eq_true rfl⟩ ⟨Nat.le_of_ble_eq_true rfl, Nat.le_of_ble_eq_true rfl⟩ dX12_layRow_146 (fun hk => mX12_less Y _ _ _ _ _ _ (kqO hk qa0) h) (fun v M_26 h => ?_)
  obtain ⟨r_27, rfl, h⟩ := h
  refine r_istore (lv' := [(5, vI r_27), (4, vI xs0), (0, vR Y.1 a0), (1, vI x1), (2, vI x2), (3, vI x3)]) hC dX12_layRow_149 (by decide) rfl ?_
  refine r_aload_n hC 2 dX12_layRow_151 rfl rfl ?_
  refine r_aload_n hC 2 dX12_layRow_152 rfl rfl ?_
  have q_28 : 0 < a0 + 7 ∧ M0 0 (a0 + 7) = kA 0 12 := lay_f0 hL qa0 fm_12_12
  refine r_getR0 (a' := a0 + 7) hC fg_X12_28 rfl fm_12_12 qa0.1 qa0.2 rfl dX12_layRow_153 ?_
  refine r_iload_n hC 3 dX12_layRow_156 rfl rfl ?_
  obtain ⟨i_29, h⟩ := h
  refine r_iald hC i_29 q_28.1 q_28.2 (by decide) dX12_layRow_157 ?_
  refine r_iconst hC dX12_layRow_158 ?_
  refine r_callV (As := [vI (rd M_26 (a0 + 7) x1), vI 3]) (st := []) hC cw_X12_91 rfl qa0.1 qa0.2 rfl rfl (Nat.le_of_ble_eq_true rfl) ⟨Nat.le_of_ble_eq_true rfl, Nat.le_of_ble_eq_true rfl⟩ ⟨Nat.le_of_ble_eq_true rfl, Nat.le_of_ble_eq_true rfl⟩ dX12_layRow_159 (fun hk => mX12_of Y _ _ _ _ _ _ (kqO hk qa0) h) (fun v M_30 h => ?_)
  obtain ⟨r_31, rfl, h⟩ := h
  refine r_iload_n hC 5 dX12_layRow_162 rfl rfl ?_
  refine r_ishr hC dX12_layRow_163 ?_
  refine r_iconst hC dX12_layRow_164 ?_
  refine r_iand hC dX12_layRow_165 ?_
  refine r_iconst hC dX12_layRow_166 ?_
  refine r_icmp_ne hC 174 rfl bmL_1 dX12_layRow_167 (by decide) (fun c => ?_) (fun c => ?_)
  · replace h := h.2 c
    refine r_iconst hC dX12_layRow_174 ?_
    refine r_sub [2, 3, 4, 5, 0] rfl ?_
    exact tX12_layRow_J175 hC hL Q _  _ _ _ _ _ _ qa0 hC113 _ h
  · replace h := h.1 c
    refine r_iconst hC dX12_layRow_170 ?_
    refine r_goto hC 175 dX12_layRow_171 (by decide) ?_
    refine r_sub [2, 3, 4, 5, 0] rfl ?_
    exact tX12_layRow_J175 hC hL Q _  _ _ _ _ _ _ qa0 hC113 _ h
set_option maxHeartbeats 4000000 in
set_option maxRecDepth 100000 in
theorem tX12_layRow_L113 {X : Cx} {Y : Yx} {M0 : Mem} (hC : OKX X Y RX12 cX12_layRow 7 none rmX12_layRow) (hL : Lay M0) (Q : Mem → Prop) (E233 : Mem → Prop) (a0 : Nat) (x1 : Int) (x2 : Int) (qa0 : 0 < a0 ∧ M0 0 a0 = kO 12) (hE233 : ∀  (M : Mem), E233  M → WW X Y 7 rmX12_layRow (QV Q) M0 0 0 233 [(0, vR Y.1 a0), (1, vI x1)] [] M) : ∀ (N : Nat) (x3 : Int) (M : Mem) (_ : wX12_layRow_L113 Q E233 a0 x1 x2 N x3 M), WW X Y 7 rmX12_layRow (QV Q) M0 0 0 113 [(0, vR Y.1 a0), (1, vI x1), (2, vI x2), (3, vI x3)] [] M := by
  intro N
  induction N with
  | zero =>
    intro x3 M h
    exact h.elim
  | succ N ih =>
    intro x3 M h
    unfold wX12_layRow_L113 at h
    refine r_iload_n hC 3 dX12_layRow_113 rfl rfl ?_
    refine r_bipush hC (by decide +kernel) dX12_layRow_114 ?_
    refine r_icmp_ge hC 233 rfl bmL_8 dX12_layRow_116 (by decide) (fun c => ?_) (fun c => ?_)
    · replace h := h.1 c
      refine r_sub [0, 1] rfl ?_
      exact hE233  _ h
    · replace h := h.2 c
      refine r_iload_n hC 1 dX12_layRow_119 rfl rfl ?_
      refine r_if_ne hC 127 rfl dX12_layRow_120 (by decide) (fun c => ?_) (fun c => ?_)
      · replace h := h.2 c
        refine r_aload_n hC 0 dX12_layRow_127 rfl rfl ?_
        have q_24 : 0 < a0 + 10 ∧ M0 0 (a0 + 10) = kA 0 96 := lay_f0 hL qa0 fm_12_17
        refine r_getR0 (a' := a0 + 10) hC fg_X12_37 rfl fm_12_17 qa0.1 qa0.2 rfl dX12_layRow_128 ?_
        refine r_bipush hC (by decide +kernel) dX12_layRow_131 ?_
        refine r_iload_n hC 1 dX12_layRow_133 rfl rfl ?_
        refine r_iconst hC dX12_layRow_134 ?_
        refine r_isub hC dX12_layRow_135 ?_
        refine r_imul hC dX12_layRow_136 ?_
        refine r_iload_n hC 3 dX12_layRow_137 rfl rfl ?_
        refine r_iadd hC dX12_layRow_138 ?_
        obtain ⟨i_25, h⟩ := h
        refine r_iald hC i_25 q_24.1 q_24.2 (by decide) dX12_layRow_139 ?_
        refine r_sub [0, 1, 2, 3] rfl ?_
        exact tX12_layRow_J140 hC hL Q _  _ _ _ _ _ qa0 ih _ h
      · replace h := h.1 c
        refine r_iconst hC dX12_layRow_123 ?_
        refine r_goto hC 140 dX12_layRow_124 (by decide) ?_
        refine r_sub [0, 1, 2, 3] rfl ?_
        exact tX12_layRow_J140 hC hL Q _  _ _ _ _ _ qa0 ih _ h
set_option maxHeartbeats 4000000 in
set_option maxRecDepth 100000 in
theorem tX12_layRow_J86 {X : Cx} {Y : Yx} {M0 : Mem} (hC : OKX X Y RX12 cX12_layRow 7 none rmX12_layRow) (hL : Lay M0) (Q : Mem → Prop) (C2 : Int → Mem → Prop)  (a0 : Nat) (x1 : Int) (x2 : Int) (xs0 : Int) (xs1 : Int) (as2 : Nat) (qa0 : 0 < a0 ∧ M0 0 a0 = kO 12) (qas2 : 0 < as2 ∧ M0 0 as2 = kA 0 12) (hC2 : ∀ (x1 : Int) (M : Mem), C2 x1 M → WW X Y 7 rmX12_layRow (QV Q) M0 0 0 2 [(0, vR Y.1 a0), (1, vI x1)] [] M) (M : Mem) (h : wX12_layRow_J86 Q C2 a0 x1 x2 xs0 xs1 as2 M) : WW X Y 7 rmX12_layRow (QV Q) M0 0 0 86 [(0, vR Y.1 a0), (1, vI x1), (2, vI x2)] [vI xs0, vI xs1, vR Y.1 as2] M := by
  unfold wX12_layRow_J86 at h
  obtain ⟨i_13, h⟩ := h
  refine r_iast hC i_13 qas2.1 qas2.2 (by decide) dX12_layRow_86 ?_
  refine r_nameM h (fun M_14 h => ?_)
  refine r_aload_n hC 0 dX12_layRow_87 rfl rfl ?_
  have q_15 : 0 < a0 + 9 ∧ M0 0 (a0 + 9) = kA 0 12 := lay_f0 hL qa0 fm_12_16
  refine r_getR0 (a' := a0 + 9) hC fg_X12_34 rfl fm_12_16 qa0.1 qa0.2 rfl dX12_layRow_88 ?_
  refine r_iload_n hC 1 dX12_layRow_91 rfl rfl ?_
  refine r_aload_n hC 0 dX12_layRow_92 rfl rfl ?_
  have q_16 : 0 < a0 + 8 ∧ M0 0 (a0 + 8) = kA 0 12 := lay_f0 hL qa0 fm_12_15
  refine r_getR0 (a' := a0 + 8) hC fg_X12_31 rfl fm_12_15 qa0.1 qa0.2 rfl dX12_layRow_93 ?_
  refine r_iload_n hC 1 dX12_layRow_96 rfl rfl ?_
  obtain ⟨i_17, h⟩ := h
  refine r_iald hC i_17 q_16.1 q_16.2 (by decide) dX12_layRow_97 ?_
  refine r_aload_n hC 0 dX12_layRow_98 rfl rfl ?_
  refine r_aload_n hC 0 dX12_layRow_99 rfl rfl ?_
  have q_18 : 0 < a0 + 7 ∧ M0 0 (a0 + 7) = kA 0 12 := lay_f0 hL qa0 fm_12_12
  refine r_getR0 (a' := a0 + 7) hC fg_X12_28 rfl fm_12_12 qa0.1 qa0.2 rfl dX12_layRow_100 ?_
  refine r_iload_n hC 1 dX12_layRow_103 rfl rfl ?_
  obtain ⟨i_19, h⟩ := h
  refine r_iald hC i_19 q_18.1 q_18.2 (by decide) dX12_layRow_104 ?_
  refine r_iconst hC dX12_layRow_105 ?_
  refine r_callV (As := [vI (rd M_14 (a0 + 7) x1), vI 0]) (st := [vI (rd M_14 (a0 + 8) x1), vI x1, vR Y.1 (a0 + 9)]) hC cw_X12_91 rfl qa0.1 qa0.2 rfl rfl (Nat.le_of_ble_eq_true rfl) ⟨Nat.le_of_ble_eq_true rfl, Nat.le_of_ble_eq_true rfl⟩ ⟨Nat.le_of_ble_eq_true rfl, Nat.le_of_ble_eq_true rfl⟩ dX12_layRow_106 (fun hk => mX12_of Y _ _ _ _ _ _ (kqO hk qa0) h) (fun v M_20 h => ?_)
  obtain ⟨r_21, rfl, h⟩ := h
  refine r_iadd hC dX12_layRow_109 ?_
  obtain ⟨i_22, h⟩ := h
  refine r_iast hC i_22 q_15.1 q_15.2 (by decide) dX12_layRow_110 ?_
  refine r_nameM h (fun M_23 h => ?_)
  refine r_iconst hC dX12_layRow_111 ?_
  refine r_istore_n (lv' := [(3, vI 0), (0, vR Y.1 a0), (1, vI x1), (2, vI x2)]) hC dX12_layRow_112 rfl (by decide) rfl ?_
  refine r_sub [1, 2, 3, 0] rfl ?_
  obtain ⟨N_50, h⟩ := h
  refine tX12_layRow_L113 hC hL Q _ _ _ _ qa0 ?_ N_50 _ _ h
  · intro M_47 h
    refine let_elim h (fun x1_48 e_49 h => ?_)
    refine r_iinc (lv' := [(1, vI x1_48), (0, vR Y.1 a0)]) hC 1 dX12_layRow_233 rfl (by decide) e_49 rfl ?_
    refine r_goto hC 2 dX12_layRow_236 (by decide) ?_
    refine r_sub [1, 0] rfl ?_
    exact hC2 _ _ h
set_option maxHeartbeats 4000000 in
set_option maxRecDepth 100000 in
theorem tX12_layRow_J62 {X : Cx} {Y : Yx} {M0 : Mem} (hC : OKX X Y RX12 cX12_layRow 7 none rmX12_layRow) (hL : Lay M0) (Q : Mem → Prop) (C2 : Int → Mem → Prop)  (a0 : Nat) (x1 : Int) (xs0 : Int) (qa0 : 0 < a0 ∧ M0 0 a0 = kO 12) (hC2 : ∀ (x1 : Int) (M : Mem), C2 x1 M → WW X Y 7 rmX12_layRow (QV Q) M0 0 0 2 [(0, vR Y.1 a0), (1, vI x1)] [] M) (M : Mem) (h : wX12_layRow_J62 Q C2 a0 x1 xs0 M) : WW X Y 7 rmX12_layRow (QV Q) M0 0 0 62 [(0, vR Y.1 a0), (1, vI x1)] [vI xs0] M := by
  unfold wX12_layRow_J62 at h
  refine r_istore_n (lv' := [(2, vI xs0), (0, vR Y.1 a0), (1, vI x1)]) hC dX12_layRow_62 rfl (by decide) rfl ?_
  refine r_aload_n hC 1 dX12_layRow_63 rfl rfl ?_
  have q_10 : 0 < a0 + 8 ∧ M0 0 (a0 + 8) = kA 0 12 := lay_f0 hL qa0 fm_12_15
  refine r_getR0 (a' := a0 + 8) hC fg_X12_31 rfl fm_12_15 qa0.1 qa0.2 rfl dX12_layRow_64 ?_
  refine r_iload_n hC 2 dX12_layRow_67 rfl rfl ?_
  refine r_iload_n hC 2 dX12_layRow_68 rfl rfl ?_
  refine r_if_ne hC 76 rfl dX12_layRow_69 (by decide) (fun c => ?_) (fun c => ?_)
  · replace h := h.2 c
    refine r_aload_n hC 1 dX12_layRow_76 rfl rfl ?_
    have q_11 : 0 < a0 + 9 ∧ M0 0 (a0 + 9) = kA 0 12 := lay_f0 hL qa0 fm_12_16
    refine r_getR0 (a' := a0 + 9) hC fg_X12_34 rfl fm_12_16 qa0.1 qa0.2 rfl dX12_layRow_77 ?_
    refine r_iload_n hC 2 dX12_layRow_80 rfl rfl ?_
    refine r_iconst hC dX12_layRow_81 ?_
    refine r_isub hC dX12_layRow_82 ?_
    obtain ⟨i_12, h⟩ := h
    refine r_iald hC i_12 q_11.1 q_11.2 (by decide) dX12_layRow_83 ?_
    refine r_iload_n hC 0 dX12_layRow_84 rfl rfl ?_
    refine r_iadd hC dX12_layRow_85 ?_
    refine r_sub [1, 2, 0] rfl ?_
    exact tX12_layRow_J86 hC hL Q _  _ _ _ _ _ _ qa0 q_10 hC2 _ h
  · replace h := h.1 c
    refine r_iconst hC dX12_layRow_72 ?_
    refine r_goto hC 86 dX12_layRow_73 (by decide) ?_
    refine r_sub [1, 2, 0] rfl ?_
    exact tX12_layRow_J86 hC hL Q _  _ _ _ _ _ _ qa0 q_10 hC2 _ h
set_option maxHeartbeats 4000000 in
set_option maxRecDepth 100000 in
theorem tX12_layRow_L2 {X : Cx} {Y : Yx} {M0 : Mem} (hC : OKX X Y RX12 cX12_layRow 7 none rmX12_layRow) (hL : Lay M0) (Q : Mem → Prop)  (a0 : Nat) (qa0 : 0 < a0 ∧ M0 0 a0 = kO 12)  : ∀ (N : Nat) (x1 : Int) (M : Mem) (_ : wX12_layRow_L2 Q  a0 N x1 M), WW X Y 7 rmX12_layRow (QV Q) M0 0 0 2 [(0, vR Y.1 a0), (1, vI x1)] [] M := by
  intro N
  induction N with
  | zero =>
    intro x1 M h
    exact h.elim
  | succ N ih =>
    intro x1 M h
    unfold wX12_layRow_L2 at h
    refine r_iload_n hC 1 dX12_layRow_2 rfl rfl ?_
    refine r_aload_n hC 0 dX12_layRow_3 rfl rfl ?_
    refine r_getI hC fg_X12_162 rfl qa0.1 qa0.2 dX12_layRow_4 ?_
    refine r_icmp_ge hC 239 rfl rfl dX12_layRow_7 (by decide) (fun c => ?_) (fun c => ?_)
    · replace h := h.1 c
      exact r_vret hC (by decide) (by decide) dX12_layRow_239 ⟨rfl, h⟩
    · replace h := h.2 c
      refine r_iload_n hC 1 dX12_layRow_10 rfl rfl ?_
      refine r_if_ne hC 18 rfl dX12_layRow_11 (by decide) (fun c => ?_) (fun c => ?_)
      · replace h := h.2 c
        refine r_aload_n hC 0 dX12_layRow_18 rfl rfl ?_
        refine r_iload_n hC 1 dX12_layRow_19 rfl rfl ?_
        refine r_callV (As := [vI x1]) (st := []) hC cw_X12_165 rfl qa0.1 qa0.2 rfl rfl (Nat.le_of_ble_eq_true rfl) ⟨Nat.le_of_ble_eq_true rfl, Nat.le_of_ble_eq_true rfl⟩ ⟨Nat.le_of_ble_eq_true rfl, Nat.le_of_ble_eq_true rfl⟩ dX12_layRow_20 (fun hk => mX12_isApart Y _ _ _ _ _ (kqO hk qa0) h) (fun v M_1 h => ?_)
        obtain ⟨r_2, rfl, h⟩ := h
        refine r_if_eq hC 36 rfl dX12_layRow_23 (by decide) (fun c => ?_) (fun c => ?_)
        · replace h := h.1 c
          refine r_aload_n hC 0 dX12_layRow_36 rfl rfl ?_
          refine r_aload_n hC 0 dX12_layRow_37 rfl rfl ?_
          have q_3 : 0 < a0 + 7 ∧ M0 0 (a0 + 7) = kA 0 12 := lay_f0 hL qa0 fm_12_12
          refine r_getR0 (a' := a0 + 7) hC fg_X12_28 rfl fm_12_12 qa0.1 qa0.2 rfl dX12_layRow_38 ?_
          refine r_iload_n hC 1 dX12_layRow_41 rfl rfl ?_
          refine r_iconst hC dX12_layRow_42 ?_
          refine r_isub hC dX12_layRow_43 ?_
          obtain ⟨i_4, h⟩ := h
          refine r_iald hC i_4 q_3.1 q_3.2 (by decide) dX12_layRow_44 ?_
          refine r_aload_n hC 0 dX12_layRow_45 rfl rfl ?_
          have q_5 : 0 < a0 + 7 ∧ M0 0 (a0 + 7) = kA 0 12 := lay_f0 hL qa0 fm_12_12
          refine r_getR0 (a' := a0 + 7) hC fg_X12_28 rfl fm_12_12 qa0.1 qa0.2 rfl dX12_layRow_46 ?_
          refine r_iload_n hC 1 dX12_layRow_49 rfl rfl ?_
          obtain ⟨i_6, h⟩ := h
          refine r_iald hC i_6 q_5.1 q_5.2 (by decide) dX12_layRow_50 ?_
          refine r_callV (As := [vI (rd M_1 (a0 + 7) (x1 - 1)), vI (rd M_1 (a0 + 7) x1)]) (st := []) hC cw_X12_168 rfl qa0.1 qa0.2 rfl rfl (Nat.le_of_ble_eq_true rfl) ⟨Nat.le_of_ble_eq_true rfl, Nat.le_of_ble_eq_true rfl⟩ ⟨Nat.le_of_ble_eq_true rfl, Nat.le_of_ble_eq_true rfl⟩ dX12_layRow_51 (fun hk => mX12_carried Y _ _ _ _ _ _ (kqO hk qa0) h) (fun v M_7 h => ?_)
          obtain ⟨r_8, rfl, h⟩ := h
          refine r_aload_n hC 0 dX12_layRow_54 rfl rfl ?_
          have q_9 : 0 < a0 + 1 ∧ M0 0 (a0 + 1) = kA 0 1522 := lay_f0 hL qa0 fm_12_0
          refine r_getR0 (a' := a0 + 1) hC fg_X12_7 rfl fm_12_0 qa0.1 qa0.2 rfl dX12_layRow_55 ?_
          refine r_bipush hC (by decide +kernel) dX12_layRow_58 ?_
          refine r_iald hC ⟨by decide +kernel, by decide +kernel⟩ q_9.1 q_9.2 (by decide) dX12_layRow_60 ?_
          refine r_imul hC dX12_layRow_61 ?_
          refine r_sub [0, 1] rfl ?_
          exact tX12_layRow_J62 hC hL Q _  _ _ _ qa0 ih _ h
        · replace h := h.2 c
          refine r_aload_n hC 0 dX12_layRow_26 rfl rfl ?_
          have q_51 : 0 < a0 + 1 ∧ M0 0 (a0 + 1) = kA 0 1522 := lay_f0 hL qa0 fm_12_0
          refine r_getR0 (a' := a0 + 1) hC fg_X12_7 rfl fm_12_0 qa0.1 qa0.2 rfl dX12_layRow_27 ?_
          refine r_bipush hC (by decide +kernel) dX12_layRow_30 ?_
          refine r_iald hC ⟨by decide +kernel, by decide +kernel⟩ q_51.1 q_51.2 (by decide) dX12_layRow_32 ?_
          refine r_goto hC 62 dX12_layRow_33 (by decide) ?_
          refine r_sub [0, 1] rfl ?_
          exact tX12_layRow_J62 hC hL Q _  _ _ _ qa0 ih _ h
      · replace h := h.1 c
        refine r_iconst hC dX12_layRow_14 ?_
        refine r_goto hC 62 dX12_layRow_15 (by decide) ?_
        refine r_sub [0, 1] rfl ?_
        exact tX12_layRow_J62 hC hL Q _  _ _ _ qa0 ih _ h
set_option maxHeartbeats 4000000 in
set_option maxRecDepth 100000 in
theorem mX12_layRow (Y : Yx) (l : Launch) (a0 : Nat) (M0 : Mem) (Q : Mem → Prop) (qa0 : 0 < a0 ∧ M0 0 a0 = kO 12) (h : wX12_layRow a0 M0 Q) : CT Y l yX12_layRow cX12_layRow 7 none rmX12_layRow [vR Y.1 a0] M0 (QV Q) := by
  unfold wX12_layRow at h
  refine ct_intro (by decide) (Nat.le_of_ble_eq_true rfl) ?_
  intro X hXl hC hL
  change OKX X Y RX12 cX12_layRow 7 none rmX12_layRow at hC
  change WW X Y 7 rmX12_layRow (QV Q) M0 0 0 0 [(0, vR Y.1 a0)] [] M0
  refine r_iconst hC dX12_layRow_0 ?_
  refine r_istore_n (lv' := [(1, vI 0), (0, vR Y.1 a0)]) hC dX12_layRow_1 rfl (by decide) rfl ?_
  refine r_sub [1, 0] rfl ?_
  obtain ⟨N_52, h⟩ := h
  refine tX12_layRow_L2 hC hL Q  _ qa0  N_52 _ _ h
