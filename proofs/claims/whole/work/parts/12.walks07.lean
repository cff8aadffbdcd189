theorem dX6_spread_0 : dec cX6_spread 0 1 1 (.iconst 0) := ⟨by decide +kernel, rfl⟩
theorem dX6_spread_1 : dec cX6_spread 1 1 2 (.istore_n 2) := ⟨by decide +kernel, rfl⟩
theorem dX6_spread_2 : dec cX6_spread 2 1 3 (.iload_n 2) := ⟨by decide +kernel, rfl⟩
theorem dX6_spread_3 : dec cX6_spread 3 1 4 (.aload_n 0) := ⟨by decide +kernel, rfl⟩
theorem dX6_spread_4 : dec cX6_spread 4 3 7 (.getfield 29) := ⟨by decide +kernel, rfl⟩
theorem dX6_spread_7 : dec cX6_spread 7 3 10 (.getfield 144) := ⟨by decide +kernel, rfl⟩
theorem dX6_spread_10 : dec cX6_spread 10 3 13 (.if_icmp .ge 47) := ⟨by decide +kernel, rfl⟩
theorem dX6_spread_13 : dec cX6_spread 13 1 14 (.iconst 0) := ⟨by decide +kernel, rfl⟩
theorem dX6_spread_14 : dec cX6_spread 14 1 15 (.istore_n 3) := ⟨by decide +kernel, rfl⟩
theorem dX6_spread_15 : dec cX6_spread 15 1 16 (.iload_n 3) := ⟨by decide +kernel, rfl⟩
theorem dX6_spread_16 : dec cX6_spread 16 1 17 (.aload_n 1) := ⟨by decide +kernel, rfl⟩
theorem dX6_spread_17 : dec cX6_spread 17 1 18 (.arraylength) := ⟨by decide +kernel, rfl⟩
theorem dX6_spread_18 : dec cX6_spread 18 3 21 (.if_icmp .ge 33) := ⟨by decide +kernel, rfl⟩
theorem dX6_spread_21 : dec cX6_spread 21 1 22 (.iload_n 3) := ⟨by decide +kernel, rfl⟩
theorem dX6_spread_22 : dec cX6_spread 22 1 23 (.iload_n 2) := ⟨by decide +kernel, rfl⟩
theorem dX6_spread_23 : dec cX6_spread 23 3 26 (.invokestatic 58) := ⟨by decide +kernel, rfl⟩
theorem dX6_spread_26 : dec cX6_spread 26 3 29 (.ifCond .eq 19) := ⟨by decide +kernel, rfl⟩
theorem dX6_spread_29 : dec cX6_spread 29 1 30 (.aload_n 1) := ⟨by decide +kernel, rfl⟩
theorem dX6_spread_30 : dec cX6_spread 30 1 31 (.iload_n 3) := ⟨by decide +kernel, rfl⟩
theorem dX6_spread_31 : dec cX6_spread 31 1 32 (.iconst 1) := ⟨by decide +kernel, rfl⟩
theorem dX6_spread_32 : dec cX6_spread 32 1 33 (.iload_n 2) := ⟨by decide +kernel, rfl⟩
theorem dX6_spread_33 : dec cX6_spread 33 1 34 (.ishl) := ⟨by decide +kernel, rfl⟩
theorem dX6_spread_34 : dec cX6_spread 34 1 35 (.iconst (-1)) := ⟨by decide +kernel, rfl⟩
theorem dX6_spread_35 : dec cX6_spread 35 1 36 (.ixor) := ⟨by decide +kernel, rfl⟩
theorem dX6_spread_36 : dec cX6_spread 36 1 37 (.iand) := ⟨by decide +kernel, rfl⟩
theorem dX6_spread_37 : dec cX6_spread 37 1 38 (.baload) := ⟨by decide +kernel, rfl⟩
theorem dX6_spread_38 : dec cX6_spread 38 3 41 (.ifCond .eq 7) := ⟨by decide +kernel, rfl⟩
theorem dX6_spread_41 : dec cX6_spread 41 1 42 (.aload_n 1) := ⟨by decide +kernel, rfl⟩
theorem dX6_spread_42 : dec cX6_spread 42 1 43 (.iload_n 3) := ⟨by decide +kernel, rfl⟩
theorem dX6_spread_43 : dec cX6_spread 43 1 44 (.iconst 1) := ⟨by decide +kernel, rfl⟩
theorem dX6_spread_44 : dec cX6_spread 44 1 45 (.bastore) := ⟨by decide +kernel, rfl⟩
theorem dX6_spread_45 : dec cX6_spread 45 3 48 (.iinc 3 1) := ⟨by decide +kernel, rfl⟩
theorem dX6_spread_48 : dec cX6_spread 48 3 51 (.goto (-33)) := ⟨by decide +kernel, rfl⟩
theorem dX6_spread_51 : dec cX6_spread 51 3 54 (.iinc 2 1) := ⟨by decide +kernel, rfl⟩
theorem dX6_spread_54 : dec cX6_spread 54 3 57 (.goto (-52)) := ⟨by decide +kernel, rfl⟩
theorem dX6_spread_57 : dec cX6_spread 57 1 58 (.return_) := ⟨by decide +kernel, rfl⟩
set_option maxHeartbeats 4000000 in
set_option maxRecDepth 100000 in
theorem tX6_spread_L15 {X : Cx} {Y : Yx} {M0 : Mem} (hC : OKX X Y RX6 cX6_spread 4 none rmX6_spread) (hF : Y.2.2.2.2 = true) (hL : Lay M0) (Q : Mem → Prop) (E51 : Mem → Prop) (a0 : Nat) (a1 : Nat) (x2 : Int) (qa0 : 0 < a0 ∧ M0 0 a0 = kO 6) (qa1 : 0 < a1 ∧ M0 0 a1 = kA 2 1024) (hE51 : ∀  (M : Mem), E51  M → WW X Y 4 rmX6_spread (QV Q) M0 0 0 51 [(0, vR Y.1 a0), (1, vR Y.1 a1), (2, vI x2)] [] M) : ∀ (N : Nat) (x3 : Int) (M : Mem) (_ : wX6_spread_L15 Q E51 a0 a1 x2 N x3 M), WW X Y 4 rmX6_spread (QV Q) M0 0 0 15 [(0, vR Y.1 a0), (1, vR Y.1 a1), (2, vI x2), (3, vI x3)] [] M := by
  intro N
  induction N with
  | zero =>
    intro x3 M h
    exact h.elim
  | succ N ih =>
    intro x3 M h
    unfold wX6_spread_L15 at h
    refine r_iload_n hC 3 dX6_spread_15 rfl rfl ?_
    refine r_aload_n hC 1 dX6_spread_16 rfl rfl ?_
    refine r_alen hC (by decide) qa1.1 qa1.2 (by decide) dX6_spread_17 ?_
    refine r_icmp_ge hC 51 rfl bmL_1024 dX6_spread_18 (by decide) (fun cq => ?_) (fun cq => ?_)
    · replace h := h.1 cq
      refine r_sub [0, 1, 2] rfl ?_
      exact hE51  _ h
    · replace h := h.2 cq
      refine r_iload_n hC 3 dX6_spread_21 rfl rfl ?_
      refine r_iload_n hC 2 dX6_spread_22 rfl rfl ?_
      refine r_callN (As := [vI x3, vI x2]) (st := []) hC cw_X6_58 rfl rfl (Nat.le_of_ble_eq_true rfl) ⟨Nat.le_of_ble_eq_true rfl, Nat.le_of_ble_eq_true rfl⟩ ⟨Nat.le_of_ble_eq_true rfl, Nat.le_of_ble_eq_true rfl⟩ dX6_spread_23 (fun hk => mX11_isIn Y hF _ _ _ _ _  h) (fun v M_2 h => ?_)
      obtain ⟨r_3, rfl, h⟩ := h
      refine r_if_eq hC 45 rfl dX6_spread_26 (by decide) (fun cq => ?_) (fun cq => ?_)
      · replace h := h.1 cq
        refine let_elim h (fun x3_4 e_5 h => ?_)
        refine r_iinc (lv' := [(3, vI x3_4), (0, vR Y.1 a0), (1, vR Y.1 a1), (2, vI x2)]) hC 3 dX6_spread_45 rfl (by decide) e_5 rfl ?_
        refine r_goto hC 15 dX6_spread_48 (by decide) ?_
        refine r_sub [1, 2, 3, 0] rfl ?_
        exact ih _ _ h
      · replace h := h.2 cq
        refine r_aload_n hC 1 dX6_spread_29 rfl rfl ?_
        refine r_iload_n hC 3 dX6_spread_30 rfl rfl ?_
        refine r_iconst hC dX6_spread_31 ?_
        refine r_iload_n hC 2 dX6_spread_32 rfl rfl ?_
        refine r_ishl hC dX6_spread_33 ?_
        refine r_iconst hC dX6_spread_34 ?_
        refine r_ixor hC dX6_spread_35 ?_
        refine r_iand hC dX6_spread_36 ?_
        obtain ⟨i_6, h⟩ := h
        refine r_zald hC i_6 qa1.1 qa1.2 (by decide) dX6_spread_37 ?_
        refine r_if_eq hC 45 rfl dX6_spread_38 (by decide) (fun cq => ?_) (fun cq => ?_)
        · replace h := h.1 cq
          refine let_elim h (fun x3_7 e_8 h => ?_)
          refine r_iinc (lv' := [(3, vI x3_7), (0, vR Y.1 a0), (1, vR Y.1 a1), (2, vI x2)]) hC 3 dX6_spread_45 rfl (by decide) e_8 rfl ?_
          refine r_goto hC 15 dX6_spread_48 (by decide) ?_
          refine r_sub [1, 2, 3, 0] rfl ?_
          exact ih _ _ h
        · replace h := h.2 cq
          refine r_aload_n hC 1 dX6_spread_41 rfl rfl ?_
          refine r_iload_n hC 3 dX6_spread_42 rfl rfl ?_
          refine r_iconst hC dX6_spread_43 ?_
          obtain ⟨i_9, h⟩ := h
          refine r_zast hC (Or.inr rfl) i_9 qa1.1 qa1.2 (by decide) dX6_spread_44 ?_
          refine r_nameM h (fun M_10 h => ?_)
          refine let_elim h (fun x3_11 e_12 h => ?_)
          refine r_iinc (lv' := [(3, vI x3_11), (0, vR Y.1 a0), (1, vR Y.1 a1), (2, vI x2)]) hC 3 dX6_spread_45 rfl (by decide) e_12 rfl ?_
          refine r_goto hC 15 dX6_spread_48 (by decide) ?_
          refine r_sub [1, 2, 3, 0] rfl ?_
          exact ih _ _ h
set_option maxHeartbeats 4000000 in
set_option maxRecDepth 100000 in
theorem tX6_spread_L2 {X : Cx} {Y : Yx} {M0 : Mem} (hC : OKX X Y RX6 cX6_spread 4 none rmX6_spread) (hF : Y.2.2.2.2 = true) (hL : Lay M0) (Q : Mem → Prop)  (a0 : Nat) (a1 : Nat) (qa0 : 0 < a0 ∧ M0 0 a0 = kO 6) (qa1 : 0 < a1 ∧ M0 0 a1 = kA 2 1024)  : ∀ (N : Nat) (x2 : Int) (M : Mem) (_ : wX6_spread_L2 Q  a0 a1 N x2 M), WW X Y 4 rmX6_spread (QV Q) M0 0 0 2 [(0, vR Y.1 a0), (1, vR Y.1 a1), (2, vI x2)] [] M := by
  intro N
  induction N with
  | zero =>
    intro x2 M h
    exact h.elim
  | succ N ih =>
    intro x2 M h
    unfold wX6_spread_L2 at h
    refine r_iload_n hC 2 dX6_spread_2 rfl rfl ?_
    refine r_aload_n hC 0 dX6_spread_3 rfl rfl ?_
    have q_1 : 0 < (a0 - 101) ∧ M0 0 ((a0 - 101)) = kO 0 := lay_fs (a := a0) hL qa0 fm_6_0
    refine r_getRs (a' := (a0 - 101)) hC fg_X6_29 rfl hF fm_6_0 qa0.1 qa0.2 rfl dX6_spread_4 ?_
    refine r_getI hC fg_X6_144 rfl q_1.1 q_1.2 dX6_spread_7 ?_
    refine r_icmp_ge hC 57 rfl rfl dX6_spread_10 (by decide) (fun cq => ?_) (fun cq => ?_)
    · replace h := h.1 cq
      exact r_vret hC (Nat.zero_le _) (Nat.zero_le _) dX6_spread_57 ⟨rfl, h⟩
    · replace h := h.2 cq
      refine r_iconst hC dX6_spread_13 ?_
      refine r_istore_n (lv' := [(3, vI 0), (0, vR Y.1 a0), (1, vR Y.1 a1), (2, vI x2)]) hC dX6_spread_14 rfl (by decide) rfl ?_
      refine r_sub [1, 2, 3, 0] rfl ?_
      obtain ⟨N_16, h⟩ := h
      refine tX6_spread_L15 hC hF hL Q _ _ _ _ qa0 qa1 ?_ N_16 _ _ h
      · intro M_13 h
        refine let_elim h (fun x2_14 e_15 h => ?_)
        refine r_iinc (lv' := [(2, vI x2_14), (0, vR Y.1 a0), (1, vR Y.1 a1)]) hC 2 dX6_spread_51 rfl (by decide) e_15 rfl ?_
        refine r_goto hC 2 dX6_spread_54 (by decide) ?_
        refine r_sub [1, 2, 0] rfl ?_
        exact ih _ _ h
set_option maxHeartbeats 4000000 in
set_option maxRecDepth 100000 in
theorem mX6_spread (Y : Yx) (hF : Y.2.2.2.2 = true) (l : Launch) (a0 : Nat) (a1 : Nat) (M0 : Mem) (Q : Mem → Prop) (qa0 : 0 < a0 ∧ M0 0 a0 = kO 6) (qa1 : 0 < a1 ∧ M0 0 a1 = kA 2 1024) (h : wX6_spread a0 a1 M0 Q) : CT Y l yX6_spread cX6_spread 4 none rmX6_spread [vR Y.1 a0, vR Y.1 a1] M0 (QV Q) := by
  unfold wX6_spread at h
  refine ct_intro (by decide) (Nat.le_of_ble_eq_true rfl) ?_
  intro X hXl hC hL0
  have hL := hL0 hF
  change OKX X Y RX6 cX6_spread 4 none rmX6_spread at hC
  change WW X Y 4 rmX6_spread (QV Q) M0 0 0 0 [(0, vR Y.1 a0), (1, vR Y.1 a1)] [] M0
  refine r_iconst hC dX6_spread_0 ?_
  refine r_istore_n (lv' := [(2, vI 0), (0, vR Y.1 a0), (1, vR Y.1 a1)]) hC dX6_spread_1 rfl (by decide) rfl ?_
  refine r_sub [1, 2, 0] rfl ?_
  obtain ⟨N_17, h⟩ := h
  refine tX6_spread_L2 hC hF hL Q  _ _ qa0 qa1  N_17 _ _ h
theorem dX6_barring_0 : dec cX6_barring 0 1 1 (.aload_n 0) := ⟨by decide +kernel, rfl⟩
theorem dX6_barring_1 : dec cX6_barring 1 3 4 (.invokevirtual 132) := ⟨by decide +kernel, rfl⟩
theorem dX6_barring_4 : dec cX6_barring 4 1 5 (.astore_n 1) := ⟨by decide +kernel, rfl⟩
theorem dX6_barring_5 : dec cX6_barring 5 1 6 (.iconst 0) := ⟨by decide +kernel, rfl⟩
theorem dX6_barring_6 : dec cX6_barring 6 1 7 (.istore_n 2) := ⟨by decide +kernel, rfl⟩
theorem dX6_barring_7 : dec cX6_barring 7 1 8 (.iload_n 2) := ⟨by decide +kernel, rfl⟩
theorem dX6_barring_8 : dec cX6_barring 8 1 9 (.aload_n 0) := ⟨by decide +kernel, rfl⟩
theorem dX6_barring_9 : dec cX6_barring 9 3 12 (.getfield 41) := ⟨by decide +kernel, rfl⟩
theorem dX6_barring_12 : dec cX6_barring 12 3 15 (.if_icmp .ge 28) := ⟨by decide +kernel, rfl⟩
theorem dX6_barring_15 : dec cX6_barring 15 1 16 (.aload_n 0) := ⟨by decide +kernel, rfl⟩
theorem dX6_barring_16 : dec cX6_barring 16 3 19 (.getfield 33) := ⟨by decide +kernel, rfl⟩
theorem dX6_barring_19 : dec cX6_barring 19 1 20 (.aload_n 0) := ⟨by decide +kernel, rfl⟩
theorem dX6_barring_20 : dec cX6_barring 20 3 23 (.getfield 41) := ⟨by decide +kernel, rfl⟩
theorem dX6_barring_23 : dec cX6_barring 23 1 24 (.iload_n 2) := ⟨by decide +kernel, rfl⟩
theorem dX6_barring_24 : dec cX6_barring 24 1 25 (.iconst 0) := ⟨by decide +kernel, rfl⟩
theorem dX6_barring_25 : dec cX6_barring 25 3 28 (.invokevirtual 74) := ⟨by decide +kernel, rfl⟩
theorem dX6_barring_28 : dec cX6_barring 28 1 29 (.aload_n 0) := ⟨by decide +kernel, rfl⟩
theorem dX6_barring_29 : dec cX6_barring 29 1 30 (.iconst 0) := ⟨by decide +kernel, rfl⟩
theorem dX6_barring_30 : dec cX6_barring 30 1 31 (.aload_n 1) := ⟨by decide +kernel, rfl⟩
theorem dX6_barring_31 : dec cX6_barring 31 3 34 (.invokevirtual 136) := ⟨by decide +kernel, rfl⟩
theorem dX6_barring_34 : dec cX6_barring 34 3 37 (.iinc 2 1) := ⟨by decide +kernel, rfl⟩
theorem dX6_barring_37 : dec cX6_barring 37 3 40 (.goto (-30)) := ⟨by decide +kernel, rfl⟩
theorem dX6_barring_40 : dec cX6_barring 40 1 41 (.aload_n 0) := ⟨by decide +kernel, rfl⟩
theorem dX6_barring_41 : dec cX6_barring 41 1 42 (.aload_n 1) := ⟨by decide +kernel, rfl⟩
theorem dX6_barring_42 : dec cX6_barring 42 3 45 (.invokevirtual 140) := ⟨by decide +kernel, rfl⟩
theorem dX6_barring_45 : dec cX6_barring 45 1 46 (.iconst 1) := ⟨by decide +kernel, rfl⟩
theorem dX6_barring_46 : dec cX6_barring 46 1 47 (.aload_n 0) := ⟨by decide +kernel, rfl⟩
theorem dX6_barring_47 : dec cX6_barring 47 3 50 (.getfield 29) := ⟨by decide +kernel, rfl⟩
theorem dX6_barring_50 : dec cX6_barring 50 3 53 (.getfield 144) := ⟨by decide +kernel, rfl⟩
theorem dX6_barring_53 : dec cX6_barring 53 1 54 (.ishl) := ⟨by decide +kernel, rfl⟩
theorem dX6_barring_54 : dec cX6_barring 54 1 55 (.iconst 1) := ⟨by decide +kernel, rfl⟩
theorem dX6_barring_55 : dec cX6_barring 55 1 56 (.isub) := ⟨by decide +kernel, rfl⟩
theorem dX6_barring_56 : dec cX6_barring 56 1 57 (.istore_n 2) := ⟨by decide +kernel, rfl⟩
theorem dX6_barring_57 : dec cX6_barring 57 1 58 (.iload_n 2) := ⟨by decide +kernel, rfl⟩
theorem dX6_barring_58 : dec cX6_barring 58 1 59 (.istore_n 3) := ⟨by decide +kernel, rfl⟩
theorem dX6_barring_59 : dec cX6_barring 59 1 60 (.iconst 0) := ⟨by decide +kernel, rfl⟩
theorem dX6_barring_60 : dec cX6_barring 60 2 62 (.istore 4) := ⟨by decide +kernel, rfl⟩
theorem dX6_barring_62 : dec cX6_barring 62 2 64 (.iload 4) := ⟨by decide +kernel, rfl⟩
theorem dX6_barring_64 : dec cX6_barring 64 1 65 (.iload_n 2) := ⟨by decide +kernel, rfl⟩
theorem dX6_barring_65 : dec cX6_barring 65 3 68 (.if_icmp .gt 35) := ⟨by decide +kernel, rfl⟩
theorem dX6_barring_68 : dec cX6_barring 68 1 69 (.aload_n 1) := ⟨by decide +kernel, rfl⟩
theorem dX6_barring_69 : dec cX6_barring 69 1 70 (.iload_n 2) := ⟨by decide +kernel, rfl⟩
theorem dX6_barring_70 : dec cX6_barring 70 2 72 (.iload 4) := ⟨by decide +kernel, rfl⟩
theorem dX6_barring_72 : dec cX6_barring 72 1 73 (.iconst (-1)) := ⟨by decide +kernel, rfl⟩
theorem dX6_barring_73 : dec cX6_barring 73 1 74 (.ixor) := ⟨by decide +kernel, rfl⟩
theorem dX6_barring_74 : dec cX6_barring 74 1 75 (.iand) := ⟨by decide +kernel, rfl⟩
theorem dX6_barring_75 : dec cX6_barring 75 1 76 (.baload) := ⟨by decide +kernel, rfl⟩
theorem dX6_barring_76 : dec cX6_barring 76 3 79 (.ifCond .ne 18) := ⟨by decide +kernel, rfl⟩
theorem dX6_barring_79 : dec cX6_barring 79 2 81 (.iload 4) := ⟨by decide +kernel, rfl⟩
theorem dX6_barring_81 : dec cX6_barring 81 3 84 (.invokestatic 147) := ⟨by decide +kernel, rfl⟩
theorem dX6_barring_84 : dec cX6_barring 84 1 85 (.iload_n 3) := ⟨by decide +kernel, rfl⟩
theorem dX6_barring_85 : dec cX6_barring 85 3 88 (.invokestatic 147) := ⟨by decide +kernel, rfl⟩
theorem dX6_barring_88 : dec cX6_barring 88 3 91 (.if_icmp .ge 6) := ⟨by decide +kernel, rfl⟩
theorem dX6_barring_91 : dec cX6_barring 91 2 93 (.iload 4) := ⟨by decide +kernel, rfl⟩
theorem dX6_barring_93 : dec cX6_barring 93 1 94 (.istore_n 3) := ⟨by decide +kernel, rfl⟩
theorem dX6_barring_94 : dec cX6_barring 94 3 97 (.iinc 4 1) := ⟨by decide +kernel, rfl⟩
theorem dX6_barring_97 : dec cX6_barring 97 3 100 (.goto (-35)) := ⟨by decide +kernel, rfl⟩
theorem dX6_barring_100 : dec cX6_barring 100 1 101 (.iload_n 3) := ⟨by decide +kernel, rfl⟩
theorem dX6_barring_101 : dec cX6_barring 101 1 102 (.ireturn) := ⟨by decide +kernel, rfl⟩
set_option maxHeartbeats 4000000 in
set_option maxRecDepth 100000 in
theorem tX6_barring_L7 {X : Cx} {Y : Yx} {M0 : Mem} (hC : OKX X Y RX6 cX6_barring 5 (some .int) rmX6_barring) (hF : Y.2.2.2.2 = true) (hL : Lay M0) (Q : Int → Mem → Prop) (E40 : Mem → Prop) (a0 : Nat) (a1 : Nat) (qa0 : 0 < a0 ∧ M0 0 a0 = kO 6) (qa1 : 0 < a1 ∧ M0 0 a1 = kA 2 1024) (hE40 : ∀  (M : Mem), E40  M → WW X Y 5 rmX6_barring (QI Q) M0 1 1024 40 [(0, vR Y.1 a0), (1, vR Y.1 a1)] [] M) : ∀ (N : Nat) (x2 : Int) (M : Mem) (_ : wX6_barring_L7 Q E40 a0 a1 N x2 M), WW X Y 5 rmX6_barring (QI Q) M0 1 1024 7 [(0, vR Y.1 a0), (1, vR Y.1 a1), (2, vI x2)] [] M := by
  intro N
  induction N with
  | zero =>
    intro x2 M h
    exact h.elim
  | succ N ih =>
    intro x2 M h
    unfold wX6_barring_L7 at h
    refine r_iload_n hC 2 dX6_barring_7 rfl rfl ?_
    refine r_aload_n hC 0 dX6_barring_8 rfl rfl ?_
    refine r_getI hC fg_X6_41 rfl qa0.1 qa0.2 dX6_barring_9 ?_
    refine r_icmp_ge hC 40 rfl rfl dX6_barring_12 (by decide) (fun cq => ?_) (fun cq => ?_)
    · replace h := h.1 cq
      refine r_sub [0, 1] rfl ?_
      exact hE40  _ h
    · replace h := h.2 cq
      refine r_aload_n hC 0 dX6_barring_15 rfl rfl ?_
      have q_4 : 0 < (a0 - 12) ∧ M0 0 ((a0 - 12)) = kO 10 := lay_fs (a := a0) hL qa0 fm_6_1
      refine r_getRs (a' := (a0 - 12)) hC fg_X6_33 rfl hF fm_6_1 qa0.1 qa0.2 rfl dX6_barring_16 ?_
      refine r_aload_n hC 0 dX6_barring_19 rfl rfl ?_
      refine r_getI hC fg_X6_41 rfl qa0.1 qa0.2 dX6_barring_20 ?_
      refine r_iload_n hC 2 dX6_barring_23 rfl rfl ?_
      refine r_iconst hC dX6_barring_24 ?_
      refine r_callV (As := [vI (M a0 5), vI x2, vI 0]) (st := []) hC cw_X6_74 rfl q_4.1 q_4.2 rfl rfl (Nat.le_of_ble_eq_true rfl) ⟨Nat.le_of_ble_eq_true rfl, Nat.le_of_ble_eq_true rfl⟩ ⟨Nat.le_of_ble_eq_true rfl, Nat.le_of_ble_eq_true rfl⟩ dX6_barring_25 (fun hk => mX10_start Y hF _ _ _ _ _ _ _ (kqO hk q_4) h) (fun v M_5 h => ?_)
      obtain ⟨rfl, h⟩ := h
      refine r_aload_n hC 0 dX6_barring_28 rfl rfl ?_
      refine r_iconst hC dX6_barring_29 ?_
      refine r_aload_n hC 1 dX6_barring_30 rfl rfl ?_
      refine r_callV (As := [vI 0, vR Y.1 a1]) (st := []) hC cw_X6_136 rfl qa0.1 qa0.2 rfl rfl (Nat.le_of_ble_eq_true rfl) ⟨Nat.le_of_ble_eq_true rfl, Nat.le_of_ble_eq_true rfl⟩ ⟨Nat.le_of_ble_eq_true rfl, Nat.le_of_ble_eq_true rfl⟩ dX6_barring_31 (fun hk => mX6_goOnAny Y hF _ _ _ _ _ _ (kqO hk qa0) (kqA hk qa1) h) (fun v M_6 h => ?_)
      obtain ⟨rfl, h⟩ := h
      refine let_elim h (fun x2_7 e_8 h => ?_)
      refine r_iinc (lv' := [(2, vI x2_7), (0, vR Y.1 a0), (1, vR Y.1 a1)]) hC 2 dX6_barring_34 rfl (by decide) e_8 rfl ?_
      refine r_goto hC 7 dX6_barring_37 (by decide) ?_
      refine r_sub [1, 2, 0] rfl ?_
      exact ih _ _ h
set_option maxHeartbeats 4000000 in
set_option maxRecDepth 100000 in
theorem tX6_barring_L62 {X : Cx} {Y : Yx} {M0 : Mem} (hC : OKX X Y RX6 cX6_barring 5 (some .int) rmX6_barring) (hF : Y.2.2.2.2 = true) (hL : Lay M0) (Q : Int → Mem → Prop)  (a1 : Nat) (x2 : Int) (qa1 : 0 < a1 ∧ M0 0 a1 = kA 2 1024)  : ∀ (N : Nat) (x3 : Int) (x4 : Int) (M : Mem) (_ : wX6_barring_L62 Q  a1 x2 N x3 x4 M), WW X Y 5 rmX6_barring (QI Q) M0 1 1024 62 [(1, vR Y.1 a1), (2, vI x2), (3, vI x3), (4, vI x4)] [] M := by
  intro N
  induction N with
  | zero =>
    intro x3 x4 M h
    exact h.elim
  | succ N ih =>
    intro x3 x4 M h
    unfold wX6_barring_L62 at h
    refine r_iload hC 3 dX6_barring_62 rfl ?_
    refine r_iload_n hC 1 dX6_barring_64 rfl rfl ?_
    refine r_icmp_gt hC 100 rfl rfl dX6_barring_65 (by decide) (fun cq => ?_) (fun cq => ?_)
    · replace h := h.1 cq
      refine r_iload_n hC 2 dX6_barring_100 rfl rfl ?_
      exact r_iret hC (Nat.le_of_ble_eq_true rfl) (Nat.le_of_ble_eq_true rfl) dX6_barring_101 ⟨_, rfl, h⟩
    · replace h := h.2 cq
      refine r_aload_n hC 0 dX6_barring_68 rfl rfl ?_
      refine r_iload_n hC 1 dX6_barring_69 rfl rfl ?_
      refine r_iload hC 3 dX6_barring_70 rfl ?_
      refine r_iconst hC dX6_barring_72 ?_
      refine r_ixor hC dX6_barring_73 ?_
      refine r_iand hC dX6_barring_74 ?_
      obtain ⟨i_13, h⟩ := h
      refine r_zald hC i_13 qa1.1 qa1.2 (by decide) dX6_barring_75 ?_
      refine r_if_ne hC 94 rfl dX6_barring_76 (by decide) (fun cq => ?_) (fun cq => ?_)
      · replace h := h.2 cq
        refine let_elim h (fun x4_14 e_15 h => ?_)
        refine r_iinc (lv' := [(4, vI x4_14), (1, vR Y.1 a1), (2, vI x2), (3, vI x3)]) hC 3 dX6_barring_94 rfl (by decide) e_15 rfl ?_
        refine r_goto hC 62 dX6_barring_97 (by decide) ?_
        refine r_sub [1, 2, 3, 0] rfl ?_
        exact ih _ _ _ h
      · replace h := h.1 cq
        refine r_iload hC 3 dX6_barring_79 rfl ?_
        refine r_callS (As := [vI x4]) (st := []) hC cw_X6_147 rfl rfl (Nat.le_of_ble_eq_true rfl) ⟨Nat.le_of_ble_eq_true rfl, Nat.le_of_ble_eq_true rfl⟩ ⟨Nat.le_of_ble_eq_true rfl, Nat.le_of_ble_eq_true rfl⟩ dX6_barring_81 (fun hk => mJ6_bitCount_0f7a4 Y hF _ _ _ _  h) (fun v M_16 h => ?_)
        obtain ⟨r_17, rfl, h⟩ := h
        refine r_iload_n hC 2 dX6_barring_84 rfl rfl ?_
        refine r_callS (As := [vI x3]) (st := [vI r_17]) hC cw_X6_147 rfl rfl (Nat.le_of_ble_eq_true rfl) ⟨Nat.le_of_ble_eq_true rfl, Nat.le_of_ble_eq_true rfl⟩ ⟨Nat.le_of_ble_eq_true rfl, Nat.le_of_ble_eq_true rfl⟩ dX6_barring_85 (fun hk => mJ6_bitCount_0f7a4 Y hF _ _ _ _  h) (fun v M_18 h => ?_)
        obtain ⟨r_19, rfl, h⟩ := h
        refine r_icmp_ge hC 94 rfl rfl dX6_barring_88 (by decide) (fun cq => ?_) (fun cq => ?_)
        · replace h := h.1 cq
          refine let_elim h (fun x4_20 e_21 h => ?_)
          refine r_iinc (lv' := [(4, vI x4_20), (1, vR Y.1 a1), (2, vI x2), (3, vI x3)]) hC 3 dX6_barring_94 rfl (by decide) e_21 rfl ?_
          refine r_goto hC 62 dX6_barring_97 (by decide) ?_
          refine r_sub [1, 2, 3, 0] rfl ?_
          exact ih _ _ _ h
        · replace h := h.2 cq
          refine r_iload hC 3 dX6_barring_91 rfl ?_
          refine r_istore_n (lv' := [(3, vI x4), (1, vR Y.1 a1), (2, vI x2), (4, vI x4)]) hC dX6_barring_93 rfl (by decide) rfl ?_
          refine let_elim h (fun x4_22 e_23 h => ?_)
          refine r_iinc (lv' := [(4, vI x4_22), (3, vI x4), (1, vR Y.1 a1), (2, vI x2)]) hC 3 dX6_barring_94 rfl (by decide) e_23 rfl ?_
          refine r_goto hC 62 dX6_barring_97 (by decide) ?_
          refine r_sub [2, 3, 1, 0] rfl ?_
          exact ih _ _ _ h
set_option maxHeartbeats 4000000 in
set_option maxRecDepth 100000 in
theorem mX6_barring (Y : Yx) (hF : Y.2.2.2.2 = true) (l : Launch) (a0 : Nat) (M0 : Mem) (Q : Int → Mem → Prop) (qa0 : 0 < a0 ∧ M0 0 a0 = kO 6) (h : wX6_barring a0 M0 Q) : CT Y l yX6_barring cX6_barring 5 (some .int) rmX6_barring [vR Y.1 a0] M0 (QI Q) := by
  unfold wX6_barring at h
  refine ct_intro (by decide) (Nat.le_of_ble_eq_true rfl) ?_
  intro X hXl hC hL0
  have hL := hL0 hF
  change OKX X Y RX6 cX6_barring 5 (some .int) rmX6_barring at hC
  change WW X Y 5 rmX6_barring (QI Q) M0 0 0 0 [(0, vR Y.1 a0)] [] M0
  refine r_aload_n hC 0 dX6_barring_0 rfl rfl ?_
  refine r_callV (As := []) (st := []) hC cw_X6_132 rfl qa0.1 qa0.2 rfl rfl (Nat.le_of_ble_eq_true rfl) ⟨Nat.le_of_ble_eq_true rfl, Nat.le_of_ble_eq_true rfl⟩ ⟨Nat.le_of_ble_eq_true rfl, Nat.le_of_ble_eq_true rfl⟩ dX6_barring_1 (fun hk => mX6_breakingsBegun Y hF _ _ _ _ (kqO hk qa0) h) (fun v M_1 h => ?_)
  obtain ⟨r_2, rfl, h⟩ := h
  obtain ⟨q_3, h⟩ := h
  refine r_base (fun hk hL0 => ?_)
  have hL := hL0 hF
  have qa0 := kqO hk qa0
  refine r_astore_n (lv' := [(1, vR Y.1 r_2), (0, vR Y.1 a0)]) hC dX6_barring_4 rfl (by decide) rfl ?_
  refine r_iconst hC dX6_barring_5 ?_
  refine r_istore_n (lv' := [(2, vI 0), (1, vR Y.1 r_2), (0, vR Y.1 a0)]) hC dX6_barring_6 rfl (by decide) rfl ?_
  refine r_sub [2, 1, 0] rfl ?_
  obtain ⟨N_25, h⟩ := h
  refine tX6_barring_L7 hC hF hL Q _ _ _ qa0 q_3 ?_ N_25 _ _ h
  · intro M_9 h
    refine r_aload_n hC 0 dX6_barring_40 rfl rfl ?_
    refine r_aload_n hC 1 dX6_barring_41 rfl rfl ?_
    refine r_callV (As := [vR Y.1 r_2]) (st := []) hC cw_X6_140 rfl qa0.1 qa0.2 rfl rfl (Nat.le_of_ble_eq_true rfl) ⟨Nat.le_of_ble_eq_true rfl, Nat.le_of_ble_eq_true rfl⟩ ⟨Nat.le_of_ble_eq_true rfl, Nat.le_of_ble_eq_true rfl⟩ dX6_barring_42 (fun hk => mX6_spread Y hF _ _ _ _ _ (kqO hk qa0) (kqA hk q_3) h) (fun v M_10 h => ?_)
    obtain ⟨rfl, h⟩ := h
    refine r_iconst hC dX6_barring_45 ?_
    refine r_aload_n hC 0 dX6_barring_46 rfl rfl ?_
    have q_11 : 0 < (a0 - 101) ∧ M_1 0 ((a0 - 101)) = kO 0 := lay_fs (a := a0) hL qa0 fm_6_0
    refine r_getRs (a' := (a0 - 101)) hC fg_X6_29 rfl hF fm_6_0 qa0.1 qa0.2 rfl dX6_barring_47 ?_
    refine r_getI hC fg_X6_144 rfl q_11.1 q_11.2 dX6_barring_50 ?_
    refine r_ishl hC dX6_barring_53 ?_
    refine r_iconst hC dX6_barring_54 ?_
    refine r_isub hC dX6_barring_55 ?_
    refine r_nameI h (fun x2_12 h => ?_)
    refine r_istore_n (lv' := [(2, vI x2_12), (0, vR Y.1 a0), (1, vR Y.1 r_2)]) hC dX6_barring_56 rfl (by decide) rfl ?_
    refine r_iload_n hC 0 dX6_barring_57 rfl rfl ?_
    refine r_istore_n (lv' := [(3, vI x2_12), (2, vI x2_12), (0, vR Y.1 a0), (1, vR Y.1 r_2)]) hC dX6_barring_58 rfl (by decide) rfl ?_
    refine r_iconst hC dX6_barring_59 ?_
    refine r_istore (lv' := [(4, vI 0), (3, vI x2_12), (2, vI x2_12), (0, vR Y.1 a0), (1, vR Y.1 r_2)]) hC dX6_barring_60 (by decide) rfl ?_
    refine r_sub [4, 2, 1, 0] rfl ?_
    obtain ⟨N_24, h⟩ := h
    refine tX6_barring_L62 hC hF hL Q  _ _ q_3  N_24 _ _ _ h
theorem dX10_along_0 : dec cX10_along 0 1 1 (.aload_n 0) := ⟨by decide +kernel, rfl⟩
theorem dX10_along_1 : dec cX10_along 1 1 2 (.aload_n 1) := ⟨by decide +kernel, rfl⟩
theorem dX10_along_2 : dec cX10_along 2 3 5 (.getfield 68) := ⟨by decide +kernel, rfl⟩
theorem dX10_along_5 : dec cX10_along 5 1 6 (.aload_n 1) := ⟨by decide +kernel, rfl⟩
theorem dX10_along_6 : dec cX10_along 6 3 9 (.getfield 71) := ⟨by decide +kernel, rfl⟩
theorem dX10_along_9 : dec cX10_along 9 1 10 (.iload_n 2) := ⟨by decide +kernel, rfl⟩
theorem dX10_along_10 : dec cX10_along 10 3 13 (.invokevirtual 72) := ⟨by decide +kernel, rfl⟩
theorem dX10_along_13 : dec cX10_along 13 1 14 (.iconst 0) := ⟨by decide +kernel, rfl⟩
theorem dX10_along_14 : dec cX10_along 14 1 15 (.istore_n 3) := ⟨by decide +kernel, rfl⟩
theorem dX10_along_15 : dec cX10_along 15 1 16 (.iload_n 3) := ⟨by decide +kernel, rfl⟩
theorem dX10_along_16 : dec cX10_along 16 1 17 (.aload_n 0) := ⟨by decide +kernel, rfl⟩
theorem dX10_along_17 : dec cX10_along 17 3 20 (.getfield 58) := ⟨by decide +kernel, rfl⟩
theorem dX10_along_20 : dec cX10_along 20 3 23 (.if_icmp .ge 25) := ⟨by decide +kernel, rfl⟩
theorem dX10_along_23 : dec cX10_along 23 1 24 (.aload_n 0) := ⟨by decide +kernel, rfl⟩
theorem dX10_along_24 : dec cX10_along 24 1 25 (.iload_n 3) := ⟨by decide +kernel, rfl⟩
theorem dX10_along_25 : dec cX10_along 25 1 26 (.aload_n 1) := ⟨by decide +kernel, rfl⟩
theorem dX10_along_26 : dec cX10_along 26 3 29 (.getfield 76) := ⟨by decide +kernel, rfl⟩
theorem dX10_along_29 : dec cX10_along 29 1 30 (.iload_n 3) := ⟨by decide +kernel, rfl⟩
theorem dX10_along_30 : dec cX10_along 30 1 31 (.iaload) := ⟨by decide +kernel, rfl⟩
theorem dX10_along_31 : dec cX10_along 31 3 34 (.invokevirtual 79) := ⟨by decide +kernel, rfl⟩
theorem dX10_along_34 : dec cX10_along 34 1 35 (.aload_n 0) := ⟨by decide +kernel, rfl⟩
theorem dX10_along_35 : dec cX10_along 35 1 36 (.iload_n 3) := ⟨by decide +kernel, rfl⟩
theorem dX10_along_36 : dec cX10_along 36 3 39 (.invokevirtual 83) := ⟨by decide +kernel, rfl⟩
theorem dX10_along_39 : dec cX10_along 39 3 42 (.iinc 3 1) := ⟨by decide +kernel, rfl⟩
theorem dX10_along_42 : dec cX10_along 42 3 45 (.goto (-27)) := ⟨by decide +kernel, rfl⟩
theorem dX10_along_45 : dec cX10_along 45 1 46 (.return_) := ⟨by decide +kernel, rfl⟩
set_option maxHeartbeats 4000000 in
set_option maxRecDepth 100000 in
theorem tX10_along_L15 {X : Cx} {Y : Yx} {M0 : Mem} (hC : OKX X Y RX10 cX10_along 4 none rmX10_along) (hF : Y.2.2.2.2 = true) (hL : Lay M0) (Q : Mem → Prop)  (a0 : Nat) (a1 : Nat) (qa0 : 0 < a0 ∧ M0 0 a0 = kO 10) (qa1 : 0 < a1 ∧ M0 0 a1 = kO 5)  : ∀ (N : Nat) (x3 : Int) (M : Mem) (_ : wX10_along_L15 Q  a0 a1 N x3 M), WW X Y 4 rmX10_along (QV Q) M0 0 0 15 [(0, vR Y.1 a0), (1, vR Y.1 a1), (3, vI x3)] [] M := by
  intro N
  induction N with
  | zero =>
    intro x3 M h
    exact h.elim
  | succ N ih =>
    intro x3 M h
    unfold wX10_along_L15 at h
    refine r_iload_n hC 2 dX10_along_15 rfl rfl ?_
    refine r_aload_n hC 0 dX10_along_16 rfl rfl ?_
    refine r_getI hC fg_X10_58 rfl qa0.1 qa0.2 dX10_along_17 ?_
    refine r_icmp_ge hC 45 rfl rfl dX10_along_20 (by decide) (fun cq => ?_) (fun cq => ?_)
    · replace h := h.1 cq
      exact r_vret hC (Nat.zero_le _) (Nat.zero_le _) dX10_along_45 ⟨rfl, h⟩
    · replace h := h.2 cq
      refine r_aload_n hC 0 dX10_along_23 rfl rfl ?_
      refine r_iload_n hC 2 dX10_along_24 rfl rfl ?_
      refine r_aload_n hC 1 dX10_along_25 rfl rfl ?_
      have q_2 : 0 < a1 + 1 ∧ M0 0 (a1 + 1) = kA 0 12 := lay_f0 (a := a1) hL qa1 fm_5_0
      refine r_getR0 (a' := a1 + 1) hC fg_X10_76 rfl hF fm_5_0 qa1.1 qa1.2 rfl dX10_along_26 ?_
      refine r_iload_n hC 2 dX10_along_29 rfl rfl ?_
      obtain ⟨i_3, h⟩ := h
      refine r_iald hC i_3 q_2.1 q_2.2 (by decide) dX10_along_30 ?_
      refine r_callV (As := [vI x3, vI (rd M (a1 + 1) x3)]) (st := []) hC cw_X10_79 rfl qa0.1 qa0.2 rfl rfl (Nat.le_of_ble_eq_true rfl) ⟨Nat.le_of_ble_eq_true rfl, Nat.le_of_ble_eq_true rfl⟩ ⟨Nat.le_of_ble_eq_true rfl, Nat.le_of_ble_eq_true rfl⟩ dX10_along_31 (fun hk => mX10_step Y hF _ _ _ _ _ _ (kqO hk qa0) h) (fun v M_4 h => ?_)
      obtain ⟨rfl, h⟩ := h
      refine r_aload_n hC 0 dX10_along_34 rfl rfl ?_
      refine r_iload_n hC 2 dX10_along_35 rfl rfl ?_
      refine r_callV (As := [vI x3]) (st := []) hC cw_X10_83 rfl qa0.1 qa0.2 rfl rfl (Nat.le_of_ble_eq_true rfl) ⟨Nat.le_of_ble_eq_true rfl, Nat.le_of_ble_eq_true rfl⟩ ⟨Nat.le_of_ble_eq_true rfl, Nat.le_of_ble_eq_true rfl⟩ dX10_along_36 (fun hk => mX10_weigh Y hF _ _ _ _ _ (kqO hk qa0) h) (fun v M_5 h => ?_)
      obtain ⟨rfl, h⟩ := h
      refine let_elim h (fun x3_6 e_7 h => ?_)
      refine r_iinc (lv' := [(3, vI x3_6), (0, vR Y.1 a0), (1, vR Y.1 a1)]) hC 2 dX10_along_39 rfl (by decide) e_7 rfl ?_
      refine r_goto hC 15 dX10_along_42 (by decide) ?_
      refine r_sub [1, 2, 0] rfl ?_
      exact ih _ _ h
set_option maxHeartbeats 4000000 in
set_option maxRecDepth 100000 in
theorem mX10_along (Y : Yx) (hF : Y.2.2.2.2 = true) (l : Launch) (a0 : Nat) (a1 : Nat) (x2 : Int) (M0 : Mem) (Q : Mem → Prop) (qa0 : 0 < a0 ∧ M0 0 a0 = kO 10) (qa1 : 0 < a1 ∧ M0 0 a1 = kO 5) (h : wX10_along a0 a1 x2 M0 Q) : CT Y l yX10_along cX10_along 4 none rmX10_along [vR Y.1 a0, vR Y.1 a1, vI x2] M0 (QV Q) := by
  unfold wX10_along at h
  refine ct_intro (by decide) (Nat.le_of_ble_eq_true rfl) ?_
  intro X hXl hC hL0
  have hL := hL0 hF
  change OKX X Y RX10 cX10_along 4 none rmX10_along at hC
  change WW X Y 4 rmX10_along (QV Q) M0 0 0 0 [(0, vR Y.1 a0), (1, vR Y.1 a1), (2, vI x2)] [] M0
  refine r_aload_n hC 0 dX10_along_0 rfl rfl ?_
  refine r_aload_n hC 1 dX10_along_1 rfl rfl ?_
  refine r_getI hC fg_X10_68 rfl qa1.1 qa1.2 dX10_along_2 ?_
  refine r_aload_n hC 1 dX10_along_5 rfl rfl ?_
  refine r_getI hC fg_X10_71 rfl qa1.1 qa1.2 dX10_along_6 ?_
  refine r_iload_n hC 2 dX10_along_9 rfl rfl ?_
  refine r_callV (As := [vI (M0 a1 1), vI (M0 a1 2), vI x2]) (st := []) hC cw_X10_72 rfl qa0.1 qa0.2 rfl rfl (Nat.le_of_ble_eq_true rfl) ⟨Nat.le_of_ble_eq_true rfl, Nat.le_of_ble_eq_true rfl⟩ ⟨Nat.le_of_ble_eq_true rfl, Nat.le_of_ble_eq_true rfl⟩ dX10_along_10 (fun hk => mX10_start Y hF _ _ _ _ _ _ _ (kqO hk qa0) h) (fun v M_1 h => ?_)
  obtain ⟨rfl, h⟩ := h
  refine r_iconst hC dX10_along_13 ?_
  refine r_istore_n (lv' := [(3, vI 0), (0, vR Y.1 a0), (1, vR Y.1 a1), (2, vI x2)]) hC dX10_along_14 rfl (by decide) rfl ?_
  refine r_sub [1, 2, 0] rfl ?_
  obtain ⟨N_8, h⟩ := h
  refine tX10_along_L15 hC hF hL Q  _ _ qa0 qa1  N_8 _ _ h
theorem dX10_isGoodFrom_0 : dec cX10_isGoodFrom 0 1 1 (.iload_n 2) := ⟨by decide +kernel, rfl⟩
theorem dX10_isGoodFrom_1 : dec cX10_isGoodFrom 1 1 2 (.istore_n 3) := ⟨by decide +kernel, rfl⟩
theorem dX10_isGoodFrom_2 : dec cX10_isGoodFrom 2 1 3 (.iload_n 3) := ⟨by decide +kernel, rfl⟩
theorem dX10_isGoodFrom_3 : dec cX10_isGoodFrom 3 1 4 (.aload_n 0) := ⟨by decide +kernel, rfl⟩
theorem dX10_isGoodFrom_4 : dec cX10_isGoodFrom 4 3 7 (.getfield 58) := ⟨by decide +kernel, rfl⟩
theorem dX10_isGoodFrom_7 : dec cX10_isGoodFrom 7 3 10 (.if_icmp .ge 37) := ⟨by decide +kernel, rfl⟩
theorem dX10_isGoodFrom_10 : dec cX10_isGoodFrom 10 1 11 (.aload_n 0) := ⟨by decide +kernel, rfl⟩
theorem dX10_isGoodFrom_11 : dec cX10_isGoodFrom 11 1 12 (.iload_n 3) := ⟨by decide +kernel, rfl⟩
theorem dX10_isGoodFrom_12 : dec cX10_isGoodFrom 12 1 13 (.aload_n 1) := ⟨by decide +kernel, rfl⟩
theorem dX10_isGoodFrom_13 : dec cX10_isGoodFrom 13 3 16 (.getfield 76) := ⟨by decide +kernel, rfl⟩
theorem dX10_isGoodFrom_16 : dec cX10_isGoodFrom 16 1 17 (.iload_n 3) := ⟨by decide +kernel, rfl⟩
theorem dX10_isGoodFrom_17 : dec cX10_isGoodFrom 17 1 18 (.iaload) := ⟨by decide +kernel, rfl⟩
theorem dX10_isGoodFrom_18 : dec cX10_isGoodFrom 18 3 21 (.invokevirtual 79) := ⟨by decide +kernel, rfl⟩
theorem dX10_isGoodFrom_21 : dec cX10_isGoodFrom 21 1 22 (.aload_n 0) := ⟨by decide +kernel, rfl⟩
theorem dX10_isGoodFrom_22 : dec cX10_isGoodFrom 22 1 23 (.iload_n 3) := ⟨by decide +kernel, rfl⟩
theorem dX10_isGoodFrom_23 : dec cX10_isGoodFrom 23 1 24 (.iconst 1) := ⟨by decide +kernel, rfl⟩
theorem dX10_isGoodFrom_24 : dec cX10_isGoodFrom 24 1 25 (.iadd) := ⟨by decide +kernel, rfl⟩
theorem dX10_isGoodFrom_25 : dec cX10_isGoodFrom 25 3 28 (.invokevirtual 87) := ⟨by decide +kernel, rfl⟩
theorem dX10_isGoodFrom_28 : dec cX10_isGoodFrom 28 3 31 (.ifCond .ne 5) := ⟨by decide +kernel, rfl⟩
theorem dX10_isGoodFrom_31 : dec cX10_isGoodFrom 31 1 32 (.iconst 0) := ⟨by decide +kernel, rfl⟩
theorem dX10_isGoodFrom_32 : dec cX10_isGoodFrom 32 1 33 (.ireturn) := ⟨by decide +kernel, rfl⟩
theorem dX10_isGoodFrom_33 : dec cX10_isGoodFrom 33 1 34 (.aload_n 0) := ⟨by decide +kernel, rfl⟩
theorem dX10_isGoodFrom_34 : dec cX10_isGoodFrom 34 1 35 (.iload_n 3) := ⟨by decide +kernel, rfl⟩
theorem dX10_isGoodFrom_35 : dec cX10_isGoodFrom 35 3 38 (.invokevirtual 83) := ⟨by decide +kernel, rfl⟩
theorem dX10_isGoodFrom_38 : dec cX10_isGoodFrom 38 3 41 (.iinc 3 1) := ⟨by decide +kernel, rfl⟩
theorem dX10_isGoodFrom_41 : dec cX10_isGoodFrom 41 3 44 (.goto (-39)) := ⟨by decide +kernel, rfl⟩
theorem dX10_isGoodFrom_44 : dec cX10_isGoodFrom 44 1 45 (.iconst 1) := ⟨by decide +kernel, rfl⟩
theorem dX10_isGoodFrom_45 : dec cX10_isGoodFrom 45 1 46 (.ireturn) := ⟨by decide +kernel, rfl⟩
set_option maxHeartbeats 4000000 in
set_option maxRecDepth 100000 in
theorem tX10_isGoodFrom_L2 {X : Cx} {Y : Yx} {M0 : Mem} (hC : OKX X Y RX10 cX10_isGoodFrom 4 (some .boolean) rmX10_isGoodFrom) (hF : Y.2.2.2.2 = true) (hL : Lay M0) (Q : Int → Mem → Prop)  (a0 : Nat) (a1 : Nat) (qa0 : 0 < a0 ∧ M0 0 a0 = kO 10) (qa1 : 0 < a1 ∧ M0 0 a1 = kO 5)  : ∀ (N : Nat) (x3 : Int) (M : Mem) (_ : wX10_isGoodFrom_L2 Q  a0 a1 N x3 M), WW X Y 4 rmX10_isGoodFrom (QI Q) M0 0 0 2 [(0, vR Y.1 a0), (1, vR Y.1 a1), (3, vI x3)] [] M := by
  intro N
  induction N with
  | zero =>
    intro x3 M h
    exact h.elim
  | succ N ih =>
    intro x3 M h
    unfold wX10_isGoodFrom_L2 at h
    refine r_iload_n hC 2 dX10_isGoodFrom_2 rfl rfl ?_
    refine r_aload_n hC 0 dX10_isGoodFrom_3 rfl rfl ?_
    refine r_getI hC fg_X10_58 rfl qa0.1 qa0.2 dX10_isGoodFrom_4 ?_
    refine r_icmp_ge hC 44 rfl rfl dX10_isGoodFrom_7 (by decide) (fun cq => ?_) (fun cq => ?_)
    · replace h := h.1 cq
      refine r_iconst hC dX10_isGoodFrom_44 ?_
      exact r_zret hC (Or.inr rfl) (Nat.zero_le _) (Nat.zero_le _) dX10_isGoodFrom_45 ⟨_, rfl, h⟩
    · replace h := h.2 cq
      refine r_aload_n hC 0 dX10_isGoodFrom_10 rfl rfl ?_
      refine r_iload_n hC 2 dX10_isGoodFrom_11 rfl rfl ?_
      refine r_aload_n hC 1 dX10_isGoodFrom_12 rfl rfl ?_
      have q_1 : 0 < a1 + 1 ∧ M0 0 (a1 + 1) = kA 0 12 := lay_f0 (a := a1) hL qa1 fm_5_0
      refine r_getR0 (a' := a1 + 1) hC fg_X10_76 rfl hF fm_5_0 qa1.1 qa1.2 rfl dX10_isGoodFrom_13 ?_
      refine r_iload_n hC 2 dX10_isGoodFrom_16 rfl rfl ?_
      obtain ⟨i_2, h⟩ := h
      refine r_iald hC i_2 q_1.1 q_1.2 (by decide) dX10_isGoodFrom_17 ?_
      refine r_callV (As := [vI x3, vI (rd M (a1 + 1) x3)]) (st := []) hC cw_X10_79 rfl qa0.1 qa0.2 rfl rfl (Nat.le_of_ble_eq_true rfl) ⟨Nat.le_of_ble_eq_true rfl, Nat.le_of_ble_eq_true rfl⟩ ⟨Nat.le_of_ble_eq_true rfl, Nat.le_of_ble_eq_true rfl⟩ dX10_isGoodFrom_18 (fun hk => mX10_step Y hF _ _ _ _ _ _ (kqO hk qa0) h) (fun v M_3 h => ?_)
      obtain ⟨rfl, h⟩ := h
      refine r_aload_n hC 0 dX10_isGoodFrom_21 rfl rfl ?_
      refine r_iload_n hC 2 dX10_isGoodFrom_22 rfl rfl ?_
      refine r_iconst hC dX10_isGoodFrom_23 ?_
      refine r_iadd hC dX10_isGoodFrom_24 ?_
      refine r_callV (As := [vI (x3 + 1)]) (st := []) hC cw_X10_87 rfl qa0.1 qa0.2 rfl rfl (Nat.le_of_ble_eq_true rfl) ⟨Nat.le_of_ble_eq_true rfl, Nat.le_of_ble_eq_true rfl⟩ ⟨Nat.le_of_ble_eq_true rfl, Nat.le_of_ble_eq_true rfl⟩ dX10_isGoodFrom_25 (fun hk => mX10_isGood Y hF _ _ _ _ _ (kqO hk qa0) h) (fun v M_4 h => ?_)
      obtain ⟨r_5, rfl, h⟩ := h
      refine r_if_ne hC 33 rfl dX10_isGoodFrom_28 (by decide) (fun cq => ?_) (fun cq => ?_)
      · replace h := h.2 cq
        refine r_aload_n hC 0 dX10_isGoodFrom_33 rfl rfl ?_
        refine r_iload_n hC 2 dX10_isGoodFrom_34 rfl rfl ?_
        refine r_callV (As := [vI x3]) (st := []) hC cw_X10_83 rfl qa0.1 qa0.2 rfl rfl (Nat.le_of_ble_eq_true rfl) ⟨Nat.le_of_ble_eq_true rfl, Nat.le_of_ble_eq_true rfl⟩ ⟨Nat.le_of_ble_eq_true rfl, Nat.le_of_ble_eq_true rfl⟩ dX10_isGoodFrom_35 (fun hk => mX10_weigh Y hF _ _ _ _ _ (kqO hk qa0) h) (fun v M_6 h => ?_)
        obtain ⟨rfl, h⟩ := h
        refine let_elim h (fun x3_7 e_8 h => ?_)
        refine r_iinc (lv' := [(3, vI x3_7), (0, vR Y.1 a0), (1, vR Y.1 a1)]) hC 2 dX10_isGoodFrom_38 rfl (by decide) e_8 rfl ?_
        refine r_goto hC 2 dX10_isGoodFrom_41 (by decide) ?_
        refine r_sub [1, 2, 0] rfl ?_
        exact ih _ _ h
      · replace h := h.1 cq
        refine r_iconst hC dX10_isGoodFrom_31 ?_
        exact r_zret hC (Or.inl rfl) (Nat.zero_le _) (Nat.zero_le _) dX10_isGoodFrom_32 ⟨_, rfl, h⟩
set_option maxHeartbeats 4000000 in
set_option maxRecDepth 100000 in
theorem mX10_isGoodFrom (Y : Yx) (hF : Y.2.2.2.2 = true) (l : Launch) (a0 : Nat) (a1 : Nat) (x2 : Int) (M0 : Mem) (Q : Int → Mem → Prop) (qa0 : 0 < a0 ∧ M0 0 a0 = kO 10) (qa1 : 0 < a1 ∧ M0 0 a1 = kO 5) (h : wX10_isGoodFrom a0 a1 x2 M0 Q) : CT Y l yX10_isGoodFrom cX10_isGoodFrom 4 (some .boolean) rmX10_isGoodFrom [vR Y.1 a0, vR Y.1 a1, vI x2] M0 (QI Q) := by
  unfold wX10_isGoodFrom at h
  refine ct_intro (by decide) (Nat.le_of_ble_eq_true rfl) ?_
  intro X hXl hC hL0
  have hL := hL0 hF
  change OKX X Y RX10 cX10_isGoodFrom 4 (some .boolean) rmX10_isGoodFrom at hC
  change WW X Y 4 rmX10_isGoodFrom (QI Q) M0 0 0 0 [(0, vR Y.1 a0), (1, vR Y.1 a1), (2, vI x2)] [] M0
  refine r_iload_n hC 2 dX10_isGoodFrom_0 rfl rfl ?_
  refine r_istore_n (lv' := [(3, vI x2), (0, vR Y.1 a0), (1, vR Y.1 a1), (2, vI x2)]) hC dX10_isGoodFrom_1 rfl (by decide) rfl ?_
  refine r_sub [1, 2, 0] rfl ?_
  obtain ⟨N_9, h⟩ := h
  refine tX10_isGoodFrom_L2 hC hF hL Q  _ _ qa0 qa1  N_9 _ _ h
theorem dX6_changeOfTwo_0 : dec cX6_changeOfTwo 0 1 1 (.aload_n 0) := ⟨by decide +kernel, rfl⟩
theorem dX6_changeOfTwo_1 : dec cX6_changeOfTwo 1 3 4 (.getfield 33) := ⟨by decide +kernel, rfl⟩
theorem dX6_changeOfTwo_4 : dec cX6_changeOfTwo 4 1 5 (.aload_n 1) := ⟨by decide +kernel, rfl⟩
theorem dX6_changeOfTwo_5 : dec cX6_changeOfTwo 5 1 6 (.aload_n 0) := ⟨by decide +kernel, rfl⟩
theorem dX6_changeOfTwo_6 : dec cX6_changeOfTwo 6 3 9 (.getfield 29) := ⟨by decide +kernel, rfl⟩
theorem dX6_changeOfTwo_9 : dec cX6_changeOfTwo 9 3 12 (.invokevirtual 70) := ⟨by decide +kernel, rfl⟩
theorem dX6_changeOfTwo_12 : dec cX6_changeOfTwo 12 3 15 (.invokevirtual 163) := ⟨by decide +kernel, rfl⟩
theorem dX6_changeOfTwo_15 : dec cX6_changeOfTwo 15 1 16 (.aload_n 0) := ⟨by decide +kernel, rfl⟩
theorem dX6_changeOfTwo_16 : dec cX6_changeOfTwo 16 3 19 (.getfield 33) := ⟨by decide +kernel, rfl⟩
theorem dX6_changeOfTwo_19 : dec cX6_changeOfTwo 19 3 22 (.invokevirtual 100) := ⟨by decide +kernel, rfl⟩
theorem dX6_changeOfTwo_22 : dec cX6_changeOfTwo 22 1 23 (.lstore_n 2) := ⟨by decide +kernel, rfl⟩
theorem dX6_changeOfTwo_23 : dec cX6_changeOfTwo 23 1 24 (.iconst (-1)) := ⟨by decide +kernel, rfl⟩
theorem dX6_changeOfTwo_24 : dec cX6_changeOfTwo 24 2 26 (.istore 4) := ⟨by decide +kernel, rfl⟩
theorem dX6_changeOfTwo_26 : dec cX6_changeOfTwo 26 1 27 (.iconst 0) := ⟨by decide +kernel, rfl⟩
theorem dX6_changeOfTwo_27 : dec cX6_changeOfTwo 27 2 29 (.istore 5) := ⟨by decide +kernel, rfl⟩
theorem dX6_changeOfTwo_29 : dec cX6_changeOfTwo 29 2 31 (.iload 5) := ⟨by decide +kernel, rfl⟩
theorem dX6_changeOfTwo_31 : dec cX6_changeOfTwo 31 1 32 (.iconst 1) := ⟨by decide +kernel, rfl⟩
theorem dX6_changeOfTwo_32 : dec cX6_changeOfTwo 32 1 33 (.iadd) := ⟨by decide +kernel, rfl⟩
theorem dX6_changeOfTwo_33 : dec cX6_changeOfTwo 33 1 34 (.aload_n 1) := ⟨by decide +kernel, rfl⟩
theorem dX6_changeOfTwo_34 : dec cX6_changeOfTwo 34 3 37 (.getfield 120) := ⟨by decide +kernel, rfl⟩
theorem dX6_changeOfTwo_37 : dec cX6_changeOfTwo 37 3 40 (.if_icmp .ge 114) := ⟨by decide +kernel, rfl⟩
theorem dX6_changeOfTwo_40 : dec cX6_changeOfTwo 40 2 42 (.iload 5) := ⟨by decide +kernel, rfl⟩
theorem dX6_changeOfTwo_42 : dec cX6_changeOfTwo 42 1 43 (.iconst 1) := ⟨by decide +kernel, rfl⟩
theorem dX6_changeOfTwo_43 : dec cX6_changeOfTwo 43 1 44 (.iadd) := ⟨by decide +kernel, rfl⟩
theorem dX6_changeOfTwo_44 : dec cX6_changeOfTwo 44 2 46 (.istore 6) := ⟨by decide +kernel, rfl⟩
theorem dX6_changeOfTwo_46 : dec cX6_changeOfTwo 46 2 48 (.iload 6) := ⟨by decide +kernel, rfl⟩
theorem dX6_changeOfTwo_48 : dec cX6_changeOfTwo 48 1 49 (.aload_n 1) := ⟨by decide +kernel, rfl⟩
theorem dX6_changeOfTwo_49 : dec cX6_changeOfTwo 49 3 52 (.getfield 120) := ⟨by decide +kernel, rfl⟩
theorem dX6_changeOfTwo_52 : dec cX6_changeOfTwo 52 3 55 (.if_icmp .ge 68) := ⟨by decide +kernel, rfl⟩
theorem dX6_changeOfTwo_55 : dec cX6_changeOfTwo 55 1 56 (.aload_n 1) := ⟨by decide +kernel, rfl⟩
theorem dX6_changeOfTwo_56 : dec cX6_changeOfTwo 56 2 58 (.iload 5) := ⟨by decide +kernel, rfl⟩
theorem dX6_changeOfTwo_58 : dec cX6_changeOfTwo 58 2 60 (.iload 6) := ⟨by decide +kernel, rfl⟩
theorem dX6_changeOfTwo_60 : dec cX6_changeOfTwo 60 3 63 (.invokevirtual 167) := ⟨by decide +kernel, rfl⟩
theorem dX6_changeOfTwo_63 : dec cX6_changeOfTwo 63 1 64 (.aload_n 0) := ⟨by decide +kernel, rfl⟩
theorem dX6_changeOfTwo_64 : dec cX6_changeOfTwo 64 3 67 (.getfield 33) := ⟨by decide +kernel, rfl⟩
theorem dX6_changeOfTwo_67 : dec cX6_changeOfTwo 67 1 68 (.aload_n 1) := ⟨by decide +kernel, rfl⟩
theorem dX6_changeOfTwo_68 : dec cX6_changeOfTwo 68 2 70 (.iload 5) := ⟨by decide +kernel, rfl⟩
theorem dX6_changeOfTwo_70 : dec cX6_changeOfTwo 70 3 73 (.invokevirtual 170) := ⟨by decide +kernel, rfl⟩
theorem dX6_changeOfTwo_73 : dec cX6_changeOfTwo 73 3 76 (.ifCond .eq 33) := ⟨by decide +kernel, rfl⟩
theorem dX6_changeOfTwo_76 : dec cX6_changeOfTwo 76 1 77 (.aload_n 0) := ⟨by decide +kernel, rfl⟩
theorem dX6_changeOfTwo_77 : dec cX6_changeOfTwo 77 3 80 (.getfield 33) := ⟨by decide +kernel, rfl⟩
theorem dX6_changeOfTwo_80 : dec cX6_changeOfTwo 80 3 83 (.invokevirtual 100) := ⟨by decide +kernel, rfl⟩
theorem dX6_changeOfTwo_83 : dec cX6_changeOfTwo 83 1 84 (.lload_n 2) := ⟨by decide +kernel, rfl⟩
theorem dX6_changeOfTwo_84 : dec cX6_changeOfTwo 84 1 85 (.lcmp) := ⟨by decide +kernel, rfl⟩
theorem dX6_changeOfTwo_85 : dec cX6_changeOfTwo 85 3 88 (.ifCond .le 21) := ⟨by decide +kernel, rfl⟩
theorem dX6_changeOfTwo_88 : dec cX6_changeOfTwo 88 1 89 (.aload_n 0) := ⟨by decide +kernel, rfl⟩
theorem dX6_changeOfTwo_89 : dec cX6_changeOfTwo 89 3 92 (.getfield 33) := ⟨by decide +kernel, rfl⟩
theorem dX6_changeOfTwo_92 : dec cX6_changeOfTwo 92 3 95 (.invokevirtual 100) := ⟨by decide +kernel, rfl⟩
theorem dX6_changeOfTwo_95 : dec cX6_changeOfTwo 95 1 96 (.lstore_n 2) := ⟨by decide +kernel, rfl⟩
theorem dX6_changeOfTwo_96 : dec cX6_changeOfTwo 96 2 98 (.bipush 100) := ⟨by decide +kernel, rfl⟩
theorem dX6_changeOfTwo_98 : dec cX6_changeOfTwo 98 2 100 (.iload 5) := ⟨by decide +kernel, rfl⟩
theorem dX6_changeOfTwo_100 : dec cX6_changeOfTwo 100 1 101 (.imul) := ⟨by decide +kernel, rfl⟩
theorem dX6_changeOfTwo_101 : dec cX6_changeOfTwo 101 2 103 (.iload 6) := ⟨by decide +kernel, rfl⟩
theorem dX6_changeOfTwo_103 : dec cX6_changeOfTwo 103 1 104 (.iadd) := ⟨by decide +kernel, rfl⟩
theorem dX6_changeOfTwo_104 : dec cX6_changeOfTwo 104 2 106 (.istore 4) := ⟨by decide +kernel, rfl⟩
theorem dX6_changeOfTwo_106 : dec cX6_changeOfTwo 106 1 107 (.aload_n 1) := ⟨by decide +kernel, rfl⟩
theorem dX6_changeOfTwo_107 : dec cX6_changeOfTwo 107 2 109 (.iload 5) := ⟨by decide +kernel, rfl⟩
theorem dX6_changeOfTwo_109 : dec cX6_changeOfTwo 109 2 111 (.iload 6) := ⟨by decide +kernel, rfl⟩
theorem dX6_changeOfTwo_111 : dec cX6_changeOfTwo 111 3 114 (.invokevirtual 167) := ⟨by decide +kernel, rfl⟩
theorem dX6_changeOfTwo_114 : dec cX6_changeOfTwo 114 3 117 (.iinc 6 1) := ⟨by decide +kernel, rfl⟩
theorem dX6_changeOfTwo_117 : dec cX6_changeOfTwo 117 3 120 (.goto (-71)) := ⟨by decide +kernel, rfl⟩
theorem dX6_changeOfTwo_120 : dec cX6_changeOfTwo 120 1 121 (.aload_n 0) := ⟨by decide +kernel, rfl⟩
theorem dX6_changeOfTwo_121 : dec cX6_changeOfTwo 121 3 124 (.getfield 33) := ⟨by decide +kernel, rfl⟩
theorem dX6_changeOfTwo_124 : dec cX6_changeOfTwo 124 2 126 (.iload 5) := ⟨by decide +kernel, rfl⟩
theorem dX6_changeOfTwo_126 : dec cX6_changeOfTwo 126 1 127 (.aload_n 1) := ⟨by decide +kernel, rfl⟩
theorem dX6_changeOfTwo_127 : dec cX6_changeOfTwo 127 3 130 (.getfield 114) := ⟨by decide +kernel, rfl⟩
theorem dX6_changeOfTwo_130 : dec cX6_changeOfTwo 130 2 132 (.iload 5) := ⟨by decide +kernel, rfl⟩
theorem dX6_changeOfTwo_132 : dec cX6_changeOfTwo 132 1 133 (.iaload) := ⟨by decide +kernel, rfl⟩
theorem dX6_changeOfTwo_133 : dec cX6_changeOfTwo 133 3 136 (.invokevirtual 90) := ⟨by decide +kernel, rfl⟩
theorem dX6_changeOfTwo_136 : dec cX6_changeOfTwo 136 1 137 (.aload_n 0) := ⟨by decide +kernel, rfl⟩
theorem dX6_changeOfTwo_137 : dec cX6_changeOfTwo 137 3 140 (.getfield 33) := ⟨by decide +kernel, rfl⟩
theorem dX6_changeOfTwo_140 : dec cX6_changeOfTwo 140 2 142 (.iload 5) := ⟨by decide +kernel, rfl⟩
theorem dX6_changeOfTwo_142 : dec cX6_changeOfTwo 142 3 145 (.invokevirtual 97) := ⟨by decide +kernel, rfl⟩
theorem dX6_changeOfTwo_145 : dec cX6_changeOfTwo 145 3 148 (.iinc 5 1) := ⟨by decide +kernel, rfl⟩
theorem dX6_changeOfTwo_148 : dec cX6_changeOfTwo 148 3 151 (.goto (-119)) := ⟨by decide +kernel, rfl⟩
theorem dX6_changeOfTwo_151 : dec cX6_changeOfTwo 151 2 153 (.iload 4) := ⟨by decide +kernel, rfl⟩
theorem dX6_changeOfTwo_153 : dec cX6_changeOfTwo 153 1 154 (.ireturn) := ⟨by decide +kernel, rfl⟩
set_option maxHeartbeats 4000000 in
set_option maxRecDepth 100000 in
theorem tX6_changeOfTwo_J106 {X : Cx} {Y : Yx} {M0 : Mem} (hC : OKX X Y RX6 cX6_changeOfTwo 7 (some .int) rmX6_changeOfTwo) (hF : Y.2.2.2.2 = true) (hL : Lay M0) (Q : Int → Mem → Prop) (C46 : Int → Int → Int → Mem → Prop)  (a0 : Nat) (a1 : Nat) (l2 : Int) (x4 : Int) (x5 : Int) (x6 : Int) (qa0 : 0 < a0 ∧ M0 0 a0 = kO 6) (qa1 : 0 < a1 ∧ M0 0 a1 = kO 5) (hC46 : ∀ (l2 : Int) (x4 : Int) (x6 : Int) (M : Mem), C46 l2 x4 x6 M → WW X Y 7 rmX6_changeOfTwo (QI Q) M0 0 0 46 [(0, vR Y.1 a0), (1, vR Y.1 a1), (2, vL l2), (4, vI x4), (5, vI x5), (6, vI x6)] [] M) (M : Mem) (h : wX6_changeOfTwo_J106 Q C46 a0 a1 l2 x4 x5 x6 M) : WW X Y 7 rmX6_changeOfTwo (QI Q) M0 0 0 106 [(0, vR Y.1 a0), (1, vR Y.1 a1), (2, vL l2), (4, vI x4), (5, vI x5), (6, vI x6)] [] M := by
  unfold wX6_changeOfTwo_J106 at h
  refine r_aload_n hC 1 dX6_changeOfTwo_106 rfl rfl ?_
  refine r_iload hC 4 dX6_changeOfTwo_107 rfl ?_
  refine r_iload hC 5 dX6_changeOfTwo_109 rfl ?_
  refine r_callV (As := [vI x5, vI x6]) (st := []) hC cw_X6_167 rfl qa1.1 qa1.2 rfl rfl (Nat.le_of_ble_eq_true rfl) ⟨Nat.le_of_ble_eq_true rfl, Nat.le_of_ble_eq_true rfl⟩ ⟨Nat.le_of_ble_eq_true rfl, Nat.le_of_ble_eq_true rfl⟩ dX6_changeOfTwo_111 (fun hk => mX5_swap Y hF _ _ _ _ _ _ (kqO hk qa1) h) (fun v M_15 h => ?_)
  obtain ⟨rfl, h⟩ := h
  refine let_elim h (fun x6_16 e_17 h => ?_)
  refine r_iinc (lv' := [(6, vI x6_16), (0, vR Y.1 a0), (1, vR Y.1 a1), (2, vL l2), (4, vI x4), (5, vI x5)]) hC 5 dX6_changeOfTwo_114 rfl (by decide) e_17 rfl ?_
  refine r_goto hC 46 dX6_changeOfTwo_117 (by decide) ?_
  refine r_sub [1, 2, 3, 4, 5, 0] rfl ?_
  exact hC46 _ _ _ _ h
set_option maxHeartbeats 4000000 in
set_option maxRecDepth 100000 in
theorem tX6_changeOfTwo_L46 {X : Cx} {Y : Yx} {M0 : Mem} (hC : OKX X Y RX6 cX6_changeOfTwo 7 (some .int) rmX6_changeOfTwo) (hF : Y.2.2.2.2 = true) (hL : Lay M0) (Q : Int → Mem → Prop) (E120 : Int → Int → Mem → Prop) (a0 : Nat) (a1 : Nat) (x5 : Int) (qa0 : 0 < a0 ∧ M0 0 a0 = kO 6) (qa1 : 0 < a1 ∧ M0 0 a1 = kO 5) (hE120 : ∀ (l2 : Int) (x4 : Int) (M : Mem), E120 l2 x4 M → WW X Y 7 rmX6_changeOfTwo (QI Q) M0 0 0 120 [(0, vR Y.1 a0), (1, vR Y.1 a1), (2, vL l2), (4, vI x4), (5, vI x5)] [] M) : ∀ (N : Nat) (l2 : Int) (x4 : Int) (x6 : Int) (M : Mem) (_ : wX6_changeOfTwo_L46 Q E120 a0 a1 x5 N l2 x4 x6 M), WW X Y 7 rmX6_changeOfTwo (QI Q) M0 0 0 46 [(0, vR Y.1 a0), (1, vR Y.1 a1), (2, vL l2), (4, vI x4), (5, vI x5), (6, vI x6)] [] M := by
  intro N
  induction N with
  | zero =>
    intro l2 x4 x6 M h
    exact h.elim
  | succ N ih =>
    intro l2 x4 x6 M h
    unfold wX6_changeOfTwo_L46 at h
    refine r_iload hC 5 dX6_changeOfTwo_46 rfl ?_
    refine r_aload_n hC 1 dX6_changeOfTwo_48 rfl rfl ?_
    refine r_getI hC fg_X6_120 rfl qa1.1 qa1.2 dX6_changeOfTwo_49 ?_
    refine r_icmp_ge hC 120 rfl rfl dX6_changeOfTwo_52 (by decide) (fun cq => ?_) (fun cq => ?_)
    · replace h := h.1 cq
      refine r_sub [0, 1, 2, 3, 4] rfl ?_
      exact hE120 _ _ _ h
    · replace h := h.2 cq
      refine r_aload_n hC 1 dX6_changeOfTwo_55 rfl rfl ?_
      refine r_iload hC 4 dX6_changeOfTwo_56 rfl ?_
      refine r_iload hC 5 dX6_changeOfTwo_58 rfl ?_
      refine r_callV (As := [vI x5, vI x6]) (st := []) hC cw_X6_167 rfl qa1.1 qa1.2 rfl rfl (Nat.le_of_ble_eq_true rfl) ⟨Nat.le_of_ble_eq_true rfl, Nat.le_of_ble_eq_true rfl⟩ ⟨Nat.le_of_ble_eq_true rfl, Nat.le_of_ble_eq_true rfl⟩ dX6_changeOfTwo_60 (fun hk => mX5_swap Y hF _ _ _ _ _ _ (kqO hk qa1) h) (fun v M_11 h => ?_)
      obtain ⟨rfl, h⟩ := h
      refine r_aload_n hC 0 dX6_changeOfTwo_63 rfl rfl ?_
      have q_12 : 0 < (a0 - 12) ∧ M0 0 ((a0 - 12)) = kO 10 := lay_fs (a := a0) hL qa0 fm_6_1
      refine r_getRs (a' := (a0 - 12)) hC fg_X6_33 rfl hF fm_6_1 qa0.1 qa0.2 rfl dX6_changeOfTwo_64 ?_
      refine r_aload_n hC 1 dX6_changeOfTwo_67 rfl rfl ?_
      refine r_iload hC 4 dX6_changeOfTwo_68 rfl ?_
      refine r_callV (As := [vR Y.1 a1, vI x5]) (st := []) hC cw_X6_170 rfl q_12.1 q_12.2 rfl rfl (Nat.le_of_ble_eq_true rfl) ⟨Nat.le_of_ble_eq_true rfl, Nat.le_of_ble_eq_true rfl⟩ ⟨Nat.le_of_ble_eq_true rfl, Nat.le_of_ble_eq_true rfl⟩ dX6_changeOfTwo_70 (fun hk => mX10_isGoodFrom Y hF _ _ _ _ _ _ (kqO hk q_12) (kqO hk qa1) h) (fun v M_13 h => ?_)
      obtain ⟨r_14, rfl, h⟩ := h
      refine r_if_eq hC 106 rfl dX6_changeOfTwo_73 (by decide) (fun cq => ?_) (fun cq => ?_)
      · replace h := h.1 cq
        refine r_sub [0, 1, 2, 3, 4, 5] rfl ?_
        exact tX6_changeOfTwo_J106 hC hF hL Q _  _ _ _ _ _ _ qa0 qa1 ih _ h
      · replace h := h.2 cq
        refine r_aload_n hC 0 dX6_changeOfTwo_76 rfl rfl ?_
        have q_18 : 0 < (a0 - 12) ∧ M0 0 ((a0 - 12)) = kO 10 := lay_fs (a := a0) hL qa0 fm_6_1
        refine r_getRs (a' := (a0 - 12)) hC fg_X6_33 rfl hF fm_6_1 qa0.1 qa0.2 rfl dX6_changeOfTwo_77 ?_
        refine r_callV (As := []) (st := []) hC cw_X6_100 rfl q_18.1 q_18.2 rfl rfl (Nat.le_of_ble_eq_true rfl) ⟨Nat.le_of_ble_eq_true rfl, Nat.le_of_ble_eq_true rfl⟩ ⟨Nat.le_of_ble_eq_true rfl, Nat.le_of_ble_eq_true rfl⟩ dX6_changeOfTwo_80 (fun hk => mX10_total Y hF _ _ _ _ (kqO hk q_18) h) (fun v M_19 h => ?_)
        obtain ⟨r_20, rfl, h⟩ := h
        refine r_lload_n hC 2 dX6_changeOfTwo_83 rfl rfl ?_
        refine r_lcmp hC dX6_changeOfTwo_84 ?_
        refine r_if_le hC 106 rfl dX6_changeOfTwo_85 (by decide) (fun cq => ?_) (fun cq => ?_)
        · replace h := h.1 cq
          refine r_sub [0, 1, 2, 3, 4, 5] rfl ?_
          exact tX6_changeOfTwo_J106 hC hF hL Q _  _ _ _ _ _ _ qa0 qa1 ih _ h
        · replace h := h.2 cq
          refine r_aload_n hC 0 dX6_changeOfTwo_88 rfl rfl ?_
          have q_21 : 0 < (a0 - 12) ∧ M0 0 ((a0 - 12)) = kO 10 := lay_fs (a := a0) hL qa0 fm_6_1
          refine r_getRs (a' := (a0 - 12)) hC fg_X6_33 rfl hF fm_6_1 qa0.1 qa0.2 rfl dX6_changeOfTwo_89 ?_
          refine r_callV (As := []) (st := []) hC cw_X6_100 rfl q_21.1 q_21.2 rfl rfl (Nat.le_of_ble_eq_true rfl) ⟨Nat.le_of_ble_eq_true rfl, Nat.le_of_ble_eq_true rfl⟩ ⟨Nat.le_of_ble_eq_true rfl, Nat.le_of_ble_eq_true rfl⟩ dX6_changeOfTwo_92 (fun hk => mX10_total Y hF _ _ _ _ (kqO hk q_21) h) (fun v M_22 h => ?_)
          obtain ⟨r_23, rfl, h⟩ := h
          refine r_lstore_n (lv' := [(2, vL r_23), (0, vR Y.1 a0), (1, vR Y.1 a1), (4, vI x4), (5, vI x5), (6, vI x6)]) hC dX6_changeOfTwo_95 rfl (by decide) rfl ?_
          refine r_bipush hC (by decide +kernel) dX6_changeOfTwo_96 ?_
          refine r_iload hC 4 dX6_changeOfTwo_98 rfl ?_
          refine r_imul hC dX6_changeOfTwo_100 ?_
          refine r_iload hC 5 dX6_changeOfTwo_101 rfl ?_
          refine r_iadd hC dX6_changeOfTwo_103 ?_
          refine r_nameI h (fun x4_24 h => ?_)
          refine r_istore (lv' := [(4, vI x4_24), (2, vL r_23), (0, vR Y.1 a0), (1, vR Y.1 a1), (5, vI x5), (6, vI x6)]) hC dX6_changeOfTwo_104 (by decide) rfl ?_
          refine r_sub [2, 3, 1, 0, 4, 5] rfl ?_
          exact tX6_changeOfTwo_J106 hC hF hL Q _  _ _ _ _ _ _ qa0 qa1 ih _ h
set_option maxHeartbeats 4000000 in
set_option maxRecDepth 100000 in
theorem tX6_changeOfTwo_L29 {X : Cx} {Y : Yx} {M0 : Mem} (hC : OKX X Y RX6 cX6_changeOfTwo 7 (some .int) rmX6_changeOfTwo) (hF : Y.2.2.2.2 = true) (hL : Lay M0) (Q : Int → Mem → Prop)  (a0 : Nat) (a1 : Nat) (qa0 : 0 < a0 ∧ M0 0 a0 = kO 6) (qa1 : 0 < a1 ∧ M0 0 a1 = kO 5)  : ∀ (N : Nat) (l2 : Int) (x4 : Int) (x5 : Int) (M : Mem) (_ : wX6_changeOfTwo_L29 Q  a0 a1 N l2 x4 x5 M), WW X Y 7 rmX6_changeOfTwo (QI Q) M0 0 0 29 [(0, vR Y.1 a0), (1, vR Y.1 a1), (2, vL l2), (4, vI x4), (5, vI x5)] [] M := by
  intro N
  induction N with
  | zero =>
    intro l2 x4 x5 M h
    exact h.elim
  | succ N ih =>
    intro l2 x4 x5 M h
    unfold wX6_changeOfTwo_L29 at h
    refine r_iload hC 4 dX6_changeOfTwo_29 rfl ?_
    refine r_iconst hC dX6_changeOfTwo_31 ?_
    refine r_iadd hC dX6_changeOfTwo_32 ?_
    refine r_aload_n hC 1 dX6_changeOfTwo_33 rfl rfl ?_
    refine r_getI hC fg_X6_120 rfl qa1.1 qa1.2 dX6_changeOfTwo_34 ?_
    refine r_icmp_ge hC 151 rfl rfl dX6_changeOfTwo_37 (by decide) (fun cq => ?_) (fun cq => ?_)
    · replace h := h.1 cq
      refine r_iload hC 3 dX6_changeOfTwo_151 rfl ?_
      exact r_iret hC (Nat.zero_le _) (Nat.zero_le _) dX6_changeOfTwo_153 ⟨_, rfl, h⟩
    · replace h := h.2 cq
      refine r_iload hC 4 dX6_changeOfTwo_40 rfl ?_
      refine r_iconst hC dX6_changeOfTwo_42 ?_
      refine r_iadd hC dX6_changeOfTwo_43 ?_
      refine r_nameI h (fun x6_10 h => ?_)
      refine r_istore (lv' := [(6, vI x6_10), (0, vR Y.1 a0), (1, vR Y.1 a1), (2, vL l2), (4, vI x4), (5, vI x5)]) hC dX6_changeOfTwo_44 (by decide) rfl ?_
      refine r_sub [1, 2, 3, 4, 5, 0] rfl ?_
      obtain ⟨N_36, h⟩ := h
      refine tX6_changeOfTwo_L46 hC hF hL Q _ _ _ _ qa0 qa1 ?_ N_36 _ _ _ _ h
      · intro l2_25 x4_26 M_27 h
        refine r_aload_n hC 0 dX6_changeOfTwo_120 rfl rfl ?_
        have q_28 : 0 < (a0 - 12) ∧ M0 0 ((a0 - 12)) = kO 10 := lay_fs (a := a0) hL qa0 fm_6_1
        refine r_getRs (a' := (a0 - 12)) hC fg_X6_33 rfl hF fm_6_1 qa0.1 qa0.2 rfl dX6_changeOfTwo_121 ?_
        refine r_iload hC 4 dX6_changeOfTwo_124 rfl ?_
        refine r_aload_n hC 1 dX6_changeOfTwo_126 rfl rfl ?_
        have q_29 : 0 < a1 + 1 ∧ M0 0 (a1 + 1) = kA 0 12 := lay_f0 (a := a1) hL qa1 fm_5_0
        refine r_getR0 (a' := a1 + 1) hC fg_X6_114 rfl hF fm_5_0 qa1.1 qa1.2 rfl dX6_changeOfTwo_127 ?_
        refine r_iload hC 4 dX6_changeOfTwo_130 rfl ?_
        obtain ⟨i_30, h⟩ := h
        refine r_iald hC i_30 q_29.1 q_29.2 (by decide) dX6_changeOfTwo_132 ?_
        refine r_callV (As := [vI x5, vI (rd M_27 (a1 + 1) x5)]) (st := []) hC cw_X6_90 rfl q_28.1 q_28.2 rfl rfl (Nat.le_of_ble_eq_true rfl) ⟨Nat.le_of_ble_eq_true rfl, Nat.le_of_ble_eq_true rfl⟩ ⟨Nat.le_of_ble_eq_true rfl, Nat.le_of_ble_eq_true rfl⟩ dX6_changeOfTwo_133 (fun hk => mX10_step Y hF _ _ _ _ _ _ (kqO hk q_28) h) (fun v M_31 h => ?_)
        obtain ⟨rfl, h⟩ := h
        refine r_aload_n hC 0 dX6_changeOfTwo_136 rfl rfl ?_
        have q_32 : 0 < (a0 - 12) ∧ M0 0 ((a0 - 12)) = kO 10 := lay_fs (a := a0) hL qa0 fm_6_1
        refine r_getRs (a' := (a0 - 12)) hC fg_X6_33 rfl hF fm_6_1 qa0.1 qa0.2 rfl dX6_changeOfTwo_137 ?_
        refine r_iload hC 4 dX6_changeOfTwo_140 rfl ?_
        refine r_callV (As := [vI x5]) (st := []) hC cw_X6_97 rfl q_32.1 q_32.2 rfl rfl (Nat.le_of_ble_eq_true rfl) ⟨Nat.le_of_ble_eq_true rfl, Nat.le_of_ble_eq_true rfl⟩ ⟨Nat.le_of_ble_eq_true rfl, Nat.le_of_ble_eq_true rfl⟩ dX6_changeOfTwo_142 (fun hk => mX10_weigh Y hF _ _ _ _ _ (kqO hk q_32) h) (fun v M_33 h => ?_)
        obtain ⟨rfl, h⟩ := h
        refine let_elim h (fun x5_34 e_35 h => ?_)
        refine r_iinc (lv' := [(5, vI x5_34), (0, vR Y.1 a0), (1, vR Y.1 a1), (2, vL l2_25), (4, vI x4_26)]) hC 4 dX6_changeOfTwo_145 rfl (by decide) e_35 rfl ?_
        refine r_goto hC 29 dX6_changeOfTwo_148 (by decide) ?_
        refine r_sub [1, 2, 3, 4, 0] rfl ?_
        exact ih _ _ _ _ h
set_option maxHeartbeats 4000000 in
set_option maxRecDepth 100000 in
theorem mX6_changeOfTwo (Y : Yx) (hF : Y.2.2.2.2 = true) (l : Launch) (a0 : Nat) (a1 : Nat) (M0 : Mem) (Q : Int → Mem → Prop) (qa0 : 0 < a0 ∧ M0 0 a0 = kO 6) (qa1 : 0 < a1 ∧ M0 0 a1 = kO 5) (h : wX6_changeOfTwo a0 a1 M0 Q) : CT Y l yX6_changeOfTwo cX6_changeOfTwo 7 (some .int) rmX6_changeOfTwo [vR Y.1 a0, vR Y.1 a1] M0 (QI Q) := by
  unfold wX6_changeOfTwo at h
  refine ct_intro (by decide) (Nat.le_of_ble_eq_true rfl) ?_
  intro X hXl hC hL0
  have hL := hL0 hF
  change OKX X Y RX6 cX6_changeOfTwo 7 (some .int) rmX6_changeOfTwo at hC
  change WW X Y 7 rmX6_changeOfTwo (QI Q) M0 0 0 0 [(0, vR Y.1 a0), (1, vR Y.1 a1)] [] M0
  refine r_aload_n hC 0 dX6_changeOfTwo_0 rfl rfl ?_
  have q_1 : 0 < (a0 - 12) ∧ M0 0 ((a0 - 12)) = kO 10 := lay_fs (a := a0) hL qa0 fm_6_1
  refine r_getRs (a' := (a0 - 12)) hC fg_X6_33 rfl hF fm_6_1 qa0.1 qa0.2 rfl dX6_changeOfTwo_1 ?_
  refine r_aload_n hC 1 dX6_changeOfTwo_4 rfl rfl ?_
  refine r_aload_n hC 0 dX6_changeOfTwo_5 rfl rfl ?_
  have q_2 : 0 < (a0 - 101) ∧ M0 0 ((a0 - 101)) = kO 0 := lay_fs (a := a0) hL qa0 fm_6_0
  refine r_getRs (a' := (a0 - 101)) hC fg_X6_29 rfl hF fm_6_0 qa0.1 qa0.2 rfl dX6_changeOfTwo_6 ?_
  refine r_callV (As := []) (st := [vR Y.1 a1, vR Y.1 ((a0 - 12))]) hC cw_X6_70 rfl q_2.1 q_2.2 rfl rfl (Nat.le_of_ble_eq_true rfl) ⟨Nat.le_of_ble_eq_true rfl, Nat.le_of_ble_eq_true rfl⟩ ⟨Nat.le_of_ble_eq_true rfl, Nat.le_of_ble_eq_true rfl⟩ dX6_changeOfTwo_9 (fun hk => mX0_likingsOn Y hF _ _ _ _ (kqO hk q_2) h) (fun v M_3 h => ?_)
  obtain ⟨r_4, rfl, h⟩ := h
  refine r_callV (As := [vR Y.1 a1, vI r_4]) (st := []) hC cw_X6_163 rfl q_1.1 q_1.2 rfl rfl (Nat.le_of_ble_eq_true rfl) ⟨Nat.le_of_ble_eq_true rfl, Nat.le_of_ble_eq_true rfl⟩ ⟨Nat.le_of_ble_eq_true rfl, Nat.le_of_ble_eq_true rfl⟩ dX6_changeOfTwo_12 (fun hk => mX10_along Y hF _ _ _ _ _ _ (kqO hk q_1) (kqO hk qa1) h) (fun v M_5 h => ?_)
  obtain ⟨rfl, h⟩ := h
  refine r_aload_n hC 0 dX6_changeOfTwo_15 rfl rfl ?_
  have q_6 : 0 < (a0 - 12) ∧ M0 0 ((a0 - 12)) = kO 10 := lay_fs (a := a0) hL qa0 fm_6_1
  refine r_getRs (a' := (a0 - 12)) hC fg_X6_33 rfl hF fm_6_1 qa0.1 qa0.2 rfl dX6_changeOfTwo_16 ?_
  refine r_callV (As := []) (st := []) hC cw_X6_100 rfl q_6.1 q_6.2 rfl rfl (Nat.le_of_ble_eq_true rfl) ⟨Nat.le_of_ble_eq_true rfl, Nat.le_of_ble_eq_true rfl⟩ ⟨Nat.le_of_ble_eq_true rfl, Nat.le_of_ble_eq_true rfl⟩ dX6_changeOfTwo_19 (fun hk => mX10_total Y hF _ _ _ _ (kqO hk q_6) h) (fun v M_7 h => ?_)
  obtain ⟨r_8, rfl, h⟩ := h
  refine r_lstore_n (lv' := [(2, vL r_8), (0, vR Y.1 a0), (1, vR Y.1 a1)]) hC dX6_changeOfTwo_22 rfl (by decide) rfl ?_
  refine r_iconst hC dX6_changeOfTwo_23 ?_
  refine r_nameI h (fun x4_9 h => ?_)
  refine r_istore (lv' := [(4, vI x4_9), (2, vL r_8), (0, vR Y.1 a0), (1, vR Y.1 a1)]) hC dX6_changeOfTwo_24 (by decide) rfl ?_
  refine r_iconst hC dX6_changeOfTwo_26 ?_
  refine r_istore (lv' := [(5, vI 0), (4, vI x4_9), (2, vL r_8), (0, vR Y.1 a0), (1, vR Y.1 a1)]) hC dX6_changeOfTwo_27 (by decide) rfl ?_
  refine r_sub [3, 4, 2, 1, 0] rfl ?_
  obtain ⟨N_37, h⟩ := h
  refine tX6_changeOfTwo_L29 hC hF hL Q  _ _ qa0 qa1  N_37 _ _ _ _ h
theorem dX6_takeMoved_0 : dec cX6_takeMoved 0 1 1 (.aload_n 0) := ⟨by decide +kernel, rfl⟩
theorem dX6_takeMoved_1 : dec cX6_takeMoved 1 3 4 (.getfield 33) := ⟨by decide +kernel, rfl⟩
theorem dX6_takeMoved_4 : dec cX6_takeMoved 4 3 7 (.invokevirtual 100) := ⟨by decide +kernel, rfl⟩
theorem dX6_takeMoved_7 : dec cX6_takeMoved 7 1 8 (.lstore_n 3) := ⟨by decide +kernel, rfl⟩
theorem dX6_takeMoved_8 : dec cX6_takeMoved 8 1 9 (.aload_n 0) := ⟨by decide +kernel, rfl⟩
theorem dX6_takeMoved_9 : dec cX6_takeMoved 9 3 12 (.getfield 44) := ⟨by decide +kernel, rfl⟩
theorem dX6_takeMoved_12 : dec cX6_takeMoved 12 3 15 (.ifCond .eq 28) := ⟨by decide +kernel, rfl⟩
theorem dX6_takeMoved_15 : dec cX6_takeMoved 15 1 16 (.iload_n 2) := ⟨by decide +kernel, rfl⟩
theorem dX6_takeMoved_16 : dec cX6_takeMoved 16 1 17 (.aload_n 0) := ⟨by decide +kernel, rfl⟩
theorem dX6_takeMoved_17 : dec cX6_takeMoved 17 3 20 (.getfield 184) := ⟨by decide +kernel, rfl⟩
theorem dX6_takeMoved_20 : dec cX6_takeMoved 20 3 23 (.if_icmp .lt 20) := ⟨by decide +kernel, rfl⟩
theorem dX6_takeMoved_23 : dec cX6_takeMoved 23 1 24 (.iload_n 2) := ⟨by decide +kernel, rfl⟩
theorem dX6_takeMoved_24 : dec cX6_takeMoved 24 1 25 (.aload_n 0) := ⟨by decide +kernel, rfl⟩
theorem dX6_takeMoved_25 : dec cX6_takeMoved 25 3 28 (.getfield 184) := ⟨by decide +kernel, rfl⟩
theorem dX6_takeMoved_28 : dec cX6_takeMoved 28 3 31 (.if_icmp .ne 32) := ⟨by decide +kernel, rfl⟩
theorem dX6_takeMoved_31 : dec cX6_takeMoved 31 1 32 (.lload_n 3) := ⟨by decide +kernel, rfl⟩
theorem dX6_takeMoved_32 : dec cX6_takeMoved 32 1 33 (.aload_n 0) := ⟨by decide +kernel, rfl⟩
theorem dX6_takeMoved_33 : dec cX6_takeMoved 33 3 36 (.getfield 104) := ⟨by decide +kernel, rfl⟩
theorem dX6_takeMoved_36 : dec cX6_takeMoved 36 1 37 (.lcmp) := ⟨by decide +kernel, rfl⟩
theorem dX6_takeMoved_37 : dec cX6_takeMoved 37 3 40 (.ifCond .le 23) := ⟨by decide +kernel, rfl⟩
theorem dX6_takeMoved_40 : dec cX6_takeMoved 40 1 41 (.aload_n 0) := ⟨by decide +kernel, rfl⟩
theorem dX6_takeMoved_41 : dec cX6_takeMoved 41 1 42 (.iconst 1) := ⟨by decide +kernel, rfl⟩
theorem dX6_takeMoved_42 : dec cX6_takeMoved 42 3 45 (.putfield 44) := ⟨by decide +kernel, rfl⟩
theorem dX6_takeMoved_45 : dec cX6_takeMoved 45 1 46 (.aload_n 0) := ⟨by decide +kernel, rfl⟩
theorem dX6_takeMoved_46 : dec cX6_takeMoved 46 1 47 (.iload_n 2) := ⟨by decide +kernel, rfl⟩
theorem dX6_takeMoved_47 : dec cX6_takeMoved 47 3 50 (.putfield 184) := ⟨by decide +kernel, rfl⟩
theorem dX6_takeMoved_50 : dec cX6_takeMoved 50 1 51 (.aload_n 0) := ⟨by decide +kernel, rfl⟩
theorem dX6_takeMoved_51 : dec cX6_takeMoved 51 1 52 (.lload_n 3) := ⟨by decide +kernel, rfl⟩
theorem dX6_takeMoved_52 : dec cX6_takeMoved 52 3 55 (.putfield 104) := ⟨by decide +kernel, rfl⟩
theorem dX6_takeMoved_55 : dec cX6_takeMoved 55 1 56 (.aload_n 0) := ⟨by decide +kernel, rfl⟩
theorem dX6_takeMoved_56 : dec cX6_takeMoved 56 1 57 (.iload_n 1) := ⟨by decide +kernel, rfl⟩
theorem dX6_takeMoved_57 : dec cX6_takeMoved 57 3 60 (.invokevirtual 108) := ⟨by decide +kernel, rfl⟩
theorem dX6_takeMoved_60 : dec cX6_takeMoved 60 1 61 (.return_) := ⟨by decide +kernel, rfl⟩
set_option maxHeartbeats 4000000 in
set_option maxRecDepth 100000 in
theorem tX6_takeMoved_J40 {X : Cx} {Y : Yx} {M0 : Mem} (hC : OKX X Y RX6 cX6_takeMoved 5 none rmX6_takeMoved) (hF : Y.2.2.2.2 = true) (hL : Lay M0) (Q : Mem → Prop)   (a0 : Nat) (x1 : Int) (x2 : Int) (l3 : Int) (qa0 : 0 < a0 ∧ M0 0 a0 = kO 6)  (M : Mem) (h : wX6_takeMoved_J40 Q  a0 x1 x2 l3 M) : WW X Y 5 rmX6_takeMoved (QV Q) M0 0 0 40 [(0, vR Y.1 a0), (1, vI x1), (2, vI x2), (3, vL l3)] [] M := by
  unfold wX6_takeMoved_J40 at h
  refine r_aload_n hC 0 dX6_takeMoved_40 rfl rfl ?_
  refine r_iconst hC dX6_takeMoved_41 ?_
  refine r_putI hC fp_X6_44 rfl qa0.1 qa0.2 dX6_takeMoved_42 ?_
  refine r_nameM h (fun M_4 h => ?_)
  refine r_aload_n hC 0 dX6_takeMoved_45 rfl rfl ?_
  refine r_iload_n hC 2 dX6_takeMoved_46 rfl rfl ?_
  refine r_putI hC fp_X6_184 rfl qa0.1 qa0.2 dX6_takeMoved_47 ?_
  refine r_nameM h (fun M_5 h => ?_)
  refine r_aload_n hC 0 dX6_takeMoved_50 rfl rfl ?_
  refine r_lload_n hC 3 dX6_takeMoved_51 rfl rfl ?_
  refine r_putL hC fp_X6_104 rfl qa0.1 qa0.2 dX6_takeMoved_52 ?_
  refine r_nameM h (fun M_6 h => ?_)
  refine r_aload_n hC 0 dX6_takeMoved_55 rfl rfl ?_
  refine r_iload_n hC 1 dX6_takeMoved_56 rfl rfl ?_
  refine r_callV (As := [vI x1]) (st := []) hC cw_X6_108 rfl qa0.1 qa0.2 rfl rfl (Nat.le_of_ble_eq_true rfl) ⟨Nat.le_of_ble_eq_true rfl, Nat.le_of_ble_eq_true rfl⟩ ⟨Nat.le_of_ble_eq_true rfl, Nat.le_of_ble_eq_true rfl⟩ dX6_takeMoved_57 (fun hk => mX6_keepFound Y hF _ _ _ _ _ (kqO hk qa0) h) (fun v M_7 h => ?_)
  obtain ⟨rfl, h⟩ := h
  exact r_vret hC (Nat.zero_le _) (Nat.zero_le _) dX6_takeMoved_60 ⟨rfl, h⟩
set_option maxHeartbeats 4000000 in
set_option maxRecDepth 100000 in
theorem mX6_takeMoved (Y : Yx) (hF : Y.2.2.2.2 = true) (l : Launch) (a0 : Nat) (x1 : Int) (x2 : Int) (M0 : Mem) (Q : Mem → Prop) (qa0 : 0 < a0 ∧ M0 0 a0 = kO 6) (h : wX6_takeMoved a0 x1 x2 M0 Q) : CT Y l yX6_takeMoved cX6_takeMoved 5 none rmX6_takeMoved [vR Y.1 a0, vI x1, vI x2] M0 (QV Q) := by
  unfold wX6_takeMoved at h
  refine ct_intro (by decide) (Nat.le_of_ble_eq_true rfl) ?_
  intro X hXl hC hL0
  have hL := hL0 hF
  change OKX X Y RX6 cX6_takeMoved 5 none rmX6_takeMoved at hC
  change WW X Y 5 rmX6_takeMoved (QV Q) M0 0 0 0 [(0, vR Y.1 a0), (1, vI x1), (2, vI x2)] [] M0
  refine r_aload_n hC 0 dX6_takeMoved_0 rfl rfl ?_
  have q_1 : 0 < (a0 - 12) ∧ M0 0 ((a0 - 12)) = kO 10 := lay_fs (a := a0) hL qa0 fm_6_1
  refine r_getRs (a' := (a0 - 12)) hC fg_X6_33 rfl hF fm_6_1 qa0.1 qa0.2 rfl dX6_takeMoved_1 ?_
  refine r_callV (As := []) (st := []) hC cw_X6_100 rfl q_1.1 q_1.2 rfl rfl (Nat.le_of_ble_eq_true rfl) ⟨Nat.le_of_ble_eq_true rfl, Nat.le_of_ble_eq_true rfl⟩ ⟨Nat.le_of_ble_eq_true rfl, Nat.le_of_ble_eq_true rfl⟩ dX6_takeMoved_4 (fun hk => mX10_total Y hF _ _ _ _ (kqO hk q_1) h) (fun v M_2 h => ?_)
  obtain ⟨r_3, rfl, h⟩ := h
  refine r_lstore_n (lv' := [(3, vL r_3), (0, vR Y.1 a0), (1, vI x1), (2, vI x2)]) hC dX6_takeMoved_7 rfl (by decide) rfl ?_
  refine r_aload_n hC 1 dX6_takeMoved_8 rfl rfl ?_
  refine r_getI hC fg_X6_44 rfl qa0.1 qa0.2 dX6_takeMoved_9 ?_
  refine r_if_eq hC 40 rfl dX6_takeMoved_12 (by decide) (fun cq => ?_) (fun cq => ?_)
  · replace h := h.1 cq
    refine r_sub [1, 2, 3, 0] rfl ?_
    exact tX6_takeMoved_J40 hC hF hL Q   _ _ _ _ qa0  _ h
  · replace h := h.2 cq
    refine r_iload_n hC 3 dX6_takeMoved_15 rfl rfl ?_
    refine r_aload_n hC 1 dX6_takeMoved_16 rfl rfl ?_
    refine r_getI hC fg_X6_184 rfl qa0.1 qa0.2 dX6_takeMoved_17 ?_
    refine r_icmp_lt hC 40 rfl rfl dX6_takeMoved_20 (by decide) (fun cq => ?_) (fun cq => ?_)
    · replace h := h.1 cq
      refine r_sub [1, 2, 3, 0] rfl ?_
      exact tX6_takeMoved_J40 hC hF hL Q   _ _ _ _ qa0  _ h
    · replace h := h.2 cq
      refine r_iload_n hC 3 dX6_takeMoved_23 rfl rfl ?_
      refine r_aload_n hC 1 dX6_takeMoved_24 rfl rfl ?_
      refine r_getI hC fg_X6_184 rfl qa0.1 qa0.2 dX6_takeMoved_25 ?_
      refine r_icmp_ne hC 60 rfl rfl dX6_takeMoved_28 (by decide) (fun cq => ?_) (fun cq => ?_)
      · replace h := h.2 cq
        exact r_vret hC (Nat.zero_le _) (Nat.zero_le _) dX6_takeMoved_60 ⟨rfl, h⟩
      · replace h := h.1 cq
        refine r_lload_n hC 0 dX6_takeMoved_31 rfl rfl ?_
        refine r_aload_n hC 1 dX6_takeMoved_32 rfl rfl ?_
        refine r_getL hC fg_X6_104 rfl qa0.1 qa0.2 dX6_takeMoved_33 ?_
        refine r_lcmp hC dX6_takeMoved_36 ?_
        refine r_if_le hC 60 rfl dX6_takeMoved_37 (by decide) (fun cq => ?_) (fun cq => ?_)
        · replace h := h.1 cq
          exact r_vret hC (Nat.zero_le _) (Nat.zero_le _) dX6_takeMoved_60 ⟨rfl, h⟩
        · replace h := h.2 cq
          refine r_sub [1, 2, 3, 0] rfl ?_
          exact tX6_takeMoved_J40 hC hF hL Q   _ _ _ _ qa0  _ h
theorem dX6_passedBy_0 : dec cX6_passedBy 0 1 1 (.iconst 0) := ⟨by decide +kernel, rfl⟩
theorem dX6_passedBy_1 : dec cX6_passedBy 1 1 2 (.istore_n 3) := ⟨by decide +kernel, rfl⟩
theorem dX6_passedBy_2 : dec cX6_passedBy 2 1 3 (.iconst 0) := ⟨by decide +kernel, rfl⟩
theorem dX6_passedBy_3 : dec cX6_passedBy 3 2 5 (.istore 4) := ⟨by decide +kernel, rfl⟩
theorem dX6_passedBy_5 : dec cX6_passedBy 5 2 7 (.iload 4) := ⟨by decide +kernel, rfl⟩
theorem dX6_passedBy_7 : dec cX6_passedBy 7 1 8 (.iload_n 2) := ⟨by decide +kernel, rfl⟩
theorem dX6_passedBy_8 : dec cX6_passedBy 8 3 11 (.if_icmp .ge 36) := ⟨by decide +kernel, rfl⟩
theorem dX6_passedBy_11 : dec cX6_passedBy 11 1 12 (.aload_n 0) := ⟨by decide +kernel, rfl⟩
theorem dX6_passedBy_12 : dec cX6_passedBy 12 3 15 (.getfield 22) := ⟨by decide +kernel, rfl⟩
theorem dX6_passedBy_15 : dec cX6_passedBy 15 1 16 (.aload_n 0) := ⟨by decide +kernel, rfl⟩
theorem dX6_passedBy_16 : dec cX6_passedBy 16 3 19 (.getfield 33) := ⟨by decide +kernel, rfl⟩
theorem dX6_passedBy_19 : dec cX6_passedBy 19 3 22 (.getfield 117) := ⟨by decide +kernel, rfl⟩
theorem dX6_passedBy_22 : dec cX6_passedBy 22 2 24 (.iload 4) := ⟨by decide +kernel, rfl⟩
theorem dX6_passedBy_24 : dec cX6_passedBy 24 1 25 (.iaload) := ⟨by decide +kernel, rfl⟩
theorem dX6_passedBy_25 : dec cX6_passedBy 25 1 26 (.iaload) := ⟨by decide +kernel, rfl⟩
theorem dX6_passedBy_26 : dec cX6_passedBy 26 1 27 (.aload_n 0) := ⟨by decide +kernel, rfl⟩
theorem dX6_passedBy_27 : dec cX6_passedBy 27 3 30 (.getfield 22) := ⟨by decide +kernel, rfl⟩
theorem dX6_passedBy_30 : dec cX6_passedBy 30 1 31 (.iload_n 1) := ⟨by decide +kernel, rfl⟩
theorem dX6_passedBy_31 : dec cX6_passedBy 31 1 32 (.iaload) := ⟨by decide +kernel, rfl⟩
theorem dX6_passedBy_32 : dec cX6_passedBy 32 3 35 (.if_icmp .le 6) := ⟨by decide +kernel, rfl⟩
theorem dX6_passedBy_35 : dec cX6_passedBy 35 3 38 (.iinc 3 1) := ⟨by decide +kernel, rfl⟩
theorem dX6_passedBy_38 : dec cX6_passedBy 38 3 41 (.iinc 4 1) := ⟨by decide +kernel, rfl⟩
theorem dX6_passedBy_41 : dec cX6_passedBy 41 3 44 (.goto (-36)) := ⟨by decide +kernel, rfl⟩
theorem dX6_passedBy_44 : dec cX6_passedBy 44 1 45 (.iload_n 3) := ⟨by decide +kernel, rfl⟩
theorem dX6_passedBy_45 : dec cX6_passedBy 45 1 46 (.ireturn) := ⟨by decide +kernel, rfl⟩
set_option maxHeartbeats 4000000 in
set_option maxRecDepth 100000 in
theorem tX6_passedBy_L5 {X : Cx} {Y : Yx} {M0 : Mem} (hC : OKX X Y RX6 cX6_passedBy 5 (some .int) rmX6_passedBy) (hF : Y.2.2.2.2 = true) (hL : Lay M0) (Q : Int → Mem → Prop)  (a0 : Nat) (x1 : Int) (x2 : Int) (qa0 : 0 < a0 ∧ M0 0 a0 = kO 6)  : ∀ (N : Nat) (x3 : Int) (x4 : Int) (M : Mem) (_ : wX6_passedBy_L5 Q  a0 x1 x2 N x3 x4 M), WW X Y 5 rmX6_passedBy (QI Q) M0 0 0 5 [(0, vR Y.1 a0), (1, vI x1), (2, vI x2), (3, vI x3), (4, vI x4)] [] M := by
  intro N
  induction N with
  | zero =>
    intro x3 x4 M h
    exact h.elim
  | succ N ih =>
    intro x3 x4 M h
    unfold wX6_passedBy_L5 at h
    refine r_iload hC 4 dX6_passedBy_5 rfl ?_
    refine r_iload_n hC 2 dX6_passedBy_7 rfl rfl ?_
    refine r_icmp_ge hC 44 rfl rfl dX6_passedBy_8 (by decide) (fun cq => ?_) (fun cq => ?_)
    · replace h := h.1 cq
      refine r_iload_n hC 3 dX6_passedBy_44 rfl rfl ?_
      exact r_iret hC (Nat.zero_le _) (Nat.zero_le _) dX6_passedBy_45 ⟨_, rfl, h⟩
    · replace h := h.2 cq
      refine r_aload_n hC 0 dX6_passedBy_11 rfl rfl ?_
      have q_1 : 0 < a0 + 4 ∧ M0 0 (a0 + 4) = kA 0 12 := lay_f0 (a := a0) hL qa0 fm_6_12
      refine r_getR0 (a' := a0 + 4) hC fg_X6_22 rfl hF fm_6_12 qa0.1 qa0.2 rfl dX6_passedBy_12 ?_
      refine r_aload_n hC 0 dX6_passedBy_15 rfl rfl ?_
      have q_2 : 0 < (a0 - 12) ∧ M0 0 ((a0 - 12)) = kO 10 := lay_fs (a := a0) hL qa0 fm_6_1
      refine r_getRs (a' := (a0 - 12)) hC fg_X6_33 rfl hF fm_6_1 qa0.1 qa0.2 rfl dX6_passedBy_16 ?_
      have q_3 : 0 < (a0 - 12) + 1 ∧ M0 0 ((a0 - 12) + 1) = kA 0 12 := lay_f0 (a := (a0 - 12)) hL q_2 fm_10_4
      refine r_getR0 (a' := (a0 - 12) + 1) hC fg_X6_117 rfl hF fm_10_4 q_2.1 q_2.2 rfl dX6_passedBy_19 ?_
      refine r_iload hC 4 dX6_passedBy_22 rfl ?_
      obtain ⟨i_4, h⟩ := h
      refine r_iald hC i_4 q_3.1 q_3.2 (by decide) dX6_passedBy_24 ?_
      obtain ⟨i_5, h⟩ := h
      refine r_iald hC i_5 q_1.1 q_1.2 (by decide) dX6_passedBy_25 ?_
      refine r_aload_n hC 0 dX6_passedBy_26 rfl rfl ?_
      have q_6 : 0 < a0 + 4 ∧ M0 0 (a0 + 4) = kA 0 12 := lay_f0 (a := a0) hL qa0 fm_6_12
      refine r_getR0 (a' := a0 + 4) hC fg_X6_22 rfl hF fm_6_12 qa0.1 qa0.2 rfl dX6_passedBy_27 ?_
      refine r_iload_n hC 1 dX6_passedBy_30 rfl rfl ?_
      obtain ⟨i_7, h⟩ := h
      refine r_iald hC i_7 q_6.1 q_6.2 (by decide) dX6_passedBy_31 ?_
      refine r_icmp_le hC 38 rfl rfl dX6_passedBy_32 (by decide) (fun cq => ?_) (fun cq => ?_)
      · replace h := h.1 cq
        refine let_elim h (fun x4_8 e_9 h => ?_)
        refine r_iinc (lv' := [(4, vI x4_8), (0, vR Y.1 a0), (1, vI x1), (2, vI x2), (3, vI x3)]) hC 4 dX6_passedBy_38 rfl (by decide) e_9 rfl ?_
        refine r_goto hC 5 dX6_passedBy_41 (by decide) ?_
        refine r_sub [1, 2, 3, 4, 0] rfl ?_
        exact ih _ _ _ h
      · replace h := h.2 cq
        refine let_elim h (fun x3_10 e_11 h => ?_)
        refine r_iinc (lv' := [(3, vI x3_10), (0, vR Y.1 a0), (1, vI x1), (2, vI x2), (4, vI x4)]) hC 3 dX6_passedBy_35 rfl (by decide) e_11 rfl ?_
        refine let_elim h (fun x4_12 e_13 h => ?_)
        refine r_iinc (lv' := [(4, vI x4_12), (3, vI x3_10), (0, vR Y.1 a0), (1, vI x1), (2, vI x2)]) hC 4 dX6_passedBy_38 rfl (by decide) e_13 rfl ?_
        refine r_goto hC 5 dX6_passedBy_41 (by decide) ?_
        refine r_sub [2, 3, 4, 1, 0] rfl ?_
        exact ih _ _ _ h
set_option maxHeartbeats 4000000 in
set_option maxRecDepth 100000 in
theorem mX6_passedBy (Y : Yx) (hF : Y.2.2.2.2 = true) (l : Launch) (a0 : Nat) (x1 : Int) (x2 : Int) (M0 : Mem) (Q : Int → Mem → Prop) (qa0 : 0 < a0 ∧ M0 0 a0 = kO 6) (h : wX6_passedBy a0 x1 x2 M0 Q) : CT Y l yX6_passedBy cX6_passedBy 5 (some .int) rmX6_passedBy [vR Y.1 a0, vI x1, vI x2] M0 (QI Q) := by
  unfold wX6_passedBy at h
  refine ct_intro (by decide) (Nat.le_of_ble_eq_true rfl) ?_
  intro X hXl hC hL0
  have hL := hL0 hF
  change OKX X Y RX6 cX6_passedBy 5 (some .int) rmX6_passedBy at hC
  change WW X Y 5 rmX6_passedBy (QI Q) M0 0 0 0 [(0, vR Y.1 a0), (1, vI x1), (2, vI x2)] [] M0
  refine r_iconst hC dX6_passedBy_0 ?_
  refine r_istore_n (lv' := [(3, vI 0), (0, vR Y.1 a0), (1, vI x1), (2, vI x2)]) hC dX6_passedBy_1 rfl (by decide) rfl ?_
  refine r_iconst hC dX6_passedBy_2 ?_
  refine r_istore (lv' := [(4, vI 0), (3, vI 0), (0, vR Y.1 a0), (1, vI x1), (2, vI x2)]) hC dX6_passedBy_3 (by decide) rfl ?_
  refine r_sub [2, 3, 4, 1, 0] rfl ?_
  obtain ⟨N_14, h⟩ := h
  refine tX6_passedBy_L5 hC hF hL Q  _ _ _ qa0  N_14 _ _ _ h
theorem dX6_goOnMoving_0 : dec cX6_goOnMoving 0 1 1 (.iload_n 1) := ⟨by decide +kernel, rfl⟩
theorem dX6_goOnMoving_1 : dec cX6_goOnMoving 1 1 2 (.aload_n 0) := ⟨by decide +kernel, rfl⟩
theorem dX6_goOnMoving_2 : dec cX6_goOnMoving 2 3 5 (.getfield 41) := ⟨by decide +kernel, rfl⟩
theorem dX6_goOnMoving_5 : dec cX6_goOnMoving 5 3 8 (.if_icmp .lt 10) := ⟨by decide +kernel, rfl⟩
theorem dX6_goOnMoving_8 : dec cX6_goOnMoving 8 1 9 (.aload_n 0) := ⟨by decide +kernel, rfl⟩
theorem dX6_goOnMoving_9 : dec cX6_goOnMoving 9 1 10 (.iload_n 2) := ⟨by decide +kernel, rfl⟩
theorem dX6_goOnMoving_10 : dec cX6_goOnMoving 10 1 11 (.iload_n 3) := ⟨by decide +kernel, rfl⟩
theorem dX6_goOnMoving_11 : dec cX6_goOnMoving 11 3 14 (.invokevirtual 177) := ⟨by decide +kernel, rfl⟩
theorem dX6_goOnMoving_14 : dec cX6_goOnMoving 14 1 15 (.return_) := ⟨by decide +kernel, rfl⟩
theorem dX6_goOnMoving_15 : dec cX6_goOnMoving 15 1 16 (.iconst 0) := ⟨by decide +kernel, rfl⟩
theorem dX6_goOnMoving_16 : dec cX6_goOnMoving 16 2 18 (.istore 4) := ⟨by decide +kernel, rfl⟩
theorem dX6_goOnMoving_18 : dec cX6_goOnMoving 18 2 20 (.iload 4) := ⟨by decide +kernel, rfl⟩
theorem dX6_goOnMoving_20 : dec cX6_goOnMoving 20 1 21 (.aload_n 0) := ⟨by decide +kernel, rfl⟩
theorem dX6_goOnMoving_21 : dec cX6_goOnMoving 21 3 24 (.getfield 41) := ⟨by decide +kernel, rfl⟩
theorem dX6_goOnMoving_24 : dec cX6_goOnMoving 24 3 27 (.if_icmp .ge 106) := ⟨by decide +kernel, rfl⟩
theorem dX6_goOnMoving_27 : dec cX6_goOnMoving 27 1 28 (.aload_n 0) := ⟨by decide +kernel, rfl⟩
theorem dX6_goOnMoving_28 : dec cX6_goOnMoving 28 3 31 (.getfield 9) := ⟨by decide +kernel, rfl⟩
theorem dX6_goOnMoving_31 : dec cX6_goOnMoving 31 2 33 (.iload 4) := ⟨by decide +kernel, rfl⟩
theorem dX6_goOnMoving_33 : dec cX6_goOnMoving 33 1 34 (.iaload) := ⟨by decide +kernel, rfl⟩
theorem dX6_goOnMoving_34 : dec cX6_goOnMoving 34 2 36 (.istore 5) := ⟨by decide +kernel, rfl⟩
theorem dX6_goOnMoving_36 : dec cX6_goOnMoving 36 1 37 (.iload_n 3) := ⟨by decide +kernel, rfl⟩
theorem dX6_goOnMoving_37 : dec cX6_goOnMoving 37 1 38 (.aload_n 0) := ⟨by decide +kernel, rfl⟩
theorem dX6_goOnMoving_38 : dec cX6_goOnMoving 38 2 40 (.iload 5) := ⟨by decide +kernel, rfl⟩
theorem dX6_goOnMoving_40 : dec cX6_goOnMoving 40 1 41 (.iload_n 1) := ⟨by decide +kernel, rfl⟩
theorem dX6_goOnMoving_41 : dec cX6_goOnMoving 41 3 44 (.invokevirtual 180) := ⟨by decide +kernel, rfl⟩
theorem dX6_goOnMoving_44 : dec cX6_goOnMoving 44 1 45 (.iadd) := ⟨by decide +kernel, rfl⟩
theorem dX6_goOnMoving_45 : dec cX6_goOnMoving 45 2 47 (.istore 6) := ⟨by decide +kernel, rfl⟩
theorem dX6_goOnMoving_47 : dec cX6_goOnMoving 47 1 48 (.aload_n 0) := ⟨by decide +kernel, rfl⟩
theorem dX6_goOnMoving_48 : dec cX6_goOnMoving 48 3 51 (.getfield 33) := ⟨by decide +kernel, rfl⟩
theorem dX6_goOnMoving_51 : dec cX6_goOnMoving 51 3 54 (.getfield 87) := ⟨by decide +kernel, rfl⟩
theorem dX6_goOnMoving_54 : dec cX6_goOnMoving 54 1 55 (.iload_n 1) := ⟨by decide +kernel, rfl⟩
theorem dX6_goOnMoving_55 : dec cX6_goOnMoving 55 1 56 (.iaload) := ⟨by decide +kernel, rfl⟩
theorem dX6_goOnMoving_56 : dec cX6_goOnMoving 56 2 58 (.iload 5) := ⟨by decide +kernel, rfl⟩
theorem dX6_goOnMoving_58 : dec cX6_goOnMoving 58 3 61 (.invokestatic 58) := ⟨by decide +kernel, rfl⟩
theorem dX6_goOnMoving_61 : dec cX6_goOnMoving 61 3 64 (.ifCond .ne 63) := ⟨by decide +kernel, rfl⟩
theorem dX6_goOnMoving_64 : dec cX6_goOnMoving 64 1 65 (.aload_n 0) := ⟨by decide +kernel, rfl⟩
theorem dX6_goOnMoving_65 : dec cX6_goOnMoving 65 3 68 (.getfield 44) := ⟨by decide +kernel, rfl⟩
theorem dX6_goOnMoving_68 : dec cX6_goOnMoving 68 3 71 (.ifCond .le 15) := ⟨by decide +kernel, rfl⟩
theorem dX6_goOnMoving_71 : dec cX6_goOnMoving 71 2 73 (.iload 6) := ⟨by decide +kernel, rfl⟩
theorem dX6_goOnMoving_73 : dec cX6_goOnMoving 73 1 74 (.aload_n 0) := ⟨by decide +kernel, rfl⟩
theorem dX6_goOnMoving_74 : dec cX6_goOnMoving 74 3 77 (.getfield 184) := ⟨by decide +kernel, rfl⟩
theorem dX6_goOnMoving_77 : dec cX6_goOnMoving 77 3 80 (.if_icmp .le 6) := ⟨by decide +kernel, rfl⟩
theorem dX6_goOnMoving_80 : dec cX6_goOnMoving 80 3 83 (.goto 44) := ⟨by decide +kernel, rfl⟩
theorem dX6_goOnMoving_83 : dec cX6_goOnMoving 83 1 84 (.aload_n 0) := ⟨by decide +kernel, rfl⟩
theorem dX6_goOnMoving_84 : dec cX6_goOnMoving 84 3 87 (.getfield 33) := ⟨by decide +kernel, rfl⟩
theorem dX6_goOnMoving_87 : dec cX6_goOnMoving 87 1 88 (.iload_n 1) := ⟨by decide +kernel, rfl⟩
theorem dX6_goOnMoving_88 : dec cX6_goOnMoving 88 2 90 (.iload 5) := ⟨by decide +kernel, rfl⟩
theorem dX6_goOnMoving_90 : dec cX6_goOnMoving 90 3 93 (.invokevirtual 90) := ⟨by decide +kernel, rfl⟩
theorem dX6_goOnMoving_93 : dec cX6_goOnMoving 93 1 94 (.aload_n 0) := ⟨by decide +kernel, rfl⟩
theorem dX6_goOnMoving_94 : dec cX6_goOnMoving 94 3 97 (.getfield 33) := ⟨by decide +kernel, rfl⟩
theorem dX6_goOnMoving_97 : dec cX6_goOnMoving 97 1 98 (.iload_n 1) := ⟨by decide +kernel, rfl⟩
theorem dX6_goOnMoving_98 : dec cX6_goOnMoving 98 1 99 (.iconst 1) := ⟨by decide +kernel, rfl⟩
theorem dX6_goOnMoving_99 : dec cX6_goOnMoving 99 1 100 (.iadd) := ⟨by decide +kernel, rfl⟩
theorem dX6_goOnMoving_100 : dec cX6_goOnMoving 100 3 103 (.invokevirtual 93) := ⟨by decide +kernel, rfl⟩
theorem dX6_goOnMoving_103 : dec cX6_goOnMoving 103 3 106 (.ifCond .eq 21) := ⟨by decide +kernel, rfl⟩
theorem dX6_goOnMoving_106 : dec cX6_goOnMoving 106 1 107 (.aload_n 0) := ⟨by decide +kernel, rfl⟩
theorem dX6_goOnMoving_107 : dec cX6_goOnMoving 107 3 110 (.getfield 33) := ⟨by decide +kernel, rfl⟩
theorem dX6_goOnMoving_110 : dec cX6_goOnMoving 110 1 111 (.iload_n 1) := ⟨by decide +kernel, rfl⟩
theorem dX6_goOnMoving_111 : dec cX6_goOnMoving 111 3 114 (.invokevirtual 97) := ⟨by decide +kernel, rfl⟩
theorem dX6_goOnMoving_114 : dec cX6_goOnMoving 114 1 115 (.aload_n 0) := ⟨by decide +kernel, rfl⟩
theorem dX6_goOnMoving_115 : dec cX6_goOnMoving 115 1 116 (.iload_n 1) := ⟨by decide +kernel, rfl⟩
theorem dX6_goOnMoving_116 : dec cX6_goOnMoving 116 1 117 (.iconst 1) := ⟨by decide +kernel, rfl⟩
theorem dX6_goOnMoving_117 : dec cX6_goOnMoving 117 1 118 (.iadd) := ⟨by decide +kernel, rfl⟩
theorem dX6_goOnMoving_118 : dec cX6_goOnMoving 118 1 119 (.iload_n 2) := ⟨by decide +kernel, rfl⟩
theorem dX6_goOnMoving_119 : dec cX6_goOnMoving 119 2 121 (.iload 6) := ⟨by decide +kernel, rfl⟩
theorem dX6_goOnMoving_121 : dec cX6_goOnMoving 121 3 124 (.invokevirtual 174) := ⟨by decide +kernel, rfl⟩
theorem dX6_goOnMoving_124 : dec cX6_goOnMoving 124 3 127 (.iinc 4 1) := ⟨by decide +kernel, rfl⟩
theorem dX6_goOnMoving_127 : dec cX6_goOnMoving 127 3 130 (.goto (-109)) := ⟨by decide +kernel, rfl⟩
theorem dX6_goOnMoving_130 : dec cX6_goOnMoving 130 1 131 (.return_) := ⟨by decide +kernel, rfl⟩
set_option maxHeartbeats 4000000 in
set_option maxRecDepth 100000 in
theorem tX6_goOnMoving_J83 {X : Cx} {Y : Yx} {M0 : Mem} {Γ : Nat → List Int → Mem → (Int → Mem → Prop) → Prop} {d : Nat} (hC : OKX X Y RX6 cX6_goOnMoving 7 none (rmX6_goOnMoving (d + 1))) (hF : Y.2.2.2.2 = true) (hL : Lay M0) (a0 : Nat) (hG0 : ∀ (x0 : Int) (x1 : Int) (x2 : Int) (M : Mem) (Q : Int → Mem → Prop), (0 < a0 ∧ M 0 a0 = kO 6) → Γ 0 [x0, x1, x2] M Q → CT Y X.2.1 yX6_goOnMoving cX6_goOnMoving 7 none (rmX6_goOnMoving d) [vR Y.1 a0, vI x0, vI x1, vI x2] M (QV (Q 0))) (Q : Mem → Prop) (C18 : Int → Mem → Prop)  (x1 : Int) (x2 : Int) (x3 : Int) (x4 : Int) (x5 : Int) (x6 : Int) (qa0 : 0 < a0 ∧ M0 0 a0 = kO 6) (hC18 : ∀ (x4 : Int) (M : Mem), C18 x4 M → WW X Y 7 (rmX6_goOnMoving (d + 1)) (QV Q) M0 0 0 18 [(0, vR Y.1 a0), (1, vI x1), (2, vI x2), (3, vI x3), (4, vI x4)] [] M) (M : Mem) (h : wX6_goOnMoving_J83 Γ Q C18 a0 x1 x2 x3 x4 x5 x6 M) : WW X Y 7 (rmX6_goOnMoving (d + 1)) (QV Q) M0 0 0 83 [(0, vR Y.1 a0), (1, vI x1), (2, vI x2), (3, vI x3), (4, vI x4), (5, vI x5), (6, vI x6)] [] M := by
  unfold wX6_goOnMoving_J83 at h
  refine r_aload_n hC 0 dX6_goOnMoving_83 rfl rfl ?_
  have q_14 : 0 < (a0 - 12) ∧ M0 0 ((a0 - 12)) = kO 10 := lay_fs (a := a0) hL qa0 fm_6_1
  refine r_getRs (a' := (a0 - 12)) hC fg_X6_33 rfl hF fm_6_1 qa0.1 qa0.2 rfl dX6_goOnMoving_84 ?_
  refine r_iload_n hC 1 dX6_goOnMoving_87 rfl rfl ?_
  refine r_iload hC 5 dX6_goOnMoving_88 rfl ?_
  refine r_callV (As := [vI x1, vI x5]) (st := []) hC cw_X6_90 rfl q_14.1 q_14.2 rfl rfl (Nat.le_of_ble_eq_true rfl) (by constructor <;> simp only [rmX6_goOnMoving, rmX10_step] <;> omega) ⟨Nat.le_of_ble_eq_true rfl, Nat.le_of_ble_eq_true rfl⟩ dX6_goOnMoving_90 (fun hk => mX10_step Y hF _ _ _ _ _ _ (kqO hk q_14) h) (fun v M_15 h => ?_)
  obtain ⟨rfl, h⟩ := h
  refine r_aload_n hC 0 dX6_goOnMoving_93 rfl rfl ?_
  have q_16 : 0 < (a0 - 12) ∧ M0 0 ((a0 - 12)) = kO 10 := lay_fs (a := a0) hL qa0 fm_6_1
  refine r_getRs (a' := (a0 - 12)) hC fg_X6_33 rfl hF fm_6_1 qa0.1 qa0.2 rfl dX6_goOnMoving_94 ?_
  refine r_iload_n hC 1 dX6_goOnMoving_97 rfl rfl ?_
  refine r_iconst hC dX6_goOnMoving_98 ?_
  refine r_iadd hC dX6_goOnMoving_99 ?_
  refine r_callV (As := [vI (x1 + 1)]) (st := []) hC cw_X6_93 rfl q_16.1 q_16.2 rfl rfl (Nat.le_of_ble_eq_true rfl) (by constructor <;> simp only [rmX6_goOnMoving, rmX10_isGood] <;> omega) ⟨Nat.le_of_ble_eq_true rfl, Nat.le_of_ble_eq_true rfl⟩ dX6_goOnMoving_100 (fun hk => mX10_isGood Y hF _ _ _ _ _ (kqO hk q_16) h) (fun v M_17 h => ?_)
  obtain ⟨r_18, rfl, h⟩ := h
  refine r_if_eq hC 124 rfl dX6_goOnMoving_103 (by decide) (fun cq => ?_) (fun cq => ?_)
  · replace h := h.1 cq
    refine let_elim h (fun x4_19 e_20 h => ?_)
    refine r_iinc (lv' := [(4, vI x4_19), (0, vR Y.1 a0), (1, vI x1), (2, vI x2), (3, vI x3), (5, vI x5), (6, vI x6)]) hC 4 dX6_goOnMoving_124 rfl (by decide) e_20 rfl ?_
    refine r_goto hC 18 dX6_goOnMoving_127 (by decide) ?_
    refine r_sub [1, 2, 3, 4, 0] rfl ?_
    exact hC18 _ _ h
  · replace h := h.2 cq
    refine r_aload_n hC 0 dX6_goOnMoving_106 rfl rfl ?_
    have q_21 : 0 < (a0 - 12) ∧ M0 0 ((a0 - 12)) = kO 10 := lay_fs (a := a0) hL qa0 fm_6_1
    refine r_getRs (a' := (a0 - 12)) hC fg_X6_33 rfl hF fm_6_1 qa0.1 qa0.2 rfl dX6_goOnMoving_107 ?_
    refine r_iload_n hC 1 dX6_goOnMoving_110 rfl rfl ?_
    refine r_callV (As := [vI x1]) (st := []) hC cw_X6_97 rfl q_21.1 q_21.2 rfl rfl (Nat.le_of_ble_eq_true rfl) (by constructor <;> simp only [rmX6_goOnMoving, rmX10_weigh] <;> omega) ⟨Nat.le_of_ble_eq_true rfl, Nat.le_of_ble_eq_true rfl⟩ dX6_goOnMoving_111 (fun hk => mX10_weigh Y hF _ _ _ _ _ (kqO hk q_21) h) (fun v M_22 h => ?_)
    obtain ⟨rfl, h⟩ := h
    refine r_aload_n hC 0 dX6_goOnMoving_114 rfl rfl ?_
    refine r_iload_n hC 1 dX6_goOnMoving_115 rfl rfl ?_
    refine r_iconst hC dX6_goOnMoving_116 ?_
    refine r_iadd hC dX6_goOnMoving_117 ?_
    refine r_iload_n hC 2 dX6_goOnMoving_118 rfl rfl ?_
    refine r_iload hC 6 dX6_goOnMoving_119 rfl ?_
    refine r_callV (As := [vI (x1 + 1), vI x2, vI x6]) (st := []) hC cw_X6_174 rfl qa0.1 qa0.2 rfl rfl (Nat.le_of_ble_eq_true rfl) (by constructor <;> simp only [rmX6_goOnMoving, rmX6_goOnMoving] <;> omega) ⟨Nat.le_of_ble_eq_true rfl, Nat.le_of_ble_eq_true rfl⟩ dX6_goOnMoving_121 (fun hk => hG0 _ _ _ _ _ (kqO hk qa0) h) (fun v M_23 h => ?_)
    obtain ⟨rfl, h⟩ := h
    refine let_elim h (fun x4_24 e_25 h => ?_)
    refine r_iinc (lv' := [(4, vI x4_24), (0, vR Y.1 a0), (1, vI x1), (2, vI x2), (3, vI x3), (5, vI x5), (6, vI x6)]) hC 4 dX6_goOnMoving_124 rfl (by decide) e_25 rfl ?_
    refine r_goto hC 18 dX6_goOnMoving_127 (by decide) ?_
    refine r_sub [1, 2, 3, 4, 0] rfl ?_
    exact hC18 _ _ h
set_option maxHeartbeats 4000000 in
set_option maxRecDepth 100000 in
theorem tX6_goOnMoving_L18 {X : Cx} {Y : Yx} {M0 : Mem} {Γ : Nat → List Int → Mem → (Int → Mem → Prop) → Prop} {d : Nat} (hC : OKX X Y RX6 cX6_goOnMoving 7 none (rmX6_goOnMoving (d + 1))) (hF : Y.2.2.2.2 = true) (hL : Lay M0) (a0 : Nat) (hG0 : ∀ (x0 : Int) (x1 : Int) (x2 : Int) (M : Mem) (Q : Int → Mem → Prop), (0 < a0 ∧ M 0 a0 = kO 6) → Γ 0 [x0, x1, x2] M Q → CT Y X.2.1 yX6_goOnMoving cX6_goOnMoving 7 none (rmX6_goOnMoving d) [vR Y.1 a0, vI x0, vI x1, vI x2] M (QV (Q 0))) (Q : Mem → Prop)  (x1 : Int) (x2 : Int) (x3 : Int) (qa0 : 0 < a0 ∧ M0 0 a0 = kO 6)  : ∀ (N : Nat) (x4 : Int) (M : Mem) (_ : wX6_goOnMoving_L18 Γ Q  a0 x1 x2 x3 N x4 M), WW X Y 7 (rmX6_goOnMoving (d + 1)) (QV Q) M0 0 0 18 [(0, vR Y.1 a0), (1, vI x1), (2, vI x2), (3, vI x3), (4, vI x4)] [] M := by
  intro N
  induction N with
  | zero =>
    intro x4 M h
    exact h.elim
  | succ N ih =>
    intro x4 M h
    unfold wX6_goOnMoving_L18 at h
    refine r_iload hC 4 dX6_goOnMoving_18 rfl ?_
    refine r_aload_n hC 0 dX6_goOnMoving_20 rfl rfl ?_
    refine r_getI hC fg_X6_41 rfl qa0.1 qa0.2 dX6_goOnMoving_21 ?_
    refine r_icmp_ge hC 130 rfl rfl dX6_goOnMoving_24 (by decide) (fun cq => ?_) (fun cq => ?_)
    · replace h := h.1 cq
      exact r_vret hC (Nat.zero_le _) (Nat.zero_le _) dX6_goOnMoving_130 ⟨rfl, h⟩
    · replace h := h.2 cq
      refine r_aload_n hC 0 dX6_goOnMoving_27 rfl rfl ?_
      have q_1 : 0 < a0 + 1 ∧ M0 0 (a0 + 1) = kA 0 12 := lay_f0 (a := a0) hL qa0 fm_6_2
      refine r_getR0 (a' := a0 + 1) hC fg_X6_9 rfl hF fm_6_2 qa0.1 qa0.2 rfl dX6_goOnMoving_28 ?_
      refine r_iload hC 4 dX6_goOnMoving_31 rfl ?_
      obtain ⟨i_2, h⟩ := h
      refine r_iald hC i_2 q_1.1 q_1.2 (by decide) dX6_goOnMoving_33 ?_
      refine r_nameI h (fun x5_3 h => ?_)
      refine r_istore (lv' := [(5, vI x5_3), (0, vR Y.1 a0), (1, vI x1), (2, vI x2), (3, vI x3), (4, vI x4)]) hC dX6_goOnMoving_34 (by decide) rfl ?_
      refine r_iload_n hC 4 dX6_goOnMoving_36 rfl rfl ?_
      refine r_aload_n hC 1 dX6_goOnMoving_37 rfl rfl ?_
      refine r_iload hC 0 dX6_goOnMoving_38 rfl ?_
      refine r_iload_n hC 2 dX6_goOnMoving_40 rfl rfl ?_
      refine r_callV (As := [vI x5_3, vI x1]) (st := [vI x3]) hC cw_X6_180 rfl qa0.1 qa0.2 rfl rfl (Nat.le_of_ble_eq_true rfl) (by constructor <;> simp only [rmX6_goOnMoving, rmX6_passedBy] <;> omega) ⟨Nat.le_of_ble_eq_true rfl, Nat.le_of_ble_eq_true rfl⟩ dX6_goOnMoving_41 (fun hk => mX6_passedBy Y hF _ _ _ _ _ _ (kqO hk qa0) h) (fun v M_4 h => ?_)
      obtain ⟨r_5, rfl, h⟩ := h
      refine r_iadd hC dX6_goOnMoving_44 ?_
      refine r_nameI h (fun x6_6 h => ?_)
      refine r_istore (lv' := [(6, vI x6_6), (5, vI x5_3), (0, vR Y.1 a0), (1, vI x1), (2, vI x2), (3, vI x3), (4, vI x4)]) hC dX6_goOnMoving_45 (by decide) rfl ?_
      refine r_aload_n hC 2 dX6_goOnMoving_47 rfl rfl ?_
      have q_7 : 0 < (a0 - 12) ∧ M0 0 ((a0 - 12)) = kO 10 := lay_fs (a := a0) hL qa0 fm_6_1
      refine r_getRs (a' := (a0 - 12)) hC fg_X6_33 rfl hF fm_6_1 qa0.1 qa0.2 rfl dX6_goOnMoving_48 ?_
      have q_8 : 0 < (a0 - 12) + 5 ∧ M0 0 ((a0 - 12) + 5) = kA 0 13 := lay_f0 (a := (a0 - 12)) hL q_7 fm_10_8
      refine r_getR0 (a' := (a0 - 12) + 5) hC fg_X6_87 rfl hF fm_10_8 q_7.1 q_7.2 rfl dX6_goOnMoving_51 ?_
      refine r_iload_n hC 3 dX6_goOnMoving_54 rfl rfl ?_
      obtain ⟨i_9, h⟩ := h
      refine r_iald hC i_9 q_8.1 q_8.2 (by decide) dX6_goOnMoving_55 ?_
      refine r_iload hC 1 dX6_goOnMoving_56 rfl ?_
      refine r_callN (As := [vI (rd M_4 ((a0 - 12) + 5) x1), vI x5_3]) (st := []) hC cw_X6_58 rfl rfl (Nat.le_of_ble_eq_true rfl) (by constructor <;> simp only [rmX6_goOnMoving, rmX11_isIn] <;> omega) ⟨Nat.le_of_ble_eq_true rfl, Nat.le_of_ble_eq_true rfl⟩ dX6_goOnMoving_58 (fun hk => mX11_isIn Y hF _ _ _ _ _  h) (fun v M_10 h => ?_)
      obtain ⟨r_11, rfl, h⟩ := h
      refine r_if_ne hC 124 rfl dX6_goOnMoving_61 (by decide) (fun cq => ?_) (fun cq => ?_)
      · replace h := h.2 cq
        refine let_elim h (fun x4_12 e_13 h => ?_)
        refine r_iinc (lv' := [(4, vI x4_12), (6, vI x6_6), (5, vI x5_3), (0, vR Y.1 a0), (1, vI x1), (2, vI x2), (3, vI x3)]) hC 6 dX6_goOnMoving_124 rfl (by decide) e_13 rfl ?_
        refine r_goto hC 18 dX6_goOnMoving_127 (by decide) ?_
        refine r_sub [3, 4, 5, 6, 0] rfl ?_
        exact ih _ _ h
      · replace h := h.1 cq
        refine r_aload_n hC 2 dX6_goOnMoving_64 rfl rfl ?_
        refine r_getI hC fg_X6_44 rfl qa0.1 qa0.2 dX6_goOnMoving_65 ?_
        refine r_if_le hC 83 rfl dX6_goOnMoving_68 (by decide) (fun cq => ?_) (fun cq => ?_)
        · replace h := h.1 cq
          refine r_sub [2, 3, 4, 5, 6, 1, 0] rfl ?_
          exact tX6_goOnMoving_J83 hC hF hL _ hG0 Q _  _ _ _ _ _ _ qa0 ih _ h
        · replace h := h.2 cq
          refine r_iload hC 0 dX6_goOnMoving_71 rfl ?_
          refine r_aload_n hC 2 dX6_goOnMoving_73 rfl rfl ?_
          refine r_getI hC fg_X6_184 rfl qa0.1 qa0.2 dX6_goOnMoving_74 ?_
          refine r_icmp_le hC 83 rfl rfl dX6_goOnMoving_77 (by decide) (fun cq => ?_) (fun cq => ?_)
          · replace h := h.1 cq
            refine r_sub [2, 3, 4, 5, 6, 1, 0] rfl ?_
            exact tX6_goOnMoving_J83 hC hF hL _ hG0 Q _  _ _ _ _ _ _ qa0 ih _ h
          · replace h := h.2 cq
            refine r_goto hC 124 dX6_goOnMoving_80 (by decide) ?_
            refine let_elim h (fun x4_26 e_27 h => ?_)
            refine r_iinc (lv' := [(4, vI x4_26), (6, vI x6_6), (5, vI x5_3), (0, vR Y.1 a0), (1, vI x1), (2, vI x2), (3, vI x3)]) hC 6 dX6_goOnMoving_124 rfl (by decide) e_27 rfl ?_
            refine r_goto hC 18 dX6_goOnMoving_127 (by decide) ?_
            refine r_sub [3, 4, 5, 6, 0] rfl ?_
            exact ih _ _ h
set_option maxHeartbeats 4000000 in
set_option maxRecDepth 100000 in
theorem mbX6_goOnMoving (Y : Yx) (hF : Y.2.2.2.2 = true) (l : Launch) {Γ : Nat → List Int → Mem → (Int → Mem → Prop) → Prop} {d : Nat} (a0 : Nat) (x1 : Int) (x2 : Int) (x3 : Int) (hG0 : ∀ (x0 : Int) (x1 : Int) (x2 : Int) (M : Mem) (Q : Int → Mem → Prop), (0 < a0 ∧ M 0 a0 = kO 6) → Γ 0 [x0, x1, x2] M Q → CT Y l yX6_goOnMoving cX6_goOnMoving 7 none (rmX6_goOnMoving d) [vR Y.1 a0, vI x0, vI x1, vI x2] M (QV (Q 0))) (M0 : Mem) (Q : Mem → Prop) (qa0 : 0 < a0 ∧ M0 0 a0 = kO 6) (h : wbX6_goOnMoving Γ a0 x1 x2 x3 M0 Q) : CT Y l yX6_goOnMoving cX6_goOnMoving 7 none (rmX6_goOnMoving (d + 1)) [vR Y.1 a0, vI x1, vI x2, vI x3] M0 (QV Q) := by
  unfold wbX6_goOnMoving at h
  refine ct_intro (by decide) (Nat.le_of_ble_eq_true rfl) ?_
  intro X hXl hC hL0
  have hL := hL0 hF
  change OKX X Y RX6 cX6_goOnMoving 7 none (rmX6_goOnMoving (d + 1)) at hC
  subst hXl
  change WW X Y 7 (rmX6_goOnMoving (d + 1)) (QV Q) M0 0 0 0 [(0, vR Y.1 a0), (1, vI x1), (2, vI x2), (3, vI x3)] [] M0
  refine r_iload_n hC 1 dX6_goOnMoving_0 rfl rfl ?_
  refine r_aload_n hC 0 dX6_goOnMoving_1 rfl rfl ?_
  refine r_getI hC fg_X6_41 rfl qa0.1 qa0.2 dX6_goOnMoving_2 ?_
  refine r_icmp_lt hC 15 rfl rfl dX6_goOnMoving_5 (by decide) (fun cq => ?_) (fun cq => ?_)
  · replace h := h.1 cq
    refine r_iconst hC dX6_goOnMoving_15 ?_
    refine r_istore (lv' := [(4, vI 0), (0, vR Y.1 a0), (1, vI x1), (2, vI x2), (3, vI x3)]) hC dX6_goOnMoving_16 (by decide) rfl ?_
    refine r_sub [1, 2, 3, 4, 0] rfl ?_
    obtain ⟨N_28, h⟩ := h
    refine tX6_goOnMoving_L18 hC hF hL _ hG0 Q  _ _ _ qa0  N_28 _ _ h
  · replace h := h.2 cq
    refine r_aload_n hC 0 dX6_goOnMoving_8 rfl rfl ?_
    refine r_iload_n hC 2 dX6_goOnMoving_9 rfl rfl ?_
    refine r_iload_n hC 3 dX6_goOnMoving_10 rfl rfl ?_
    refine r_callV (As := [vI x2, vI x3]) (st := []) hC cw_X6_177 rfl qa0.1 qa0.2 rfl rfl (Nat.le_of_ble_eq_true rfl) (by constructor <;> simp only [rmX6_goOnMoving, rmX6_takeMoved] <;> omega) ⟨Nat.le_of_ble_eq_true rfl, Nat.le_of_ble_eq_true rfl⟩ dX6_goOnMoving_11 (fun hk => mX6_takeMoved Y hF _ _ _ _ _ _ (kqO hk qa0) h) (fun v M_29 h => ?_)
    obtain ⟨rfl, h⟩ := h
    exact r_vret hC (Nat.zero_le _) (Nat.zero_le _) dX6_goOnMoving_14 ⟨rfl, h⟩
set_option maxHeartbeats 4000000 in
set_option maxRecDepth 100000 in
theorem mGX6_goOnMoving (Y : Yx) (hF : Y.2.2.2.2 = true) (l : Launch) (a0 : Nat) : ∀ d : Nat, (∀ (x1 : Int) (x2 : Int) (x3 : Int) (M : Mem) (Q : Int → Mem → Prop), (0 < a0 ∧ M 0 a0 = kO 6) → wGX6_goOnMoving a0 d 0 [x1, x2, x3] M Q → CT Y l yX6_goOnMoving cX6_goOnMoving 7 none (rmX6_goOnMoving d) [vR Y.1 a0, vI x1, vI x2, vI x3] M (QV (Q 0))) := by
  intro d
  induction d with
  | zero => exact fun x1 x2 x3 M Q f0 h => h.elim
  | succ d ih => exact fun x1 x2 x3 M Q f0 h => mbX6_goOnMoving Y hF l a0 x1 x2 x3 ih M (Q 0) f0 h
set_option maxHeartbeats 4000000 in
set_option maxRecDepth 100000 in
theorem mX6_goOnMoving (Y : Yx) (hF : Y.2.2.2.2 = true) (l : Launch) (a0 : Nat) (x1 : Int) (x2 : Int) (x3 : Int) (M0 : Mem) (Q : Mem → Prop) (qa0 : 0 < a0 ∧ M0 0 a0 = kO 6) (h : wX6_goOnMoving a0 x1 x2 x3 M0 Q) : CT Y l yX6_goOnMoving cX6_goOnMoving 7 none (rmX6_goOnMoving 8) [vR Y.1 a0, vI x1, vI x2, vI x3] M0 (QV Q) := (mGX6_goOnMoving Y hF l a0 8) _ _ _ M0 (fun _ => Q) qa0 h
