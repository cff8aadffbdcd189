theorem dX1_isOf_0 : dec cX1_isOf 0 1 1 (.aload_n 0) := ⟨by decide +kernel, rfl⟩
theorem dX1_isOf_1 : dec cX1_isOf 1 3 4 (.getfield 19) := ⟨by decide +kernel, rfl⟩
theorem dX1_isOf_4 : dec cX1_isOf 4 1 5 (.istore_n 2) := ⟨by decide +kernel, rfl⟩
theorem dX1_isOf_5 : dec cX1_isOf 5 1 6 (.iconst 0) := ⟨by decide +kernel, rfl⟩
theorem dX1_isOf_6 : dec cX1_isOf 6 1 7 (.istore_n 3) := ⟨by decide +kernel, rfl⟩
theorem dX1_isOf_7 : dec cX1_isOf 7 1 8 (.iload_n 3) := ⟨by decide +kernel, rfl⟩
theorem dX1_isOf_8 : dec cX1_isOf 8 3 11 (.getstatic 51) := ⟨by decide +kernel, rfl⟩
theorem dX1_isOf_11 : dec cX1_isOf 11 1 12 (.arraylength) := ⟨by decide +kernel, rfl⟩
theorem dX1_isOf_12 : dec cX1_isOf 12 3 15 (.if_icmp .ge 26) := ⟨by decide +kernel, rfl⟩
theorem dX1_isOf_15 : dec cX1_isOf 15 1 16 (.iload_n 2) := ⟨by decide +kernel, rfl⟩
theorem dX1_isOf_16 : dec cX1_isOf 16 3 19 (.ifCond .lt 22) := ⟨by decide +kernel, rfl⟩
theorem dX1_isOf_19 : dec cX1_isOf 19 1 20 (.iload_n 2) := ⟨by decide +kernel, rfl⟩
theorem dX1_isOf_20 : dec cX1_isOf 20 1 21 (.iload_n 1) := ⟨by decide +kernel, rfl⟩
theorem dX1_isOf_21 : dec cX1_isOf 21 3 24 (.if_icmp .ne 5) := ⟨by decide +kernel, rfl⟩
theorem dX1_isOf_24 : dec cX1_isOf 24 1 25 (.iconst 1) := ⟨by decide +kernel, rfl⟩
theorem dX1_isOf_25 : dec cX1_isOf 25 1 26 (.ireturn) := ⟨by decide +kernel, rfl⟩
theorem dX1_isOf_26 : dec cX1_isOf 26 3 29 (.getstatic 51) := ⟨by decide +kernel, rfl⟩
theorem dX1_isOf_29 : dec cX1_isOf 29 1 30 (.iload_n 2) := ⟨by decide +kernel, rfl⟩
theorem dX1_isOf_30 : dec cX1_isOf 30 1 31 (.iaload) := ⟨by decide +kernel, rfl⟩
theorem dX1_isOf_31 : dec cX1_isOf 31 1 32 (.istore_n 2) := ⟨by decide +kernel, rfl⟩
theorem dX1_isOf_32 : dec cX1_isOf 32 3 35 (.iinc 3 1) := ⟨by decide +kernel, rfl⟩
theorem dX1_isOf_35 : dec cX1_isOf 35 3 38 (.goto (-28)) := ⟨by decide +kernel, rfl⟩
theorem dX1_isOf_38 : dec cX1_isOf 38 1 39 (.iconst 0) := ⟨by decide +kernel, rfl⟩
theorem dX1_isOf_39 : dec cX1_isOf 39 1 40 (.ireturn) := ⟨by decide +kernel, rfl⟩
set_option maxHeartbeats 4000000 in
set_option maxRecDepth 100000 in
theorem tX1_isOf_L7 {X : Cx} {Y : Yx} {M0 : Mem} (hC : OKX X Y RX1 cX1_isOf 4 (some .boolean) rmX1_isOf) (hF : Y.2.2.2.2 = true) (hL : Lay M0) (Q : Int → Mem → Prop)  (x1 : Int)   : ∀ (N : Nat) (x2 : Int) (x3 : Int) (M : Mem) (_ : wX1_isOf_L7 Q  x1 N x2 x3 M), WW X Y 4 rmX1_isOf (QI Q) M0 0 0 7 [(1, vI x1), (2, vI x2), (3, vI x3)] [] M := by
  intro N
  induction N with
  | zero =>
    intro x2 x3 M h
    exact h.elim
  | succ N ih =>
    intro x2 x3 M h
    unfold wX1_isOf_L7 at h
    refine r_iload_n hC 2 dX1_isOf_7 rfl rfl ?_
    refine r_tabN (i := 1) hC (by decide) tn_X1_51 dX1_isOf_8 ?_
    refine r_tablen hC (by decide) dX1_isOf_11 ?_
    refine r_icmp_ge hC 38 rfl bmL_7 dX1_isOf_12 (by decide) (fun cq => ?_) (fun cq => ?_)
    · replace h := h.1 cq
      refine r_iconst hC dX1_isOf_38 ?_
      exact r_zret hC (Or.inl rfl) (Nat.zero_le _) (Nat.zero_le _) dX1_isOf_39 ⟨_, rfl, h⟩
    · replace h := h.2 cq
      refine r_iload_n hC 1 dX1_isOf_15 rfl rfl ?_
      refine r_if_lt hC 38 rfl dX1_isOf_16 (by decide) (fun cq => ?_) (fun cq => ?_)
      · replace h := h.1 cq
        refine r_iconst hC dX1_isOf_38 ?_
        exact r_zret hC (Or.inl rfl) (Nat.zero_le _) (Nat.zero_le _) dX1_isOf_39 ⟨_, rfl, h⟩
      · replace h := h.2 cq
        refine r_iload_n hC 1 dX1_isOf_19 rfl rfl ?_
        refine r_iload_n hC 0 dX1_isOf_20 rfl rfl ?_
        refine r_icmp_ne hC 26 rfl rfl dX1_isOf_21 (by decide) (fun cq => ?_) (fun cq => ?_)
        · replace h := h.2 cq
          refine r_tabN (i := 1) hC (by decide) tn_X1_51 dX1_isOf_26 ?_
          refine r_iload_n hC 1 dX1_isOf_29 rfl rfl ?_
          obtain ⟨i_2, h⟩ := h
          refine r_tabld hC (by decide) i_2 dX1_isOf_30 ?_
          refine r_nameI h (fun x2_3 h => ?_)
          refine r_istore_n (lv' := [(2, vI x2_3), (1, vI x1), (3, vI x3)]) hC dX1_isOf_31 rfl (by decide) rfl ?_
          refine let_elim h (fun x3_4 e_5 h => ?_)
          refine r_iinc (lv' := [(3, vI x3_4), (2, vI x2_3), (1, vI x1)]) hC 2 dX1_isOf_32 rfl (by decide) e_5 rfl ?_
          refine r_goto hC 7 dX1_isOf_35 (by decide) ?_
          refine r_sub [2, 1, 0] rfl ?_
          exact ih _ _ _ h
        · replace h := h.1 cq
          refine r_iconst hC dX1_isOf_24 ?_
          exact r_zret hC (Or.inr rfl) (Nat.zero_le _) (Nat.zero_le _) dX1_isOf_25 ⟨_, rfl, h⟩
set_option maxHeartbeats 4000000 in
set_option maxRecDepth 100000 in
theorem mX1_isOf (Y : Yx) (hF : Y.2.2.2.2 = true) (l : Launch) (a0 : Nat) (x1 : Int) (M0 : Mem) (Q : Int → Mem → Prop) (qa0 : 0 < a0 ∧ M0 0 a0 = kO 1) (h : wX1_isOf a0 x1 M0 Q) : CT Y l yX1_isOf cX1_isOf 4 (some .boolean) rmX1_isOf [vR Y.1 a0, vI x1] M0 (QI Q) := by
  unfold wX1_isOf at h
  refine ct_intro (by decide) (Nat.le_of_ble_eq_true rfl) ?_
  intro X hXl hC hL0
  have hL := hL0 hF
  change OKX X Y RX1 cX1_isOf 4 (some .boolean) rmX1_isOf at hC
  change WW X Y 4 rmX1_isOf (QI Q) M0 0 0 0 [(0, vR Y.1 a0), (1, vI x1)] [] M0
  refine r_aload_n hC 0 dX1_isOf_0 rfl rfl ?_
  refine r_getI hC fg_X1_19 rfl qa0.1 qa0.2 dX1_isOf_1 ?_
  refine r_nameI h (fun x2_1 h => ?_)
  refine r_istore_n (lv' := [(2, vI x2_1), (0, vR Y.1 a0), (1, vI x1)]) hC dX1_isOf_4 rfl (by decide) rfl ?_
  refine r_iconst hC dX1_isOf_5 ?_
  refine r_istore_n (lv' := [(3, vI 0), (2, vI x2_1), (0, vR Y.1 a0), (1, vI x1)]) hC dX1_isOf_6 rfl (by decide) rfl ?_
  refine r_sub [3, 1, 0] rfl ?_
  obtain ⟨N_6, h⟩ := h
  refine tX1_isOf_L7 hC hF hL Q  _   N_6 _ _ _ h
theorem dX1_names_0 : dec cX1_names 0 1 1 (.aload_n 0) := ⟨by decide +kernel, rfl⟩
theorem dX1_names_1 : dec cX1_names 1 3 4 (.getfield 19) := ⟨by decide +kernel, rfl⟩
theorem dX1_names_4 : dec cX1_names 4 36 40 (.tableswitch 48 1 5 #[36, 39, 42, 45, 36]) := ⟨by decide +kernel, rfl⟩
theorem dX1_names_40 : dec cX1_names 40 2 42 (.ldc 54) := ⟨by decide +kernel, rfl⟩
theorem dX1_names_42 : dec cX1_names 42 1 43 (.areturn) := ⟨by decide +kernel, rfl⟩
theorem dX1_names_43 : dec cX1_names 43 2 45 (.ldc 56) := ⟨by decide +kernel, rfl⟩
theorem dX1_names_45 : dec cX1_names 45 1 46 (.areturn) := ⟨by decide +kernel, rfl⟩
theorem dX1_names_46 : dec cX1_names 46 2 48 (.ldc 58) := ⟨by decide +kernel, rfl⟩
theorem dX1_names_48 : dec cX1_names 48 1 49 (.areturn) := ⟨by decide +kernel, rfl⟩
theorem dX1_names_49 : dec cX1_names 49 2 51 (.ldc 60) := ⟨by decide +kernel, rfl⟩
theorem dX1_names_51 : dec cX1_names 51 1 52 (.areturn) := ⟨by decide +kernel, rfl⟩
theorem dX1_names_52 : dec cX1_names 52 2 54 (.ldc 62) := ⟨by decide +kernel, rfl⟩
theorem dX1_names_54 : dec cX1_names 54 1 55 (.areturn) := ⟨by decide +kernel, rfl⟩
set_option maxHeartbeats 4000000 in
set_option maxRecDepth 100000 in
theorem mX1_names (Y : Yx) (hF : Y.2.2.2.2 = true) (l : Launch) (a0 : Nat) (M0 : Mem) (Q : Int → Mem → Prop) (qa0 : 0 < a0 ∧ M0 0 a0 = kO 1) (h : wX1_names a0 M0 Q) : CT Y l yX1_names cX1_names 1 (some (.object "java/lang/String")) rmX1_names [vR Y.1 a0] M0 (QT Y.2.2.1 Q) := by
  unfold wX1_names at h
  refine ct_intro (by decide) (Nat.le_of_ble_eq_true rfl) ?_
  intro X hXl hC hL0
  have hL := hL0 hF
  change OKX X Y RX1 cX1_names 1 (some (.object "java/lang/String")) rmX1_names at hC
  change WW X Y 1 rmX1_names (QT Y.2.2.1 Q) M0 0 0 0 [(0, vR Y.1 a0)] [] M0
  refine r_aload_n hC 0 dX1_names_0 rfl rfl ?_
  refine r_getI hC fg_X1_19 rfl qa0.1 qa0.2 dX1_names_1 ?_
  by_cases c0 : bm (M0 a0 0) = 1
  · replace h := h.1 c0
    refine r_tabIn hC 40 1 dX1_names_4 c0 (by decide) (by decide) rfl (by decide) ?_
    refine r_ldcS (i := 1) (tx := "abks") hC (by decide +kernel) (by decide) dX1_names_40 ?_
    exact r_sret hC ⟨by decide, by decide⟩ (Nat.zero_le _) (Nat.zero_le _) dX1_names_42 ⟨_, ⟨by decide, by decide⟩, rfl, h⟩
  · replace h := h.2 c0
    by_cases c1 : bm (M0 a0 0) = 2
    · replace h := h.1 c1
      refine r_tabIn hC 43 2 dX1_names_4 c1 (by decide) (by decide) rfl (by decide) ?_
      refine r_ldcS (i := 2) (tx := "m") hC (by decide +kernel) (by decide) dX1_names_43 ?_
      exact r_sret hC ⟨by decide, by decide⟩ (Nat.zero_le _) (Nat.zero_le _) dX1_names_45 ⟨_, ⟨by decide, by decide⟩, rfl, h⟩
    · replace h := h.2 c1
      by_cases c2 : bm (M0 a0 0) = 3
      · replace h := h.1 c2
        refine r_tabIn hC 46 3 dX1_names_4 c2 (by decide) (by decide) rfl (by decide) ?_
        refine r_ldcS (i := 3) (tx := "pnlij") hC (by decide +kernel) (by decide) dX1_names_46 ?_
        exact r_sret hC ⟨by decide, by decide⟩ (Nat.zero_le _) (Nat.zero_le _) dX1_names_48 ⟨_, ⟨by decide, by decide⟩, rfl, h⟩
      · replace h := h.2 c2
        by_cases c3 : bm (M0 a0 0) = 4
        · replace h := h.1 c3
          refine r_tabIn hC 49 4 dX1_names_4 c3 (by decide) (by decide) rfl (by decide) ?_
          refine r_ldcS (i := 4) (tx := "t") hC (by decide +kernel) (by decide) dX1_names_49 ?_
          exact r_sret hC ⟨by decide, by decide⟩ (Nat.zero_le _) (Nat.zero_le _) dX1_names_51 ⟨_, ⟨by decide, by decide⟩, rfl, h⟩
        · replace h := h.2 c3
          by_cases c4 : bm (M0 a0 0) = 5
          · replace h := h.1 c4
            refine r_tabIn hC 40 5 dX1_names_4 c4 (by decide) (by decide) rfl (by decide) ?_
            refine r_ldcS (i := 1) (tx := "abks") hC (by decide +kernel) (by decide) dX1_names_40 ?_
            exact r_sret hC ⟨by decide, by decide⟩ (Nat.zero_le _) (Nat.zero_le _) dX1_names_42 ⟨_, ⟨by decide, by decide⟩, rfl, h⟩
          · replace h := h.2 c4
            refine r_tabOut hC 52 dX1_names_4 (by omega) (by decide) ?_
            refine r_ldcS (i := 5) (tx := "") hC (by decide +kernel) (by decide) dX1_names_52 ?_
            exact r_sret hC ⟨by decide, by decide⟩ (Nat.zero_le _) (Nat.zero_le _) dX1_names_54 ⟨_, ⟨by decide, by decide⟩, rfl, h⟩
theorem dX1_joined_0 : dec cX1_joined 0 1 1 (.iload_n 0) := ⟨by decide +kernel, rfl⟩
theorem dX1_joined_1 : dec cX1_joined 1 51 52 (.lookupswitch 86 #[(42, 59), (43, 51), (45, 55), (47, 63), (60, 75)]) := ⟨by decide +kernel, rfl⟩
theorem dX1_joined_52 : dec cX1_joined 52 1 53 (.iload_n 1) := ⟨by decide +kernel, rfl⟩
theorem dX1_joined_53 : dec cX1_joined 53 1 54 (.iload_n 2) := ⟨by decide +kernel, rfl⟩
theorem dX1_joined_54 : dec cX1_joined 54 1 55 (.iadd) := ⟨by decide +kernel, rfl⟩
theorem dX1_joined_55 : dec cX1_joined 55 1 56 (.ireturn) := ⟨by decide +kernel, rfl⟩
theorem dX1_joined_56 : dec cX1_joined 56 1 57 (.iload_n 1) := ⟨by decide +kernel, rfl⟩
theorem dX1_joined_57 : dec cX1_joined 57 1 58 (.iload_n 2) := ⟨by decide +kernel, rfl⟩
theorem dX1_joined_58 : dec cX1_joined 58 1 59 (.isub) := ⟨by decide +kernel, rfl⟩
theorem dX1_joined_59 : dec cX1_joined 59 1 60 (.ireturn) := ⟨by decide +kernel, rfl⟩
theorem dX1_joined_60 : dec cX1_joined 60 1 61 (.iload_n 1) := ⟨by decide +kernel, rfl⟩
theorem dX1_joined_61 : dec cX1_joined 61 1 62 (.iload_n 2) := ⟨by decide +kernel, rfl⟩
theorem dX1_joined_62 : dec cX1_joined 62 1 63 (.imul) := ⟨by decide +kernel, rfl⟩
theorem dX1_joined_63 : dec cX1_joined 63 1 64 (.ireturn) := ⟨by decide +kernel, rfl⟩
theorem dX1_joined_64 : dec cX1_joined 64 1 65 (.iload_n 2) := ⟨by decide +kernel, rfl⟩
theorem dX1_joined_65 : dec cX1_joined 65 3 68 (.ifCond .ne 7) := ⟨by decide +kernel, rfl⟩
theorem dX1_joined_68 : dec cX1_joined 68 1 69 (.iconst 0) := ⟨by decide +kernel, rfl⟩
theorem dX1_joined_69 : dec cX1_joined 69 3 72 (.goto 6) := ⟨by decide +kernel, rfl⟩
theorem dX1_joined_72 : dec cX1_joined 72 1 73 (.iload_n 1) := ⟨by decide +kernel, rfl⟩
theorem dX1_joined_73 : dec cX1_joined 73 1 74 (.iload_n 2) := ⟨by decide +kernel, rfl⟩
theorem dX1_joined_74 : dec cX1_joined 74 1 75 (.idiv) := ⟨by decide +kernel, rfl⟩
theorem dX1_joined_75 : dec cX1_joined 75 1 76 (.ireturn) := ⟨by decide +kernel, rfl⟩
theorem dX1_joined_76 : dec cX1_joined 76 1 77 (.iload_n 1) := ⟨by decide +kernel, rfl⟩
theorem dX1_joined_77 : dec cX1_joined 77 1 78 (.iload_n 2) := ⟨by decide +kernel, rfl⟩
theorem dX1_joined_78 : dec cX1_joined 78 3 81 (.if_icmp .ge 7) := ⟨by decide +kernel, rfl⟩
theorem dX1_joined_81 : dec cX1_joined 81 1 82 (.iconst 1) := ⟨by decide +kernel, rfl⟩
theorem dX1_joined_82 : dec cX1_joined 82 3 85 (.goto 4) := ⟨by decide +kernel, rfl⟩
theorem dX1_joined_85 : dec cX1_joined 85 1 86 (.iconst 0) := ⟨by decide +kernel, rfl⟩
theorem dX1_joined_86 : dec cX1_joined 86 1 87 (.ireturn) := ⟨by decide +kernel, rfl⟩
theorem dX1_joined_87 : dec cX1_joined 87 1 88 (.iload_n 1) := ⟨by decide +kernel, rfl⟩
theorem dX1_joined_88 : dec cX1_joined 88 1 89 (.iload_n 2) := ⟨by decide +kernel, rfl⟩
theorem dX1_joined_89 : dec cX1_joined 89 3 92 (.if_icmp .ne 7) := ⟨by decide +kernel, rfl⟩
theorem dX1_joined_92 : dec cX1_joined 92 1 93 (.iconst 1) := ⟨by decide +kernel, rfl⟩
theorem dX1_joined_93 : dec cX1_joined 93 3 96 (.goto 4) := ⟨by decide +kernel, rfl⟩
theorem dX1_joined_96 : dec cX1_joined 96 1 97 (.iconst 0) := ⟨by decide +kernel, rfl⟩
theorem dX1_joined_97 : dec cX1_joined 97 1 98 (.ireturn) := ⟨by decide +kernel, rfl⟩
set_option maxHeartbeats 4000000 in
set_option maxRecDepth 100000 in
theorem mX1_joined (Y : Yx) (hF : Y.2.2.2.2 = true) (l : Launch) (x0 : Int) (x1 : Int) (x2 : Int) (M0 : Mem) (Q : Int → Mem → Prop)  (h : wX1_joined x0 x1 x2 M0 Q) : CT Y l yX1_joined cX1_joined 3 (some .int) rmX1_joined [vI x0, vI x1, vI x2] M0 (QI Q) := by
  unfold wX1_joined at h
  refine ct_intro (by decide) (Nat.le_of_ble_eq_true rfl) ?_
  intro X hXl hC hL0
  have hL := hL0 hF
  change OKX X Y RX1 cX1_joined 3 (some .int) rmX1_joined at hC
  change WW X Y 3 rmX1_joined (QI Q) M0 0 0 0 [(0, vI x0), (1, vI x1), (2, vI x2)] [] M0
  refine r_iload_n hC 0 dX1_joined_0 rfl rfl ?_
  by_cases c0 : bm x0 = 42
  · replace h := h.1 c0
    refine r_lookup hC 60 dX1_joined_1 (by decide +kernel) (off := 59) (by rw [c0]; rfl) (by decide) ?_
    refine r_iload_n hC 1 dX1_joined_60 rfl rfl ?_
    refine r_iload_n hC 2 dX1_joined_61 rfl rfl ?_
    refine r_imul hC dX1_joined_62 ?_
    exact r_iret hC (Nat.zero_le _) (Nat.zero_le _) dX1_joined_63 ⟨_, rfl, h⟩
  · replace h := h.2 c0
    by_cases c1 : bm x0 = 43
    · replace h := h.1 c1
      refine r_lookup hC 52 dX1_joined_1 (by decide +kernel) (off := 51) (by rw [c1]; rfl) (by decide) ?_
      refine r_iload_n hC 1 dX1_joined_52 rfl rfl ?_
      refine r_iload_n hC 2 dX1_joined_53 rfl rfl ?_
      refine r_iadd hC dX1_joined_54 ?_
      exact r_iret hC (Nat.zero_le _) (Nat.zero_le _) dX1_joined_55 ⟨_, rfl, h⟩
    · replace h := h.2 c1
      by_cases c2 : bm x0 = 45
      · replace h := h.1 c2
        refine r_lookup hC 56 dX1_joined_1 (by decide +kernel) (off := 55) (by rw [c2]; rfl) (by decide) ?_
        refine r_iload_n hC 1 dX1_joined_56 rfl rfl ?_
        refine r_iload_n hC 2 dX1_joined_57 rfl rfl ?_
        refine r_isub hC dX1_joined_58 ?_
        exact r_iret hC (Nat.zero_le _) (Nat.zero_le _) dX1_joined_59 ⟨_, rfl, h⟩
      · replace h := h.2 c2
        by_cases c3 : bm x0 = 47
        · replace h := h.1 c3
          refine r_lookup hC 64 dX1_joined_1 (by decide +kernel) (off := 63) (by rw [c3]; rfl) (by decide) ?_
          refine r_iload_n hC 2 dX1_joined_64 rfl rfl ?_
          refine r_if_ne hC 72 rfl dX1_joined_65 (by decide) (fun cq => ?_) (fun cq => ?_)
          · replace h := h.2 cq
            refine r_iload_n hC 1 dX1_joined_72 rfl rfl ?_
            refine r_iload_n hC 2 dX1_joined_73 rfl rfl ?_
            obtain ⟨z_1, h⟩ := h
            refine r_idiv hC z_1 dX1_joined_74 ?_
            exact r_iret hC (Nat.zero_le _) (Nat.zero_le _) dX1_joined_75 ⟨_, rfl, h⟩
          · replace h := h.1 cq
            refine r_iconst hC dX1_joined_68 ?_
            refine r_goto hC 75 dX1_joined_69 (by decide) ?_
            exact r_iret hC (Nat.zero_le _) (Nat.zero_le _) dX1_joined_75 ⟨_, rfl, h⟩
        · replace h := h.2 c3
          by_cases c4 : bm x0 = 60
          · replace h := h.1 c4
            refine r_lookup hC 76 dX1_joined_1 (by decide +kernel) (off := 75) (by rw [c4]; rfl) (by decide) ?_
            refine r_iload_n hC 1 dX1_joined_76 rfl rfl ?_
            refine r_iload_n hC 2 dX1_joined_77 rfl rfl ?_
            refine r_icmp_ge hC 85 rfl rfl dX1_joined_78 (by decide) (fun cq => ?_) (fun cq => ?_)
            · replace h := h.1 cq
              refine r_iconst hC dX1_joined_85 ?_
              exact r_iret hC (Nat.zero_le _) (Nat.zero_le _) dX1_joined_86 ⟨_, rfl, h⟩
            · replace h := h.2 cq
              refine r_iconst hC dX1_joined_81 ?_
              refine r_goto hC 86 dX1_joined_82 (by decide) ?_
              exact r_iret hC (Nat.zero_le _) (Nat.zero_le _) dX1_joined_86 ⟨_, rfl, h⟩
          · replace h := h.2 c4
            refine r_lookup hC 87 dX1_joined_1 (by decide +kernel) (off := 86) (by simp [Op.lookupswitch.offset, Ne.symm c0, Ne.symm c1, Ne.symm c2, Ne.symm c3, Ne.symm c4]) (by decide) ?_
            refine r_iload_n hC 1 dX1_joined_87 rfl rfl ?_
            refine r_iload_n hC 2 dX1_joined_88 rfl rfl ?_
            refine r_icmp_ne hC 96 rfl rfl dX1_joined_89 (by decide) (fun cq => ?_) (fun cq => ?_)
            · replace h := h.2 cq
              refine r_iconst hC dX1_joined_96 ?_
              exact r_iret hC (Nat.zero_le _) (Nat.zero_le _) dX1_joined_97 ⟨_, rfl, h⟩
            · replace h := h.1 cq
              refine r_iconst hC dX1_joined_92 ?_
              refine r_goto hC 97 dX1_joined_93 (by decide) ?_
              exact r_iret hC (Nat.zero_le _) (Nat.zero_le _) dX1_joined_97 ⟨_, rfl, h⟩
theorem dX1_comesTo_0 : dec cX1_comesTo 0 1 1 (.iconst 0) := ⟨by decide +kernel, rfl⟩
theorem dX1_comesTo_1 : dec cX1_comesTo 1 1 2 (.istore_n 3) := ⟨by decide +kernel, rfl⟩
theorem dX1_comesTo_2 : dec cX1_comesTo 2 1 3 (.iconst 0) := ⟨by decide +kernel, rfl⟩
theorem dX1_comesTo_3 : dec cX1_comesTo 3 2 5 (.istore 4) := ⟨by decide +kernel, rfl⟩
theorem dX1_comesTo_5 : dec cX1_comesTo 5 2 7 (.iload 4) := ⟨by decide +kernel, rfl⟩
theorem dX1_comesTo_7 : dec cX1_comesTo 7 1 8 (.aload_n 0) := ⟨by decide +kernel, rfl⟩
theorem dX1_comesTo_8 : dec cX1_comesTo 8 3 11 (.getfield 32) := ⟨by decide +kernel, rfl⟩
theorem dX1_comesTo_11 : dec cX1_comesTo 11 3 14 (.if_icmp .ge 189) := ⟨by decide +kernel, rfl⟩
theorem dX1_comesTo_14 : dec cX1_comesTo 14 1 15 (.aload_n 0) := ⟨by decide +kernel, rfl⟩
theorem dX1_comesTo_15 : dec cX1_comesTo 15 3 18 (.getfield 15) := ⟨by decide +kernel, rfl⟩
theorem dX1_comesTo_18 : dec cX1_comesTo 18 2 20 (.iload 4) := ⟨by decide +kernel, rfl⟩
theorem dX1_comesTo_20 : dec cX1_comesTo 20 1 21 (.iaload) := ⟨by decide +kernel, rfl⟩
theorem dX1_comesTo_21 : dec cX1_comesTo 21 2 23 (.istore 5) := ⟨by decide +kernel, rfl⟩
theorem dX1_comesTo_23 : dec cX1_comesTo 23 2 25 (.iload 5) := ⟨by decide +kernel, rfl⟩
theorem dX1_comesTo_25 : dec cX1_comesTo 25 3 28 (.sipush 200) := ⟨by decide +kernel, rfl⟩
theorem dX1_comesTo_28 : dec cX1_comesTo 28 3 31 (.if_icmp .ge 49) := ⟨by decide +kernel, rfl⟩
theorem dX1_comesTo_31 : dec cX1_comesTo 31 1 32 (.iload_n 3) := ⟨by decide +kernel, rfl⟩
theorem dX1_comesTo_32 : dec cX1_comesTo 32 1 33 (.aload_n 2) := ⟨by decide +kernel, rfl⟩
theorem dX1_comesTo_33 : dec cX1_comesTo 33 1 34 (.arraylength) := ⟨by decide +kernel, rfl⟩
theorem dX1_comesTo_34 : dec cX1_comesTo 34 3 37 (.if_icmp .ge 13) := ⟨by decide +kernel, rfl⟩
theorem dX1_comesTo_37 : dec cX1_comesTo 37 2 39 (.iload 5) := ⟨by decide +kernel, rfl⟩
theorem dX1_comesTo_39 : dec cX1_comesTo 39 2 41 (.bipush 100) := ⟨by decide +kernel, rfl⟩
theorem dX1_comesTo_41 : dec cX1_comesTo 41 1 42 (.isub) := ⟨by decide +kernel, rfl⟩
theorem dX1_comesTo_42 : dec cX1_comesTo 42 1 43 (.aload_n 1) := ⟨by decide +kernel, rfl⟩
theorem dX1_comesTo_43 : dec cX1_comesTo 43 1 44 (.arraylength) := ⟨by decide +kernel, rfl⟩
theorem dX1_comesTo_44 : dec cX1_comesTo 44 3 47 (.if_icmp .lt 5) := ⟨by decide +kernel, rfl⟩
theorem dX1_comesTo_47 : dec cX1_comesTo 47 1 48 (.iconst 0) := ⟨by decide +kernel, rfl⟩
theorem dX1_comesTo_48 : dec cX1_comesTo 48 1 49 (.ireturn) := ⟨by decide +kernel, rfl⟩
theorem dX1_comesTo_49 : dec cX1_comesTo 49 1 50 (.aload_n 2) := ⟨by decide +kernel, rfl⟩
theorem dX1_comesTo_50 : dec cX1_comesTo 50 1 51 (.iload_n 3) := ⟨by decide +kernel, rfl⟩
theorem dX1_comesTo_51 : dec cX1_comesTo 51 2 53 (.iload 5) := ⟨by decide +kernel, rfl⟩
theorem dX1_comesTo_53 : dec cX1_comesTo 53 2 55 (.bipush 100) := ⟨by decide +kernel, rfl⟩
theorem dX1_comesTo_55 : dec cX1_comesTo 55 3 58 (.if_icmp .ge 8) := ⟨by decide +kernel, rfl⟩
theorem dX1_comesTo_58 : dec cX1_comesTo 58 2 60 (.iload 5) := ⟨by decide +kernel, rfl⟩
theorem dX1_comesTo_60 : dec cX1_comesTo 60 3 63 (.goto 10) := ⟨by decide +kernel, rfl⟩
theorem dX1_comesTo_63 : dec cX1_comesTo 63 1 64 (.aload_n 1) := ⟨by decide +kernel, rfl⟩
theorem dX1_comesTo_64 : dec cX1_comesTo 64 2 66 (.iload 5) := ⟨by decide +kernel, rfl⟩
theorem dX1_comesTo_66 : dec cX1_comesTo 66 2 68 (.bipush 100) := ⟨by decide +kernel, rfl⟩
theorem dX1_comesTo_68 : dec cX1_comesTo 68 1 69 (.isub) := ⟨by decide +kernel, rfl⟩
theorem dX1_comesTo_69 : dec cX1_comesTo 69 1 70 (.iaload) := ⟨by decide +kernel, rfl⟩
theorem dX1_comesTo_70 : dec cX1_comesTo 70 1 71 (.iastore) := ⟨by decide +kernel, rfl⟩
theorem dX1_comesTo_71 : dec cX1_comesTo 71 3 74 (.iinc 3 1) := ⟨by decide +kernel, rfl⟩
theorem dX1_comesTo_74 : dec cX1_comesTo 74 3 77 (.goto 120) := ⟨by decide +kernel, rfl⟩
theorem dX1_comesTo_77 : dec cX1_comesTo 77 2 79 (.iload 5) := ⟨by decide +kernel, rfl⟩
theorem dX1_comesTo_79 : dec cX1_comesTo 79 3 82 (.sipush 326) := ⟨by decide +kernel, rfl⟩
theorem dX1_comesTo_82 : dec cX1_comesTo 82 3 85 (.if_icmp .ne 7) := ⟨by decide +kernel, rfl⟩
theorem dX1_comesTo_85 : dec cX1_comesTo 85 1 86 (.iconst 1) := ⟨by decide +kernel, rfl⟩
theorem dX1_comesTo_86 : dec cX1_comesTo 86 3 89 (.goto 16) := ⟨by decide +kernel, rfl⟩
theorem dX1_comesTo_89 : dec cX1_comesTo 89 2 91 (.iload 5) := ⟨by decide +kernel, rfl⟩
theorem dX1_comesTo_91 : dec cX1_comesTo 91 3 94 (.sipush 263) := ⟨by decide +kernel, rfl⟩
theorem dX1_comesTo_94 : dec cX1_comesTo 94 3 97 (.if_icmp .ne 7) := ⟨by decide +kernel, rfl⟩
theorem dX1_comesTo_97 : dec cX1_comesTo 97 1 98 (.iconst 3) := ⟨by decide +kernel, rfl⟩
theorem dX1_comesTo_98 : dec cX1_comesTo 98 3 101 (.goto 4) := ⟨by decide +kernel, rfl⟩
theorem dX1_comesTo_101 : dec cX1_comesTo 101 1 102 (.iconst 2) := ⟨by decide +kernel, rfl⟩
theorem dX1_comesTo_102 : dec cX1_comesTo 102 2 104 (.istore 6) := ⟨by decide +kernel, rfl⟩
theorem dX1_comesTo_104 : dec cX1_comesTo 104 1 105 (.iload_n 3) := ⟨by decide +kernel, rfl⟩
theorem dX1_comesTo_105 : dec cX1_comesTo 105 2 107 (.iload 6) := ⟨by decide +kernel, rfl⟩
theorem dX1_comesTo_107 : dec cX1_comesTo 107 3 110 (.if_icmp .ge 5) := ⟨by decide +kernel, rfl⟩
theorem dX1_comesTo_110 : dec cX1_comesTo 110 1 111 (.iconst 0) := ⟨by decide +kernel, rfl⟩
theorem dX1_comesTo_111 : dec cX1_comesTo 111 1 112 (.ireturn) := ⟨by decide +kernel, rfl⟩
theorem dX1_comesTo_112 : dec cX1_comesTo 112 1 113 (.iload_n 3) := ⟨by decide +kernel, rfl⟩
theorem dX1_comesTo_113 : dec cX1_comesTo 113 2 115 (.iload 6) := ⟨by decide +kernel, rfl⟩
theorem dX1_comesTo_115 : dec cX1_comesTo 115 1 116 (.iconst 1) := ⟨by decide +kernel, rfl⟩
theorem dX1_comesTo_116 : dec cX1_comesTo 116 1 117 (.isub) := ⟨by decide +kernel, rfl⟩
theorem dX1_comesTo_117 : dec cX1_comesTo 117 1 118 (.isub) := ⟨by decide +kernel, rfl⟩
theorem dX1_comesTo_118 : dec cX1_comesTo 118 1 119 (.istore_n 3) := ⟨by decide +kernel, rfl⟩
theorem dX1_comesTo_119 : dec cX1_comesTo 119 2 121 (.iload 6) := ⟨by decide +kernel, rfl⟩
theorem dX1_comesTo_121 : dec cX1_comesTo 121 1 122 (.iconst 1) := ⟨by decide +kernel, rfl⟩
theorem dX1_comesTo_122 : dec cX1_comesTo 122 3 125 (.if_icmp .ne 17) := ⟨by decide +kernel, rfl⟩
theorem dX1_comesTo_125 : dec cX1_comesTo 125 1 126 (.aload_n 2) := ⟨by decide +kernel, rfl⟩
theorem dX1_comesTo_126 : dec cX1_comesTo 126 1 127 (.iload_n 3) := ⟨by decide +kernel, rfl⟩
theorem dX1_comesTo_127 : dec cX1_comesTo 127 1 128 (.iconst 1) := ⟨by decide +kernel, rfl⟩
theorem dX1_comesTo_128 : dec cX1_comesTo 128 1 129 (.isub) := ⟨by decide +kernel, rfl⟩
theorem dX1_comesTo_129 : dec cX1_comesTo 129 1 130 (.aload_n 2) := ⟨by decide +kernel, rfl⟩
theorem dX1_comesTo_130 : dec cX1_comesTo 130 1 131 (.iload_n 3) := ⟨by decide +kernel, rfl⟩
theorem dX1_comesTo_131 : dec cX1_comesTo 131 1 132 (.iconst 1) := ⟨by decide +kernel, rfl⟩
theorem dX1_comesTo_132 : dec cX1_comesTo 132 1 133 (.isub) := ⟨by decide +kernel, rfl⟩
theorem dX1_comesTo_133 : dec cX1_comesTo 133 1 134 (.iaload) := ⟨by decide +kernel, rfl⟩
theorem dX1_comesTo_134 : dec cX1_comesTo 134 1 135 (.ineg) := ⟨by decide +kernel, rfl⟩
theorem dX1_comesTo_135 : dec cX1_comesTo 135 1 136 (.iastore) := ⟨by decide +kernel, rfl⟩
theorem dX1_comesTo_136 : dec cX1_comesTo 136 3 139 (.goto 58) := ⟨by decide +kernel, rfl⟩
theorem dX1_comesTo_139 : dec cX1_comesTo 139 2 141 (.iload 6) := ⟨by decide +kernel, rfl⟩
theorem dX1_comesTo_141 : dec cX1_comesTo 141 1 142 (.iconst 3) := ⟨by decide +kernel, rfl⟩
theorem dX1_comesTo_142 : dec cX1_comesTo 142 3 145 (.if_icmp .ne 30) := ⟨by decide +kernel, rfl⟩
theorem dX1_comesTo_145 : dec cX1_comesTo 145 1 146 (.aload_n 2) := ⟨by decide +kernel, rfl⟩
theorem dX1_comesTo_146 : dec cX1_comesTo 146 1 147 (.iload_n 3) := ⟨by decide +kernel, rfl⟩
theorem dX1_comesTo_147 : dec cX1_comesTo 147 1 148 (.iconst 1) := ⟨by decide +kernel, rfl⟩
theorem dX1_comesTo_148 : dec cX1_comesTo 148 1 149 (.isub) := ⟨by decide +kernel, rfl⟩
theorem dX1_comesTo_149 : dec cX1_comesTo 149 1 150 (.aload_n 2) := ⟨by decide +kernel, rfl⟩
theorem dX1_comesTo_150 : dec cX1_comesTo 150 1 151 (.iload_n 3) := ⟨by decide +kernel, rfl⟩
theorem dX1_comesTo_151 : dec cX1_comesTo 151 1 152 (.iconst 1) := ⟨by decide +kernel, rfl⟩
theorem dX1_comesTo_152 : dec cX1_comesTo 152 1 153 (.isub) := ⟨by decide +kernel, rfl⟩
theorem dX1_comesTo_153 : dec cX1_comesTo 153 1 154 (.iaload) := ⟨by decide +kernel, rfl⟩
theorem dX1_comesTo_154 : dec cX1_comesTo 154 3 157 (.ifCond .eq 9) := ⟨by decide +kernel, rfl⟩
theorem dX1_comesTo_157 : dec cX1_comesTo 157 1 158 (.aload_n 2) := ⟨by decide +kernel, rfl⟩
theorem dX1_comesTo_158 : dec cX1_comesTo 158 1 159 (.iload_n 3) := ⟨by decide +kernel, rfl⟩
theorem dX1_comesTo_159 : dec cX1_comesTo 159 1 160 (.iaload) := ⟨by decide +kernel, rfl⟩
theorem dX1_comesTo_160 : dec cX1_comesTo 160 3 163 (.goto 8) := ⟨by decide +kernel, rfl⟩
theorem dX1_comesTo_163 : dec cX1_comesTo 163 1 164 (.aload_n 2) := ⟨by decide +kernel, rfl⟩
theorem dX1_comesTo_164 : dec cX1_comesTo 164 1 165 (.iload_n 3) := ⟨by decide +kernel, rfl⟩
theorem dX1_comesTo_165 : dec cX1_comesTo 165 1 166 (.iconst 1) := ⟨by decide +kernel, rfl⟩
theorem dX1_comesTo_166 : dec cX1_comesTo 166 1 167 (.iadd) := ⟨by decide +kernel, rfl⟩
theorem dX1_comesTo_167 : dec cX1_comesTo 167 1 168 (.iaload) := ⟨by decide +kernel, rfl⟩
theorem dX1_comesTo_168 : dec cX1_comesTo 168 1 169 (.iastore) := ⟨by decide +kernel, rfl⟩
theorem dX1_comesTo_169 : dec cX1_comesTo 169 3 172 (.goto 25) := ⟨by decide +kernel, rfl⟩
theorem dX1_comesTo_172 : dec cX1_comesTo 172 1 173 (.aload_n 2) := ⟨by decide +kernel, rfl⟩
theorem dX1_comesTo_173 : dec cX1_comesTo 173 1 174 (.iload_n 3) := ⟨by decide +kernel, rfl⟩
theorem dX1_comesTo_174 : dec cX1_comesTo 174 1 175 (.iconst 1) := ⟨by decide +kernel, rfl⟩
theorem dX1_comesTo_175 : dec cX1_comesTo 175 1 176 (.isub) := ⟨by decide +kernel, rfl⟩
theorem dX1_comesTo_176 : dec cX1_comesTo 176 2 178 (.iload 5) := ⟨by decide +kernel, rfl⟩
theorem dX1_comesTo_178 : dec cX1_comesTo 178 3 181 (.sipush 200) := ⟨by decide +kernel, rfl⟩
theorem dX1_comesTo_181 : dec cX1_comesTo 181 1 182 (.isub) := ⟨by decide +kernel, rfl⟩
theorem dX1_comesTo_182 : dec cX1_comesTo 182 1 183 (.aload_n 2) := ⟨by decide +kernel, rfl⟩
theorem dX1_comesTo_183 : dec cX1_comesTo 183 1 184 (.iload_n 3) := ⟨by decide +kernel, rfl⟩
theorem dX1_comesTo_184 : dec cX1_comesTo 184 1 185 (.iconst 1) := ⟨by decide +kernel, rfl⟩
theorem dX1_comesTo_185 : dec cX1_comesTo 185 1 186 (.isub) := ⟨by decide +kernel, rfl⟩
theorem dX1_comesTo_186 : dec cX1_comesTo 186 1 187 (.iaload) := ⟨by decide +kernel, rfl⟩
theorem dX1_comesTo_187 : dec cX1_comesTo 187 1 188 (.aload_n 2) := ⟨by decide +kernel, rfl⟩
theorem dX1_comesTo_188 : dec cX1_comesTo 188 1 189 (.iload_n 3) := ⟨by decide +kernel, rfl⟩
theorem dX1_comesTo_189 : dec cX1_comesTo 189 1 190 (.iaload) := ⟨by decide +kernel, rfl⟩
theorem dX1_comesTo_190 : dec cX1_comesTo 190 3 193 (.invokestatic 64) := ⟨by decide +kernel, rfl⟩
theorem dX1_comesTo_193 : dec cX1_comesTo 193 1 194 (.iastore) := ⟨by decide +kernel, rfl⟩
theorem dX1_comesTo_194 : dec cX1_comesTo 194 3 197 (.iinc 4 1) := ⟨by decide +kernel, rfl⟩
theorem dX1_comesTo_197 : dec cX1_comesTo 197 3 200 (.goto (-192)) := ⟨by decide +kernel, rfl⟩
theorem dX1_comesTo_200 : dec cX1_comesTo 200 1 201 (.aload_n 2) := ⟨by decide +kernel, rfl⟩
theorem dX1_comesTo_201 : dec cX1_comesTo 201 1 202 (.iconst 0) := ⟨by decide +kernel, rfl⟩
theorem dX1_comesTo_202 : dec cX1_comesTo 202 1 203 (.iaload) := ⟨by decide +kernel, rfl⟩
theorem dX1_comesTo_203 : dec cX1_comesTo 203 1 204 (.ireturn) := ⟨by decide +kernel, rfl⟩
set_option maxHeartbeats 4000000 in
set_option maxRecDepth 100000 in
theorem tX1_comesTo_J168 {X : Cx} {Y : Yx} {M0 : Mem} (hC : OKX X Y RX1 cX1_comesTo 7 (some .int) rmX1_comesTo) (hF : Y.2.2.2.2 = true) (hL : Lay M0) (Q : Int → Mem → Prop) (C5 : Int → Int → Mem → Prop)  (a0 : Nat) (a1 : Nat) (a2 : Nat) (x3 : Int) (x4 : Int) (xs0 : Int) (xs1 : Int) (as2 : Nat) (qa0 : 0 < a0 ∧ M0 0 a0 = kO 1) (qa1 : 0 < a1 ∧ M0 0 a1 = kA 0 5) (qa2 : 0 < a2 ∧ M0 0 a2 = kA 0 50) (qas2 : 0 < as2 ∧ M0 0 as2 = kA 0 50) (hC5 : ∀ (x3 : Int) (x4 : Int) (M : Mem), C5 x3 x4 M → WW X Y 7 rmX1_comesTo (QI Q) M0 0 0 5 [(0, vR Y.1 a0), (1, vR Y.1 a1), (2, vR Y.1 a2), (3, vI x3), (4, vI x4)] [] M) (M : Mem) (h : wX1_comesTo_J168 Q C5 a0 a1 a2 x3 x4 xs0 xs1 as2 M) : WW X Y 7 rmX1_comesTo (QI Q) M0 0 0 168 [(0, vR Y.1 a0), (1, vR Y.1 a1), (2, vR Y.1 a2), (3, vI x3), (4, vI x4)] [vI xs0, vI xs1, vR Y.1 as2] M := by
  unfold wX1_comesTo_J168 at h
  obtain ⟨i_15, h⟩ := h
  refine r_iast hC i_15 qas2.1 qas2.2 (by decide) dX1_comesTo_168 ?_
  refine r_nameM h (fun M_16 h => ?_)
  refine r_goto hC 194 dX1_comesTo_169 (by decide) ?_
  refine let_elim h (fun x4_17 e_18 h => ?_)
  refine r_iinc (lv' := [(4, vI x4_17), (0, vR Y.1 a0), (1, vR Y.1 a1), (2, vR Y.1 a2), (3, vI x3)]) hC 4 dX1_comesTo_194 rfl (by decide) e_18 rfl ?_
  refine r_goto hC 5 dX1_comesTo_197 (by decide) ?_
  refine r_sub [1, 2, 3, 4, 0] rfl ?_
  exact hC5 _ _ _ h
set_option maxHeartbeats 4000000 in
set_option maxRecDepth 100000 in
theorem tX1_comesTo_J102 {X : Cx} {Y : Yx} {M0 : Mem} (hC : OKX X Y RX1 cX1_comesTo 7 (some .int) rmX1_comesTo) (hF : Y.2.2.2.2 = true) (hL : Lay M0) (Q : Int → Mem → Prop) (C5 : Int → Int → Mem → Prop)  (a0 : Nat) (a1 : Nat) (a2 : Nat) (x3 : Int) (x4 : Int) (x5 : Int) (xs0 : Int) (qa0 : 0 < a0 ∧ M0 0 a0 = kO 1) (qa1 : 0 < a1 ∧ M0 0 a1 = kA 0 5) (qa2 : 0 < a2 ∧ M0 0 a2 = kA 0 50) (hC5 : ∀ (x3 : Int) (x4 : Int) (M : Mem), C5 x3 x4 M → WW X Y 7 rmX1_comesTo (QI Q) M0 0 0 5 [(0, vR Y.1 a0), (1, vR Y.1 a1), (2, vR Y.1 a2), (3, vI x3), (4, vI x4)] [] M) (M : Mem) (h : wX1_comesTo_J102 Q C5 a0 a1 a2 x3 x4 x5 xs0 M) : WW X Y 7 rmX1_comesTo (QI Q) M0 0 0 102 [(0, vR Y.1 a0), (1, vR Y.1 a1), (2, vR Y.1 a2), (3, vI x3), (4, vI x4), (5, vI x5)] [vI xs0] M := by
  unfold wX1_comesTo_J102 at h
  refine r_istore (lv' := [(6, vI xs0), (0, vR Y.1 a0), (1, vR Y.1 a1), (2, vR Y.1 a2), (3, vI x3), (4, vI x4), (5, vI x5)]) hC dX1_comesTo_102 (by decide) rfl ?_
  refine r_iload_n hC 4 dX1_comesTo_104 rfl rfl ?_
  refine r_iload hC 0 dX1_comesTo_105 rfl ?_
  refine r_icmp_ge hC 112 rfl rfl dX1_comesTo_107 (by decide) (fun cq => ?_) (fun cq => ?_)
  · replace h := h.1 cq
    refine r_iload_n hC 4 dX1_comesTo_112 rfl rfl ?_
    refine r_iload hC 0 dX1_comesTo_113 rfl ?_
    refine r_iconst hC dX1_comesTo_115 ?_
    refine r_isub hC dX1_comesTo_116 ?_
    refine r_isub hC dX1_comesTo_117 ?_
    refine r_nameI h (fun x3_4 h => ?_)
    refine r_istore_n (lv' := [(3, vI x3_4), (6, vI xs0), (0, vR Y.1 a0), (1, vR Y.1 a1), (2, vR Y.1 a2), (4, vI x4), (5, vI x5)]) hC dX1_comesTo_118 rfl (by decide) rfl ?_
    refine r_iload hC 1 dX1_comesTo_119 rfl ?_
    refine r_iconst hC dX1_comesTo_121 ?_
    refine r_icmp_ne hC 139 rfl bmL_1 dX1_comesTo_122 (by decide) (fun cq => ?_) (fun cq => ?_)
    · replace h := h.2 cq
      refine r_iload hC 1 dX1_comesTo_139 rfl ?_
      refine r_iconst hC dX1_comesTo_141 ?_
      refine r_icmp_ne hC 172 rfl bmL_3 dX1_comesTo_142 (by decide) (fun cq => ?_) (fun cq => ?_)
      · replace h := h.2 cq
        refine r_aload_n hC 4 dX1_comesTo_172 rfl rfl ?_
        refine r_iload_n hC 0 dX1_comesTo_173 rfl rfl ?_
        refine r_iconst hC dX1_comesTo_174 ?_
        refine r_isub hC dX1_comesTo_175 ?_
        refine r_iload hC 6 dX1_comesTo_176 rfl ?_
        refine r_sipush hC (by decide +kernel) dX1_comesTo_178 ?_
        refine r_isub hC dX1_comesTo_181 ?_
        refine r_aload_n hC 4 dX1_comesTo_182 rfl rfl ?_
        refine r_iload_n hC 0 dX1_comesTo_183 rfl rfl ?_
        refine r_iconst hC dX1_comesTo_184 ?_
        refine r_isub hC dX1_comesTo_185 ?_
        obtain ⟨i_5, h⟩ := h
        refine r_iald hC i_5 qa2.1 qa2.2 (by decide) dX1_comesTo_186 ?_
        refine r_aload_n hC 4 dX1_comesTo_187 rfl rfl ?_
        refine r_iload_n hC 0 dX1_comesTo_188 rfl rfl ?_
        obtain ⟨i_6, h⟩ := h
        refine r_iald hC i_6 qa2.1 qa2.2 (by decide) dX1_comesTo_189 ?_
        refine r_callS (As := [vI (x5 - 200), vI (rd M a2 (x3_4 - 1)), vI (rd M a2 x3_4)]) (st := [vI (x3_4 - 1), vR Y.1 a2]) hC cw_X1_64 rfl rfl (Nat.le_of_ble_eq_true rfl) ⟨Nat.le_of_ble_eq_true rfl, Nat.le_of_ble_eq_true rfl⟩ ⟨Nat.le_of_ble_eq_true rfl, Nat.le_of_ble_eq_true rfl⟩ dX1_comesTo_190 (fun hk => mX1_joined Y hF _ _ _ _ _ _  h) (fun v M_7 h => ?_)
        obtain ⟨r_8, rfl, h⟩ := h
        obtain ⟨i_9, h⟩ := h
        refine r_iast hC i_9 qa2.1 qa2.2 (by decide) dX1_comesTo_193 ?_
        refine r_nameM h (fun M_10 h => ?_)
        refine let_elim h (fun x4_11 e_12 h => ?_)
        refine r_iinc (lv' := [(4, vI x4_11), (3, vI x3_4), (6, vI xs0), (0, vR Y.1 a0), (1, vR Y.1 a1), (2, vR Y.1 a2), (5, vI x5)]) hC 5 dX1_comesTo_194 rfl (by decide) e_12 rfl ?_
        refine r_goto hC 5 dX1_comesTo_197 (by decide) ?_
        refine r_sub [3, 4, 5, 1, 0] rfl ?_
        exact hC5 _ _ _ h
      · replace h := h.1 cq
        refine r_aload_n hC 4 dX1_comesTo_145 rfl rfl ?_
        refine r_iload_n hC 0 dX1_comesTo_146 rfl rfl ?_
        refine r_iconst hC dX1_comesTo_147 ?_
        refine r_isub hC dX1_comesTo_148 ?_
        refine r_aload_n hC 4 dX1_comesTo_149 rfl rfl ?_
        refine r_iload_n hC 0 dX1_comesTo_150 rfl rfl ?_
        refine r_iconst hC dX1_comesTo_151 ?_
        refine r_isub hC dX1_comesTo_152 ?_
        obtain ⟨i_13, h⟩ := h
        refine r_iald hC i_13 qa2.1 qa2.2 (by decide) dX1_comesTo_153 ?_
        refine r_if_eq hC 163 rfl dX1_comesTo_154 (by decide) (fun cq => ?_) (fun cq => ?_)
        · replace h := h.1 cq
          refine r_aload_n hC 4 dX1_comesTo_163 rfl rfl ?_
          refine r_iload_n hC 0 dX1_comesTo_164 rfl rfl ?_
          refine r_iconst hC dX1_comesTo_165 ?_
          refine r_iadd hC dX1_comesTo_166 ?_
          obtain ⟨i_14, h⟩ := h
          refine r_iald hC i_14 qa2.1 qa2.2 (by decide) dX1_comesTo_167 ?_
          refine r_sub [2, 3, 4, 0, 5] rfl ?_
          exact tX1_comesTo_J168 hC hF hL Q _  _ _ _ _ _ _ _ _ qa0 qa1 qa2 qa2 hC5 _ h
        · replace h := h.2 cq
          refine r_aload_n hC 4 dX1_comesTo_157 rfl rfl ?_
          refine r_iload_n hC 0 dX1_comesTo_158 rfl rfl ?_
          obtain ⟨i_19, h⟩ := h
          refine r_iald hC i_19 qa2.1 qa2.2 (by decide) dX1_comesTo_159 ?_
          refine r_goto hC 168 dX1_comesTo_160 (by decide) ?_
          refine r_sub [2, 3, 4, 0, 5] rfl ?_
          exact tX1_comesTo_J168 hC hF hL Q _  _ _ _ _ _ _ _ _ qa0 qa1 qa2 qa2 hC5 _ h
    · replace h := h.1 cq
      refine r_aload_n hC 4 dX1_comesTo_125 rfl rfl ?_
      refine r_iload_n hC 0 dX1_comesTo_126 rfl rfl ?_
      refine r_iconst hC dX1_comesTo_127 ?_
      refine r_isub hC dX1_comesTo_128 ?_
      refine r_aload_n hC 4 dX1_comesTo_129 rfl rfl ?_
      refine r_iload_n hC 0 dX1_comesTo_130 rfl rfl ?_
      refine r_iconst hC dX1_comesTo_131 ?_
      refine r_isub hC dX1_comesTo_132 ?_
      obtain ⟨i_20, h⟩ := h
      refine r_iald hC i_20 qa2.1 qa2.2 (by decide) dX1_comesTo_133 ?_
      refine r_ineg hC dX1_comesTo_134 ?_
      obtain ⟨i_21, h⟩ := h
      refine r_iast hC i_21 qa2.1 qa2.2 (by decide) dX1_comesTo_135 ?_
      refine r_nameM h (fun M_22 h => ?_)
      refine r_goto hC 194 dX1_comesTo_136 (by decide) ?_
      refine let_elim h (fun x4_23 e_24 h => ?_)
      refine r_iinc (lv' := [(4, vI x4_23), (3, vI x3_4), (6, vI xs0), (0, vR Y.1 a0), (1, vR Y.1 a1), (2, vR Y.1 a2), (5, vI x5)]) hC 5 dX1_comesTo_194 rfl (by decide) e_24 rfl ?_
      refine r_goto hC 5 dX1_comesTo_197 (by decide) ?_
      refine r_sub [3, 4, 5, 1, 0] rfl ?_
      exact hC5 _ _ _ h
  · replace h := h.2 cq
    refine r_iconst hC dX1_comesTo_110 ?_
    exact r_iret hC (Nat.zero_le _) (Nat.zero_le _) dX1_comesTo_111 ⟨_, rfl, h⟩
set_option maxHeartbeats 4000000 in
set_option maxRecDepth 100000 in
theorem tX1_comesTo_J70 {X : Cx} {Y : Yx} {M0 : Mem} (hC : OKX X Y RX1 cX1_comesTo 7 (some .int) rmX1_comesTo) (hF : Y.2.2.2.2 = true) (hL : Lay M0) (Q : Int → Mem → Prop) (C5 : Int → Int → Mem → Prop)  (a0 : Nat) (a1 : Nat) (a2 : Nat) (x3 : Int) (x4 : Int) (xs0 : Int) (xs1 : Int) (as2 : Nat) (qa0 : 0 < a0 ∧ M0 0 a0 = kO 1) (qa1 : 0 < a1 ∧ M0 0 a1 = kA 0 5) (qa2 : 0 < a2 ∧ M0 0 a2 = kA 0 50) (qas2 : 0 < as2 ∧ M0 0 as2 = kA 0 50) (hC5 : ∀ (x3 : Int) (x4 : Int) (M : Mem), C5 x3 x4 M → WW X Y 7 rmX1_comesTo (QI Q) M0 0 0 5 [(0, vR Y.1 a0), (1, vR Y.1 a1), (2, vR Y.1 a2), (3, vI x3), (4, vI x4)] [] M) (M : Mem) (h : wX1_comesTo_J70 Q C5 a0 a1 a2 x3 x4 xs0 xs1 as2 M) : WW X Y 7 rmX1_comesTo (QI Q) M0 0 0 70 [(0, vR Y.1 a0), (1, vR Y.1 a1), (2, vR Y.1 a2), (3, vI x3), (4, vI x4)] [vI xs0, vI xs1, vR Y.1 as2] M := by
  unfold wX1_comesTo_J70 at h
  obtain ⟨i_26, h⟩ := h
  refine r_iast hC i_26 qas2.1 qas2.2 (by decide) dX1_comesTo_70 ?_
  refine r_nameM h (fun M_27 h => ?_)
  refine let_elim h (fun x3_28 e_29 h => ?_)
  refine r_iinc (lv' := [(3, vI x3_28), (0, vR Y.1 a0), (1, vR Y.1 a1), (2, vR Y.1 a2), (4, vI x4)]) hC 3 dX1_comesTo_71 rfl (by decide) e_29 rfl ?_
  refine r_goto hC 194 dX1_comesTo_74 (by decide) ?_
  refine let_elim h (fun x4_30 e_31 h => ?_)
  refine r_iinc (lv' := [(4, vI x4_30), (3, vI x3_28), (0, vR Y.1 a0), (1, vR Y.1 a1), (2, vR Y.1 a2)]) hC 4 dX1_comesTo_194 rfl (by decide) e_31 rfl ?_
  refine r_goto hC 5 dX1_comesTo_197 (by decide) ?_
  refine r_sub [2, 3, 4, 1, 0] rfl ?_
  exact hC5 _ _ _ h
set_option maxHeartbeats 4000000 in
set_option maxRecDepth 100000 in
theorem tX1_comesTo_L5 {X : Cx} {Y : Yx} {M0 : Mem} (hC : OKX X Y RX1 cX1_comesTo 7 (some .int) rmX1_comesTo) (hF : Y.2.2.2.2 = true) (hL : Lay M0) (Q : Int → Mem → Prop)  (a0 : Nat) (a1 : Nat) (a2 : Nat) (qa0 : 0 < a0 ∧ M0 0 a0 = kO 1) (qa1 : 0 < a1 ∧ M0 0 a1 = kA 0 5) (qa2 : 0 < a2 ∧ M0 0 a2 = kA 0 50)  : ∀ (N : Nat) (x3 : Int) (x4 : Int) (M : Mem) (_ : wX1_comesTo_L5 Q  a0 a1 a2 N x3 x4 M), WW X Y 7 rmX1_comesTo (QI Q) M0 0 0 5 [(0, vR Y.1 a0), (1, vR Y.1 a1), (2, vR Y.1 a2), (3, vI x3), (4, vI x4)] [] M := by
  intro N
  induction N with
  | zero =>
    intro x3 x4 M h
    exact h.elim
  | succ N ih =>
    intro x3 x4 M h
    unfold wX1_comesTo_L5 at h
    refine r_iload hC 4 dX1_comesTo_5 rfl ?_
    refine r_aload_n hC 0 dX1_comesTo_7 rfl rfl ?_
    refine r_getI hC fg_X1_32 rfl qa0.1 qa0.2 dX1_comesTo_8 ?_
    refine r_icmp_ge hC 200 rfl rfl dX1_comesTo_11 (by decide) (fun cq => ?_) (fun cq => ?_)
    · replace h := h.1 cq
      refine r_aload_n hC 2 dX1_comesTo_200 rfl rfl ?_
      refine r_iconst hC dX1_comesTo_201 ?_
      refine r_iald hC ⟨by decide +kernel, by decide +kernel⟩ qa2.1 qa2.2 (by decide) dX1_comesTo_202 ?_
      exact r_iret hC (Nat.zero_le _) (Nat.zero_le _) dX1_comesTo_203 ⟨_, rfl, h⟩
    · replace h := h.2 cq
      refine r_aload_n hC 0 dX1_comesTo_14 rfl rfl ?_
      have q_1 : 0 < a0 + 1 ∧ M0 0 (a0 + 1) = kA 0 50 := lay_f0 (a := a0) hL qa0 fm_1_6
      refine r_getR0 (a' := a0 + 1) hC fg_X1_15 rfl hF fm_1_6 qa0.1 qa0.2 rfl dX1_comesTo_15 ?_
      refine r_iload hC 4 dX1_comesTo_18 rfl ?_
      obtain ⟨i_2, h⟩ := h
      refine r_iald hC i_2 q_1.1 q_1.2 (by decide) dX1_comesTo_20 ?_
      refine r_nameI h (fun x5_3 h => ?_)
      refine r_istore (lv' := [(5, vI x5_3), (0, vR Y.1 a0), (1, vR Y.1 a1), (2, vR Y.1 a2), (3, vI x3), (4, vI x4)]) hC dX1_comesTo_21 (by decide) rfl ?_
      refine r_iload hC 0 dX1_comesTo_23 rfl ?_
      refine r_sipush hC (by decide +kernel) dX1_comesTo_25 ?_
      refine r_icmp_ge hC 77 rfl bmL_200 dX1_comesTo_28 (by decide) (fun cq => ?_) (fun cq => ?_)
      · replace h := h.1 cq
        refine r_iload hC 0 dX1_comesTo_77 rfl ?_
        refine r_sipush hC (by decide +kernel) dX1_comesTo_79 ?_
        refine r_icmp_ne hC 89 rfl bmL_326 dX1_comesTo_82 (by decide) (fun cq => ?_) (fun cq => ?_)
        · replace h := h.2 cq
          refine r_iload hC 0 dX1_comesTo_89 rfl ?_
          refine r_sipush hC (by decide +kernel) dX1_comesTo_91 ?_
          refine r_icmp_ne hC 101 rfl bmL_263 dX1_comesTo_94 (by decide) (fun cq => ?_) (fun cq => ?_)
          · replace h := h.2 cq
            refine r_iconst hC dX1_comesTo_101 ?_
            refine r_sub [1, 2, 3, 4, 5, 0] rfl ?_
            exact tX1_comesTo_J102 hC hF hL Q _  _ _ _ _ _ _ _ qa0 qa1 qa2 ih _ h
          · replace h := h.1 cq
            refine r_iconst hC dX1_comesTo_97 ?_
            refine r_goto hC 102 dX1_comesTo_98 (by decide) ?_
            refine r_sub [1, 2, 3, 4, 5, 0] rfl ?_
            exact tX1_comesTo_J102 hC hF hL Q _  _ _ _ _ _ _ _ qa0 qa1 qa2 ih _ h
        · replace h := h.1 cq
          refine r_iconst hC dX1_comesTo_85 ?_
          refine r_goto hC 102 dX1_comesTo_86 (by decide) ?_
          refine r_sub [1, 2, 3, 4, 5, 0] rfl ?_
          exact tX1_comesTo_J102 hC hF hL Q _  _ _ _ _ _ _ _ qa0 qa1 qa2 ih _ h
      · replace h := h.2 cq
        refine r_iload_n hC 4 dX1_comesTo_31 rfl rfl ?_
        refine r_aload_n hC 3 dX1_comesTo_32 rfl rfl ?_
        refine r_alen hC (by decide) qa2.1 qa2.2 (by decide) dX1_comesTo_33 ?_
        refine r_icmp_ge hC 47 rfl bmL_50 dX1_comesTo_34 (by decide) (fun cq => ?_) (fun cq => ?_)
        · replace h := h.1 cq
          refine r_iconst hC dX1_comesTo_47 ?_
          exact r_iret hC (Nat.zero_le _) (Nat.zero_le _) dX1_comesTo_48 ⟨_, rfl, h⟩
        · replace h := h.2 cq
          refine r_iload hC 0 dX1_comesTo_37 rfl ?_
          refine r_bipush hC (by decide +kernel) dX1_comesTo_39 ?_
          refine r_isub hC dX1_comesTo_41 ?_
          refine r_aload_n hC 2 dX1_comesTo_42 rfl rfl ?_
          refine r_alen hC (by decide) qa1.1 qa1.2 (by decide) dX1_comesTo_43 ?_
          refine r_icmp_lt hC 49 rfl bmL_5 dX1_comesTo_44 (by decide) (fun cq => ?_) (fun cq => ?_)
          · replace h := h.1 cq
            refine r_aload_n hC 3 dX1_comesTo_49 rfl rfl ?_
            refine r_iload_n hC 4 dX1_comesTo_50 rfl rfl ?_
            refine r_iload hC 0 dX1_comesTo_51 rfl ?_
            refine r_bipush hC (by decide +kernel) dX1_comesTo_53 ?_
            refine r_icmp_ge hC 63 rfl bmL_100 dX1_comesTo_55 (by decide) (fun cq => ?_) (fun cq => ?_)
            · replace h := h.1 cq
              refine r_aload_n hC 2 dX1_comesTo_63 rfl rfl ?_
              refine r_iload hC 0 dX1_comesTo_64 rfl ?_
              refine r_bipush hC (by decide +kernel) dX1_comesTo_66 ?_
              refine r_isub hC dX1_comesTo_68 ?_
              obtain ⟨i_25, h⟩ := h
              refine r_iald hC i_25 qa1.1 qa1.2 (by decide) dX1_comesTo_69 ?_
              refine r_sub [1, 2, 3, 4, 5] rfl ?_
              exact tX1_comesTo_J70 hC hF hL Q _  _ _ _ _ _ _ _ _ qa0 qa1 qa2 qa2 ih _ h
            · replace h := h.2 cq
              refine r_iload hC 0 dX1_comesTo_58 rfl ?_
              refine r_goto hC 70 dX1_comesTo_60 (by decide) ?_
              refine r_sub [1, 2, 3, 4, 5] rfl ?_
              exact tX1_comesTo_J70 hC hF hL Q _  _ _ _ _ _ _ _ _ qa0 qa1 qa2 qa2 ih _ h
          · replace h := h.2 cq
            refine r_iconst hC dX1_comesTo_47 ?_
            exact r_iret hC (Nat.zero_le _) (Nat.zero_le _) dX1_comesTo_48 ⟨_, rfl, h⟩
set_option maxHeartbeats 4000000 in
set_option maxRecDepth 100000 in
theorem mX1_comesTo (Y : Yx) (hF : Y.2.2.2.2 = true) (l : Launch) (a0 : Nat) (a1 : Nat) (a2 : Nat) (M0 : Mem) (Q : Int → Mem → Prop) (qa0 : 0 < a0 ∧ M0 0 a0 = kO 1) (qa1 : 0 < a1 ∧ M0 0 a1 = kA 0 5) (qa2 : 0 < a2 ∧ M0 0 a2 = kA 0 50) (h : wX1_comesTo a0 a1 a2 M0 Q) : CT Y l yX1_comesTo cX1_comesTo 7 (some .int) rmX1_comesTo [vR Y.1 a0, vR Y.1 a1, vR Y.1 a2] M0 (QI Q) := by
  unfold wX1_comesTo at h
  refine ct_intro (by decide) (Nat.le_of_ble_eq_true rfl) ?_
  intro X hXl hC hL0
  have hL := hL0 hF
  change OKX X Y RX1 cX1_comesTo 7 (some .int) rmX1_comesTo at hC
  change WW X Y 7 rmX1_comesTo (QI Q) M0 0 0 0 [(0, vR Y.1 a0), (1, vR Y.1 a1), (2, vR Y.1 a2)] [] M0
  refine r_iconst hC dX1_comesTo_0 ?_
  refine r_istore_n (lv' := [(3, vI 0), (0, vR Y.1 a0), (1, vR Y.1 a1), (2, vR Y.1 a2)]) hC dX1_comesTo_1 rfl (by decide) rfl ?_
  refine r_iconst hC dX1_comesTo_2 ?_
  refine r_istore (lv' := [(4, vI 0), (3, vI 0), (0, vR Y.1 a0), (1, vR Y.1 a1), (2, vR Y.1 a2)]) hC dX1_comesTo_3 (by decide) rfl ?_
  refine r_sub [2, 3, 4, 1, 0] rfl ?_
  obtain ⟨N_32, h⟩ := h
  refine tX1_comesTo_L5 hC hF hL Q  _ _ _ qa0 qa1 qa2  N_32 _ _ _ h
theorem dJ6_bitCount_0f7a4_0 : dec cJ6_bitCount_0f7a4 0 1 1 (.iload_n 0) := ⟨by decide +kernel, rfl⟩
theorem dJ6_bitCount_0f7a4_1 : dec cJ6_bitCount_0f7a4 1 1 2 (.iload_n 0) := ⟨by decide +kernel, rfl⟩
theorem dJ6_bitCount_0f7a4_2 : dec cJ6_bitCount_0f7a4 2 1 3 (.iconst 1) := ⟨by decide +kernel, rfl⟩
theorem dJ6_bitCount_0f7a4_3 : dec cJ6_bitCount_0f7a4 3 1 4 (.iushr) := ⟨by decide +kernel, rfl⟩
theorem dJ6_bitCount_0f7a4_4 : dec cJ6_bitCount_0f7a4 4 3 7 (.ldc_w 265) := ⟨by decide +kernel, rfl⟩
theorem dJ6_bitCount_0f7a4_7 : dec cJ6_bitCount_0f7a4 7 1 8 (.iand) := ⟨by decide +kernel, rfl⟩
theorem dJ6_bitCount_0f7a4_8 : dec cJ6_bitCount_0f7a4 8 1 9 (.isub) := ⟨by decide +kernel, rfl⟩
theorem dJ6_bitCount_0f7a4_9 : dec cJ6_bitCount_0f7a4 9 1 10 (.istore_n 0) := ⟨by decide +kernel, rfl⟩
theorem dJ6_bitCount_0f7a4_10 : dec cJ6_bitCount_0f7a4 10 1 11 (.iload_n 0) := ⟨by decide +kernel, rfl⟩
theorem dJ6_bitCount_0f7a4_11 : dec cJ6_bitCount_0f7a4 11 3 14 (.ldc_w 266) := ⟨by decide +kernel, rfl⟩
theorem dJ6_bitCount_0f7a4_14 : dec cJ6_bitCount_0f7a4 14 1 15 (.iand) := ⟨by decide +kernel, rfl⟩
theorem dJ6_bitCount_0f7a4_15 : dec cJ6_bitCount_0f7a4 15 1 16 (.iload_n 0) := ⟨by decide +kernel, rfl⟩
theorem dJ6_bitCount_0f7a4_16 : dec cJ6_bitCount_0f7a4 16 1 17 (.iconst 2) := ⟨by decide +kernel, rfl⟩
theorem dJ6_bitCount_0f7a4_17 : dec cJ6_bitCount_0f7a4 17 1 18 (.iushr) := ⟨by decide +kernel, rfl⟩
theorem dJ6_bitCount_0f7a4_18 : dec cJ6_bitCount_0f7a4 18 3 21 (.ldc_w 266) := ⟨by decide +kernel, rfl⟩
theorem dJ6_bitCount_0f7a4_21 : dec cJ6_bitCount_0f7a4 21 1 22 (.iand) := ⟨by decide +kernel, rfl⟩
theorem dJ6_bitCount_0f7a4_22 : dec cJ6_bitCount_0f7a4 22 1 23 (.iadd) := ⟨by decide +kernel, rfl⟩
theorem dJ6_bitCount_0f7a4_23 : dec cJ6_bitCount_0f7a4 23 1 24 (.istore_n 0) := ⟨by decide +kernel, rfl⟩
theorem dJ6_bitCount_0f7a4_24 : dec cJ6_bitCount_0f7a4 24 1 25 (.iload_n 0) := ⟨by decide +kernel, rfl⟩
theorem dJ6_bitCount_0f7a4_25 : dec cJ6_bitCount_0f7a4 25 1 26 (.iload_n 0) := ⟨by decide +kernel, rfl⟩
theorem dJ6_bitCount_0f7a4_26 : dec cJ6_bitCount_0f7a4 26 1 27 (.iconst 4) := ⟨by decide +kernel, rfl⟩
theorem dJ6_bitCount_0f7a4_27 : dec cJ6_bitCount_0f7a4 27 1 28 (.iushr) := ⟨by decide +kernel, rfl⟩
theorem dJ6_bitCount_0f7a4_28 : dec cJ6_bitCount_0f7a4 28 1 29 (.iadd) := ⟨by decide +kernel, rfl⟩
theorem dJ6_bitCount_0f7a4_29 : dec cJ6_bitCount_0f7a4 29 3 32 (.ldc_w 267) := ⟨by decide +kernel, rfl⟩
theorem dJ6_bitCount_0f7a4_32 : dec cJ6_bitCount_0f7a4 32 1 33 (.iand) := ⟨by decide +kernel, rfl⟩
theorem dJ6_bitCount_0f7a4_33 : dec cJ6_bitCount_0f7a4 33 1 34 (.istore_n 0) := ⟨by decide +kernel, rfl⟩
theorem dJ6_bitCount_0f7a4_34 : dec cJ6_bitCount_0f7a4 34 1 35 (.iload_n 0) := ⟨by decide +kernel, rfl⟩
theorem dJ6_bitCount_0f7a4_35 : dec cJ6_bitCount_0f7a4 35 1 36 (.iload_n 0) := ⟨by decide +kernel, rfl⟩
theorem dJ6_bitCount_0f7a4_36 : dec cJ6_bitCount_0f7a4 36 2 38 (.bipush 8) := ⟨by decide +kernel, rfl⟩
theorem dJ6_bitCount_0f7a4_38 : dec cJ6_bitCount_0f7a4 38 1 39 (.iushr) := ⟨by decide +kernel, rfl⟩
theorem dJ6_bitCount_0f7a4_39 : dec cJ6_bitCount_0f7a4 39 1 40 (.iadd) := ⟨by decide +kernel, rfl⟩
theorem dJ6_bitCount_0f7a4_40 : dec cJ6_bitCount_0f7a4 40 1 41 (.istore_n 0) := ⟨by decide +kernel, rfl⟩
theorem dJ6_bitCount_0f7a4_41 : dec cJ6_bitCount_0f7a4 41 1 42 (.iload_n 0) := ⟨by decide +kernel, rfl⟩
theorem dJ6_bitCount_0f7a4_42 : dec cJ6_bitCount_0f7a4 42 1 43 (.iload_n 0) := ⟨by decide +kernel, rfl⟩
theorem dJ6_bitCount_0f7a4_43 : dec cJ6_bitCount_0f7a4 43 2 45 (.bipush 16) := ⟨by decide +kernel, rfl⟩
theorem dJ6_bitCount_0f7a4_45 : dec cJ6_bitCount_0f7a4 45 1 46 (.iushr) := ⟨by decide +kernel, rfl⟩
theorem dJ6_bitCount_0f7a4_46 : dec cJ6_bitCount_0f7a4 46 1 47 (.iadd) := ⟨by decide +kernel, rfl⟩
theorem dJ6_bitCount_0f7a4_47 : dec cJ6_bitCount_0f7a4 47 1 48 (.istore_n 0) := ⟨by decide +kernel, rfl⟩
theorem dJ6_bitCount_0f7a4_48 : dec cJ6_bitCount_0f7a4 48 1 49 (.iload_n 0) := ⟨by decide +kernel, rfl⟩
theorem dJ6_bitCount_0f7a4_49 : dec cJ6_bitCount_0f7a4 49 2 51 (.bipush 63) := ⟨by decide +kernel, rfl⟩
theorem dJ6_bitCount_0f7a4_51 : dec cJ6_bitCount_0f7a4 51 1 52 (.iand) := ⟨by decide +kernel, rfl⟩
theorem dJ6_bitCount_0f7a4_52 : dec cJ6_bitCount_0f7a4 52 1 53 (.ireturn) := ⟨by decide +kernel, rfl⟩
set_option maxHeartbeats 4000000 in
set_option maxRecDepth 100000 in
theorem mJ6_bitCount_0f7a4 (Y : Yx) (hF : Y.2.2.2.2 = true) (l : Launch) (x0 : Int) (M0 : Mem) (Q : Int → Mem → Prop)  (h : wJ6_bitCount_0f7a4 x0 M0 Q) : CT Y l yJ6_bitCount_0f7a4 cJ6_bitCount_0f7a4 1 (some .int) rmJ6_bitCount_0f7a4 [vI x0] M0 (QI Q) := by
  unfold wJ6_bitCount_0f7a4 at h
  refine ct_intro (by decide +kernel) (Nat.le_of_ble_eq_true rfl) ?_
  intro X hXl hC hL0
  have hL := hL0 hF
  change OKX X Y RJ6 cJ6_bitCount_0f7a4 1 (some .int) rmJ6_bitCount_0f7a4 at hC
  change WW X Y 1 rmJ6_bitCount_0f7a4 (QI Q) M0 0 0 0 [(0, vI x0)] [] M0
  refine r_iload_n hC 0 dJ6_bitCount_0f7a4_0 rfl rfl ?_
  refine r_iload_n hC 0 dJ6_bitCount_0f7a4_1 rfl rfl ?_
  refine r_iconst hC dJ6_bitCount_0f7a4_2 ?_
  refine r_iushr hC dJ6_bitCount_0f7a4_3 ?_
  refine r_ldcw hC kc_J6_265 dJ6_bitCount_0f7a4_4 ?_
  refine r_iand hC dJ6_bitCount_0f7a4_7 ?_
  refine r_isub hC dJ6_bitCount_0f7a4_8 ?_
  refine r_nameI h (fun x0_1 h => ?_)
  refine r_istore_n (lv' := [(0, vI x0_1)]) hC dJ6_bitCount_0f7a4_9 rfl (by decide) rfl ?_
  refine r_iload_n hC 0 dJ6_bitCount_0f7a4_10 rfl rfl ?_
  refine r_ldcw hC kc_J6_266 dJ6_bitCount_0f7a4_11 ?_
  refine r_iand hC dJ6_bitCount_0f7a4_14 ?_
  refine r_iload_n hC 0 dJ6_bitCount_0f7a4_15 rfl rfl ?_
  refine r_iconst hC dJ6_bitCount_0f7a4_16 ?_
  refine r_iushr hC dJ6_bitCount_0f7a4_17 ?_
  refine r_ldcw hC kc_J6_266 dJ6_bitCount_0f7a4_18 ?_
  refine r_iand hC dJ6_bitCount_0f7a4_21 ?_
  refine r_iadd hC dJ6_bitCount_0f7a4_22 ?_
  refine r_nameI h (fun x0_2 h => ?_)
  refine r_istore_n (lv' := [(0, vI x0_2)]) hC dJ6_bitCount_0f7a4_23 rfl (by decide) rfl ?_
  refine r_iload_n hC 0 dJ6_bitCount_0f7a4_24 rfl rfl ?_
  refine r_iload_n hC 0 dJ6_bitCount_0f7a4_25 rfl rfl ?_
  refine r_iconst hC dJ6_bitCount_0f7a4_26 ?_
  refine r_iushr hC dJ6_bitCount_0f7a4_27 ?_
  refine r_iadd hC dJ6_bitCount_0f7a4_28 ?_
  refine r_ldcw hC kc_J6_267 dJ6_bitCount_0f7a4_29 ?_
  refine r_iand hC dJ6_bitCount_0f7a4_32 ?_
  refine r_nameI h (fun x0_3 h => ?_)
  refine r_istore_n (lv' := [(0, vI x0_3)]) hC dJ6_bitCount_0f7a4_33 rfl (by decide) rfl ?_
  refine r_iload_n hC 0 dJ6_bitCount_0f7a4_34 rfl rfl ?_
  refine r_iload_n hC 0 dJ6_bitCount_0f7a4_35 rfl rfl ?_
  refine r_bipush hC (by decide +kernel) dJ6_bitCount_0f7a4_36 ?_
  refine r_iushr hC dJ6_bitCount_0f7a4_38 ?_
  refine r_iadd hC dJ6_bitCount_0f7a4_39 ?_
  refine r_nameI h (fun x0_4 h => ?_)
  refine r_istore_n (lv' := [(0, vI x0_4)]) hC dJ6_bitCount_0f7a4_40 rfl (by decide) rfl ?_
  refine r_iload_n hC 0 dJ6_bitCount_0f7a4_41 rfl rfl ?_
  refine r_iload_n hC 0 dJ6_bitCount_0f7a4_42 rfl rfl ?_
  refine r_bipush hC (by decide +kernel) dJ6_bitCount_0f7a4_43 ?_
  refine r_iushr hC dJ6_bitCount_0f7a4_45 ?_
  refine r_iadd hC dJ6_bitCount_0f7a4_46 ?_
  refine r_nameI h (fun x0_5 h => ?_)
  refine r_istore_n (lv' := [(0, vI x0_5)]) hC dJ6_bitCount_0f7a4_47 rfl (by decide) rfl ?_
  refine r_iload_n hC 0 dJ6_bitCount_0f7a4_48 rfl rfl ?_
  refine r_bipush hC (by decide +kernel) dJ6_bitCount_0f7a4_49 ?_
  refine r_iand hC dJ6_bitCount_0f7a4_51 ?_
  exact r_iret hC (Nat.zero_le _) (Nat.zero_le _) dJ6_bitCount_0f7a4_52 ⟨_, rfl, h⟩
theorem dX3_carriedTo_0 : dec cX3_carriedTo 0 1 1 (.aload_n 0) := ⟨by decide +kernel, rfl⟩
theorem dX3_carriedTo_1 : dec cX3_carriedTo 1 3 4 (.getfield 22) := ⟨by decide +kernel, rfl⟩
theorem dX3_carriedTo_4 : dec cX3_carriedTo 4 1 5 (.aload_n 1) := ⟨by decide +kernel, rfl⟩
theorem dX3_carriedTo_5 : dec cX3_carriedTo 5 3 8 (.getfield 22) := ⟨by decide +kernel, rfl⟩
theorem dX3_carriedTo_8 : dec cX3_carriedTo 8 1 9 (.ixor) := ⟨by decide +kernel, rfl⟩
theorem dX3_carriedTo_9 : dec cX3_carriedTo 9 3 12 (.invokestatic 28) := ⟨by decide +kernel, rfl⟩
theorem dX3_carriedTo_12 : dec cX3_carriedTo 12 1 13 (.ireturn) := ⟨by decide +kernel, rfl⟩
set_option maxHeartbeats 4000000 in
set_option maxRecDepth 100000 in
theorem mX3_carriedTo (Y : Yx) (hF : Y.2.2.2.2 = true) (l : Launch) (a0 : Nat) (a1 : Nat) (M0 : Mem) (Q : Int → Mem → Prop) (qa0 : 0 < a0 ∧ M0 0 a0 = kO 3) (qa1 : 0 < a1 ∧ M0 0 a1 = kO 3) (h : wX3_carriedTo a0 a1 M0 Q) : CT Y l yX3_carriedTo cX3_carriedTo 2 (some .int) rmX3_carriedTo [vR Y.1 a0, vR Y.1 a1] M0 (QI Q) := by
  unfold wX3_carriedTo at h
  refine ct_intro (by decide) (Nat.le_of_ble_eq_true rfl) ?_
  intro X hXl hC hL0
  have hL := hL0 hF
  change OKX X Y RX3 cX3_carriedTo 2 (some .int) rmX3_carriedTo at hC
  change WW X Y 2 rmX3_carriedTo (QI Q) M0 0 0 0 [(0, vR Y.1 a0), (1, vR Y.1 a1)] [] M0
  refine r_aload_n hC 0 dX3_carriedTo_0 rfl rfl ?_
  refine r_getI hC fg_X3_22 rfl qa0.1 qa0.2 dX3_carriedTo_1 ?_
  refine r_aload_n hC 1 dX3_carriedTo_4 rfl rfl ?_
  refine r_getI hC fg_X3_22 rfl qa1.1 qa1.2 dX3_carriedTo_5 ?_
  refine r_ixor hC dX3_carriedTo_8 ?_
  refine r_callS (As := [vI (iXor (M0 a0 4) (M0 a1 4))]) (st := []) hC cw_X3_28 rfl rfl (Nat.le_of_ble_eq_true rfl) ⟨Nat.le_of_ble_eq_true rfl, Nat.le_of_ble_eq_true rfl⟩ ⟨Nat.le_of_ble_eq_true rfl, Nat.le_of_ble_eq_true rfl⟩ dX3_carriedTo_9 (fun hk => mJ6_bitCount_0f7a4 Y hF _ _ _ _  h) (fun v M_1 h => ?_)
  obtain ⟨r_2, rfl, h⟩ := h
  exact r_iret hC (Nat.zero_le _) (Nat.zero_le _) dX3_carriedTo_12 ⟨_, rfl, h⟩
theorem dX4_init_0 : dec cX4_init 0 1 1 (.aload_n 0) := ⟨by decide +kernel, rfl⟩
theorem dX4_init_1 : dec cX4_init 1 3 4 (.invokespecial 3) := ⟨by decide +kernel, rfl⟩
theorem dX4_init_4 : dec cX4_init 4 1 5 (.aload_n 0) := ⟨by decide +kernel, rfl⟩
theorem dX4_init_5 : dec cX4_init 5 2 7 (.bipush 50) := ⟨by decide +kernel, rfl⟩
theorem dX4_init_7 : dec cX4_init 7 2 9 (.newarray .int) := ⟨by decide +kernel, rfl⟩
theorem dX4_init_9 : dec cX4_init 9 3 12 (.putfield 9) := ⟨by decide +kernel, rfl⟩
theorem dX4_init_12 : dec cX4_init 12 1 13 (.aload_n 0) := ⟨by decide +kernel, rfl⟩
theorem dX4_init_13 : dec cX4_init 13 2 15 (.bipush 50) := ⟨by decide +kernel, rfl⟩
theorem dX4_init_15 : dec cX4_init 15 2 17 (.newarray .byte) := ⟨by decide +kernel, rfl⟩
theorem dX4_init_17 : dec cX4_init 17 3 20 (.putfield 15) := ⟨by decide +kernel, rfl⟩
theorem dX4_init_20 : dec cX4_init 20 1 21 (.aload_n 0) := ⟨by decide +kernel, rfl⟩
theorem dX4_init_21 : dec cX4_init 21 2 23 (.ldc 19) := ⟨by decide +kernel, rfl⟩
theorem dX4_init_23 : dec cX4_init 23 3 26 (.putfield 21) := ⟨by decide +kernel, rfl⟩
theorem dX4_init_26 : dec cX4_init 26 1 27 (.return_) := ⟨by decide +kernel, rfl⟩
set_option maxHeartbeats 4000000 in
set_option maxRecDepth 100000 in
theorem mX4_init (Y : Yx) (hF0 : Y.2.2.2.2 = false) (l : Launch) (a0 : Nat) (M0 : Mem) (Q : Mem → Prop) (qa0 : 0 < a0 ∧ M0 0 a0 = kO 4) (h : wX4_init a0 M0 Q) : CT Y l yX4_init cX4_init 1 none rmX4_init [vR Y.1 a0] M0 (QV Q) := by
  unfold wX4_init at h
  refine ct_introI (by decide) (Nat.le_of_ble_eq_true rfl) ?_
  intro X hXl hC hN
  change OKX X Y RX4 cX4_init 1 none rmX4_init at hC
  change nameX X = "<init>" at hN
  change WW X Y 1 rmX4_init (QV Q) M0 0 0 0 [(0, vR Y.1 a0)] [] M0
  refine r_aload_n hC 0 dX4_init_0 rfl rfl ?_
  refine r_objInit hC ob_X4_3 (Nat.le_of_ble_eq_true rfl) (Nat.le_of_ble_eq_true rfl) (Nat.le_of_ble_eq_true rfl) dX4_init_1 ?_
  refine r_aload_n hC 0 dX4_init_4 rfl rfl ?_
  refine r_bipush hC (by decide +kernel) dX4_init_5 ?_
  refine r_newarr (t := 0) (len := 50) hC (by decide) rfl ac_0 rfl (by decide) (by decide +kernel) ⟨Nat.le_of_ble_eq_true rfl, Nat.le_of_ble_eq_true rfl⟩ dX4_init_7 ?_
  refine r_widen (n' := 1) (k' := 50 * 1) (by omega) (by omega) ?_
  refine r_nameM h (fun M_2 h => ?_)
  obtain ⟨q_1, h⟩ := h
  refine r_base (fun hk hL0 => ?_)
  have qa0 := kqO hk qa0
  refine r_putF hC hN hF0 q_1.1 ff_X4_9 rfl (by first | exact Or.inl ⟨_, rfl⟩ | exact Or.inr ⟨_, rfl⟩) qa0.1 qa0.2 dX4_init_9 ?_
  refine r_nameM h (fun M_3 h => ?_)
  refine r_aload_n hC 0 dX4_init_12 rfl rfl ?_
  refine r_bipush hC (by decide +kernel) dX4_init_13 ?_
  refine r_newarr (t := 1) (len := 50) hC (by decide) rfl ac_1 rfl (by decide) (by decide +kernel) ⟨Nat.le_of_ble_eq_true rfl, Nat.le_of_ble_eq_true rfl⟩ dX4_init_15 ?_
  refine r_widen (n' := 2) (k' := 50 * 2) (by omega) (by omega) ?_
  refine r_nameM h (fun M_5 h => ?_)
  obtain ⟨q_4, h⟩ := h
  refine r_base (fun hk hL0 => ?_)
  have qa0 := kqO hk qa0
  refine r_putF hC hN hF0 q_4.1 ff_X4_15 rfl (by first | exact Or.inl ⟨_, rfl⟩ | exact Or.inr ⟨_, rfl⟩) qa0.1 qa0.2 dX4_init_17 ?_
  refine r_nameM h (fun M_6 h => ?_)
  refine r_aload_n hC 0 dX4_init_20 rfl rfl ?_
  refine r_ldcS (i := 5) (tx := "") hC (by decide +kernel) (by decide) dX4_init_21 ?_
  refine r_putS hC ⟨by decide, by decide⟩ fp_X4_21 rfl qa0.1 qa0.2 dX4_init_23 ?_
  refine r_nameM h (fun M_7 h => ?_)
  exact r_vret hC (by first | exact Nat.le_of_ble_eq_true rfl | (simp only [rmX4_init]; omega)) (by first | exact Nat.le_of_ble_eq_true rfl | (simp only [rmX4_init]; omega)) dX4_init_26 ⟨rfl, h⟩
theorem dJ9_max_7cf53_0 : dec cJ9_max_7cf53 0 1 1 (.iload_n 0) := ⟨by decide +kernel, rfl⟩
theorem dJ9_max_7cf53_1 : dec cJ9_max_7cf53 1 1 2 (.iload_n 1) := ⟨by decide +kernel, rfl⟩
theorem dJ9_max_7cf53_2 : dec cJ9_max_7cf53 2 3 5 (.if_icmp .lt 7) := ⟨by decide +kernel, rfl⟩
theorem dJ9_max_7cf53_5 : dec cJ9_max_7cf53 5 1 6 (.iload_n 0) := ⟨by decide +kernel, rfl⟩
theorem dJ9_max_7cf53_6 : dec cJ9_max_7cf53 6 3 9 (.goto 4) := ⟨by decide +kernel, rfl⟩
theorem dJ9_max_7cf53_9 : dec cJ9_max_7cf53 9 1 10 (.iload_n 1) := ⟨by decide +kernel, rfl⟩
theorem dJ9_max_7cf53_10 : dec cJ9_max_7cf53 10 1 11 (.ireturn) := ⟨by decide +kernel, rfl⟩
set_option maxHeartbeats 4000000 in
set_option maxRecDepth 100000 in
theorem mJ9_max_7cf53 (Y : Yx) (hF : Y.2.2.2.2 = true) (l : Launch) (x0 : Int) (x1 : Int) (M0 : Mem) (Q : Int → Mem → Prop)  (h : wJ9_max_7cf53 x0 x1 M0 Q) : CT Y l yJ9_max_7cf53 cJ9_max_7cf53 2 (some .int) rmJ9_max_7cf53 [vI x0, vI x1] M0 (QI Q) := by
  unfold wJ9_max_7cf53 at h
  refine ct_intro (by decide +kernel) (Nat.le_of_ble_eq_true rfl) ?_
  intro X hXl hC hL0
  have hL := hL0 hF
  change OKX X Y RJ9 cJ9_max_7cf53 2 (some .int) rmJ9_max_7cf53 at hC
  change WW X Y 2 rmJ9_max_7cf53 (QI Q) M0 0 0 0 [(0, vI x0), (1, vI x1)] [] M0
  refine r_iload_n hC 0 dJ9_max_7cf53_0 rfl rfl ?_
  refine r_iload_n hC 1 dJ9_max_7cf53_1 rfl rfl ?_
  refine r_icmp_lt hC 9 rfl rfl dJ9_max_7cf53_2 (by decide) (fun cq => ?_) (fun cq => ?_)
  · replace h := h.1 cq
    refine r_iload_n hC 1 dJ9_max_7cf53_9 rfl rfl ?_
    exact r_iret hC (Nat.zero_le _) (Nat.zero_le _) dJ9_max_7cf53_10 ⟨_, rfl, h⟩
  · replace h := h.2 cq
    refine r_iload_n hC 0 dJ9_max_7cf53_5 rfl rfl ?_
    refine r_goto hC 10 dJ9_max_7cf53_6 (by decide) ?_
    exact r_iret hC (Nat.zero_le _) (Nat.zero_le _) dJ9_max_7cf53_10 ⟨_, rfl, h⟩
theorem dX4_isAt_0 : dec cX4_isAt 0 1 1 (.aload_n 0) := ⟨by decide +kernel, rfl⟩
theorem dX4_isAt_1 : dec cX4_isAt 1 3 4 (.getfield 47) := ⟨by decide +kernel, rfl⟩
theorem dX4_isAt_4 : dec cX4_isAt 4 1 5 (.aload_n 0) := ⟨by decide +kernel, rfl⟩
theorem dX4_isAt_5 : dec cX4_isAt 5 3 8 (.getfield 34) := ⟨by decide +kernel, rfl⟩
theorem dX4_isAt_8 : dec cX4_isAt 8 3 11 (.if_icmp .ge 20) := ⟨by decide +kernel, rfl⟩
theorem dX4_isAt_11 : dec cX4_isAt 11 1 12 (.aload_n 0) := ⟨by decide +kernel, rfl⟩
theorem dX4_isAt_12 : dec cX4_isAt 12 3 15 (.getfield 15) := ⟨by decide +kernel, rfl⟩
theorem dX4_isAt_15 : dec cX4_isAt 15 1 16 (.aload_n 0) := ⟨by decide +kernel, rfl⟩
theorem dX4_isAt_16 : dec cX4_isAt 16 3 19 (.getfield 47) := ⟨by decide +kernel, rfl⟩
theorem dX4_isAt_19 : dec cX4_isAt 19 1 20 (.baload) := ⟨by decide +kernel, rfl⟩
theorem dX4_isAt_20 : dec cX4_isAt 20 1 21 (.iload_n 1) := ⟨by decide +kernel, rfl⟩
theorem dX4_isAt_21 : dec cX4_isAt 21 3 24 (.if_icmp .ne 7) := ⟨by decide +kernel, rfl⟩
theorem dX4_isAt_24 : dec cX4_isAt 24 1 25 (.iconst 1) := ⟨by decide +kernel, rfl⟩
theorem dX4_isAt_25 : dec cX4_isAt 25 3 28 (.goto 4) := ⟨by decide +kernel, rfl⟩
theorem dX4_isAt_28 : dec cX4_isAt 28 1 29 (.iconst 0) := ⟨by decide +kernel, rfl⟩
theorem dX4_isAt_29 : dec cX4_isAt 29 1 30 (.ireturn) := ⟨by decide +kernel, rfl⟩
set_option maxHeartbeats 4000000 in
set_option maxRecDepth 100000 in
theorem mX4_isAt (Y : Yx) (hF : Y.2.2.2.2 = true) (l : Launch) (a0 : Nat) (x1 : Int) (M0 : Mem) (Q : Int → Mem → Prop) (qa0 : 0 < a0 ∧ M0 0 a0 = kO 4) (h : wX4_isAt a0 x1 M0 Q) : CT Y l yX4_isAt cX4_isAt 2 (some .boolean) rmX4_isAt [vR Y.1 a0, vI x1] M0 (QI Q) := by
  unfold wX4_isAt at h
  refine ct_intro (by decide) (Nat.le_of_ble_eq_true rfl) ?_
  intro X hXl hC hL0
  have hL := hL0 hF
  change OKX X Y RX4 cX4_isAt 2 (some .boolean) rmX4_isAt at hC
  change WW X Y 2 rmX4_isAt (QI Q) M0 0 0 0 [(0, vR Y.1 a0), (1, vI x1)] [] M0
  refine r_aload_n hC 0 dX4_isAt_0 rfl rfl ?_
  refine r_getI hC fg_X4_47 rfl qa0.1 qa0.2 dX4_isAt_1 ?_
  refine r_aload_n hC 0 dX4_isAt_4 rfl rfl ?_
  refine r_getI hC fg_X4_34 rfl qa0.1 qa0.2 dX4_isAt_5 ?_
  refine r_icmp_ge hC 28 rfl rfl dX4_isAt_8 (by decide) (fun cq => ?_) (fun cq => ?_)
  · replace h := h.1 cq
    refine r_iconst hC dX4_isAt_28 ?_
    exact r_zret hC (Or.inl rfl) (Nat.zero_le _) (Nat.zero_le _) dX4_isAt_29 ⟨_, rfl, h⟩
  · replace h := h.2 cq
    refine r_aload_n hC 0 dX4_isAt_11 rfl rfl ?_
    have q_1 : 0 < a0 + 2 ∧ M0 0 (a0 + 2) = kA 1 50 := lay_f0 (a := a0) hL qa0 fm_4_2
    refine r_getR0 (a' := a0 + 2) hC fg_X4_15 rfl hF fm_4_2 qa0.1 qa0.2 rfl dX4_isAt_12 ?_
    refine r_aload_n hC 0 dX4_isAt_15 rfl rfl ?_
    refine r_getI hC fg_X4_47 rfl qa0.1 qa0.2 dX4_isAt_16 ?_
    obtain ⟨i_2, h⟩ := h
    refine r_bald hC i_2 q_1.1 q_1.2 (by decide) dX4_isAt_19 ?_
    refine r_iload_n hC 1 dX4_isAt_20 rfl rfl ?_
    refine r_icmp_ne hC 28 rfl rfl dX4_isAt_21 (by decide) (fun cq => ?_) (fun cq => ?_)
    · replace h := h.2 cq
      refine r_iconst hC dX4_isAt_28 ?_
      exact r_zret hC (Or.inl rfl) (Nat.zero_le _) (Nat.zero_le _) dX4_isAt_29 ⟨_, rfl, h⟩
    · replace h := h.1 cq
      refine r_iconst hC dX4_isAt_24 ?_
      refine r_goto hC 29 dX4_isAt_25 (by decide) ?_
      exact r_zret hC (Or.inr rfl) (Nat.zero_le _) (Nat.zero_le _) dX4_isAt_29 ⟨_, rfl, h⟩
theorem dX4_opensAnother_0 : dec cX4_opensAnother 0 1 1 (.aload_n 0) := ⟨by decide +kernel, rfl⟩
theorem dX4_opensAnother_1 : dec cX4_opensAnother 1 3 4 (.getfield 50) := ⟨by decide +kernel, rfl⟩
theorem dX4_opensAnother_4 : dec cX4_opensAnother 4 1 5 (.iconst 5) := ⟨by decide +kernel, rfl⟩
theorem dX4_opensAnother_5 : dec cX4_opensAnother 5 3 8 (.if_icmp .lt 5) := ⟨by decide +kernel, rfl⟩
theorem dX4_opensAnother_8 : dec cX4_opensAnother 8 1 9 (.iconst 0) := ⟨by decide +kernel, rfl⟩
theorem dX4_opensAnother_9 : dec cX4_opensAnother 9 1 10 (.ireturn) := ⟨by decide +kernel, rfl⟩
theorem dX4_opensAnother_10 : dec cX4_opensAnother 10 1 11 (.aload_n 0) := ⟨by decide +kernel, rfl⟩
theorem dX4_opensAnother_11 : dec cX4_opensAnother 11 1 12 (.dup) := ⟨by decide +kernel, rfl⟩
theorem dX4_opensAnother_12 : dec cX4_opensAnother 12 3 15 (.getfield 50) := ⟨by decide +kernel, rfl⟩
theorem dX4_opensAnother_15 : dec cX4_opensAnother 15 1 16 (.iconst 1) := ⟨by decide +kernel, rfl⟩
theorem dX4_opensAnother_16 : dec cX4_opensAnother 16 1 17 (.iadd) := ⟨by decide +kernel, rfl⟩
theorem dX4_opensAnother_17 : dec cX4_opensAnother 17 3 20 (.putfield 50) := ⟨by decide +kernel, rfl⟩
theorem dX4_opensAnother_20 : dec cX4_opensAnother 20 1 21 (.aload_n 0) := ⟨by decide +kernel, rfl⟩
theorem dX4_opensAnother_21 : dec cX4_opensAnother 21 1 22 (.dup) := ⟨by decide +kernel, rfl⟩
theorem dX4_opensAnother_22 : dec cX4_opensAnother 22 3 25 (.getfield 47) := ⟨by decide +kernel, rfl⟩
theorem dX4_opensAnother_25 : dec cX4_opensAnother 25 1 26 (.iconst 1) := ⟨by decide +kernel, rfl⟩
theorem dX4_opensAnother_26 : dec cX4_opensAnother 26 1 27 (.iadd) := ⟨by decide +kernel, rfl⟩
theorem dX4_opensAnother_27 : dec cX4_opensAnother 27 3 30 (.putfield 47) := ⟨by decide +kernel, rfl⟩
theorem dX4_opensAnother_30 : dec cX4_opensAnother 30 1 31 (.iconst 1) := ⟨by decide +kernel, rfl⟩
theorem dX4_opensAnother_31 : dec cX4_opensAnother 31 1 32 (.ireturn) := ⟨by decide +kernel, rfl⟩
set_option maxHeartbeats 4000000 in
set_option maxRecDepth 100000 in
theorem mX4_opensAnother (Y : Yx) (hF : Y.2.2.2.2 = true) (l : Launch) (a0 : Nat) (M0 : Mem) (Q : Int → Mem → Prop) (qa0 : 0 < a0 ∧ M0 0 a0 = kO 4) (h : wX4_opensAnother a0 M0 Q) : CT Y l yX4_opensAnother cX4_opensAnother 1 (some .boolean) rmX4_opensAnother [vR Y.1 a0] M0 (QI Q) := by
  unfold wX4_opensAnother at h
  refine ct_intro (by decide) (Nat.le_of_ble_eq_true rfl) ?_
  intro X hXl hC hL0
  have hL := hL0 hF
  change OKX X Y RX4 cX4_opensAnother 1 (some .boolean) rmX4_opensAnother at hC
  change WW X Y 1 rmX4_opensAnother (QI Q) M0 0 0 0 [(0, vR Y.1 a0)] [] M0
  refine r_aload_n hC 0 dX4_opensAnother_0 rfl rfl ?_
  refine r_getI hC fg_X4_50 rfl qa0.1 qa0.2 dX4_opensAnother_1 ?_
  refine r_iconst hC dX4_opensAnother_4 ?_
  refine r_icmp_lt hC 10 rfl bmL_5 dX4_opensAnother_5 (by decide) (fun cq => ?_) (fun cq => ?_)
  · replace h := h.1 cq
    refine r_aload_n hC 0 dX4_opensAnother_10 rfl rfl ?_
    refine r_dup hC rfl dX4_opensAnother_11 ?_
    refine r_getI hC fg_X4_50 rfl qa0.1 qa0.2 dX4_opensAnother_12 ?_
    refine r_iconst hC dX4_opensAnother_15 ?_
    refine r_iadd hC dX4_opensAnother_16 ?_
    refine r_putI hC fp_X4_50 rfl qa0.1 qa0.2 dX4_opensAnother_17 ?_
    refine r_nameM h (fun M_1 h => ?_)
    refine r_aload_n hC 0 dX4_opensAnother_20 rfl rfl ?_
    refine r_dup hC rfl dX4_opensAnother_21 ?_
    refine r_getI hC fg_X4_47 rfl qa0.1 qa0.2 dX4_opensAnother_22 ?_
    refine r_iconst hC dX4_opensAnother_25 ?_
    refine r_iadd hC dX4_opensAnother_26 ?_
    refine r_putI hC fp_X4_47 rfl qa0.1 qa0.2 dX4_opensAnother_27 ?_
    refine r_nameM h (fun M_2 h => ?_)
    refine r_iconst hC dX4_opensAnother_30 ?_
    exact r_zret hC (Or.inr rfl) (Nat.zero_le _) (Nat.zero_le _) dX4_opensAnother_31 ⟨_, rfl, h⟩
  · replace h := h.2 cq
    refine r_iconst hC dX4_opensAnother_8 ?_
    exact r_zret hC (Or.inl rfl) (Nat.zero_le _) (Nat.zero_le _) dX4_opensAnother_9 ⟨_, rfl, h⟩
theorem dX4_writes_0 : dec cX4_writes 0 1 1 (.aload_n 0) := ⟨by decide +kernel, rfl⟩
theorem dX4_writes_1 : dec cX4_writes 1 3 4 (.getfield 44) := ⟨by decide +kernel, rfl⟩
theorem dX4_writes_4 : dec cX4_writes 4 1 5 (.aload_n 0) := ⟨by decide +kernel, rfl⟩
theorem dX4_writes_5 : dec cX4_writes 5 3 8 (.getfield 9) := ⟨by decide +kernel, rfl⟩
theorem dX4_writes_8 : dec cX4_writes 8 1 9 (.arraylength) := ⟨by decide +kernel, rfl⟩
theorem dX4_writes_9 : dec cX4_writes 9 3 12 (.if_icmp .lt 5) := ⟨by decide +kernel, rfl⟩
theorem dX4_writes_12 : dec cX4_writes 12 1 13 (.iconst 0) := ⟨by decide +kernel, rfl⟩
theorem dX4_writes_13 : dec cX4_writes 13 1 14 (.ireturn) := ⟨by decide +kernel, rfl⟩
theorem dX4_writes_14 : dec cX4_writes 14 1 15 (.aload_n 0) := ⟨by decide +kernel, rfl⟩
theorem dX4_writes_15 : dec cX4_writes 15 3 18 (.getfield 9) := ⟨by decide +kernel, rfl⟩
theorem dX4_writes_18 : dec cX4_writes 18 1 19 (.aload_n 0) := ⟨by decide +kernel, rfl⟩
theorem dX4_writes_19 : dec cX4_writes 19 3 22 (.getfield 44) := ⟨by decide +kernel, rfl⟩
theorem dX4_writes_22 : dec cX4_writes 22 1 23 (.iload_n 1) := ⟨by decide +kernel, rfl⟩
theorem dX4_writes_23 : dec cX4_writes 23 1 24 (.iastore) := ⟨by decide +kernel, rfl⟩
theorem dX4_writes_24 : dec cX4_writes 24 1 25 (.aload_n 0) := ⟨by decide +kernel, rfl⟩
theorem dX4_writes_25 : dec cX4_writes 25 1 26 (.dup) := ⟨by decide +kernel, rfl⟩
theorem dX4_writes_26 : dec cX4_writes 26 3 29 (.getfield 44) := ⟨by decide +kernel, rfl⟩
theorem dX4_writes_29 : dec cX4_writes 29 1 30 (.iconst 1) := ⟨by decide +kernel, rfl⟩
theorem dX4_writes_30 : dec cX4_writes 30 1 31 (.iadd) := ⟨by decide +kernel, rfl⟩
theorem dX4_writes_31 : dec cX4_writes 31 3 34 (.putfield 44) := ⟨by decide +kernel, rfl⟩
theorem dX4_writes_34 : dec cX4_writes 34 1 35 (.iconst 1) := ⟨by decide +kernel, rfl⟩
theorem dX4_writes_35 : dec cX4_writes 35 1 36 (.ireturn) := ⟨by decide +kernel, rfl⟩
set_option maxHeartbeats 4000000 in
set_option maxRecDepth 100000 in
theorem mX4_writes (Y : Yx) (hF : Y.2.2.2.2 = true) (l : Launch) (a0 : Nat) (x1 : Int) (M0 : Mem) (Q : Int → Mem → Prop) (qa0 : 0 < a0 ∧ M0 0 a0 = kO 4) (h : wX4_writes a0 x1 M0 Q) : CT Y l yX4_writes cX4_writes 2 (some .boolean) rmX4_writes [vR Y.1 a0, vI x1] M0 (QI Q) := by
  unfold wX4_writes at h
  refine ct_intro (by decide) (Nat.le_of_ble_eq_true rfl) ?_
  intro X hXl hC hL0
  have hL := hL0 hF
  change OKX X Y RX4 cX4_writes 2 (some .boolean) rmX4_writes at hC
  change WW X Y 2 rmX4_writes (QI Q) M0 0 0 0 [(0, vR Y.1 a0), (1, vI x1)] [] M0
  refine r_aload_n hC 0 dX4_writes_0 rfl rfl ?_
  refine r_getI hC fg_X4_44 rfl qa0.1 qa0.2 dX4_writes_1 ?_
  refine r_aload_n hC 0 dX4_writes_4 rfl rfl ?_
  have q_1 : 0 < a0 + 1 ∧ M0 0 (a0 + 1) = kA 0 50 := lay_f0 (a := a0) hL qa0 fm_4_0
  refine r_getR0 (a' := a0 + 1) hC fg_X4_9 rfl hF fm_4_0 qa0.1 qa0.2 rfl dX4_writes_5 ?_
  refine r_alen hC (by decide) q_1.1 q_1.2 (by decide) dX4_writes_8 ?_
  refine r_icmp_lt hC 14 rfl bmL_50 dX4_writes_9 (by decide) (fun cq => ?_) (fun cq => ?_)
  · replace h := h.1 cq
    refine r_aload_n hC 0 dX4_writes_14 rfl rfl ?_
    have q_2 : 0 < a0 + 1 ∧ M0 0 (a0 + 1) = kA 0 50 := lay_f0 (a := a0) hL qa0 fm_4_0
    refine r_getR0 (a' := a0 + 1) hC fg_X4_9 rfl hF fm_4_0 qa0.1 qa0.2 rfl dX4_writes_15 ?_
    refine r_aload_n hC 0 dX4_writes_18 rfl rfl ?_
    refine r_getI hC fg_X4_44 rfl qa0.1 qa0.2 dX4_writes_19 ?_
    refine r_iload_n hC 1 dX4_writes_22 rfl rfl ?_
    obtain ⟨i_3, h⟩ := h
    refine r_iast hC i_3 q_2.1 q_2.2 (by decide) dX4_writes_23 ?_
    refine r_nameM h (fun M_4 h => ?_)
    refine r_aload_n hC 0 dX4_writes_24 rfl rfl ?_
    refine r_dup hC rfl dX4_writes_25 ?_
    refine r_getI hC fg_X4_44 rfl qa0.1 qa0.2 dX4_writes_26 ?_
    refine r_iconst hC dX4_writes_29 ?_
    refine r_iadd hC dX4_writes_30 ?_
    refine r_putI hC fp_X4_44 rfl qa0.1 qa0.2 dX4_writes_31 ?_
    refine r_nameM h (fun M_5 h => ?_)
    refine r_iconst hC dX4_writes_34 ?_
    exact r_zret hC (Or.inr rfl) (Nat.zero_le _) (Nat.zero_le _) dX4_writes_35 ⟨_, rfl, h⟩
  · replace h := h.2 cq
    refine r_iconst hC dX4_writes_12 ?_
    exact r_zret hC (Or.inl rfl) (Nat.zero_le _) (Nat.zero_le _) dX4_writes_13 ⟨_, rfl, h⟩
theorem dX4_isAtDigit_0 : dec cX4_isAtDigit 0 1 1 (.aload_n 0) := ⟨by decide +kernel, rfl⟩
theorem dX4_isAtDigit_1 : dec cX4_isAtDigit 1 3 4 (.getfield 47) := ⟨by decide +kernel, rfl⟩
theorem dX4_isAtDigit_4 : dec cX4_isAtDigit 4 1 5 (.aload_n 0) := ⟨by decide +kernel, rfl⟩
theorem dX4_isAtDigit_5 : dec cX4_isAtDigit 5 3 8 (.getfield 34) := ⟨by decide +kernel, rfl⟩
theorem dX4_isAtDigit_8 : dec cX4_isAtDigit 8 3 11 (.if_icmp .ge 35) := ⟨by decide +kernel, rfl⟩
theorem dX4_isAtDigit_11 : dec cX4_isAtDigit 11 1 12 (.aload_n 0) := ⟨by decide +kernel, rfl⟩
theorem dX4_isAtDigit_12 : dec cX4_isAtDigit 12 3 15 (.getfield 15) := ⟨by decide +kernel, rfl⟩
theorem dX4_isAtDigit_15 : dec cX4_isAtDigit 15 1 16 (.aload_n 0) := ⟨by decide +kernel, rfl⟩
theorem dX4_isAtDigit_16 : dec cX4_isAtDigit 16 3 19 (.getfield 47) := ⟨by decide +kernel, rfl⟩
theorem dX4_isAtDigit_19 : dec cX4_isAtDigit 19 1 20 (.baload) := ⟨by decide +kernel, rfl⟩
theorem dX4_isAtDigit_20 : dec cX4_isAtDigit 20 2 22 (.bipush 48) := ⟨by decide +kernel, rfl⟩
theorem dX4_isAtDigit_22 : dec cX4_isAtDigit 22 3 25 (.if_icmp .lt 21) := ⟨by decide +kernel, rfl⟩
theorem dX4_isAtDigit_25 : dec cX4_isAtDigit 25 1 26 (.aload_n 0) := ⟨by decide +kernel, rfl⟩
theorem dX4_isAtDigit_26 : dec cX4_isAtDigit 26 3 29 (.getfield 15) := ⟨by decide +kernel, rfl⟩
theorem dX4_isAtDigit_29 : dec cX4_isAtDigit 29 1 30 (.aload_n 0) := ⟨by decide +kernel, rfl⟩
theorem dX4_isAtDigit_30 : dec cX4_isAtDigit 30 3 33 (.getfield 47) := ⟨by decide +kernel, rfl⟩
theorem dX4_isAtDigit_33 : dec cX4_isAtDigit 33 1 34 (.baload) := ⟨by decide +kernel, rfl⟩
theorem dX4_isAtDigit_34 : dec cX4_isAtDigit 34 2 36 (.bipush 57) := ⟨by decide +kernel, rfl⟩
theorem dX4_isAtDigit_36 : dec cX4_isAtDigit 36 3 39 (.if_icmp .gt 7) := ⟨by decide +kernel, rfl⟩
theorem dX4_isAtDigit_39 : dec cX4_isAtDigit 39 1 40 (.iconst 1) := ⟨by decide +kernel, rfl⟩
theorem dX4_isAtDigit_40 : dec cX4_isAtDigit 40 3 43 (.goto 4) := ⟨by decide +kernel, rfl⟩
theorem dX4_isAtDigit_43 : dec cX4_isAtDigit 43 1 44 (.iconst 0) := ⟨by decide +kernel, rfl⟩
theorem dX4_isAtDigit_44 : dec cX4_isAtDigit 44 1 45 (.ireturn) := ⟨by decide +kernel, rfl⟩
set_option maxHeartbeats 4000000 in
set_option maxRecDepth 100000 in
theorem mX4_isAtDigit (Y : Yx) (hF : Y.2.2.2.2 = true) (l : Launch) (a0 : Nat) (M0 : Mem) (Q : Int → Mem → Prop) (qa0 : 0 < a0 ∧ M0 0 a0 = kO 4) (h : wX4_isAtDigit a0 M0 Q) : CT Y l yX4_isAtDigit cX4_isAtDigit 1 (some .boolean) rmX4_isAtDigit [vR Y.1 a0] M0 (QI Q) := by
  unfold wX4_isAtDigit at h
  refine ct_intro (by decide) (Nat.le_of_ble_eq_true rfl) ?_
  intro X hXl hC hL0
  have hL := hL0 hF
  change OKX X Y RX4 cX4_isAtDigit 1 (some .boolean) rmX4_isAtDigit at hC
  change WW X Y 1 rmX4_isAtDigit (QI Q) M0 0 0 0 [(0, vR Y.1 a0)] [] M0
  refine r_aload_n hC 0 dX4_isAtDigit_0 rfl rfl ?_
  refine r_getI hC fg_X4_47 rfl qa0.1 qa0.2 dX4_isAtDigit_1 ?_
  refine r_aload_n hC 0 dX4_isAtDigit_4 rfl rfl ?_
  refine r_getI hC fg_X4_34 rfl qa0.1 qa0.2 dX4_isAtDigit_5 ?_
  refine r_icmp_ge hC 43 rfl rfl dX4_isAtDigit_8 (by decide) (fun cq => ?_) (fun cq => ?_)
  · replace h := h.1 cq
    refine r_iconst hC dX4_isAtDigit_43 ?_
    exact r_zret hC (Or.inl rfl) (Nat.zero_le _) (Nat.zero_le _) dX4_isAtDigit_44 ⟨_, rfl, h⟩
  · replace h := h.2 cq
    refine r_aload_n hC 0 dX4_isAtDigit_11 rfl rfl ?_
    have q_1 : 0 < a0 + 2 ∧ M0 0 (a0 + 2) = kA 1 50 := lay_f0 (a := a0) hL qa0 fm_4_2
    refine r_getR0 (a' := a0 + 2) hC fg_X4_15 rfl hF fm_4_2 qa0.1 qa0.2 rfl dX4_isAtDigit_12 ?_
    refine r_aload_n hC 0 dX4_isAtDigit_15 rfl rfl ?_
    refine r_getI hC fg_X4_47 rfl qa0.1 qa0.2 dX4_isAtDigit_16 ?_
    obtain ⟨i_2, h⟩ := h
    refine r_bald hC i_2 q_1.1 q_1.2 (by decide) dX4_isAtDigit_19 ?_
    refine r_bipush hC (by decide +kernel) dX4_isAtDigit_20 ?_
    refine r_icmp_lt hC 43 rfl bmL_48 dX4_isAtDigit_22 (by decide) (fun cq => ?_) (fun cq => ?_)
    · replace h := h.1 cq
      refine r_iconst hC dX4_isAtDigit_43 ?_
      exact r_zret hC (Or.inl rfl) (Nat.zero_le _) (Nat.zero_le _) dX4_isAtDigit_44 ⟨_, rfl, h⟩
    · replace h := h.2 cq
      refine r_aload_n hC 0 dX4_isAtDigit_25 rfl rfl ?_
      have q_3 : 0 < a0 + 2 ∧ M0 0 (a0 + 2) = kA 1 50 := lay_f0 (a := a0) hL qa0 fm_4_2
      refine r_getR0 (a' := a0 + 2) hC fg_X4_15 rfl hF fm_4_2 qa0.1 qa0.2 rfl dX4_isAtDigit_26 ?_
      refine r_aload_n hC 0 dX4_isAtDigit_29 rfl rfl ?_
      refine r_getI hC fg_X4_47 rfl qa0.1 qa0.2 dX4_isAtDigit_30 ?_
      obtain ⟨i_4, h⟩ := h
      refine r_bald hC i_4 q_3.1 q_3.2 (by decide) dX4_isAtDigit_33 ?_
      refine r_bipush hC (by decide +kernel) dX4_isAtDigit_34 ?_
      refine r_icmp_gt hC 43 rfl bmL_57 dX4_isAtDigit_36 (by decide) (fun cq => ?_) (fun cq => ?_)
      · replace h := h.1 cq
        refine r_iconst hC dX4_isAtDigit_43 ?_
        exact r_zret hC (Or.inl rfl) (Nat.zero_le _) (Nat.zero_le _) dX4_isAtDigit_44 ⟨_, rfl, h⟩
      · replace h := h.2 cq
        refine r_iconst hC dX4_isAtDigit_39 ?_
        refine r_goto hC 44 dX4_isAtDigit_40 (by decide) ?_
        exact r_zret hC (Or.inr rfl) (Nat.zero_le _) (Nat.zero_le _) dX4_isAtDigit_44 ⟨_, rfl, h⟩
theorem dX4_readNumber_0 : dec cX4_readNumber 0 1 1 (.iconst 0) := ⟨by decide +kernel, rfl⟩
theorem dX4_readNumber_1 : dec cX4_readNumber 1 1 2 (.istore_n 1) := ⟨by decide +kernel, rfl⟩
theorem dX4_readNumber_2 : dec cX4_readNumber 2 1 3 (.iconst 0) := ⟨by decide +kernel, rfl⟩
theorem dX4_readNumber_3 : dec cX4_readNumber 3 1 4 (.istore_n 2) := ⟨by decide +kernel, rfl⟩
theorem dX4_readNumber_4 : dec cX4_readNumber 4 1 5 (.iload_n 2) := ⟨by decide +kernel, rfl⟩
theorem dX4_readNumber_5 : dec cX4_readNumber 5 1 6 (.iconst 2) := ⟨by decide +kernel, rfl⟩
theorem dX4_readNumber_6 : dec cX4_readNumber 6 3 9 (.if_icmp .ge 44) := ⟨by decide +kernel, rfl⟩
theorem dX4_readNumber_9 : dec cX4_readNumber 9 1 10 (.aload_n 0) := ⟨by decide +kernel, rfl⟩
theorem dX4_readNumber_10 : dec cX4_readNumber 10 3 13 (.invokevirtual 88) := ⟨by decide +kernel, rfl⟩
theorem dX4_readNumber_13 : dec cX4_readNumber 13 3 16 (.ifCond .eq 37) := ⟨by decide +kernel, rfl⟩
theorem dX4_readNumber_16 : dec cX4_readNumber 16 2 18 (.bipush 10) := ⟨by decide +kernel, rfl⟩
theorem dX4_readNumber_18 : dec cX4_readNumber 18 1 19 (.iload_n 1) := ⟨by decide +kernel, rfl⟩
theorem dX4_readNumber_19 : dec cX4_readNumber 19 1 20 (.imul) := ⟨by decide +kernel, rfl⟩
theorem dX4_readNumber_20 : dec cX4_readNumber 20 1 21 (.aload_n 0) := ⟨by decide +kernel, rfl⟩
theorem dX4_readNumber_21 : dec cX4_readNumber 21 3 24 (.getfield 15) := ⟨by decide +kernel, rfl⟩
theorem dX4_readNumber_24 : dec cX4_readNumber 24 1 25 (.aload_n 0) := ⟨by decide +kernel, rfl⟩
theorem dX4_readNumber_25 : dec cX4_readNumber 25 3 28 (.getfield 47) := ⟨by decide +kernel, rfl⟩
theorem dX4_readNumber_28 : dec cX4_readNumber 28 1 29 (.baload) := ⟨by decide +kernel, rfl⟩
theorem dX4_readNumber_29 : dec cX4_readNumber 29 1 30 (.iadd) := ⟨by decide +kernel, rfl⟩
theorem dX4_readNumber_30 : dec cX4_readNumber 30 2 32 (.bipush 48) := ⟨by decide +kernel, rfl⟩
theorem dX4_readNumber_32 : dec cX4_readNumber 32 1 33 (.isub) := ⟨by decide +kernel, rfl⟩
theorem dX4_readNumber_33 : dec cX4_readNumber 33 1 34 (.istore_n 1) := ⟨by decide +kernel, rfl⟩
theorem dX4_readNumber_34 : dec cX4_readNumber 34 1 35 (.aload_n 0) := ⟨by decide +kernel, rfl⟩
theorem dX4_readNumber_35 : dec cX4_readNumber 35 1 36 (.dup) := ⟨by decide +kernel, rfl⟩
theorem dX4_readNumber_36 : dec cX4_readNumber 36 3 39 (.getfield 47) := ⟨by decide +kernel, rfl⟩
theorem dX4_readNumber_39 : dec cX4_readNumber 39 1 40 (.iconst 1) := ⟨by decide +kernel, rfl⟩
theorem dX4_readNumber_40 : dec cX4_readNumber 40 1 41 (.iadd) := ⟨by decide +kernel, rfl⟩
theorem dX4_readNumber_41 : dec cX4_readNumber 41 3 44 (.putfield 47) := ⟨by decide +kernel, rfl⟩
theorem dX4_readNumber_44 : dec cX4_readNumber 44 3 47 (.iinc 2 1) := ⟨by decide +kernel, rfl⟩
theorem dX4_readNumber_47 : dec cX4_readNumber 47 3 50 (.goto (-43)) := ⟨by decide +kernel, rfl⟩
theorem dX4_readNumber_50 : dec cX4_readNumber 50 1 51 (.aload_n 0) := ⟨by decide +kernel, rfl⟩
theorem dX4_readNumber_51 : dec cX4_readNumber 51 1 52 (.iload_n 1) := ⟨by decide +kernel, rfl⟩
theorem dX4_readNumber_52 : dec cX4_readNumber 52 3 55 (.invokevirtual 72) := ⟨by decide +kernel, rfl⟩
theorem dX4_readNumber_55 : dec cX4_readNumber 55 1 56 (.ireturn) := ⟨by decide +kernel, rfl⟩
set_option maxHeartbeats 4000000 in
set_option maxRecDepth 100000 in
theorem tX4_readNumber_L4 {X : Cx} {Y : Yx} {M0 : Mem} (hC : OKX X Y RX4 cX4_readNumber 3 (some .boolean) rmX4_readNumber) (hF : Y.2.2.2.2 = true) (hL : Lay M0) (Q : Int → Mem → Prop) (E50 : Int → Mem → Prop) (a0 : Nat) (qa0 : 0 < a0 ∧ M0 0 a0 = kO 4) (hE50 : ∀ (x1 : Int) (M : Mem), E50 x1 M → WW X Y 3 rmX4_readNumber (QI Q) M0 0 0 50 [(0, vR Y.1 a0), (1, vI x1)] [] M) : ∀ (N : Nat) (x1 : Int) (x2 : Int) (M : Mem) (_ : wX4_readNumber_L4 Q E50 a0 N x1 x2 M), WW X Y 3 rmX4_readNumber (QI Q) M0 0 0 4 [(0, vR Y.1 a0), (1, vI x1), (2, vI x2)] [] M := by
  intro N
  induction N with
  | zero =>
    intro x1 x2 M h
    exact h.elim
  | succ N ih =>
    intro x1 x2 M h
    unfold wX4_readNumber_L4 at h
    refine r_iload_n hC 2 dX4_readNumber_4 rfl rfl ?_
    refine r_iconst hC dX4_readNumber_5 ?_
    refine r_icmp_ge hC 50 rfl bmL_2 dX4_readNumber_6 (by decide) (fun cq => ?_) (fun cq => ?_)
    · replace h := h.1 cq
      refine r_sub [0, 1] rfl ?_
      exact hE50 _ _ h
    · replace h := h.2 cq
      refine r_aload_n hC 0 dX4_readNumber_9 rfl rfl ?_
      refine r_callV (As := []) (st := []) hC cw_X4_88 rfl qa0.1 qa0.2 rfl rfl (Nat.le_of_ble_eq_true rfl) ⟨Nat.le_of_ble_eq_true rfl, Nat.le_of_ble_eq_true rfl⟩ ⟨Nat.le_of_ble_eq_true rfl, Nat.le_of_ble_eq_true rfl⟩ dX4_readNumber_10 (fun hk => mX4_isAtDigit Y hF _ _ _ _ (kqO hk qa0) h) (fun v M_1 h => ?_)
      obtain ⟨r_2, rfl, h⟩ := h
      refine r_if_eq hC 50 rfl dX4_readNumber_13 (by decide) (fun cq => ?_) (fun cq => ?_)
      · replace h := h.1 cq
        refine r_sub [0, 1] rfl ?_
        exact hE50 _ _ h
      · replace h := h.2 cq
        refine r_bipush hC (by decide +kernel) dX4_readNumber_16 ?_
        refine r_iload_n hC 1 dX4_readNumber_18 rfl rfl ?_
        refine r_imul hC dX4_readNumber_19 ?_
        refine r_aload_n hC 0 dX4_readNumber_20 rfl rfl ?_
        have q_3 : 0 < a0 + 2 ∧ M0 0 (a0 + 2) = kA 1 50 := lay_f0 (a := a0) hL qa0 fm_4_2
        refine r_getR0 (a' := a0 + 2) hC fg_X4_15 rfl hF fm_4_2 qa0.1 qa0.2 rfl dX4_readNumber_21 ?_
        refine r_aload_n hC 0 dX4_readNumber_24 rfl rfl ?_
        refine r_getI hC fg_X4_47 rfl qa0.1 qa0.2 dX4_readNumber_25 ?_
        obtain ⟨i_4, h⟩ := h
        refine r_bald hC i_4 q_3.1 q_3.2 (by decide) dX4_readNumber_28 ?_
        refine r_iadd hC dX4_readNumber_29 ?_
        refine r_bipush hC (by decide +kernel) dX4_readNumber_30 ?_
        refine r_isub hC dX4_readNumber_32 ?_
        refine r_nameI h (fun x1_5 h => ?_)
        refine r_istore_n (lv' := [(1, vI x1_5), (0, vR Y.1 a0), (2, vI x2)]) hC dX4_readNumber_33 rfl (by decide) rfl ?_
        refine r_aload_n hC 1 dX4_readNumber_34 rfl rfl ?_
        refine r_dup hC rfl dX4_readNumber_35 ?_
        refine r_getI hC fg_X4_47 rfl qa0.1 qa0.2 dX4_readNumber_36 ?_
        refine r_iconst hC dX4_readNumber_39 ?_
        refine r_iadd hC dX4_readNumber_40 ?_
        refine r_putI hC fp_X4_47 rfl qa0.1 qa0.2 dX4_readNumber_41 ?_
        refine r_nameM h (fun M_6 h => ?_)
        refine let_elim h (fun x2_7 e_8 h => ?_)
        refine r_iinc (lv' := [(2, vI x2_7), (1, vI x1_5), (0, vR Y.1 a0)]) hC 2 dX4_readNumber_44 rfl (by decide) e_8 rfl ?_
        refine r_goto hC 4 dX4_readNumber_47 (by decide) ?_
        refine r_sub [2, 1, 0] rfl ?_
        exact ih _ _ _ h
set_option maxHeartbeats 4000000 in
set_option maxRecDepth 100000 in
theorem tX4_readNumber_J50 {X : Cx} {Y : Yx} {M0 : Mem} (hC : OKX X Y RX4 cX4_readNumber 3 (some .boolean) rmX4_readNumber) (hF : Y.2.2.2.2 = true) (hL : Lay M0) (Q : Int → Mem → Prop)   (a0 : Nat) (x1 : Int) (qa0 : 0 < a0 ∧ M0 0 a0 = kO 4)  (M : Mem) (h : wX4_readNumber_J50 Q  a0 x1 M) : WW X Y 3 rmX4_readNumber (QI Q) M0 0 0 50 [(0, vR Y.1 a0), (1, vI x1)] [] M := by
  unfold wX4_readNumber_J50 at h
  refine r_aload_n hC 0 dX4_readNumber_50 rfl rfl ?_
  refine r_iload_n hC 1 dX4_readNumber_51 rfl rfl ?_
  refine r_callV (As := [vI x1]) (st := []) hC cw_X4_72 rfl qa0.1 qa0.2 rfl rfl (Nat.le_of_ble_eq_true rfl) ⟨Nat.le_of_ble_eq_true rfl, Nat.le_of_ble_eq_true rfl⟩ ⟨Nat.le_of_ble_eq_true rfl, Nat.le_of_ble_eq_true rfl⟩ dX4_readNumber_52 (fun hk => mX4_writes Y hF _ _ _ _ _ (kqO hk qa0) h) (fun v M_11 h => ?_)
  obtain ⟨r_12, rfl, h⟩ := h
  exact r_zret hC h.1 (Nat.zero_le _) (Nat.zero_le _) dX4_readNumber_55 ⟨_, rfl, h.2⟩
set_option maxHeartbeats 4000000 in
set_option maxRecDepth 100000 in
theorem mX4_readNumber (Y : Yx) (hF : Y.2.2.2.2 = true) (l : Launch) (a0 : Nat) (M0 : Mem) (Q : Int → Mem → Prop) (qa0 : 0 < a0 ∧ M0 0 a0 = kO 4) (h : wX4_readNumber a0 M0 Q) : CT Y l yX4_readNumber cX4_readNumber 3 (some .boolean) rmX4_readNumber [vR Y.1 a0] M0 (QI Q) := by
  unfold wX4_readNumber at h
  refine ct_intro (by decide) (Nat.le_of_ble_eq_true rfl) ?_
  intro X hXl hC hL0
  have hL := hL0 hF
  change OKX X Y RX4 cX4_readNumber 3 (some .boolean) rmX4_readNumber at hC
  change WW X Y 3 rmX4_readNumber (QI Q) M0 0 0 0 [(0, vR Y.1 a0)] [] M0
  refine r_iconst hC dX4_readNumber_0 ?_
  refine r_istore_n (lv' := [(1, vI 0), (0, vR Y.1 a0)]) hC dX4_readNumber_1 rfl (by decide) rfl ?_
  refine r_iconst hC dX4_readNumber_2 ?_
  refine r_istore_n (lv' := [(2, vI 0), (1, vI 0), (0, vR Y.1 a0)]) hC dX4_readNumber_3 rfl (by decide) rfl ?_
  refine r_sub [2, 1, 0] rfl ?_
  obtain ⟨N_13, h⟩ := h
  refine tX4_readNumber_L4 hC hF hL Q _ _ qa0 ?_ N_13 _ _ _ h
  · intro x1_9 M_10 h
    refine r_sub [0, 1] rfl ?_
    exact tX4_readNumber_J50 hC hF hL Q   _ _ qa0  _ h
theorem dJ0_isLatin1_aae02_0 : dec cJ0_isLatin1_aae02 0 3 3 (.getstatic 38) := ⟨by decide +kernel, rfl⟩
theorem dJ0_isLatin1_aae02_3 : dec cJ0_isLatin1_aae02 3 3 6 (.ifCond .eq 14) := ⟨by decide +kernel, rfl⟩
theorem dJ0_isLatin1_aae02_6 : dec cJ0_isLatin1_aae02 6 1 7 (.aload_n 0) := ⟨by decide +kernel, rfl⟩
theorem dJ0_isLatin1_aae02_7 : dec cJ0_isLatin1_aae02 7 3 10 (.getfield 15) := ⟨by decide +kernel, rfl⟩
theorem dJ0_isLatin1_aae02_10 : dec cJ0_isLatin1_aae02 10 3 13 (.ifCond .ne 7) := ⟨by decide +kernel, rfl⟩
theorem dJ0_isLatin1_aae02_13 : dec cJ0_isLatin1_aae02 13 1 14 (.iconst 1) := ⟨by decide +kernel, rfl⟩
theorem dJ0_isLatin1_aae02_14 : dec cJ0_isLatin1_aae02 14 3 17 (.goto 4) := ⟨by decide +kernel, rfl⟩
theorem dJ0_isLatin1_aae02_17 : dec cJ0_isLatin1_aae02 17 1 18 (.iconst 0) := ⟨by decide +kernel, rfl⟩
theorem dJ0_isLatin1_aae02_18 : dec cJ0_isLatin1_aae02 18 1 19 (.ireturn) := ⟨by decide +kernel, rfl⟩
set_option maxHeartbeats 4000000 in
set_option maxRecDepth 100000 in
theorem mJ0_isLatin1_aae02 (Y : Yx) (hF : Y.2.2.2.2 = true) (l : Launch) (z0 : Int) (M0 : Mem) (Q : Int → Mem → Prop) (qz0 : isS z0) (h : wJ0_isLatin1_aae02 z0 M0 Q) : CT Y l yJ0_isLatin1_aae02 cJ0_isLatin1_aae02 1 (some .boolean) rmJ0_isLatin1_aae02 [vS Y.2.2.1 z0] M0 (QI Q) := by
  unfold wJ0_isLatin1_aae02 at h
  refine ct_intro (by decide +kernel) (by simp only [vS]; split <;> exact Nat.le_of_ble_eq_true rfl) ?_
  intro X hXl hC hL0
  have hL := hL0 hF
  change OKX X Y RJ0 cJ0_isLatin1_aae02 1 (some .boolean) rmJ0_isLatin1_aae02 at hC
  change WW X Y 1 rmJ0_isLatin1_aae02 (QI Q) M0 0 0 0 [(0, vS Y.2.2.1 z0)] [] M0
  refine r_compact hC sf_J0_38 dJ0_isLatin1_aae02_0 ?_
  refine r_if_eq hC 17 bmL_1 dJ0_isLatin1_aae02_3 (by decide) (fun cq => ?_) (fun cq => ?_)
  · replace h := h.1 cq
    refine r_iconst hC dJ0_isLatin1_aae02_17 ?_
    exact r_zret hC (Or.inl rfl) (Nat.zero_le _) (Nat.zero_le _) dJ0_isLatin1_aae02_18 ⟨_, rfl, h⟩
  · replace h := h.2 cq
    refine r_aloadS_n hC qz0 0 dJ0_isLatin1_aae02_6 rfl rfl ?_
    refine r_scoder hC qz0 sf_J0_15 dJ0_isLatin1_aae02_7 ?_
    refine r_if_ne hC 17 bmL_0 dJ0_isLatin1_aae02_10 (by decide) (fun cq => ?_) (fun cq => ?_)
    · replace h := h.2 cq
      refine r_iconst hC dJ0_isLatin1_aae02_17 ?_
      exact r_zret hC (Or.inl rfl) (Nat.zero_le _) (Nat.zero_le _) dJ0_isLatin1_aae02_18 ⟨_, rfl, h⟩
    · replace h := h.1 cq
      refine r_iconst hC dJ0_isLatin1_aae02_13 ?_
      refine r_goto hC 18 dJ0_isLatin1_aae02_14 (by decide) ?_
      exact r_zret hC (Or.inr rfl) (Nat.zero_le _) (Nat.zero_le _) dJ0_isLatin1_aae02_18 ⟨_, rfl, h⟩
theorem dJ0_coder_7d493_0 : dec cJ0_coder_7d493 0 3 3 (.getstatic 38) := ⟨by decide +kernel, rfl⟩
theorem dJ0_coder_7d493_3 : dec cJ0_coder_7d493 3 3 6 (.ifCond .eq 10) := ⟨by decide +kernel, rfl⟩
theorem dJ0_coder_7d493_6 : dec cJ0_coder_7d493 6 1 7 (.aload_n 0) := ⟨by decide +kernel, rfl⟩
theorem dJ0_coder_7d493_7 : dec cJ0_coder_7d493 7 3 10 (.getfield 15) := ⟨by decide +kernel, rfl⟩
theorem dJ0_coder_7d493_10 : dec cJ0_coder_7d493 10 3 13 (.goto 4) := ⟨by decide +kernel, rfl⟩
theorem dJ0_coder_7d493_13 : dec cJ0_coder_7d493 13 1 14 (.iconst 1) := ⟨by decide +kernel, rfl⟩
theorem dJ0_coder_7d493_14 : dec cJ0_coder_7d493 14 1 15 (.ireturn) := ⟨by decide +kernel, rfl⟩
set_option maxHeartbeats 4000000 in
set_option maxRecDepth 100000 in
theorem mJ0_coder_7d493 (Y : Yx) (hF : Y.2.2.2.2 = true) (l : Launch) (z0 : Int) (M0 : Mem) (Q : Int → Mem → Prop) (qz0 : isS z0) (h : wJ0_coder_7d493 z0 M0 Q) : CT Y l yJ0_coder_7d493 cJ0_coder_7d493 1 (some .byte) rmJ0_coder_7d493 [vS Y.2.2.1 z0] M0 (QI Q) := by
  unfold wJ0_coder_7d493 at h
  refine ct_intro (by decide +kernel) (by simp only [vS]; split <;> exact Nat.le_of_ble_eq_true rfl) ?_
  intro X hXl hC hL0
  have hL := hL0 hF
  change OKX X Y RJ0 cJ0_coder_7d493 1 (some .byte) rmJ0_coder_7d493 at hC
  change WW X Y 1 rmJ0_coder_7d493 (QI Q) M0 0 0 0 [(0, vS Y.2.2.1 z0)] [] M0
  refine r_compact hC sf_J0_38 dJ0_coder_7d493_0 ?_
  refine r_if_eq hC 13 bmL_1 dJ0_coder_7d493_3 (by decide) (fun cq => ?_) (fun cq => ?_)
  · replace h := h.1 cq
    refine r_iconst hC dJ0_coder_7d493_13 ?_
    exact r_bret hC (Or.inr rfl) (Nat.zero_le _) (Nat.zero_le _) dJ0_coder_7d493_14 ⟨_, rfl, h⟩
  · replace h := h.2 cq
    refine r_aloadS_n hC qz0 0 dJ0_coder_7d493_6 rfl rfl ?_
    refine r_scoder hC qz0 sf_J0_15 dJ0_coder_7d493_7 ?_
    refine r_goto hC 14 dJ0_coder_7d493_10 (by decide) ?_
    exact r_bret hC (Or.inl rfl) (Nat.zero_le _) (Nat.zero_le _) dJ0_coder_7d493_14 ⟨_, rfl, h⟩
theorem dJ0_length_8abf5_0 : dec cJ0_length_8abf5 0 1 1 (.aload_n 0) := ⟨by decide +kernel, rfl⟩
theorem dJ0_length_8abf5_1 : dec cJ0_length_8abf5 1 3 4 (.getfield 9) := ⟨by decide +kernel, rfl⟩
theorem dJ0_length_8abf5_4 : dec cJ0_length_8abf5 4 1 5 (.arraylength) := ⟨by decide +kernel, rfl⟩
theorem dJ0_length_8abf5_5 : dec cJ0_length_8abf5 5 1 6 (.aload_n 0) := ⟨by decide +kernel, rfl⟩
theorem dJ0_length_8abf5_6 : dec cJ0_length_8abf5 6 3 9 (.invokevirtual 335) := ⟨by decide +kernel, rfl⟩
theorem dJ0_length_8abf5_9 : dec cJ0_length_8abf5 9 1 10 (.ishr) := ⟨by decide +kernel, rfl⟩
theorem dJ0_length_8abf5_10 : dec cJ0_length_8abf5 10 1 11 (.ireturn) := ⟨by decide +kernel, rfl⟩
set_option maxHeartbeats 4000000 in
set_option maxRecDepth 100000 in
theorem mJ0_length_8abf5 (Y : Yx) (hF : Y.2.2.2.2 = true) (l : Launch) (z0 : Int) (M0 : Mem) (Q : Int → Mem → Prop) (qz0 : isS z0) (h : wJ0_length_8abf5 z0 M0 Q) : CT Y l yJ0_length_8abf5 cJ0_length_8abf5 1 (some .int) rmJ0_length_8abf5 [vS Y.2.2.1 z0] M0 (QI Q) := by
  unfold wJ0_length_8abf5 at h
  refine ct_intro (by decide +kernel) (by simp only [vS]; split <;> exact Nat.le_of_ble_eq_true rfl) ?_
  intro X hXl hC hL0
  have hL := hL0 hF
  change OKX X Y RJ0 cJ0_length_8abf5 1 (some .int) rmJ0_length_8abf5 at hC
  change WW X Y 1 rmJ0_length_8abf5 (QI Q) M0 0 0 0 [(0, vS Y.2.2.1 z0)] [] M0
  refine r_aloadS_n hC qz0 0 dJ0_length_8abf5_0 rfl rfl ?_
  refine r_sval hC qz0 sf_J0_9 dJ0_length_8abf5_1 ?_
  refine r_slen hC qz0 dJ0_length_8abf5_4 ?_
  refine r_aloadS_n hC qz0 0 dJ0_length_8abf5_5 rfl rfl ?_
  refine r_callT (As := []) (st := [vI (sLen z0)]) hC qz0 cw_J0_335 rfl rfl rfl (Nat.le_of_ble_eq_true rfl) ⟨Nat.le_of_ble_eq_true rfl, Nat.le_of_ble_eq_true rfl⟩ ⟨Nat.le_of_ble_eq_true rfl, Nat.le_of_ble_eq_true rfl⟩ dJ0_length_8abf5_6 (fun hk => mJ0_coder_7d493 Y hF _ _ _ _ qz0 h) (fun v M_1 h => ?_)
  obtain ⟨r_2, rfl, h⟩ := h
  refine r_ishr hC dJ0_length_8abf5_9 ?_
  exact r_iret hC (Nat.zero_le _) (Nat.zero_le _) dJ0_length_8abf5_10 ⟨_, rfl, h⟩
theorem dJ1_canEncode_9a6ad_0 : dec cJ1_canEncode_9a6ad 0 1 1 (.iload_n 0) := ⟨by decide +kernel, rfl⟩
theorem dJ1_canEncode_9a6ad_1 : dec cJ1_canEncode_9a6ad 1 3 4 (.ifCond .lt 14) := ⟨by decide +kernel, rfl⟩
theorem dJ1_canEncode_9a6ad_4 : dec cJ1_canEncode_9a6ad 4 1 5 (.iload_n 0) := ⟨by decide +kernel, rfl⟩
theorem dJ1_canEncode_9a6ad_5 : dec cJ1_canEncode_9a6ad 5 3 8 (.sipush 255) := ⟨by decide +kernel, rfl⟩
theorem dJ1_canEncode_9a6ad_8 : dec cJ1_canEncode_9a6ad 8 3 11 (.if_icmp .gt 7) := ⟨by decide +kernel, rfl⟩
theorem dJ1_canEncode_9a6ad_11 : dec cJ1_canEncode_9a6ad 11 1 12 (.iconst 1) := ⟨by decide +kernel, rfl⟩
theorem dJ1_canEncode_9a6ad_12 : dec cJ1_canEncode_9a6ad 12 3 15 (.goto 4) := ⟨by decide +kernel, rfl⟩
theorem dJ1_canEncode_9a6ad_15 : dec cJ1_canEncode_9a6ad 15 1 16 (.iconst 0) := ⟨by decide +kernel, rfl⟩
theorem dJ1_canEncode_9a6ad_16 : dec cJ1_canEncode_9a6ad 16 1 17 (.ireturn) := ⟨by decide +kernel, rfl⟩
set_option maxHeartbeats 4000000 in
set_option maxRecDepth 100000 in
theorem mJ1_canEncode_9a6ad (Y : Yx) (hF : Y.2.2.2.2 = true) (l : Launch) (x0 : Int) (M0 : Mem) (Q : Int → Mem → Prop)  (h : wJ1_canEncode_9a6ad x0 M0 Q) : CT Y l yJ1_canEncode_9a6ad cJ1_canEncode_9a6ad 1 (some .boolean) rmJ1_canEncode_9a6ad [vI x0] M0 (QI Q) := by
  unfold wJ1_canEncode_9a6ad at h
  refine ct_intro (by decide +kernel) (Nat.le_of_ble_eq_true rfl) ?_
  intro X hXl hC hL0
  have hL := hL0 hF
  change OKX X Y RJ1 cJ1_canEncode_9a6ad 1 (some .boolean) rmJ1_canEncode_9a6ad at hC
  change WW X Y 1 rmJ1_canEncode_9a6ad (QI Q) M0 0 0 0 [(0, vI x0)] [] M0
  refine r_iload_n hC 0 dJ1_canEncode_9a6ad_0 rfl rfl ?_
  refine r_if_lt hC 15 rfl dJ1_canEncode_9a6ad_1 (by decide) (fun cq => ?_) (fun cq => ?_)
  · replace h := h.1 cq
    refine r_iconst hC dJ1_canEncode_9a6ad_15 ?_
    exact r_zret hC (Or.inl rfl) (Nat.zero_le _) (Nat.zero_le _) dJ1_canEncode_9a6ad_16 ⟨_, rfl, h⟩
  · replace h := h.2 cq
    refine r_iload_n hC 0 dJ1_canEncode_9a6ad_4 rfl rfl ?_
    refine r_sipush hC (by decide +kernel) dJ1_canEncode_9a6ad_5 ?_
    refine r_icmp_gt hC 15 rfl bmL_255 dJ1_canEncode_9a6ad_8 (by decide) (fun cq => ?_) (fun cq => ?_)
    · replace h := h.1 cq
      refine r_iconst hC dJ1_canEncode_9a6ad_15 ?_
      exact r_zret hC (Or.inl rfl) (Nat.zero_le _) (Nat.zero_le _) dJ1_canEncode_9a6ad_16 ⟨_, rfl, h⟩
    · replace h := h.2 cq
      refine r_iconst hC dJ1_canEncode_9a6ad_11 ?_
      refine r_goto hC 16 dJ1_canEncode_9a6ad_12 (by decide) ?_
      exact r_zret hC (Or.inr rfl) (Nat.zero_le _) (Nat.zero_le _) dJ1_canEncode_9a6ad_16 ⟨_, rfl, h⟩
theorem dJ1_indexOfChar_4cfef_0 : dec cJ1_indexOfChar_4cfef 0 1 1 (.iload_n 1) := ⟨by decide +kernel, rfl⟩
theorem dJ1_indexOfChar_4cfef_1 : dec cJ1_indexOfChar_4cfef 1 1 2 (.i2b) := ⟨by decide +kernel, rfl⟩
theorem dJ1_indexOfChar_4cfef_2 : dec cJ1_indexOfChar_4cfef 2 2 4 (.istore 4) := ⟨by decide +kernel, rfl⟩
theorem dJ1_indexOfChar_4cfef_4 : dec cJ1_indexOfChar_4cfef 4 1 5 (.iload_n 2) := ⟨by decide +kernel, rfl⟩
theorem dJ1_indexOfChar_4cfef_5 : dec cJ1_indexOfChar_4cfef 5 2 7 (.istore 5) := ⟨by decide +kernel, rfl⟩
theorem dJ1_indexOfChar_4cfef_7 : dec cJ1_indexOfChar_4cfef 7 2 9 (.iload 5) := ⟨by decide +kernel, rfl⟩
theorem dJ1_indexOfChar_4cfef_9 : dec cJ1_indexOfChar_4cfef 9 1 10 (.iload_n 3) := ⟨by decide +kernel, rfl⟩
theorem dJ1_indexOfChar_4cfef_10 : dec cJ1_indexOfChar_4cfef 10 3 13 (.if_icmp .ge 21) := ⟨by decide +kernel, rfl⟩
theorem dJ1_indexOfChar_4cfef_13 : dec cJ1_indexOfChar_4cfef 13 1 14 (.aload_n 0) := ⟨by decide +kernel, rfl⟩
theorem dJ1_indexOfChar_4cfef_14 : dec cJ1_indexOfChar_4cfef 14 2 16 (.iload 5) := ⟨by decide +kernel, rfl⟩
theorem dJ1_indexOfChar_4cfef_16 : dec cJ1_indexOfChar_4cfef 16 1 17 (.baload) := ⟨by decide +kernel, rfl⟩
theorem dJ1_indexOfChar_4cfef_17 : dec cJ1_indexOfChar_4cfef 17 2 19 (.iload 4) := ⟨by decide +kernel, rfl⟩
theorem dJ1_indexOfChar_4cfef_19 : dec cJ1_indexOfChar_4cfef 19 3 22 (.if_icmp .ne 6) := ⟨by decide +kernel, rfl⟩
theorem dJ1_indexOfChar_4cfef_22 : dec cJ1_indexOfChar_4cfef 22 2 24 (.iload 5) := ⟨by decide +kernel, rfl⟩
theorem dJ1_indexOfChar_4cfef_24 : dec cJ1_indexOfChar_4cfef 24 1 25 (.ireturn) := ⟨by decide +kernel, rfl⟩
theorem dJ1_indexOfChar_4cfef_25 : dec cJ1_indexOfChar_4cfef 25 3 28 (.iinc 5 1) := ⟨by decide +kernel, rfl⟩
theorem dJ1_indexOfChar_4cfef_28 : dec cJ1_indexOfChar_4cfef 28 3 31 (.goto (-21)) := ⟨by decide +kernel, rfl⟩
theorem dJ1_indexOfChar_4cfef_31 : dec cJ1_indexOfChar_4cfef 31 1 32 (.iconst (-1)) := ⟨by decide +kernel, rfl⟩
theorem dJ1_indexOfChar_4cfef_32 : dec cJ1_indexOfChar_4cfef 32 1 33 (.ireturn) := ⟨by decide +kernel, rfl⟩
set_option maxHeartbeats 4000000 in
set_option maxRecDepth 100000 in
theorem tJ1_indexOfChar_4cfef_L7 {X : Cx} {Y : Yx} {M0 : Mem} (hC : OKX X Y RJ1 cJ1_indexOfChar_4cfef 6 (some .int) rmJ1_indexOfChar_4cfef) (hF : Y.2.2.2.2 = true) (hL : Lay M0) (Q : Int → Mem → Prop)  (z0 : Int) (x3 : Int) (x4 : Int) (qz0 : isS z0)  : ∀ (N : Nat) (x5 : Int) (M : Mem) (_ : wJ1_indexOfChar_4cfef_L7 Q  z0 x3 x4 N x5 M), WW X Y 6 rmJ1_indexOfChar_4cfef (QI Q) M0 0 0 7 [(0, vB Y.2.2.1 z0), (3, vI x3), (4, vI x4), (5, vI x5)] [] M := by
  intro N
  induction N with
  | zero =>
    intro x5 M h
    exact h.elim
  | succ N ih =>
    intro x5 M h
    unfold wJ1_indexOfChar_4cfef_L7 at h
    refine r_iload hC 3 dJ1_indexOfChar_4cfef_7 rfl ?_
    refine r_iload_n hC 1 dJ1_indexOfChar_4cfef_9 rfl rfl ?_
    refine r_icmp_ge hC 31 rfl rfl dJ1_indexOfChar_4cfef_10 (by decide) (fun cq => ?_) (fun cq => ?_)
    · replace h := h.1 cq
      refine r_iconst hC dJ1_indexOfChar_4cfef_31 ?_
      exact r_iret hC (Nat.zero_le _) (Nat.zero_le _) dJ1_indexOfChar_4cfef_32 ⟨_, rfl, h⟩
    · replace h := h.2 cq
      refine r_aloadB_n hC 0 dJ1_indexOfChar_4cfef_13 rfl rfl ?_
      refine r_iload hC 3 dJ1_indexOfChar_4cfef_14 rfl ?_
      obtain ⟨i_2, h⟩ := h
      refine r_sbyte hC qz0 i_2 dJ1_indexOfChar_4cfef_16 ?_
      refine r_iload hC 2 dJ1_indexOfChar_4cfef_17 rfl ?_
      refine r_icmp_ne hC 25 rfl rfl dJ1_indexOfChar_4cfef_19 (by decide) (fun cq => ?_) (fun cq => ?_)
      · replace h := h.2 cq
        refine let_elim h (fun x5_3 e_4 h => ?_)
        refine r_iinc (lv' := [(5, vI x5_3), (0, vB Y.2.2.1 z0), (3, vI x3), (4, vI x4)]) hC 3 dJ1_indexOfChar_4cfef_25 rfl (by decide) e_4 rfl ?_
        refine r_goto hC 7 dJ1_indexOfChar_4cfef_28 (by decide) ?_
        refine r_sub [1, 2, 3, 0] rfl ?_
        exact ih _ _ h
      · replace h := h.1 cq
        refine r_iload hC 3 dJ1_indexOfChar_4cfef_22 rfl ?_
        exact r_iret hC (Nat.zero_le _) (Nat.zero_le _) dJ1_indexOfChar_4cfef_24 ⟨_, rfl, h⟩
set_option maxHeartbeats 4000000 in
set_option maxRecDepth 100000 in
theorem mJ1_indexOfChar_4cfef (Y : Yx) (hF : Y.2.2.2.2 = true) (l : Launch) (z0 : Int) (x1 : Int) (x2 : Int) (x3 : Int) (M0 : Mem) (Q : Int → Mem → Prop) (qz0 : isS z0) (h : wJ1_indexOfChar_4cfef z0 x1 x2 x3 M0 Q) : CT Y l yJ1_indexOfChar_4cfef cJ1_indexOfChar_4cfef 6 (some .int) rmJ1_indexOfChar_4cfef [vB Y.2.2.1 z0, vI x1, vI x2, vI x3] M0 (QI Q) := by
  unfold wJ1_indexOfChar_4cfef at h
  refine ct_intro (by decide +kernel) (Nat.le_of_ble_eq_true rfl) ?_
  intro X hXl hC hL0
  have hL := hL0 hF
  change OKX X Y RJ1 cJ1_indexOfChar_4cfef 6 (some .int) rmJ1_indexOfChar_4cfef at hC
  change WW X Y 6 rmJ1_indexOfChar_4cfef (QI Q) M0 0 0 0 [(0, vB Y.2.2.1 z0), (1, vI x1), (2, vI x2), (3, vI x3)] [] M0
  refine r_iload_n hC 1 dJ1_indexOfChar_4cfef_0 rfl rfl ?_
  refine r_i2b hC dJ1_indexOfChar_4cfef_1 ?_
  refine r_nameI h (fun x4_1 h => ?_)
  refine r_istore (lv' := [(4, vI x4_1), (0, vB Y.2.2.1 z0), (1, vI x1), (2, vI x2), (3, vI x3)]) hC dJ1_indexOfChar_4cfef_2 (by decide) rfl ?_
  refine r_iload_n hC 3 dJ1_indexOfChar_4cfef_4 rfl rfl ?_
  refine r_istore (lv' := [(5, vI x2), (4, vI x4_1), (0, vB Y.2.2.1 z0), (1, vI x1), (2, vI x2), (3, vI x3)]) hC dJ1_indexOfChar_4cfef_5 (by decide) rfl ?_
  refine r_sub [2, 5, 1, 0] rfl ?_
  obtain ⟨N_5, h⟩ := h
  refine tJ1_indexOfChar_4cfef_L7 hC hF hL Q  _ _ _ qz0  N_5 _ _ h
theorem dJ1_indexOf_4cfef_0 : dec cJ1_indexOf_4cfef 0 1 1 (.iload_n 1) := ⟨by decide +kernel, rfl⟩
theorem dJ1_indexOf_4cfef_1 : dec cJ1_indexOf_4cfef 1 3 4 (.invokestatic 88) := ⟨by decide +kernel, rfl⟩
theorem dJ1_indexOf_4cfef_4 : dec cJ1_indexOf_4cfef 4 3 7 (.ifCond .ne 5) := ⟨by decide +kernel, rfl⟩
theorem dJ1_indexOf_4cfef_7 : dec cJ1_indexOf_4cfef 7 1 8 (.iconst (-1)) := ⟨by decide +kernel, rfl⟩
theorem dJ1_indexOf_4cfef_8 : dec cJ1_indexOf_4cfef 8 1 9 (.ireturn) := ⟨by decide +kernel, rfl⟩
theorem dJ1_indexOf_4cfef_9 : dec cJ1_indexOf_4cfef 9 1 10 (.iload_n 2) := ⟨by decide +kernel, rfl⟩
theorem dJ1_indexOf_4cfef_10 : dec cJ1_indexOf_4cfef 10 1 11 (.iconst 0) := ⟨by decide +kernel, rfl⟩
theorem dJ1_indexOf_4cfef_11 : dec cJ1_indexOf_4cfef 11 3 14 (.invokestatic 92) := ⟨by decide +kernel, rfl⟩
theorem dJ1_indexOf_4cfef_14 : dec cJ1_indexOf_4cfef 14 1 15 (.istore_n 2) := ⟨by decide +kernel, rfl⟩
theorem dJ1_indexOf_4cfef_15 : dec cJ1_indexOf_4cfef 15 1 16 (.iload_n 3) := ⟨by decide +kernel, rfl⟩
theorem dJ1_indexOf_4cfef_16 : dec cJ1_indexOf_4cfef 16 1 17 (.aload_n 0) := ⟨by decide +kernel, rfl⟩
theorem dJ1_indexOf_4cfef_17 : dec cJ1_indexOf_4cfef 17 1 18 (.arraylength) := ⟨by decide +kernel, rfl⟩
theorem dJ1_indexOf_4cfef_18 : dec cJ1_indexOf_4cfef 18 3 21 (.invokestatic 38) := ⟨by decide +kernel, rfl⟩
theorem dJ1_indexOf_4cfef_21 : dec cJ1_indexOf_4cfef 21 1 22 (.istore_n 3) := ⟨by decide +kernel, rfl⟩
theorem dJ1_indexOf_4cfef_22 : dec cJ1_indexOf_4cfef 22 1 23 (.iload_n 2) := ⟨by decide +kernel, rfl⟩
theorem dJ1_indexOf_4cfef_23 : dec cJ1_indexOf_4cfef 23 1 24 (.iload_n 3) := ⟨by decide +kernel, rfl⟩
theorem dJ1_indexOf_4cfef_24 : dec cJ1_indexOf_4cfef 24 3 27 (.if_icmp .lt 5) := ⟨by decide +kernel, rfl⟩
theorem dJ1_indexOf_4cfef_27 : dec cJ1_indexOf_4cfef 27 1 28 (.iconst (-1)) := ⟨by decide +kernel, rfl⟩
theorem dJ1_indexOf_4cfef_28 : dec cJ1_indexOf_4cfef 28 1 29 (.ireturn) := ⟨by decide +kernel, rfl⟩
theorem dJ1_indexOf_4cfef_29 : dec cJ1_indexOf_4cfef 29 1 30 (.aload_n 0) := ⟨by decide +kernel, rfl⟩
theorem dJ1_indexOf_4cfef_30 : dec cJ1_indexOf_4cfef 30 1 31 (.iload_n 1) := ⟨by decide +kernel, rfl⟩
theorem dJ1_indexOf_4cfef_31 : dec cJ1_indexOf_4cfef 31 1 32 (.iload_n 2) := ⟨by decide +kernel, rfl⟩
theorem dJ1_indexOf_4cfef_32 : dec cJ1_indexOf_4cfef 32 1 33 (.iload_n 3) := ⟨by decide +kernel, rfl⟩
theorem dJ1_indexOf_4cfef_33 : dec cJ1_indexOf_4cfef 33 3 36 (.invokestatic 95) := ⟨by decide +kernel, rfl⟩
theorem dJ1_indexOf_4cfef_36 : dec cJ1_indexOf_4cfef 36 1 37 (.ireturn) := ⟨by decide +kernel, rfl⟩
set_option maxHeartbeats 4000000 in
set_option maxRecDepth 100000 in
theorem mJ1_indexOf_4cfef (Y : Yx) (hF : Y.2.2.2.2 = true) (l : Launch) (z0 : Int) (x1 : Int) (x2 : Int) (x3 : Int) (M0 : Mem) (Q : Int → Mem → Prop) (qz0 : isS z0) (h : wJ1_indexOf_4cfef z0 x1 x2 x3 M0 Q) : CT Y l yJ1_indexOf_4cfef cJ1_indexOf_4cfef 4 (some .int) rmJ1_indexOf_4cfef [vB Y.2.2.1 z0, vI x1, vI x2, vI x3] M0 (QI Q) := by
  unfold wJ1_indexOf_4cfef at h
  refine ct_intro (by decide +kernel) (Nat.le_of_ble_eq_true rfl) ?_
  intro X hXl hC hL0
  have hL := hL0 hF
  change OKX X Y RJ1 cJ1_indexOf_4cfef 4 (some .int) rmJ1_indexOf_4cfef at hC
  change WW X Y 4 rmJ1_indexOf_4cfef (QI Q) M0 0 0 0 [(0, vB Y.2.2.1 z0), (1, vI x1), (2, vI x2), (3, vI x3)] [] M0
  refine r_iload_n hC 1 dJ1_indexOf_4cfef_0 rfl rfl ?_
  refine r_callS (As := [vI x1]) (st := []) hC cw_J1_88 rfl rfl (Nat.le_of_ble_eq_true rfl) ⟨Nat.le_of_ble_eq_true rfl, Nat.le_of_ble_eq_true rfl⟩ ⟨Nat.le_of_ble_eq_true rfl, Nat.le_of_ble_eq_true rfl⟩ dJ1_indexOf_4cfef_1 (fun hk => mJ1_canEncode_9a6ad Y hF _ _ _ _  h) (fun v M_1 h => ?_)
  obtain ⟨r_2, rfl, h⟩ := h
  refine r_if_ne hC 9 rfl dJ1_indexOf_4cfef_4 (by decide) (fun cq => ?_) (fun cq => ?_)
  · replace h := h.2 cq
    refine r_iload_n hC 2 dJ1_indexOf_4cfef_9 rfl rfl ?_
    refine r_iconst hC dJ1_indexOf_4cfef_10 ?_
    refine r_callS (As := [vI x2, vI 0]) (st := []) hC cw_J1_92 rfl rfl (Nat.le_of_ble_eq_true rfl) ⟨Nat.le_of_ble_eq_true rfl, Nat.le_of_ble_eq_true rfl⟩ ⟨Nat.le_of_ble_eq_true rfl, Nat.le_of_ble_eq_true rfl⟩ dJ1_indexOf_4cfef_11 (fun hk => mJ9_max_7cf53 Y hF _ _ _ _ _  h) (fun v M_3 h => ?_)
    obtain ⟨r_4, rfl, h⟩ := h
    refine r_istore_n (lv' := [(2, vI r_4), (0, vB Y.2.2.1 z0), (1, vI x1), (3, vI x3)]) hC dJ1_indexOf_4cfef_14 rfl (by decide) rfl ?_
    refine r_iload_n hC 3 dJ1_indexOf_4cfef_15 rfl rfl ?_
    refine r_aloadB_n hC 1 dJ1_indexOf_4cfef_16 rfl rfl ?_
    refine r_slen hC qz0 dJ1_indexOf_4cfef_17 ?_
    refine r_callS (As := [vI x3, vI (sLen z0)]) (st := []) hC cw_J1_38 rfl rfl (Nat.le_of_ble_eq_true rfl) ⟨Nat.le_of_ble_eq_true rfl, Nat.le_of_ble_eq_true rfl⟩ ⟨Nat.le_of_ble_eq_true rfl, Nat.le_of_ble_eq_true rfl⟩ dJ1_indexOf_4cfef_18 (fun hk => mJ9_min_7cf53 Y hF _ _ _ _ _  h) (fun v M_5 h => ?_)
    obtain ⟨r_6, rfl, h⟩ := h
    refine r_istore_n (lv' := [(3, vI r_6), (2, vI r_4), (0, vB Y.2.2.1 z0), (1, vI x1)]) hC dJ1_indexOf_4cfef_21 rfl (by decide) rfl ?_
    refine r_iload_n hC 1 dJ1_indexOf_4cfef_22 rfl rfl ?_
    refine r_iload_n hC 0 dJ1_indexOf_4cfef_23 rfl rfl ?_
    refine r_icmp_lt hC 29 rfl rfl dJ1_indexOf_4cfef_24 (by decide) (fun cq => ?_) (fun cq => ?_)
    · replace h := h.1 cq
      refine r_aloadB_n hC 2 dJ1_indexOf_4cfef_29 rfl rfl ?_
      refine r_iload_n hC 3 dJ1_indexOf_4cfef_30 rfl rfl ?_
      refine r_iload_n hC 1 dJ1_indexOf_4cfef_31 rfl rfl ?_
      refine r_iload_n hC 0 dJ1_indexOf_4cfef_32 rfl rfl ?_
      refine r_callS (As := [vB Y.2.2.1 z0, vI x1, vI r_4, vI r_6]) (st := []) hC cw_J1_95 rfl rfl (Nat.le_of_ble_eq_true rfl) ⟨Nat.le_of_ble_eq_true rfl, Nat.le_of_ble_eq_true rfl⟩ ⟨Nat.le_of_ble_eq_true rfl, Nat.le_of_ble_eq_true rfl⟩ dJ1_indexOf_4cfef_33 (fun hk => mJ1_indexOfChar_4cfef Y hF _ _ _ _ _ _ _ qz0 h) (fun v M_7 h => ?_)
      obtain ⟨r_8, rfl, h⟩ := h
      exact r_iret hC (Nat.zero_le _) (Nat.zero_le _) dJ1_indexOf_4cfef_36 ⟨_, rfl, h⟩
    · replace h := h.2 cq
      refine r_iconst hC dJ1_indexOf_4cfef_27 ?_
      exact r_iret hC (Nat.zero_le _) (Nat.zero_le _) dJ1_indexOf_4cfef_28 ⟨_, rfl, h⟩
  · replace h := h.1 cq
    refine r_iconst hC dJ1_indexOf_4cfef_7 ?_
    exact r_iret hC (Nat.zero_le _) (Nat.zero_le _) dJ1_indexOf_4cfef_8 ⟨_, rfl, h⟩
theorem dJ0_checkBoundsBeginEnd_23922_0 : dec cJ0_checkBoundsBeginEnd_23922 0 1 1 (.iload_n 0) := ⟨by decide +kernel, rfl⟩
theorem dJ0_checkBoundsBeginEnd_23922_1 : dec cJ0_checkBoundsBeginEnd_23922 1 1 2 (.iload_n 1) := ⟨by decide +kernel, rfl⟩
theorem dJ0_checkBoundsBeginEnd_23922_2 : dec cJ0_checkBoundsBeginEnd_23922 2 1 3 (.iload_n 2) := ⟨by decide +kernel, rfl⟩
theorem dJ0_checkBoundsBeginEnd_23922_3 : dec cJ0_checkBoundsBeginEnd_23922 3 3 6 (.getstatic 1053) := ⟨by decide +kernel, rfl⟩
theorem dJ0_checkBoundsBeginEnd_23922_6 : dec cJ0_checkBoundsBeginEnd_23922 6 3 9 (.invokestatic 1062) := ⟨by decide +kernel, rfl⟩
theorem dJ0_checkBoundsBeginEnd_23922_9 : dec cJ0_checkBoundsBeginEnd_23922 9 1 10 (.pop) := ⟨by decide +kernel, rfl⟩
theorem dJ0_checkBoundsBeginEnd_23922_10 : dec cJ0_checkBoundsBeginEnd_23922 10 1 11 (.return_) := ⟨by decide +kernel, rfl⟩
set_option maxHeartbeats 4000000 in
set_option maxRecDepth 100000 in
theorem mJ0_checkBoundsBeginEnd_23922 (Y : Yx) (hF : Y.2.2.2.2 = true) (l : Launch) (x0 : Int) (x1 : Int) (x2 : Int) (M0 : Mem) (Q : Mem → Prop)  (h : wJ0_checkBoundsBeginEnd_23922 x0 x1 x2 M0 Q) : CT Y l yJ0_checkBoundsBeginEnd_23922 cJ0_checkBoundsBeginEnd_23922 3 none rmJ0_checkBoundsBeginEnd_23922 [vI x0, vI x1, vI x2] M0 (QV Q) := by
  unfold wJ0_checkBoundsBeginEnd_23922 at h
  refine ct_intro (by decide +kernel) (Nat.le_of_ble_eq_true rfl) ?_
  intro X hXl hC hL0
  have hL := hL0 hF
  change OKX X Y RJ0 cJ0_checkBoundsBeginEnd_23922 3 none rmJ0_checkBoundsBeginEnd_23922 at hC
  change WW X Y 3 rmJ0_checkBoundsBeginEnd_23922 (QV Q) M0 0 0 0 [(0, vI x0), (1, vI x1), (2, vI x2)] [] M0
  refine r_iload_n hC 0 dJ0_checkBoundsBeginEnd_23922_0 rfl rfl ?_
  refine r_iload_n hC 1 dJ0_checkBoundsBeginEnd_23922_1 rfl rfl ?_
  refine r_iload_n hC 2 dJ0_checkBoundsBeginEnd_23922_2 rfl rfl ?_
  exact h.elim
