theorem dJ0_indexOf_7cf53_0 : dec cJ0_indexOf_7cf53 0 1 1 (.aload_n 0) := ⟨by decide +kernel, rfl⟩
theorem dJ0_indexOf_7cf53_1 : dec cJ0_indexOf_7cf53 1 3 4 (.invokevirtual 492) := ⟨by decide +kernel, rfl⟩
theorem dJ0_indexOf_7cf53_4 : dec cJ0_indexOf_7cf53 4 3 7 (.ifCond .eq 19) := ⟨by decide +kernel, rfl⟩
theorem dJ0_indexOf_7cf53_7 : dec cJ0_indexOf_7cf53 7 1 8 (.aload_n 0) := ⟨by decide +kernel, rfl⟩
theorem dJ0_indexOf_7cf53_8 : dec cJ0_indexOf_7cf53 8 3 11 (.getfield 9) := ⟨by decide +kernel, rfl⟩
theorem dJ0_indexOf_7cf53_11 : dec cJ0_indexOf_7cf53 11 1 12 (.iload_n 1) := ⟨by decide +kernel, rfl⟩
theorem dJ0_indexOf_7cf53_12 : dec cJ0_indexOf_7cf53 12 1 13 (.iload_n 2) := ⟨by decide +kernel, rfl⟩
theorem dJ0_indexOf_7cf53_13 : dec cJ0_indexOf_7cf53 13 1 14 (.aload_n 0) := ⟨by decide +kernel, rfl⟩
theorem dJ0_indexOf_7cf53_14 : dec cJ0_indexOf_7cf53 14 3 17 (.invokevirtual 505) := ⟨by decide +kernel, rfl⟩
theorem dJ0_indexOf_7cf53_17 : dec cJ0_indexOf_7cf53 17 3 20 (.invokestatic 637) := ⟨by decide +kernel, rfl⟩
theorem dJ0_indexOf_7cf53_20 : dec cJ0_indexOf_7cf53 20 3 23 (.goto 16) := ⟨by decide +kernel, rfl⟩
theorem dJ0_indexOf_7cf53_23 : dec cJ0_indexOf_7cf53 23 1 24 (.aload_n 0) := ⟨by decide +kernel, rfl⟩
theorem dJ0_indexOf_7cf53_24 : dec cJ0_indexOf_7cf53 24 3 27 (.getfield 9) := ⟨by decide +kernel, rfl⟩
theorem dJ0_indexOf_7cf53_27 : dec cJ0_indexOf_7cf53 27 1 28 (.iload_n 1) := ⟨by decide +kernel, rfl⟩
theorem dJ0_indexOf_7cf53_28 : dec cJ0_indexOf_7cf53 28 1 29 (.iload_n 2) := ⟨by decide +kernel, rfl⟩
theorem dJ0_indexOf_7cf53_29 : dec cJ0_indexOf_7cf53 29 1 30 (.aload_n 0) := ⟨by decide +kernel, rfl⟩
theorem dJ0_indexOf_7cf53_30 : dec cJ0_indexOf_7cf53 30 3 33 (.invokevirtual 505) := ⟨by decide +kernel, rfl⟩
theorem dJ0_indexOf_7cf53_33 : dec cJ0_indexOf_7cf53 33 3 36 (.invokestatic 640) := ⟨by decide +kernel, rfl⟩
theorem dJ0_indexOf_7cf53_36 : dec cJ0_indexOf_7cf53 36 1 37 (.ireturn) := ⟨by decide +kernel, rfl⟩
set_option maxHeartbeats 4000000 in
set_option maxRecDepth 100000 in
theorem mJ0_indexOf_7cf53 (Y : Yx) (hF : Y.2.2.2.2 = true) (l : Launch) (z0 : Int) (x1 : Int) (x2 : Int) (M0 : Mem) (Q : Int → Mem → Prop) (qz0 : isS z0) (h : wJ0_indexOf_7cf53 z0 x1 x2 M0 Q) : CT Y l yJ0_indexOf_7cf53 cJ0_indexOf_7cf53 3 (some .int) rmJ0_indexOf_7cf53 [vS Y.2.2.1 z0, vI x1, vI x2] M0 (QI Q) := by
  unfold wJ0_indexOf_7cf53 at h
  refine ct_intro (by decide +kernel) (by simp only [vS]; split <;> exact Nat.le_of_ble_eq_true rfl) ?_
  intro X hXl hC hL0
  have hL := hL0 hF
  change OKX X Y RJ0 cJ0_indexOf_7cf53 3 (some .int) rmJ0_indexOf_7cf53 at hC
  rw [show lv_args 0 [vS Y.2.2.1 z0, vI x1, vI x2] = [(0, vS Y.2.2.1 z0), (1, vI x1), (2, vI x2)] from by simp only [vS]; split <;> rfl]
  refine r_aloadS_n hC qz0 0 dJ0_indexOf_7cf53_0 rfl rfl ?_
  refine r_callT (As := []) (st := []) hC qz0 cw_J0_492 rfl rfl rfl (Nat.le_of_ble_eq_true rfl) ⟨Nat.le_of_ble_eq_true rfl, Nat.le_of_ble_eq_true rfl⟩ ⟨Nat.le_of_ble_eq_true rfl, Nat.le_of_ble_eq_true rfl⟩ dJ0_indexOf_7cf53_1 (fun hk => mJ0_isLatin1_aae02 Y hF _ _ _ _ qz0 h) (fun v M_1 h => ?_)
  obtain ⟨r_2, rfl, h⟩ := h
  refine r_if_eq hC 23 rfl dJ0_indexOf_7cf53_4 (by decide) (fun cq => ?_) (fun cq => ?_)
  · replace h := h.1 cq
    refine r_aloadS_n hC qz0 0 dJ0_indexOf_7cf53_23 rfl rfl ?_
    refine r_sval hC qz0 sf_J0_9 dJ0_indexOf_7cf53_24 ?_
    refine r_iload_n hC 1 dJ0_indexOf_7cf53_27 rfl rfl ?_
    refine r_iload_n hC 2 dJ0_indexOf_7cf53_28 rfl rfl ?_
    refine r_aloadS_n hC qz0 0 dJ0_indexOf_7cf53_29 rfl rfl ?_
    refine r_callT (As := []) (st := [vI x2, vI x1, vB Y.2.2.1 z0]) hC qz0 cw_J0_505 rfl rfl rfl (Nat.le_of_ble_eq_true rfl) ⟨Nat.le_of_ble_eq_true rfl, Nat.le_of_ble_eq_true rfl⟩ ⟨Nat.le_of_ble_eq_true rfl, Nat.le_of_ble_eq_true rfl⟩ dJ0_indexOf_7cf53_30 (fun hk => mJ0_length_8abf5 Y hF _ _ _ _ qz0 h) (fun v M_3 h => ?_)
    obtain ⟨r_4, rfl, h⟩ := h
    exact h.elim
  · replace h := h.2 cq
    refine r_aloadS_n hC qz0 0 dJ0_indexOf_7cf53_7 rfl rfl ?_
    refine r_sval hC qz0 sf_J0_9 dJ0_indexOf_7cf53_8 ?_
    refine r_iload_n hC 1 dJ0_indexOf_7cf53_11 rfl rfl ?_
    refine r_iload_n hC 2 dJ0_indexOf_7cf53_12 rfl rfl ?_
    refine r_aloadS_n hC qz0 0 dJ0_indexOf_7cf53_13 rfl rfl ?_
    refine r_callT (As := []) (st := [vI x2, vI x1, vB Y.2.2.1 z0]) hC qz0 cw_J0_505 rfl rfl rfl (Nat.le_of_ble_eq_true rfl) ⟨Nat.le_of_ble_eq_true rfl, Nat.le_of_ble_eq_true rfl⟩ ⟨Nat.le_of_ble_eq_true rfl, Nat.le_of_ble_eq_true rfl⟩ dJ0_indexOf_7cf53_14 (fun hk => mJ0_length_8abf5 Y hF _ _ _ _ qz0 h) (fun v M_5 h => ?_)
    obtain ⟨r_6, rfl, h⟩ := h
    refine r_callS (As := [vB Y.2.2.1 z0, vI x1, vI x2, vI r_6]) (st := []) hC cw_J0_637 rfl rfl (Nat.le_of_ble_eq_true rfl) ⟨Nat.le_of_ble_eq_true rfl, Nat.le_of_ble_eq_true rfl⟩ ⟨Nat.le_of_ble_eq_true rfl, Nat.le_of_ble_eq_true rfl⟩ dJ0_indexOf_7cf53_17 (fun hk => mJ1_indexOf_4cfef Y hF _ _ _ _ _ _ _ qz0 h) (fun v M_7 h => ?_)
    obtain ⟨r_8, rfl, h⟩ := h
    refine r_goto hC 36 dJ0_indexOf_7cf53_20 (by decide) ?_
    exact r_iret hC (Nat.zero_le _) (Nat.zero_le _) dJ0_indexOf_7cf53_36 ⟨_, rfl, h⟩
theorem dJ0_indexOf_0f7a4_0 : dec cJ0_indexOf_0f7a4 0 1 1 (.aload_n 0) := ⟨by decide +kernel, rfl⟩
theorem dJ0_indexOf_0f7a4_1 : dec cJ0_indexOf_0f7a4 1 1 2 (.iload_n 1) := ⟨by decide +kernel, rfl⟩
theorem dJ0_indexOf_0f7a4_2 : dec cJ0_indexOf_0f7a4 2 1 3 (.iconst 0) := ⟨by decide +kernel, rfl⟩
theorem dJ0_indexOf_0f7a4_3 : dec cJ0_indexOf_0f7a4 3 3 6 (.invokevirtual 633) := ⟨by decide +kernel, rfl⟩
theorem dJ0_indexOf_0f7a4_6 : dec cJ0_indexOf_0f7a4 6 1 7 (.ireturn) := ⟨by decide +kernel, rfl⟩
set_option maxHeartbeats 4000000 in
set_option maxRecDepth 100000 in
theorem mJ0_indexOf_0f7a4 (Y : Yx) (hF : Y.2.2.2.2 = true) (l : Launch) (z0 : Int) (x1 : Int) (M0 : Mem) (Q : Int → Mem → Prop) (qz0 : isS z0) (h : wJ0_indexOf_0f7a4 z0 x1 M0 Q) : CT Y l yJ0_indexOf_0f7a4 cJ0_indexOf_0f7a4 2 (some .int) rmJ0_indexOf_0f7a4 [vS Y.2.2.1 z0, vI x1] M0 (QI Q) := by
  unfold wJ0_indexOf_0f7a4 at h
  refine ct_intro (by decide +kernel) (by simp only [vS]; split <;> exact Nat.le_of_ble_eq_true rfl) ?_
  intro X hXl hC hL0
  have hL := hL0 hF
  change OKX X Y RJ0 cJ0_indexOf_0f7a4 2 (some .int) rmJ0_indexOf_0f7a4 at hC
  rw [show lv_args 0 [vS Y.2.2.1 z0, vI x1] = [(0, vS Y.2.2.1 z0), (1, vI x1)] from by simp only [vS]; split <;> rfl]
  refine r_aloadS_n hC qz0 0 dJ0_indexOf_0f7a4_0 rfl rfl ?_
  refine r_iload_n hC 1 dJ0_indexOf_0f7a4_1 rfl rfl ?_
  refine r_iconst hC dJ0_indexOf_0f7a4_2 ?_
  refine r_callT (As := [vI x1, vI 0]) (st := []) hC qz0 cw_J0_633 rfl rfl rfl (Nat.le_of_ble_eq_true rfl) ⟨Nat.le_of_ble_eq_true rfl, Nat.le_of_ble_eq_true rfl⟩ ⟨Nat.le_of_ble_eq_true rfl, Nat.le_of_ble_eq_true rfl⟩ dJ0_indexOf_0f7a4_3 (fun hk => mJ0_indexOf_7cf53 Y hF _ _ _ _ _ _ qz0 h) (fun v M_1 h => ?_)
  obtain ⟨r_2, rfl, h⟩ := h
  exact r_iret hC (Nat.zero_le _) (Nat.zero_le _) dJ0_indexOf_0f7a4_6 ⟨_, rfl, h⟩
theorem dX4_readChoice_0 : dec cX4_readChoice 0 1 1 (.aload_n 0) := ⟨by decide +kernel, rfl⟩
theorem dX4_readChoice_1 : dec cX4_readChoice 1 3 4 (.invokevirtual 60) := ⟨by decide +kernel, rfl⟩
theorem dX4_readChoice_4 : dec cX4_readChoice 4 3 7 (.ifCond .ne 5) := ⟨by decide +kernel, rfl⟩
theorem dX4_readChoice_7 : dec cX4_readChoice 7 1 8 (.iconst 0) := ⟨by decide +kernel, rfl⟩
theorem dX4_readChoice_8 : dec cX4_readChoice 8 1 9 (.ireturn) := ⟨by decide +kernel, rfl⟩
theorem dX4_readChoice_9 : dec cX4_readChoice 9 1 10 (.aload_n 0) := ⟨by decide +kernel, rfl⟩
theorem dX4_readChoice_10 : dec cX4_readChoice 10 2 12 (.bipush 63) := ⟨by decide +kernel, rfl⟩
theorem dX4_readChoice_12 : dec cX4_readChoice 12 3 15 (.invokevirtual 63) := ⟨by decide +kernel, rfl⟩
theorem dX4_readChoice_15 : dec cX4_readChoice 15 3 18 (.ifCond .ne 5) := ⟨by decide +kernel, rfl⟩
theorem dX4_readChoice_18 : dec cX4_readChoice 18 1 19 (.iconst 1) := ⟨by decide +kernel, rfl⟩
theorem dX4_readChoice_19 : dec cX4_readChoice 19 1 20 (.ireturn) := ⟨by decide +kernel, rfl⟩
theorem dX4_readChoice_20 : dec cX4_readChoice 20 1 21 (.aload_n 0) := ⟨by decide +kernel, rfl⟩
theorem dX4_readChoice_21 : dec cX4_readChoice 21 3 24 (.invokevirtual 67) := ⟨by decide +kernel, rfl⟩
theorem dX4_readChoice_24 : dec cX4_readChoice 24 3 27 (.ifCond .ne 5) := ⟨by decide +kernel, rfl⟩
theorem dX4_readChoice_27 : dec cX4_readChoice 27 1 28 (.iconst 0) := ⟨by decide +kernel, rfl⟩
theorem dX4_readChoice_28 : dec cX4_readChoice 28 1 29 (.ireturn) := ⟨by decide +kernel, rfl⟩
theorem dX4_readChoice_29 : dec cX4_readChoice 29 1 30 (.aload_n 0) := ⟨by decide +kernel, rfl⟩
theorem dX4_readChoice_30 : dec cX4_readChoice 30 1 31 (.dup) := ⟨by decide +kernel, rfl⟩
theorem dX4_readChoice_31 : dec cX4_readChoice 31 3 34 (.getfield 53) := ⟨by decide +kernel, rfl⟩
theorem dX4_readChoice_34 : dec cX4_readChoice 34 1 35 (.iconst 1) := ⟨by decide +kernel, rfl⟩
theorem dX4_readChoice_35 : dec cX4_readChoice 35 1 36 (.iadd) := ⟨by decide +kernel, rfl⟩
theorem dX4_readChoice_36 : dec cX4_readChoice 36 3 39 (.putfield 53) := ⟨by decide +kernel, rfl⟩
theorem dX4_readChoice_39 : dec cX4_readChoice 39 1 40 (.aload_n 0) := ⟨by decide +kernel, rfl⟩
theorem dX4_readChoice_40 : dec cX4_readChoice 40 3 43 (.invokevirtual 56) := ⟨by decide +kernel, rfl⟩
theorem dX4_readChoice_43 : dec cX4_readChoice 43 3 46 (.ifCond .eq 12) := ⟨by decide +kernel, rfl⟩
theorem dX4_readChoice_46 : dec cX4_readChoice 46 1 47 (.aload_n 0) := ⟨by decide +kernel, rfl⟩
theorem dX4_readChoice_47 : dec cX4_readChoice 47 2 49 (.bipush 58) := ⟨by decide +kernel, rfl⟩
theorem dX4_readChoice_49 : dec cX4_readChoice 49 3 52 (.invokevirtual 63) := ⟨by decide +kernel, rfl⟩
theorem dX4_readChoice_52 : dec cX4_readChoice 52 3 55 (.ifCond .ne 5) := ⟨by decide +kernel, rfl⟩
theorem dX4_readChoice_55 : dec cX4_readChoice 55 1 56 (.iconst 0) := ⟨by decide +kernel, rfl⟩
theorem dX4_readChoice_56 : dec cX4_readChoice 56 1 57 (.ireturn) := ⟨by decide +kernel, rfl⟩
theorem dX4_readChoice_57 : dec cX4_readChoice 57 1 58 (.aload_n 0) := ⟨by decide +kernel, rfl⟩
theorem dX4_readChoice_58 : dec cX4_readChoice 58 1 59 (.dup) := ⟨by decide +kernel, rfl⟩
theorem dX4_readChoice_59 : dec cX4_readChoice 59 3 62 (.getfield 47) := ⟨by decide +kernel, rfl⟩
theorem dX4_readChoice_62 : dec cX4_readChoice 62 1 63 (.iconst 1) := ⟨by decide +kernel, rfl⟩
theorem dX4_readChoice_63 : dec cX4_readChoice 63 1 64 (.iadd) := ⟨by decide +kernel, rfl⟩
theorem dX4_readChoice_64 : dec cX4_readChoice 64 3 67 (.putfield 47) := ⟨by decide +kernel, rfl⟩
theorem dX4_readChoice_67 : dec cX4_readChoice 67 1 68 (.aload_n 0) := ⟨by decide +kernel, rfl⟩
theorem dX4_readChoice_68 : dec cX4_readChoice 68 3 71 (.invokevirtual 56) := ⟨by decide +kernel, rfl⟩
theorem dX4_readChoice_71 : dec cX4_readChoice 71 3 74 (.ifCond .ne 5) := ⟨by decide +kernel, rfl⟩
theorem dX4_readChoice_74 : dec cX4_readChoice 74 1 75 (.iconst 0) := ⟨by decide +kernel, rfl⟩
theorem dX4_readChoice_75 : dec cX4_readChoice 75 1 76 (.ireturn) := ⟨by decide +kernel, rfl⟩
theorem dX4_readChoice_76 : dec cX4_readChoice 76 1 77 (.aload_n 0) := ⟨by decide +kernel, rfl⟩
theorem dX4_readChoice_77 : dec cX4_readChoice 77 1 78 (.dup) := ⟨by decide +kernel, rfl⟩
theorem dX4_readChoice_78 : dec cX4_readChoice 78 3 81 (.getfield 50) := ⟨by decide +kernel, rfl⟩
theorem dX4_readChoice_81 : dec cX4_readChoice 81 1 82 (.iconst 1) := ⟨by decide +kernel, rfl⟩
theorem dX4_readChoice_82 : dec cX4_readChoice 82 1 83 (.isub) := ⟨by decide +kernel, rfl⟩
theorem dX4_readChoice_83 : dec cX4_readChoice 83 3 86 (.putfield 50) := ⟨by decide +kernel, rfl⟩
theorem dX4_readChoice_86 : dec cX4_readChoice 86 1 87 (.aload_n 0) := ⟨by decide +kernel, rfl⟩
theorem dX4_readChoice_87 : dec cX4_readChoice 87 3 90 (.sipush 263) := ⟨by decide +kernel, rfl⟩
theorem dX4_readChoice_90 : dec cX4_readChoice 90 3 93 (.invokevirtual 72) := ⟨by decide +kernel, rfl⟩
theorem dX4_readChoice_93 : dec cX4_readChoice 93 1 94 (.ireturn) := ⟨by decide +kernel, rfl⟩
set_option maxHeartbeats 4000000 in
set_option maxRecDepth 100000 in
theorem mbX4_readChoice (Y : Yx) (hF : Y.2.2.2.2 = true) (l : Launch) {Γ : Nat → List Int → Mem → (Int → Mem → Prop) → Prop} {d : Nat} (a0 : Nat) (hG0 : ∀ (M : Mem) (Q : Int → Mem → Prop), (0 < a0 ∧ M 0 a0 = kO 4) → Γ 0 [] M Q → CT Y l yX4_readChoice cX4_readChoice 1 (some .boolean) (rmX4_readChoice d) [vR Y.1 a0] M (QI Q)) (hG1 : ∀ (M : Mem) (Q : Int → Mem → Prop), (0 < a0 ∧ M 0 a0 = kO 4) → Γ 1 [] M Q → CT Y l yX4_readSum cX4_readSum 4 (some .boolean) (rmX4_readSum d) [vR Y.1 a0] M (QI Q)) (hG2 : ∀ (M : Mem) (Q : Int → Mem → Prop), (0 < a0 ∧ M 0 a0 = kO 4) → Γ 2 [] M Q → CT Y l yX4_readProduct cX4_readProduct 4 (some .boolean) (rmX4_readProduct d) [vR Y.1 a0] M (QI Q)) (hG3 : ∀ (M : Mem) (Q : Int → Mem → Prop), (0 < a0 ∧ M 0 a0 = kO 4) → Γ 3 [] M Q → CT Y l yX4_readOne cX4_readOne 2 (some .boolean) (rmX4_readOne d) [vR Y.1 a0] M (QI Q)) (hG4 : ∀ (M : Mem) (Q : Int → Mem → Prop), (0 < a0 ∧ M 0 a0 = kO 4) → Γ 4 [] M Q → CT Y l yX4_readNegated cX4_readNegated 1 (some .boolean) (rmX4_readNegated d) [vR Y.1 a0] M (QI Q)) (hG5 : ∀ (M : Mem) (Q : Int → Mem → Prop), (0 < a0 ∧ M 0 a0 = kO 4) → Γ 5 [] M Q → CT Y l yX4_readBraced cX4_readBraced 1 (some .boolean) (rmX4_readBraced d) [vR Y.1 a0] M (QI Q)) (M0 : Mem) (Q : Int → Mem → Prop) (qa0 : 0 < a0 ∧ M0 0 a0 = kO 4) (h : wbX4_readChoice Γ a0 M0 Q) : CT Y l yX4_readChoice cX4_readChoice 1 (some .boolean) (rmX4_readChoice (d + 1)) [vR Y.1 a0] M0 (QI Q) := by
  unfold wbX4_readChoice at h
  refine ct_intro (by decide) (Nat.le_of_ble_eq_true rfl) ?_
  intro X hXl hC hL0
  have hL := hL0 hF
  change OKX X Y RX4 cX4_readChoice 1 (some .boolean) (rmX4_readChoice (d + 1)) at hC
  subst hXl
  change WW X Y 1 (rmX4_readChoice (d + 1)) (QI Q) M0 0 0 0 [(0, vR Y.1 a0)] [] M0
  refine r_aload_n hC 0 dX4_readChoice_0 rfl rfl ?_
  refine r_callV (As := []) (st := []) hC cw_X4_60 rfl qa0.1 qa0.2 rfl rfl (Nat.le_of_ble_eq_true rfl) (by constructor <;> simp only [rmX4_readChoice, rmX4_readSum] <;> omega) ⟨Nat.le_of_ble_eq_true rfl, Nat.le_of_ble_eq_true rfl⟩ dX4_readChoice_1 (fun hk => hG1  _ _ (kqO hk qa0) h) (fun v M_1 h => ?_)
  obtain ⟨r_2, rfl, h⟩ := h
  refine r_if_ne hC 9 rfl dX4_readChoice_4 (by decide) (fun cq => ?_) (fun cq => ?_)
  · replace h := h.2 cq
    refine r_aload_n hC 0 dX4_readChoice_9 rfl rfl ?_
    refine r_bipush hC (by decide +kernel) dX4_readChoice_10 ?_
    refine r_callV (As := [vI 63]) (st := []) hC cw_X4_63 rfl qa0.1 qa0.2 rfl rfl (Nat.le_of_ble_eq_true rfl) (by constructor <;> simp only [rmX4_readChoice, rmX4_isAt] <;> omega) ⟨Nat.le_of_ble_eq_true rfl, Nat.le_of_ble_eq_true rfl⟩ dX4_readChoice_12 (fun hk => mX4_isAt Y hF _ _ _ _ _ (kqO hk qa0) h) (fun v M_3 h => ?_)
    obtain ⟨r_4, rfl, h⟩ := h
    refine r_if_ne hC 20 rfl dX4_readChoice_15 (by decide) (fun cq => ?_) (fun cq => ?_)
    · replace h := h.2 cq
      refine r_aload_n hC 0 dX4_readChoice_20 rfl rfl ?_
      refine r_callV (As := []) (st := []) hC cw_X4_67 rfl qa0.1 qa0.2 rfl rfl (Nat.le_of_ble_eq_true rfl) (by constructor <;> simp only [rmX4_readChoice, rmX4_opensAnother] <;> omega) ⟨Nat.le_of_ble_eq_true rfl, Nat.le_of_ble_eq_true rfl⟩ dX4_readChoice_21 (fun hk => mX4_opensAnother Y hF _ _ _ _ (kqO hk qa0) h) (fun v M_5 h => ?_)
      obtain ⟨r_6, rfl, h⟩ := h
      refine r_if_ne hC 29 rfl dX4_readChoice_24 (by decide) (fun cq => ?_) (fun cq => ?_)
      · replace h := h.2 cq
        refine r_aload_n hC 0 dX4_readChoice_29 rfl rfl ?_
        refine r_dup hC rfl dX4_readChoice_30 ?_
        refine r_getI hC fg_X4_53 rfl qa0.1 qa0.2 dX4_readChoice_31 ?_
        refine r_iconst hC dX4_readChoice_34 ?_
        refine r_iadd hC dX4_readChoice_35 ?_
        refine r_putI hC fp_X4_53 rfl qa0.1 qa0.2 dX4_readChoice_36 ?_
        refine r_nameM h (fun M_7 h => ?_)
        refine r_aload_n hC 0 dX4_readChoice_39 rfl rfl ?_
        refine r_callV (As := []) (st := []) hC cw_X4_56 rfl qa0.1 qa0.2 rfl rfl (Nat.le_of_ble_eq_true rfl) (by constructor <;> simp only [rmX4_readChoice, rmX4_readChoice] <;> omega) ⟨Nat.le_of_ble_eq_true rfl, Nat.le_of_ble_eq_true rfl⟩ dX4_readChoice_40 (fun hk => hG0  _ _ (kqO hk qa0) h) (fun v M_8 h => ?_)
        obtain ⟨r_9, rfl, h⟩ := h
        refine r_if_eq hC 55 rfl dX4_readChoice_43 (by decide) (fun cq => ?_) (fun cq => ?_)
        · replace h := h.1 cq
          refine r_iconst hC dX4_readChoice_55 ?_
          exact r_zret hC (Or.inl rfl) (Nat.zero_le _) (Nat.zero_le _) dX4_readChoice_56 ⟨_, rfl, h⟩
        · replace h := h.2 cq
          refine r_aload_n hC 0 dX4_readChoice_46 rfl rfl ?_
          refine r_bipush hC (by decide +kernel) dX4_readChoice_47 ?_
          refine r_callV (As := [vI 58]) (st := []) hC cw_X4_63 rfl qa0.1 qa0.2 rfl rfl (Nat.le_of_ble_eq_true rfl) (by constructor <;> simp only [rmX4_readChoice, rmX4_isAt] <;> omega) ⟨Nat.le_of_ble_eq_true rfl, Nat.le_of_ble_eq_true rfl⟩ dX4_readChoice_49 (fun hk => mX4_isAt Y hF _ _ _ _ _ (kqO hk qa0) h) (fun v M_10 h => ?_)
          obtain ⟨r_11, rfl, h⟩ := h
          refine r_if_ne hC 57 rfl dX4_readChoice_52 (by decide) (fun cq => ?_) (fun cq => ?_)
          · replace h := h.2 cq
            refine r_aload_n hC 0 dX4_readChoice_57 rfl rfl ?_
            refine r_dup hC rfl dX4_readChoice_58 ?_
            refine r_getI hC fg_X4_47 rfl qa0.1 qa0.2 dX4_readChoice_59 ?_
            refine r_iconst hC dX4_readChoice_62 ?_
            refine r_iadd hC dX4_readChoice_63 ?_
            refine r_putI hC fp_X4_47 rfl qa0.1 qa0.2 dX4_readChoice_64 ?_
            refine r_nameM h (fun M_12 h => ?_)
            refine r_aload_n hC 0 dX4_readChoice_67 rfl rfl ?_
            refine r_callV (As := []) (st := []) hC cw_X4_56 rfl qa0.1 qa0.2 rfl rfl (Nat.le_of_ble_eq_true rfl) (by constructor <;> simp only [rmX4_readChoice, rmX4_readChoice] <;> omega) ⟨Nat.le_of_ble_eq_true rfl, Nat.le_of_ble_eq_true rfl⟩ dX4_readChoice_68 (fun hk => hG0  _ _ (kqO hk qa0) h) (fun v M_13 h => ?_)
            obtain ⟨r_14, rfl, h⟩ := h
            refine r_if_ne hC 76 rfl dX4_readChoice_71 (by decide) (fun cq => ?_) (fun cq => ?_)
            · replace h := h.2 cq
              refine r_aload_n hC 0 dX4_readChoice_76 rfl rfl ?_
              refine r_dup hC rfl dX4_readChoice_77 ?_
              refine r_getI hC fg_X4_50 rfl qa0.1 qa0.2 dX4_readChoice_78 ?_
              refine r_iconst hC dX4_readChoice_81 ?_
              refine r_isub hC dX4_readChoice_82 ?_
              refine r_putI hC fp_X4_50 rfl qa0.1 qa0.2 dX4_readChoice_83 ?_
              refine r_nameM h (fun M_15 h => ?_)
              refine r_aload_n hC 0 dX4_readChoice_86 rfl rfl ?_
              refine r_sipush hC (by decide +kernel) dX4_readChoice_87 ?_
              refine r_callV (As := [vI 263]) (st := []) hC cw_X4_72 rfl qa0.1 qa0.2 rfl rfl (Nat.le_of_ble_eq_true rfl) (by constructor <;> simp only [rmX4_readChoice, rmX4_writes] <;> omega) ⟨Nat.le_of_ble_eq_true rfl, Nat.le_of_ble_eq_true rfl⟩ dX4_readChoice_90 (fun hk => mX4_writes Y hF _ _ _ _ _ (kqO hk qa0) h) (fun v M_16 h => ?_)
              obtain ⟨r_17, rfl, h⟩ := h
              exact r_zret hC h.1 (Nat.zero_le _) (Nat.zero_le _) dX4_readChoice_93 ⟨_, rfl, h.2⟩
            · replace h := h.1 cq
              refine r_iconst hC dX4_readChoice_74 ?_
              exact r_zret hC (Or.inl rfl) (Nat.zero_le _) (Nat.zero_le _) dX4_readChoice_75 ⟨_, rfl, h⟩
          · replace h := h.1 cq
            refine r_iconst hC dX4_readChoice_55 ?_
            exact r_zret hC (Or.inl rfl) (Nat.zero_le _) (Nat.zero_le _) dX4_readChoice_56 ⟨_, rfl, h⟩
      · replace h := h.1 cq
        refine r_iconst hC dX4_readChoice_27 ?_
        exact r_zret hC (Or.inl rfl) (Nat.zero_le _) (Nat.zero_le _) dX4_readChoice_28 ⟨_, rfl, h⟩
    · replace h := h.1 cq
      refine r_iconst hC dX4_readChoice_18 ?_
      exact r_zret hC (Or.inr rfl) (Nat.zero_le _) (Nat.zero_le _) dX4_readChoice_19 ⟨_, rfl, h⟩
  · replace h := h.1 cq
    refine r_iconst hC dX4_readChoice_7 ?_
    exact r_zret hC (Or.inl rfl) (Nat.zero_le _) (Nat.zero_le _) dX4_readChoice_8 ⟨_, rfl, h⟩
theorem dX4_readSum_0 : dec cX4_readSum 0 1 1 (.aload_n 0) := ⟨by decide +kernel, rfl⟩
theorem dX4_readSum_1 : dec cX4_readSum 1 3 4 (.invokevirtual 76) := ⟨by decide +kernel, rfl⟩
theorem dX4_readSum_4 : dec cX4_readSum 4 1 5 (.istore_n 1) := ⟨by decide +kernel, rfl⟩
theorem dX4_readSum_5 : dec cX4_readSum 5 1 6 (.iconst 0) := ⟨by decide +kernel, rfl⟩
theorem dX4_readSum_6 : dec cX4_readSum 6 1 7 (.istore_n 2) := ⟨by decide +kernel, rfl⟩
theorem dX4_readSum_7 : dec cX4_readSum 7 1 8 (.iload_n 2) := ⟨by decide +kernel, rfl⟩
theorem dX4_readSum_8 : dec cX4_readSum 8 2 10 (.bipush 50) := ⟨by decide +kernel, rfl⟩
theorem dX4_readSum_10 : dec cX4_readSum 10 3 13 (.if_icmp .ge 86) := ⟨by decide +kernel, rfl⟩
theorem dX4_readSum_13 : dec cX4_readSum 13 1 14 (.iload_n 1) := ⟨by decide +kernel, rfl⟩
theorem dX4_readSum_14 : dec cX4_readSum 14 3 17 (.ifCond .eq 82) := ⟨by decide +kernel, rfl⟩
theorem dX4_readSum_17 : dec cX4_readSum 17 1 18 (.aload_n 0) := ⟨by decide +kernel, rfl⟩
theorem dX4_readSum_18 : dec cX4_readSum 18 2 20 (.bipush 43) := ⟨by decide +kernel, rfl⟩
theorem dX4_readSum_20 : dec cX4_readSum 20 3 23 (.invokevirtual 63) := ⟨by decide +kernel, rfl⟩
theorem dX4_readSum_23 : dec cX4_readSum 23 3 26 (.ifCond .ne 12) := ⟨by decide +kernel, rfl⟩
theorem dX4_readSum_26 : dec cX4_readSum 26 1 27 (.aload_n 0) := ⟨by decide +kernel, rfl⟩
theorem dX4_readSum_27 : dec cX4_readSum 27 2 29 (.bipush 45) := ⟨by decide +kernel, rfl⟩
theorem dX4_readSum_29 : dec cX4_readSum 29 3 32 (.invokevirtual 63) := ⟨by decide +kernel, rfl⟩
theorem dX4_readSum_32 : dec cX4_readSum 32 3 35 (.ifCond .eq 64) := ⟨by decide +kernel, rfl⟩
theorem dX4_readSum_35 : dec cX4_readSum 35 1 36 (.aload_n 0) := ⟨by decide +kernel, rfl⟩
theorem dX4_readSum_36 : dec cX4_readSum 36 3 39 (.getfield 15) := ⟨by decide +kernel, rfl⟩
theorem dX4_readSum_39 : dec cX4_readSum 39 1 40 (.aload_n 0) := ⟨by decide +kernel, rfl⟩
theorem dX4_readSum_40 : dec cX4_readSum 40 3 43 (.getfield 47) := ⟨by decide +kernel, rfl⟩
theorem dX4_readSum_43 : dec cX4_readSum 43 1 44 (.baload) := ⟨by decide +kernel, rfl⟩
theorem dX4_readSum_44 : dec cX4_readSum 44 1 45 (.istore_n 3) := ⟨by decide +kernel, rfl⟩
theorem dX4_readSum_45 : dec cX4_readSum 45 1 46 (.aload_n 0) := ⟨by decide +kernel, rfl⟩
theorem dX4_readSum_46 : dec cX4_readSum 46 1 47 (.dup) := ⟨by decide +kernel, rfl⟩
theorem dX4_readSum_47 : dec cX4_readSum 47 3 50 (.getfield 47) := ⟨by decide +kernel, rfl⟩
theorem dX4_readSum_50 : dec cX4_readSum 50 1 51 (.iconst 1) := ⟨by decide +kernel, rfl⟩
theorem dX4_readSum_51 : dec cX4_readSum 51 1 52 (.iadd) := ⟨by decide +kernel, rfl⟩
theorem dX4_readSum_52 : dec cX4_readSum 52 3 55 (.putfield 47) := ⟨by decide +kernel, rfl⟩
theorem dX4_readSum_55 : dec cX4_readSum 55 1 56 (.aload_n 0) := ⟨by decide +kernel, rfl⟩
theorem dX4_readSum_56 : dec cX4_readSum 56 1 57 (.dup) := ⟨by decide +kernel, rfl⟩
theorem dX4_readSum_57 : dec cX4_readSum 57 3 60 (.getfield 53) := ⟨by decide +kernel, rfl⟩
theorem dX4_readSum_60 : dec cX4_readSum 60 1 61 (.iconst 1) := ⟨by decide +kernel, rfl⟩
theorem dX4_readSum_61 : dec cX4_readSum 61 1 62 (.iadd) := ⟨by decide +kernel, rfl⟩
theorem dX4_readSum_62 : dec cX4_readSum 62 3 65 (.putfield 53) := ⟨by decide +kernel, rfl⟩
theorem dX4_readSum_65 : dec cX4_readSum 65 1 66 (.aload_n 0) := ⟨by decide +kernel, rfl⟩
theorem dX4_readSum_66 : dec cX4_readSum 66 3 69 (.invokevirtual 76) := ⟨by decide +kernel, rfl⟩
theorem dX4_readSum_69 : dec cX4_readSum 69 3 72 (.ifCond .eq 19) := ⟨by decide +kernel, rfl⟩
theorem dX4_readSum_72 : dec cX4_readSum 72 1 73 (.aload_n 0) := ⟨by decide +kernel, rfl⟩
theorem dX4_readSum_73 : dec cX4_readSum 73 3 76 (.sipush 200) := ⟨by decide +kernel, rfl⟩
theorem dX4_readSum_76 : dec cX4_readSum 76 1 77 (.iload_n 3) := ⟨by decide +kernel, rfl⟩
theorem dX4_readSum_77 : dec cX4_readSum 77 1 78 (.iadd) := ⟨by decide +kernel, rfl⟩
theorem dX4_readSum_78 : dec cX4_readSum 78 3 81 (.invokevirtual 72) := ⟨by decide +kernel, rfl⟩
theorem dX4_readSum_81 : dec cX4_readSum 81 3 84 (.ifCond .eq 7) := ⟨by decide +kernel, rfl⟩
theorem dX4_readSum_84 : dec cX4_readSum 84 1 85 (.iconst 1) := ⟨by decide +kernel, rfl⟩
theorem dX4_readSum_85 : dec cX4_readSum 85 3 88 (.goto 4) := ⟨by decide +kernel, rfl⟩
theorem dX4_readSum_88 : dec cX4_readSum 88 1 89 (.iconst 0) := ⟨by decide +kernel, rfl⟩
theorem dX4_readSum_89 : dec cX4_readSum 89 1 90 (.istore_n 1) := ⟨by decide +kernel, rfl⟩
theorem dX4_readSum_90 : dec cX4_readSum 90 3 93 (.iinc 2 1) := ⟨by decide +kernel, rfl⟩
theorem dX4_readSum_93 : dec cX4_readSum 93 3 96 (.goto (-86)) := ⟨by decide +kernel, rfl⟩
theorem dX4_readSum_96 : dec cX4_readSum 96 1 97 (.iload_n 1) := ⟨by decide +kernel, rfl⟩
theorem dX4_readSum_97 : dec cX4_readSum 97 1 98 (.ireturn) := ⟨by decide +kernel, rfl⟩
set_option maxHeartbeats 4000000 in
set_option maxRecDepth 100000 in
theorem tX4_readSum_J89 {X : Cx} {Y : Yx} {M0 : Mem} {Γ : Nat → List Int → Mem → (Int → Mem → Prop) → Prop} {d : Nat} (hC : OKX X Y RX4 cX4_readSum 4 (some .boolean) (rmX4_readSum (d + 1))) (hF : Y.2.2.2.2 = true) (hL : Lay M0) (a0 : Nat) (hG0 : ∀ (M : Mem) (Q : Int → Mem → Prop), (0 < a0 ∧ M 0 a0 = kO 4) → Γ 0 [] M Q → CT Y X.2.1 yX4_readChoice cX4_readChoice 1 (some .boolean) (rmX4_readChoice d) [vR Y.1 a0] M (QI Q)) (hG1 : ∀ (M : Mem) (Q : Int → Mem → Prop), (0 < a0 ∧ M 0 a0 = kO 4) → Γ 1 [] M Q → CT Y X.2.1 yX4_readSum cX4_readSum 4 (some .boolean) (rmX4_readSum d) [vR Y.1 a0] M (QI Q)) (hG2 : ∀ (M : Mem) (Q : Int → Mem → Prop), (0 < a0 ∧ M 0 a0 = kO 4) → Γ 2 [] M Q → CT Y X.2.1 yX4_readProduct cX4_readProduct 4 (some .boolean) (rmX4_readProduct d) [vR Y.1 a0] M (QI Q)) (hG3 : ∀ (M : Mem) (Q : Int → Mem → Prop), (0 < a0 ∧ M 0 a0 = kO 4) → Γ 3 [] M Q → CT Y X.2.1 yX4_readOne cX4_readOne 2 (some .boolean) (rmX4_readOne d) [vR Y.1 a0] M (QI Q)) (hG4 : ∀ (M : Mem) (Q : Int → Mem → Prop), (0 < a0 ∧ M 0 a0 = kO 4) → Γ 4 [] M Q → CT Y X.2.1 yX4_readNegated cX4_readNegated 1 (some .boolean) (rmX4_readNegated d) [vR Y.1 a0] M (QI Q)) (hG5 : ∀ (M : Mem) (Q : Int → Mem → Prop), (0 < a0 ∧ M 0 a0 = kO 4) → Γ 5 [] M Q → CT Y X.2.1 yX4_readBraced cX4_readBraced 1 (some .boolean) (rmX4_readBraced d) [vR Y.1 a0] M (QI Q)) (Q : Int → Mem → Prop) (C7 : Int → Int → Mem → Prop)  (x2 : Int) (xs0 : Int) (qa0 : 0 < a0 ∧ M0 0 a0 = kO 4) (hC7 : ∀ (x1 : Int) (x2 : Int) (M : Mem), C7 x1 x2 M → WW X Y 4 (rmX4_readSum (d + 1)) (QI Q) M0 0 0 7 [(0, vR Y.1 a0), (1, vI x1), (2, vI x2)] [] M) (M : Mem) (h : wX4_readSum_J89 Γ Q C7 a0 x2 xs0 M) : WW X Y 4 (rmX4_readSum (d + 1)) (QI Q) M0 0 0 89 [(0, vR Y.1 a0), (2, vI x2)] [vI xs0] M := by
  unfold wX4_readSum_J89 at h
  refine r_istore_n (lv' := [(1, vI xs0), (0, vR Y.1 a0), (2, vI x2)]) hC dX4_readSum_89 rfl (by decide) rfl ?_
  refine let_elim h (fun x2_12 e_13 h => ?_)
  refine r_iinc (lv' := [(2, vI x2_12), (1, vI xs0), (0, vR Y.1 a0)]) hC 2 dX4_readSum_90 rfl (by decide) e_13 rfl ?_
  refine r_goto hC 7 dX4_readSum_93 (by decide) ?_
  refine r_sub [2, 1, 0] rfl ?_
  exact hC7 _ _ _ h
set_option maxHeartbeats 4000000 in
set_option maxRecDepth 100000 in
theorem tX4_readSum_J88 {X : Cx} {Y : Yx} {M0 : Mem} {Γ : Nat → List Int → Mem → (Int → Mem → Prop) → Prop} {d : Nat} (hC : OKX X Y RX4 cX4_readSum 4 (some .boolean) (rmX4_readSum (d + 1))) (hF : Y.2.2.2.2 = true) (hL : Lay M0) (a0 : Nat) (hG0 : ∀ (M : Mem) (Q : Int → Mem → Prop), (0 < a0 ∧ M 0 a0 = kO 4) → Γ 0 [] M Q → CT Y X.2.1 yX4_readChoice cX4_readChoice 1 (some .boolean) (rmX4_readChoice d) [vR Y.1 a0] M (QI Q)) (hG1 : ∀ (M : Mem) (Q : Int → Mem → Prop), (0 < a0 ∧ M 0 a0 = kO 4) → Γ 1 [] M Q → CT Y X.2.1 yX4_readSum cX4_readSum 4 (some .boolean) (rmX4_readSum d) [vR Y.1 a0] M (QI Q)) (hG2 : ∀ (M : Mem) (Q : Int → Mem → Prop), (0 < a0 ∧ M 0 a0 = kO 4) → Γ 2 [] M Q → CT Y X.2.1 yX4_readProduct cX4_readProduct 4 (some .boolean) (rmX4_readProduct d) [vR Y.1 a0] M (QI Q)) (hG3 : ∀ (M : Mem) (Q : Int → Mem → Prop), (0 < a0 ∧ M 0 a0 = kO 4) → Γ 3 [] M Q → CT Y X.2.1 yX4_readOne cX4_readOne 2 (some .boolean) (rmX4_readOne d) [vR Y.1 a0] M (QI Q)) (hG4 : ∀ (M : Mem) (Q : Int → Mem → Prop), (0 < a0 ∧ M 0 a0 = kO 4) → Γ 4 [] M Q → CT Y X.2.1 yX4_readNegated cX4_readNegated 1 (some .boolean) (rmX4_readNegated d) [vR Y.1 a0] M (QI Q)) (hG5 : ∀ (M : Mem) (Q : Int → Mem → Prop), (0 < a0 ∧ M 0 a0 = kO 4) → Γ 5 [] M Q → CT Y X.2.1 yX4_readBraced cX4_readBraced 1 (some .boolean) (rmX4_readBraced d) [vR Y.1 a0] M (QI Q)) (Q : Int → Mem → Prop) (C7 : Int → Int → Mem → Prop)  (x2 : Int) (qa0 : 0 < a0 ∧ M0 0 a0 = kO 4) (hC7 : ∀ (x1 : Int) (x2 : Int) (M : Mem), C7 x1 x2 M → WW X Y 4 (rmX4_readSum (d + 1)) (QI Q) M0 0 0 7 [(0, vR Y.1 a0), (1, vI x1), (2, vI x2)] [] M) (M : Mem) (h : wX4_readSum_J88 Γ Q C7 a0 x2 M) : WW X Y 4 (rmX4_readSum (d + 1)) (QI Q) M0 0 0 88 [(0, vR Y.1 a0), (2, vI x2)] [] M := by
  unfold wX4_readSum_J88 at h
  refine r_iconst hC dX4_readSum_88 ?_
  refine r_sub [0, 1] rfl ?_
  exact tX4_readSum_J89 hC hF hL _ hG0 hG1 hG2 hG3 hG4 hG5 Q _  _ _ qa0 hC7 _ h
set_option maxHeartbeats 4000000 in
set_option maxRecDepth 100000 in
theorem tX4_readSum_J35 {X : Cx} {Y : Yx} {M0 : Mem} {Γ : Nat → List Int → Mem → (Int → Mem → Prop) → Prop} {d : Nat} (hC : OKX X Y RX4 cX4_readSum 4 (some .boolean) (rmX4_readSum (d + 1))) (hF : Y.2.2.2.2 = true) (hL : Lay M0) (a0 : Nat) (hG0 : ∀ (M : Mem) (Q : Int → Mem → Prop), (0 < a0 ∧ M 0 a0 = kO 4) → Γ 0 [] M Q → CT Y X.2.1 yX4_readChoice cX4_readChoice 1 (some .boolean) (rmX4_readChoice d) [vR Y.1 a0] M (QI Q)) (hG1 : ∀ (M : Mem) (Q : Int → Mem → Prop), (0 < a0 ∧ M 0 a0 = kO 4) → Γ 1 [] M Q → CT Y X.2.1 yX4_readSum cX4_readSum 4 (some .boolean) (rmX4_readSum d) [vR Y.1 a0] M (QI Q)) (hG2 : ∀ (M : Mem) (Q : Int → Mem → Prop), (0 < a0 ∧ M 0 a0 = kO 4) → Γ 2 [] M Q → CT Y X.2.1 yX4_readProduct cX4_readProduct 4 (some .boolean) (rmX4_readProduct d) [vR Y.1 a0] M (QI Q)) (hG3 : ∀ (M : Mem) (Q : Int → Mem → Prop), (0 < a0 ∧ M 0 a0 = kO 4) → Γ 3 [] M Q → CT Y X.2.1 yX4_readOne cX4_readOne 2 (some .boolean) (rmX4_readOne d) [vR Y.1 a0] M (QI Q)) (hG4 : ∀ (M : Mem) (Q : Int → Mem → Prop), (0 < a0 ∧ M 0 a0 = kO 4) → Γ 4 [] M Q → CT Y X.2.1 yX4_readNegated cX4_readNegated 1 (some .boolean) (rmX4_readNegated d) [vR Y.1 a0] M (QI Q)) (hG5 : ∀ (M : Mem) (Q : Int → Mem → Prop), (0 < a0 ∧ M 0 a0 = kO 4) → Γ 5 [] M Q → CT Y X.2.1 yX4_readBraced cX4_readBraced 1 (some .boolean) (rmX4_readBraced d) [vR Y.1 a0] M (QI Q)) (Q : Int → Mem → Prop) (C7 : Int → Int → Mem → Prop)  (x2 : Int) (qa0 : 0 < a0 ∧ M0 0 a0 = kO 4) (hC7 : ∀ (x1 : Int) (x2 : Int) (M : Mem), C7 x1 x2 M → WW X Y 4 (rmX4_readSum (d + 1)) (QI Q) M0 0 0 7 [(0, vR Y.1 a0), (1, vI x1), (2, vI x2)] [] M) (M : Mem) (h : wX4_readSum_J35 Γ Q C7 a0 x2 M) : WW X Y 4 (rmX4_readSum (d + 1)) (QI Q) M0 0 0 35 [(0, vR Y.1 a0), (2, vI x2)] [] M := by
  unfold wX4_readSum_J35 at h
  refine r_aload_n hC 0 dX4_readSum_35 rfl rfl ?_
  have q_5 : 0 < a0 + 2 ∧ M0 0 (a0 + 2) = kA 1 50 := lay_f0 (a := a0) hL qa0 fm_4_2
  refine r_getR0 (a' := a0 + 2) hC fg_X4_15 rfl hF fm_4_2 qa0.1 qa0.2 rfl dX4_readSum_36 ?_
  refine r_aload_n hC 0 dX4_readSum_39 rfl rfl ?_
  refine r_getI hC fg_X4_47 rfl qa0.1 qa0.2 dX4_readSum_40 ?_
  obtain ⟨i_6, h⟩ := h
  refine r_bald hC i_6 q_5.1 q_5.2 (by decide) dX4_readSum_43 ?_
  refine r_nameI h (fun x3_7 h => ?_)
  refine r_istore_n (lv' := [(3, vI x3_7), (0, vR Y.1 a0), (2, vI x2)]) hC dX4_readSum_44 rfl (by decide) rfl ?_
  refine r_aload_n hC 1 dX4_readSum_45 rfl rfl ?_
  refine r_dup hC rfl dX4_readSum_46 ?_
  refine r_getI hC fg_X4_47 rfl qa0.1 qa0.2 dX4_readSum_47 ?_
  refine r_iconst hC dX4_readSum_50 ?_
  refine r_iadd hC dX4_readSum_51 ?_
  refine r_putI hC fp_X4_47 rfl qa0.1 qa0.2 dX4_readSum_52 ?_
  refine r_nameM h (fun M_8 h => ?_)
  refine r_aload_n hC 1 dX4_readSum_55 rfl rfl ?_
  refine r_dup hC rfl dX4_readSum_56 ?_
  refine r_getI hC fg_X4_53 rfl qa0.1 qa0.2 dX4_readSum_57 ?_
  refine r_iconst hC dX4_readSum_60 ?_
  refine r_iadd hC dX4_readSum_61 ?_
  refine r_putI hC fp_X4_53 rfl qa0.1 qa0.2 dX4_readSum_62 ?_
  refine r_nameM h (fun M_9 h => ?_)
  refine r_aload_n hC 1 dX4_readSum_65 rfl rfl ?_
  refine r_callV (As := []) (st := []) hC cw_X4_76 rfl qa0.1 qa0.2 rfl rfl (Nat.le_of_ble_eq_true rfl) (by constructor <;> simp only [rmX4_readSum, rmX4_readProduct] <;> omega) ⟨Nat.le_of_ble_eq_true rfl, Nat.le_of_ble_eq_true rfl⟩ dX4_readSum_66 (fun hk => hG2  _ _ (kqO hk qa0) h) (fun v M_10 h => ?_)
  obtain ⟨r_11, rfl, h⟩ := h
  refine r_if_eq hC 88 rfl dX4_readSum_69 (by decide) (fun cq => ?_) (fun cq => ?_)
  · replace h := h.1 cq
    refine r_sub [1, 2] rfl ?_
    exact tX4_readSum_J88 hC hF hL _ hG0 hG1 hG2 hG3 hG4 hG5 Q _  _ qa0 hC7 _ h
  · replace h := h.2 cq
    refine r_aload_n hC 1 dX4_readSum_72 rfl rfl ?_
    refine r_sipush hC (by decide +kernel) dX4_readSum_73 ?_
    refine r_iload_n hC 0 dX4_readSum_76 rfl rfl ?_
    refine r_iadd hC dX4_readSum_77 ?_
    refine r_callV (As := [vI (200 + x3_7)]) (st := []) hC cw_X4_72 rfl qa0.1 qa0.2 rfl rfl (Nat.le_of_ble_eq_true rfl) (by constructor <;> simp only [rmX4_readSum, rmX4_writes] <;> omega) ⟨Nat.le_of_ble_eq_true rfl, Nat.le_of_ble_eq_true rfl⟩ dX4_readSum_78 (fun hk => mX4_writes Y hF _ _ _ _ _ (kqO hk qa0) h) (fun v M_14 h => ?_)
    obtain ⟨r_15, rfl, h⟩ := h
    refine r_if_eq hC 88 rfl dX4_readSum_81 (by decide) (fun cq => ?_) (fun cq => ?_)
    · replace h := h.1 cq
      refine r_sub [1, 2] rfl ?_
      exact tX4_readSum_J88 hC hF hL _ hG0 hG1 hG2 hG3 hG4 hG5 Q _  _ qa0 hC7 _ h
    · replace h := h.2 cq
      refine r_iconst hC dX4_readSum_84 ?_
      refine r_goto hC 89 dX4_readSum_85 (by decide) ?_
      refine r_sub [1, 2] rfl ?_
      exact tX4_readSum_J89 hC hF hL _ hG0 hG1 hG2 hG3 hG4 hG5 Q _  _ _ qa0 hC7 _ h
set_option maxHeartbeats 4000000 in
set_option maxRecDepth 100000 in
theorem tX4_readSum_L7 {X : Cx} {Y : Yx} {M0 : Mem} {Γ : Nat → List Int → Mem → (Int → Mem → Prop) → Prop} {d : Nat} (hC : OKX X Y RX4 cX4_readSum 4 (some .boolean) (rmX4_readSum (d + 1))) (hF : Y.2.2.2.2 = true) (hL : Lay M0) (a0 : Nat) (hG0 : ∀ (M : Mem) (Q : Int → Mem → Prop), (0 < a0 ∧ M 0 a0 = kO 4) → Γ 0 [] M Q → CT Y X.2.1 yX4_readChoice cX4_readChoice 1 (some .boolean) (rmX4_readChoice d) [vR Y.1 a0] M (QI Q)) (hG1 : ∀ (M : Mem) (Q : Int → Mem → Prop), (0 < a0 ∧ M 0 a0 = kO 4) → Γ 1 [] M Q → CT Y X.2.1 yX4_readSum cX4_readSum 4 (some .boolean) (rmX4_readSum d) [vR Y.1 a0] M (QI Q)) (hG2 : ∀ (M : Mem) (Q : Int → Mem → Prop), (0 < a0 ∧ M 0 a0 = kO 4) → Γ 2 [] M Q → CT Y X.2.1 yX4_readProduct cX4_readProduct 4 (some .boolean) (rmX4_readProduct d) [vR Y.1 a0] M (QI Q)) (hG3 : ∀ (M : Mem) (Q : Int → Mem → Prop), (0 < a0 ∧ M 0 a0 = kO 4) → Γ 3 [] M Q → CT Y X.2.1 yX4_readOne cX4_readOne 2 (some .boolean) (rmX4_readOne d) [vR Y.1 a0] M (QI Q)) (hG4 : ∀ (M : Mem) (Q : Int → Mem → Prop), (0 < a0 ∧ M 0 a0 = kO 4) → Γ 4 [] M Q → CT Y X.2.1 yX4_readNegated cX4_readNegated 1 (some .boolean) (rmX4_readNegated d) [vR Y.1 a0] M (QI Q)) (hG5 : ∀ (M : Mem) (Q : Int → Mem → Prop), (0 < a0 ∧ M 0 a0 = kO 4) → Γ 5 [] M Q → CT Y X.2.1 yX4_readBraced cX4_readBraced 1 (some .boolean) (rmX4_readBraced d) [vR Y.1 a0] M (QI Q)) (Q : Int → Mem → Prop)   (qa0 : 0 < a0 ∧ M0 0 a0 = kO 4)  : ∀ (N : Nat) (x1 : Int) (x2 : Int) (M : Mem) (_ : wX4_readSum_L7 Γ Q  a0 N x1 x2 M), WW X Y 4 (rmX4_readSum (d + 1)) (QI Q) M0 0 0 7 [(0, vR Y.1 a0), (1, vI x1), (2, vI x2)] [] M := by
  intro N
  induction N with
  | zero =>
    intro x1 x2 M h
    exact h.elim
  | succ N ih =>
    intro x1 x2 M h
    unfold wX4_readSum_L7 at h
    refine r_iload_n hC 2 dX4_readSum_7 rfl rfl ?_
    refine r_bipush hC (by decide +kernel) dX4_readSum_8 ?_
    refine r_icmp_ge hC 96 rfl bmL_50 dX4_readSum_10 (by decide) (fun cq => ?_) (fun cq => ?_)
    · replace h := h.1 cq
      refine r_iload_n hC 1 dX4_readSum_96 rfl rfl ?_
      exact r_zret hC h.1 (Nat.zero_le _) (Nat.zero_le _) dX4_readSum_97 ⟨_, rfl, h.2⟩
    · replace h := h.2 cq
      refine r_iload_n hC 1 dX4_readSum_13 rfl rfl ?_
      refine r_if_eq hC 96 rfl dX4_readSum_14 (by decide) (fun cq => ?_) (fun cq => ?_)
      · replace h := h.1 cq
        refine r_iload_n hC 1 dX4_readSum_96 rfl rfl ?_
        exact r_zret hC h.1 (Nat.zero_le _) (Nat.zero_le _) dX4_readSum_97 ⟨_, rfl, h.2⟩
      · replace h := h.2 cq
        refine r_aload_n hC 0 dX4_readSum_17 rfl rfl ?_
        refine r_bipush hC (by decide +kernel) dX4_readSum_18 ?_
        refine r_callV (As := [vI 43]) (st := []) hC cw_X4_63 rfl qa0.1 qa0.2 rfl rfl (Nat.le_of_ble_eq_true rfl) (by constructor <;> simp only [rmX4_readSum, rmX4_isAt] <;> omega) ⟨Nat.le_of_ble_eq_true rfl, Nat.le_of_ble_eq_true rfl⟩ dX4_readSum_20 (fun hk => mX4_isAt Y hF _ _ _ _ _ (kqO hk qa0) h) (fun v M_3 h => ?_)
        obtain ⟨r_4, rfl, h⟩ := h
        refine r_if_ne hC 35 rfl dX4_readSum_23 (by decide) (fun cq => ?_) (fun cq => ?_)
        · replace h := h.2 cq
          refine r_sub [0, 2] rfl ?_
          exact tX4_readSum_J35 hC hF hL _ hG0 hG1 hG2 hG3 hG4 hG5 Q _  _ qa0 ih _ h
        · replace h := h.1 cq
          refine r_aload_n hC 0 dX4_readSum_26 rfl rfl ?_
          refine r_bipush hC (by decide +kernel) dX4_readSum_27 ?_
          refine r_callV (As := [vI 45]) (st := []) hC cw_X4_63 rfl qa0.1 qa0.2 rfl rfl (Nat.le_of_ble_eq_true rfl) (by constructor <;> simp only [rmX4_readSum, rmX4_isAt] <;> omega) ⟨Nat.le_of_ble_eq_true rfl, Nat.le_of_ble_eq_true rfl⟩ dX4_readSum_29 (fun hk => mX4_isAt Y hF _ _ _ _ _ (kqO hk qa0) h) (fun v M_16 h => ?_)
          obtain ⟨r_17, rfl, h⟩ := h
          refine r_if_eq hC 96 rfl dX4_readSum_32 (by decide) (fun cq => ?_) (fun cq => ?_)
          · replace h := h.1 cq
            refine r_iload_n hC 1 dX4_readSum_96 rfl rfl ?_
            exact r_zret hC h.1 (Nat.zero_le _) (Nat.zero_le _) dX4_readSum_97 ⟨_, rfl, h.2⟩
          · replace h := h.2 cq
            refine r_sub [0, 2] rfl ?_
            exact tX4_readSum_J35 hC hF hL _ hG0 hG1 hG2 hG3 hG4 hG5 Q _  _ qa0 ih _ h
set_option maxHeartbeats 4000000 in
set_option maxRecDepth 100000 in
theorem mbX4_readSum (Y : Yx) (hF : Y.2.2.2.2 = true) (l : Launch) {Γ : Nat → List Int → Mem → (Int → Mem → Prop) → Prop} {d : Nat} (a0 : Nat) (hG0 : ∀ (M : Mem) (Q : Int → Mem → Prop), (0 < a0 ∧ M 0 a0 = kO 4) → Γ 0 [] M Q → CT Y l yX4_readChoice cX4_readChoice 1 (some .boolean) (rmX4_readChoice d) [vR Y.1 a0] M (QI Q)) (hG1 : ∀ (M : Mem) (Q : Int → Mem → Prop), (0 < a0 ∧ M 0 a0 = kO 4) → Γ 1 [] M Q → CT Y l yX4_readSum cX4_readSum 4 (some .boolean) (rmX4_readSum d) [vR Y.1 a0] M (QI Q)) (hG2 : ∀ (M : Mem) (Q : Int → Mem → Prop), (0 < a0 ∧ M 0 a0 = kO 4) → Γ 2 [] M Q → CT Y l yX4_readProduct cX4_readProduct 4 (some .boolean) (rmX4_readProduct d) [vR Y.1 a0] M (QI Q)) (hG3 : ∀ (M : Mem) (Q : Int → Mem → Prop), (0 < a0 ∧ M 0 a0 = kO 4) → Γ 3 [] M Q → CT Y l yX4_readOne cX4_readOne 2 (some .boolean) (rmX4_readOne d) [vR Y.1 a0] M (QI Q)) (hG4 : ∀ (M : Mem) (Q : Int → Mem → Prop), (0 < a0 ∧ M 0 a0 = kO 4) → Γ 4 [] M Q → CT Y l yX4_readNegated cX4_readNegated 1 (some .boolean) (rmX4_readNegated d) [vR Y.1 a0] M (QI Q)) (hG5 : ∀ (M : Mem) (Q : Int → Mem → Prop), (0 < a0 ∧ M 0 a0 = kO 4) → Γ 5 [] M Q → CT Y l yX4_readBraced cX4_readBraced 1 (some .boolean) (rmX4_readBraced d) [vR Y.1 a0] M (QI Q)) (M0 : Mem) (Q : Int → Mem → Prop) (qa0 : 0 < a0 ∧ M0 0 a0 = kO 4) (h : wbX4_readSum Γ a0 M0 Q) : CT Y l yX4_readSum cX4_readSum 4 (some .boolean) (rmX4_readSum (d + 1)) [vR Y.1 a0] M0 (QI Q) := by
  unfold wbX4_readSum at h
  refine ct_intro (by decide) (Nat.le_of_ble_eq_true rfl) ?_
  intro X hXl hC hL0
  have hL := hL0 hF
  change OKX X Y RX4 cX4_readSum 4 (some .boolean) (rmX4_readSum (d + 1)) at hC
  subst hXl
  change WW X Y 4 (rmX4_readSum (d + 1)) (QI Q) M0 0 0 0 [(0, vR Y.1 a0)] [] M0
  refine r_aload_n hC 0 dX4_readSum_0 rfl rfl ?_
  refine r_callV (As := []) (st := []) hC cw_X4_76 rfl qa0.1 qa0.2 rfl rfl (Nat.le_of_ble_eq_true rfl) (by constructor <;> simp only [rmX4_readSum, rmX4_readProduct] <;> omega) ⟨Nat.le_of_ble_eq_true rfl, Nat.le_of_ble_eq_true rfl⟩ dX4_readSum_1 (fun hk => hG2  _ _ (kqO hk qa0) h) (fun v M_1 h => ?_)
  obtain ⟨r_2, rfl, h⟩ := h
  refine r_istore_n (lv' := [(1, vI r_2), (0, vR Y.1 a0)]) hC dX4_readSum_4 rfl (by decide) rfl ?_
  refine r_iconst hC dX4_readSum_5 ?_
  refine r_istore_n (lv' := [(2, vI 0), (1, vI r_2), (0, vR Y.1 a0)]) hC dX4_readSum_6 rfl (by decide) rfl ?_
  refine r_sub [2, 1, 0] rfl ?_
  obtain ⟨N_18, h⟩ := h
  refine tX4_readSum_L7 hC hF hL _ hG0 hG1 hG2 hG3 hG4 hG5 Q   qa0  N_18 _ _ _ h
theorem dX4_readProduct_0 : dec cX4_readProduct 0 1 1 (.aload_n 0) := ⟨by decide +kernel, rfl⟩
theorem dX4_readProduct_1 : dec cX4_readProduct 1 3 4 (.invokevirtual 79) := ⟨by decide +kernel, rfl⟩
theorem dX4_readProduct_4 : dec cX4_readProduct 4 1 5 (.istore_n 1) := ⟨by decide +kernel, rfl⟩
theorem dX4_readProduct_5 : dec cX4_readProduct 5 1 6 (.iconst 0) := ⟨by decide +kernel, rfl⟩
theorem dX4_readProduct_6 : dec cX4_readProduct 6 1 7 (.istore_n 2) := ⟨by decide +kernel, rfl⟩
theorem dX4_readProduct_7 : dec cX4_readProduct 7 1 8 (.iload_n 2) := ⟨by decide +kernel, rfl⟩
theorem dX4_readProduct_8 : dec cX4_readProduct 8 2 10 (.bipush 50) := ⟨by decide +kernel, rfl⟩
theorem dX4_readProduct_10 : dec cX4_readProduct 10 3 13 (.if_icmp .ge 104) := ⟨by decide +kernel, rfl⟩
theorem dX4_readProduct_13 : dec cX4_readProduct 13 1 14 (.iload_n 1) := ⟨by decide +kernel, rfl⟩
theorem dX4_readProduct_14 : dec cX4_readProduct 14 3 17 (.ifCond .eq 100) := ⟨by decide +kernel, rfl⟩
theorem dX4_readProduct_17 : dec cX4_readProduct 17 1 18 (.aload_n 0) := ⟨by decide +kernel, rfl⟩
theorem dX4_readProduct_18 : dec cX4_readProduct 18 2 20 (.bipush 42) := ⟨by decide +kernel, rfl⟩
theorem dX4_readProduct_20 : dec cX4_readProduct 20 3 23 (.invokevirtual 63) := ⟨by decide +kernel, rfl⟩
theorem dX4_readProduct_23 : dec cX4_readProduct 23 3 26 (.ifCond .ne 30) := ⟨by decide +kernel, rfl⟩
theorem dX4_readProduct_26 : dec cX4_readProduct 26 1 27 (.aload_n 0) := ⟨by decide +kernel, rfl⟩
theorem dX4_readProduct_27 : dec cX4_readProduct 27 2 29 (.bipush 47) := ⟨by decide +kernel, rfl⟩
theorem dX4_readProduct_29 : dec cX4_readProduct 29 3 32 (.invokevirtual 63) := ⟨by decide +kernel, rfl⟩
theorem dX4_readProduct_32 : dec cX4_readProduct 32 3 35 (.ifCond .ne 21) := ⟨by decide +kernel, rfl⟩
theorem dX4_readProduct_35 : dec cX4_readProduct 35 1 36 (.aload_n 0) := ⟨by decide +kernel, rfl⟩
theorem dX4_readProduct_36 : dec cX4_readProduct 36 2 38 (.bipush 60) := ⟨by decide +kernel, rfl⟩
theorem dX4_readProduct_38 : dec cX4_readProduct 38 3 41 (.invokevirtual 63) := ⟨by decide +kernel, rfl⟩
theorem dX4_readProduct_41 : dec cX4_readProduct 41 3 44 (.ifCond .ne 12) := ⟨by decide +kernel, rfl⟩
theorem dX4_readProduct_44 : dec cX4_readProduct 44 1 45 (.aload_n 0) := ⟨by decide +kernel, rfl⟩
theorem dX4_readProduct_45 : dec cX4_readProduct 45 2 47 (.bipush 61) := ⟨by decide +kernel, rfl⟩
theorem dX4_readProduct_47 : dec cX4_readProduct 47 3 50 (.invokevirtual 63) := ⟨by decide +kernel, rfl⟩
theorem dX4_readProduct_50 : dec cX4_readProduct 50 3 53 (.ifCond .eq 64) := ⟨by decide +kernel, rfl⟩
theorem dX4_readProduct_53 : dec cX4_readProduct 53 1 54 (.aload_n 0) := ⟨by decide +kernel, rfl⟩
theorem dX4_readProduct_54 : dec cX4_readProduct 54 3 57 (.getfield 15) := ⟨by decide +kernel, rfl⟩
theorem dX4_readProduct_57 : dec cX4_readProduct 57 1 58 (.aload_n 0) := ⟨by decide +kernel, rfl⟩
theorem dX4_readProduct_58 : dec cX4_readProduct 58 3 61 (.getfield 47) := ⟨by decide +kernel, rfl⟩
theorem dX4_readProduct_61 : dec cX4_readProduct 61 1 62 (.baload) := ⟨by decide +kernel, rfl⟩
theorem dX4_readProduct_62 : dec cX4_readProduct 62 1 63 (.istore_n 3) := ⟨by decide +kernel, rfl⟩
theorem dX4_readProduct_63 : dec cX4_readProduct 63 1 64 (.aload_n 0) := ⟨by decide +kernel, rfl⟩
theorem dX4_readProduct_64 : dec cX4_readProduct 64 1 65 (.dup) := ⟨by decide +kernel, rfl⟩
theorem dX4_readProduct_65 : dec cX4_readProduct 65 3 68 (.getfield 47) := ⟨by decide +kernel, rfl⟩
theorem dX4_readProduct_68 : dec cX4_readProduct 68 1 69 (.iconst 1) := ⟨by decide +kernel, rfl⟩
theorem dX4_readProduct_69 : dec cX4_readProduct 69 1 70 (.iadd) := ⟨by decide +kernel, rfl⟩
theorem dX4_readProduct_70 : dec cX4_readProduct 70 3 73 (.putfield 47) := ⟨by decide +kernel, rfl⟩
theorem dX4_readProduct_73 : dec cX4_readProduct 73 1 74 (.aload_n 0) := ⟨by decide +kernel, rfl⟩
theorem dX4_readProduct_74 : dec cX4_readProduct 74 1 75 (.dup) := ⟨by decide +kernel, rfl⟩
theorem dX4_readProduct_75 : dec cX4_readProduct 75 3 78 (.getfield 53) := ⟨by decide +kernel, rfl⟩
theorem dX4_readProduct_78 : dec cX4_readProduct 78 1 79 (.iconst 1) := ⟨by decide +kernel, rfl⟩
theorem dX4_readProduct_79 : dec cX4_readProduct 79 1 80 (.iadd) := ⟨by decide +kernel, rfl⟩
theorem dX4_readProduct_80 : dec cX4_readProduct 80 3 83 (.putfield 53) := ⟨by decide +kernel, rfl⟩
theorem dX4_readProduct_83 : dec cX4_readProduct 83 1 84 (.aload_n 0) := ⟨by decide +kernel, rfl⟩
theorem dX4_readProduct_84 : dec cX4_readProduct 84 3 87 (.invokevirtual 79) := ⟨by decide +kernel, rfl⟩
theorem dX4_readProduct_87 : dec cX4_readProduct 87 3 90 (.ifCond .eq 19) := ⟨by decide +kernel, rfl⟩
theorem dX4_readProduct_90 : dec cX4_readProduct 90 1 91 (.aload_n 0) := ⟨by decide +kernel, rfl⟩
theorem dX4_readProduct_91 : dec cX4_readProduct 91 3 94 (.sipush 200) := ⟨by decide +kernel, rfl⟩
theorem dX4_readProduct_94 : dec cX4_readProduct 94 1 95 (.iload_n 3) := ⟨by decide +kernel, rfl⟩
theorem dX4_readProduct_95 : dec cX4_readProduct 95 1 96 (.iadd) := ⟨by decide +kernel, rfl⟩
theorem dX4_readProduct_96 : dec cX4_readProduct 96 3 99 (.invokevirtual 72) := ⟨by decide +kernel, rfl⟩
theorem dX4_readProduct_99 : dec cX4_readProduct 99 3 102 (.ifCond .eq 7) := ⟨by decide +kernel, rfl⟩
theorem dX4_readProduct_102 : dec cX4_readProduct 102 1 103 (.iconst 1) := ⟨by decide +kernel, rfl⟩
theorem dX4_readProduct_103 : dec cX4_readProduct 103 3 106 (.goto 4) := ⟨by decide +kernel, rfl⟩
theorem dX4_readProduct_106 : dec cX4_readProduct 106 1 107 (.iconst 0) := ⟨by decide +kernel, rfl⟩
theorem dX4_readProduct_107 : dec cX4_readProduct 107 1 108 (.istore_n 1) := ⟨by decide +kernel, rfl⟩
theorem dX4_readProduct_108 : dec cX4_readProduct 108 3 111 (.iinc 2 1) := ⟨by decide +kernel, rfl⟩
theorem dX4_readProduct_111 : dec cX4_readProduct 111 3 114 (.goto (-104)) := ⟨by decide +kernel, rfl⟩
theorem dX4_readProduct_114 : dec cX4_readProduct 114 1 115 (.iload_n 1) := ⟨by decide +kernel, rfl⟩
theorem dX4_readProduct_115 : dec cX4_readProduct 115 1 116 (.ireturn) := ⟨by decide +kernel, rfl⟩
set_option maxHeartbeats 4000000 in
set_option maxRecDepth 100000 in
theorem tX4_readProduct_J107 {X : Cx} {Y : Yx} {M0 : Mem} {Γ : Nat → List Int → Mem → (Int → Mem → Prop) → Prop} {d : Nat} (hC : OKX X Y RX4 cX4_readProduct 4 (some .boolean) (rmX4_readProduct (d + 1))) (hF : Y.2.2.2.2 = true) (hL : Lay M0) (a0 : Nat) (hG0 : ∀ (M : Mem) (Q : Int → Mem → Prop), (0 < a0 ∧ M 0 a0 = kO 4) → Γ 0 [] M Q → CT Y X.2.1 yX4_readChoice cX4_readChoice 1 (some .boolean) (rmX4_readChoice d) [vR Y.1 a0] M (QI Q)) (hG1 : ∀ (M : Mem) (Q : Int → Mem → Prop), (0 < a0 ∧ M 0 a0 = kO 4) → Γ 1 [] M Q → CT Y X.2.1 yX4_readSum cX4_readSum 4 (some .boolean) (rmX4_readSum d) [vR Y.1 a0] M (QI Q)) (hG2 : ∀ (M : Mem) (Q : Int → Mem → Prop), (0 < a0 ∧ M 0 a0 = kO 4) → Γ 2 [] M Q → CT Y X.2.1 yX4_readProduct cX4_readProduct 4 (some .boolean) (rmX4_readProduct d) [vR Y.1 a0] M (QI Q)) (hG3 : ∀ (M : Mem) (Q : Int → Mem → Prop), (0 < a0 ∧ M 0 a0 = kO 4) → Γ 3 [] M Q → CT Y X.2.1 yX4_readOne cX4_readOne 2 (some .boolean) (rmX4_readOne d) [vR Y.1 a0] M (QI Q)) (hG4 : ∀ (M : Mem) (Q : Int → Mem → Prop), (0 < a0 ∧ M 0 a0 = kO 4) → Γ 4 [] M Q → CT Y X.2.1 yX4_readNegated cX4_readNegated 1 (some .boolean) (rmX4_readNegated d) [vR Y.1 a0] M (QI Q)) (hG5 : ∀ (M : Mem) (Q : Int → Mem → Prop), (0 < a0 ∧ M 0 a0 = kO 4) → Γ 5 [] M Q → CT Y X.2.1 yX4_readBraced cX4_readBraced 1 (some .boolean) (rmX4_readBraced d) [vR Y.1 a0] M (QI Q)) (Q : Int → Mem → Prop) (C7 : Int → Int → Mem → Prop)  (x2 : Int) (xs0 : Int) (qa0 : 0 < a0 ∧ M0 0 a0 = kO 4) (hC7 : ∀ (x1 : Int) (x2 : Int) (M : Mem), C7 x1 x2 M → WW X Y 4 (rmX4_readProduct (d + 1)) (QI Q) M0 0 0 7 [(0, vR Y.1 a0), (1, vI x1), (2, vI x2)] [] M) (M : Mem) (h : wX4_readProduct_J107 Γ Q C7 a0 x2 xs0 M) : WW X Y 4 (rmX4_readProduct (d + 1)) (QI Q) M0 0 0 107 [(0, vR Y.1 a0), (2, vI x2)] [vI xs0] M := by
  unfold wX4_readProduct_J107 at h
  refine r_istore_n (lv' := [(1, vI xs0), (0, vR Y.1 a0), (2, vI x2)]) hC dX4_readProduct_107 rfl (by decide) rfl ?_
  refine let_elim h (fun x2_12 e_13 h => ?_)
  refine r_iinc (lv' := [(2, vI x2_12), (1, vI xs0), (0, vR Y.1 a0)]) hC 2 dX4_readProduct_108 rfl (by decide) e_13 rfl ?_
  refine r_goto hC 7 dX4_readProduct_111 (by decide) ?_
  refine r_sub [2, 1, 0] rfl ?_
  exact hC7 _ _ _ h
set_option maxHeartbeats 4000000 in
set_option maxRecDepth 100000 in
theorem tX4_readProduct_J106 {X : Cx} {Y : Yx} {M0 : Mem} {Γ : Nat → List Int → Mem → (Int → Mem → Prop) → Prop} {d : Nat} (hC : OKX X Y RX4 cX4_readProduct 4 (some .boolean) (rmX4_readProduct (d + 1))) (hF : Y.2.2.2.2 = true) (hL : Lay M0) (a0 : Nat) (hG0 : ∀ (M : Mem) (Q : Int → Mem → Prop), (0 < a0 ∧ M 0 a0 = kO 4) → Γ 0 [] M Q → CT Y X.2.1 yX4_readChoice cX4_readChoice 1 (some .boolean) (rmX4_readChoice d) [vR Y.1 a0] M (QI Q)) (hG1 : ∀ (M : Mem) (Q : Int → Mem → Prop), (0 < a0 ∧ M 0 a0 = kO 4) → Γ 1 [] M Q → CT Y X.2.1 yX4_readSum cX4_readSum 4 (some .boolean) (rmX4_readSum d) [vR Y.1 a0] M (QI Q)) (hG2 : ∀ (M : Mem) (Q : Int → Mem → Prop), (0 < a0 ∧ M 0 a0 = kO 4) → Γ 2 [] M Q → CT Y X.2.1 yX4_readProduct cX4_readProduct 4 (some .boolean) (rmX4_readProduct d) [vR Y.1 a0] M (QI Q)) (hG3 : ∀ (M : Mem) (Q : Int → Mem → Prop), (0 < a0 ∧ M 0 a0 = kO 4) → Γ 3 [] M Q → CT Y X.2.1 yX4_readOne cX4_readOne 2 (some .boolean) (rmX4_readOne d) [vR Y.1 a0] M (QI Q)) (hG4 : ∀ (M : Mem) (Q : Int → Mem → Prop), (0 < a0 ∧ M 0 a0 = kO 4) → Γ 4 [] M Q → CT Y X.2.1 yX4_readNegated cX4_readNegated 1 (some .boolean) (rmX4_readNegated d) [vR Y.1 a0] M (QI Q)) (hG5 : ∀ (M : Mem) (Q : Int → Mem → Prop), (0 < a0 ∧ M 0 a0 = kO 4) → Γ 5 [] M Q → CT Y X.2.1 yX4_readBraced cX4_readBraced 1 (some .boolean) (rmX4_readBraced d) [vR Y.1 a0] M (QI Q)) (Q : Int → Mem → Prop) (C7 : Int → Int → Mem → Prop)  (x2 : Int) (qa0 : 0 < a0 ∧ M0 0 a0 = kO 4) (hC7 : ∀ (x1 : Int) (x2 : Int) (M : Mem), C7 x1 x2 M → WW X Y 4 (rmX4_readProduct (d + 1)) (QI Q) M0 0 0 7 [(0, vR Y.1 a0), (1, vI x1), (2, vI x2)] [] M) (M : Mem) (h : wX4_readProduct_J106 Γ Q C7 a0 x2 M) : WW X Y 4 (rmX4_readProduct (d + 1)) (QI Q) M0 0 0 106 [(0, vR Y.1 a0), (2, vI x2)] [] M := by
  unfold wX4_readProduct_J106 at h
  refine r_iconst hC dX4_readProduct_106 ?_
  refine r_sub [0, 1] rfl ?_
  exact tX4_readProduct_J107 hC hF hL _ hG0 hG1 hG2 hG3 hG4 hG5 Q _  _ _ qa0 hC7 _ h
set_option maxHeartbeats 4000000 in
set_option maxRecDepth 100000 in
theorem tX4_readProduct_J53 {X : Cx} {Y : Yx} {M0 : Mem} {Γ : Nat → List Int → Mem → (Int → Mem → Prop) → Prop} {d : Nat} (hC : OKX X Y RX4 cX4_readProduct 4 (some .boolean) (rmX4_readProduct (d + 1))) (hF : Y.2.2.2.2 = true) (hL : Lay M0) (a0 : Nat) (hG0 : ∀ (M : Mem) (Q : Int → Mem → Prop), (0 < a0 ∧ M 0 a0 = kO 4) → Γ 0 [] M Q → CT Y X.2.1 yX4_readChoice cX4_readChoice 1 (some .boolean) (rmX4_readChoice d) [vR Y.1 a0] M (QI Q)) (hG1 : ∀ (M : Mem) (Q : Int → Mem → Prop), (0 < a0 ∧ M 0 a0 = kO 4) → Γ 1 [] M Q → CT Y X.2.1 yX4_readSum cX4_readSum 4 (some .boolean) (rmX4_readSum d) [vR Y.1 a0] M (QI Q)) (hG2 : ∀ (M : Mem) (Q : Int → Mem → Prop), (0 < a0 ∧ M 0 a0 = kO 4) → Γ 2 [] M Q → CT Y X.2.1 yX4_readProduct cX4_readProduct 4 (some .boolean) (rmX4_readProduct d) [vR Y.1 a0] M (QI Q)) (hG3 : ∀ (M : Mem) (Q : Int → Mem → Prop), (0 < a0 ∧ M 0 a0 = kO 4) → Γ 3 [] M Q → CT Y X.2.1 yX4_readOne cX4_readOne 2 (some .boolean) (rmX4_readOne d) [vR Y.1 a0] M (QI Q)) (hG4 : ∀ (M : Mem) (Q : Int → Mem → Prop), (0 < a0 ∧ M 0 a0 = kO 4) → Γ 4 [] M Q → CT Y X.2.1 yX4_readNegated cX4_readNegated 1 (some .boolean) (rmX4_readNegated d) [vR Y.1 a0] M (QI Q)) (hG5 : ∀ (M : Mem) (Q : Int → Mem → Prop), (0 < a0 ∧ M 0 a0 = kO 4) → Γ 5 [] M Q → CT Y X.2.1 yX4_readBraced cX4_readBraced 1 (some .boolean) (rmX4_readBraced d) [vR Y.1 a0] M (QI Q)) (Q : Int → Mem → Prop) (C7 : Int → Int → Mem → Prop)  (x2 : Int) (qa0 : 0 < a0 ∧ M0 0 a0 = kO 4) (hC7 : ∀ (x1 : Int) (x2 : Int) (M : Mem), C7 x1 x2 M → WW X Y 4 (rmX4_readProduct (d + 1)) (QI Q) M0 0 0 7 [(0, vR Y.1 a0), (1, vI x1), (2, vI x2)] [] M) (M : Mem) (h : wX4_readProduct_J53 Γ Q C7 a0 x2 M) : WW X Y 4 (rmX4_readProduct (d + 1)) (QI Q) M0 0 0 53 [(0, vR Y.1 a0), (2, vI x2)] [] M := by
  unfold wX4_readProduct_J53 at h
  refine r_aload_n hC 0 dX4_readProduct_53 rfl rfl ?_
  have q_5 : 0 < a0 + 2 ∧ M0 0 (a0 + 2) = kA 1 50 := lay_f0 (a := a0) hL qa0 fm_4_2
  refine r_getR0 (a' := a0 + 2) hC fg_X4_15 rfl hF fm_4_2 qa0.1 qa0.2 rfl dX4_readProduct_54 ?_
  refine r_aload_n hC 0 dX4_readProduct_57 rfl rfl ?_
  refine r_getI hC fg_X4_47 rfl qa0.1 qa0.2 dX4_readProduct_58 ?_
  obtain ⟨i_6, h⟩ := h
  refine r_bald hC i_6 q_5.1 q_5.2 (by decide) dX4_readProduct_61 ?_
  refine r_nameI h (fun x3_7 h => ?_)
  refine r_istore_n (lv' := [(3, vI x3_7), (0, vR Y.1 a0), (2, vI x2)]) hC dX4_readProduct_62 rfl (by decide) rfl ?_
  refine r_aload_n hC 1 dX4_readProduct_63 rfl rfl ?_
  refine r_dup hC rfl dX4_readProduct_64 ?_
  refine r_getI hC fg_X4_47 rfl qa0.1 qa0.2 dX4_readProduct_65 ?_
  refine r_iconst hC dX4_readProduct_68 ?_
  refine r_iadd hC dX4_readProduct_69 ?_
  refine r_putI hC fp_X4_47 rfl qa0.1 qa0.2 dX4_readProduct_70 ?_
  refine r_nameM h (fun M_8 h => ?_)
  refine r_aload_n hC 1 dX4_readProduct_73 rfl rfl ?_
  refine r_dup hC rfl dX4_readProduct_74 ?_
  refine r_getI hC fg_X4_53 rfl qa0.1 qa0.2 dX4_readProduct_75 ?_
  refine r_iconst hC dX4_readProduct_78 ?_
  refine r_iadd hC dX4_readProduct_79 ?_
  refine r_putI hC fp_X4_53 rfl qa0.1 qa0.2 dX4_readProduct_80 ?_
  refine r_nameM h (fun M_9 h => ?_)
  refine r_aload_n hC 1 dX4_readProduct_83 rfl rfl ?_
  refine r_callV (As := []) (st := []) hC cw_X4_79 rfl qa0.1 qa0.2 rfl rfl (Nat.le_of_ble_eq_true rfl) (by constructor <;> simp only [rmX4_readProduct, rmX4_readOne] <;> omega) ⟨Nat.le_of_ble_eq_true rfl, Nat.le_of_ble_eq_true rfl⟩ dX4_readProduct_84 (fun hk => hG3  _ _ (kqO hk qa0) h) (fun v M_10 h => ?_)
  obtain ⟨r_11, rfl, h⟩ := h
  refine r_if_eq hC 106 rfl dX4_readProduct_87 (by decide) (fun cq => ?_) (fun cq => ?_)
  · replace h := h.1 cq
    refine r_sub [1, 2] rfl ?_
    exact tX4_readProduct_J106 hC hF hL _ hG0 hG1 hG2 hG3 hG4 hG5 Q _  _ qa0 hC7 _ h
  · replace h := h.2 cq
    refine r_aload_n hC 1 dX4_readProduct_90 rfl rfl ?_
    refine r_sipush hC (by decide +kernel) dX4_readProduct_91 ?_
    refine r_iload_n hC 0 dX4_readProduct_94 rfl rfl ?_
    refine r_iadd hC dX4_readProduct_95 ?_
    refine r_callV (As := [vI (200 + x3_7)]) (st := []) hC cw_X4_72 rfl qa0.1 qa0.2 rfl rfl (Nat.le_of_ble_eq_true rfl) (by constructor <;> simp only [rmX4_readProduct, rmX4_writes] <;> omega) ⟨Nat.le_of_ble_eq_true rfl, Nat.le_of_ble_eq_true rfl⟩ dX4_readProduct_96 (fun hk => mX4_writes Y hF _ _ _ _ _ (kqO hk qa0) h) (fun v M_14 h => ?_)
    obtain ⟨r_15, rfl, h⟩ := h
    refine r_if_eq hC 106 rfl dX4_readProduct_99 (by decide) (fun cq => ?_) (fun cq => ?_)
    · replace h := h.1 cq
      refine r_sub [1, 2] rfl ?_
      exact tX4_readProduct_J106 hC hF hL _ hG0 hG1 hG2 hG3 hG4 hG5 Q _  _ qa0 hC7 _ h
    · replace h := h.2 cq
      refine r_iconst hC dX4_readProduct_102 ?_
      refine r_goto hC 107 dX4_readProduct_103 (by decide) ?_
      refine r_sub [1, 2] rfl ?_
      exact tX4_readProduct_J107 hC hF hL _ hG0 hG1 hG2 hG3 hG4 hG5 Q _  _ _ qa0 hC7 _ h
set_option maxHeartbeats 4000000 in
set_option maxRecDepth 100000 in
theorem tX4_readProduct_L7 {X : Cx} {Y : Yx} {M0 : Mem} {Γ : Nat → List Int → Mem → (Int → Mem → Prop) → Prop} {d : Nat} (hC : OKX X Y RX4 cX4_readProduct 4 (some .boolean) (rmX4_readProduct (d + 1))) (hF : Y.2.2.2.2 = true) (hL : Lay M0) (a0 : Nat) (hG0 : ∀ (M : Mem) (Q : Int → Mem → Prop), (0 < a0 ∧ M 0 a0 = kO 4) → Γ 0 [] M Q → CT Y X.2.1 yX4_readChoice cX4_readChoice 1 (some .boolean) (rmX4_readChoice d) [vR Y.1 a0] M (QI Q)) (hG1 : ∀ (M : Mem) (Q : Int → Mem → Prop), (0 < a0 ∧ M 0 a0 = kO 4) → Γ 1 [] M Q → CT Y X.2.1 yX4_readSum cX4_readSum 4 (some .boolean) (rmX4_readSum d) [vR Y.1 a0] M (QI Q)) (hG2 : ∀ (M : Mem) (Q : Int → Mem → Prop), (0 < a0 ∧ M 0 a0 = kO 4) → Γ 2 [] M Q → CT Y X.2.1 yX4_readProduct cX4_readProduct 4 (some .boolean) (rmX4_readProduct d) [vR Y.1 a0] M (QI Q)) (hG3 : ∀ (M : Mem) (Q : Int → Mem → Prop), (0 < a0 ∧ M 0 a0 = kO 4) → Γ 3 [] M Q → CT Y X.2.1 yX4_readOne cX4_readOne 2 (some .boolean) (rmX4_readOne d) [vR Y.1 a0] M (QI Q)) (hG4 : ∀ (M : Mem) (Q : Int → Mem → Prop), (0 < a0 ∧ M 0 a0 = kO 4) → Γ 4 [] M Q → CT Y X.2.1 yX4_readNegated cX4_readNegated 1 (some .boolean) (rmX4_readNegated d) [vR Y.1 a0] M (QI Q)) (hG5 : ∀ (M : Mem) (Q : Int → Mem → Prop), (0 < a0 ∧ M 0 a0 = kO 4) → Γ 5 [] M Q → CT Y X.2.1 yX4_readBraced cX4_readBraced 1 (some .boolean) (rmX4_readBraced d) [vR Y.1 a0] M (QI Q)) (Q : Int → Mem → Prop)   (qa0 : 0 < a0 ∧ M0 0 a0 = kO 4)  : ∀ (N : Nat) (x1 : Int) (x2 : Int) (M : Mem) (_ : wX4_readProduct_L7 Γ Q  a0 N x1 x2 M), WW X Y 4 (rmX4_readProduct (d + 1)) (QI Q) M0 0 0 7 [(0, vR Y.1 a0), (1, vI x1), (2, vI x2)] [] M := by
  intro N
  induction N with
  | zero =>
    intro x1 x2 M h
    exact h.elim
  | succ N ih =>
    intro x1 x2 M h
    unfold wX4_readProduct_L7 at h
    refine r_iload_n hC 2 dX4_readProduct_7 rfl rfl ?_
    refine r_bipush hC (by decide +kernel) dX4_readProduct_8 ?_
    refine r_icmp_ge hC 114 rfl bmL_50 dX4_readProduct_10 (by decide) (fun cq => ?_) (fun cq => ?_)
    · replace h := h.1 cq
      refine r_iload_n hC 1 dX4_readProduct_114 rfl rfl ?_
      exact r_zret hC h.1 (Nat.zero_le _) (Nat.zero_le _) dX4_readProduct_115 ⟨_, rfl, h.2⟩
    · replace h := h.2 cq
      refine r_iload_n hC 1 dX4_readProduct_13 rfl rfl ?_
      refine r_if_eq hC 114 rfl dX4_readProduct_14 (by decide) (fun cq => ?_) (fun cq => ?_)
      · replace h := h.1 cq
        refine r_iload_n hC 1 dX4_readProduct_114 rfl rfl ?_
        exact r_zret hC h.1 (Nat.zero_le _) (Nat.zero_le _) dX4_readProduct_115 ⟨_, rfl, h.2⟩
      · replace h := h.2 cq
        refine r_aload_n hC 0 dX4_readProduct_17 rfl rfl ?_
        refine r_bipush hC (by decide +kernel) dX4_readProduct_18 ?_
        refine r_callV (As := [vI 42]) (st := []) hC cw_X4_63 rfl qa0.1 qa0.2 rfl rfl (Nat.le_of_ble_eq_true rfl) (by constructor <;> simp only [rmX4_readProduct, rmX4_isAt] <;> omega) ⟨Nat.le_of_ble_eq_true rfl, Nat.le_of_ble_eq_true rfl⟩ dX4_readProduct_20 (fun hk => mX4_isAt Y hF _ _ _ _ _ (kqO hk qa0) h) (fun v M_3 h => ?_)
        obtain ⟨r_4, rfl, h⟩ := h
        refine r_if_ne hC 53 rfl dX4_readProduct_23 (by decide) (fun cq => ?_) (fun cq => ?_)
        · replace h := h.2 cq
          refine r_sub [0, 2] rfl ?_
          exact tX4_readProduct_J53 hC hF hL _ hG0 hG1 hG2 hG3 hG4 hG5 Q _  _ qa0 ih _ h
        · replace h := h.1 cq
          refine r_aload_n hC 0 dX4_readProduct_26 rfl rfl ?_
          refine r_bipush hC (by decide +kernel) dX4_readProduct_27 ?_
          refine r_callV (As := [vI 47]) (st := []) hC cw_X4_63 rfl qa0.1 qa0.2 rfl rfl (Nat.le_of_ble_eq_true rfl) (by constructor <;> simp only [rmX4_readProduct, rmX4_isAt] <;> omega) ⟨Nat.le_of_ble_eq_true rfl, Nat.le_of_ble_eq_true rfl⟩ dX4_readProduct_29 (fun hk => mX4_isAt Y hF _ _ _ _ _ (kqO hk qa0) h) (fun v M_16 h => ?_)
          obtain ⟨r_17, rfl, h⟩ := h
          refine r_if_ne hC 53 rfl dX4_readProduct_32 (by decide) (fun cq => ?_) (fun cq => ?_)
          · replace h := h.2 cq
            refine r_sub [0, 2] rfl ?_
            exact tX4_readProduct_J53 hC hF hL _ hG0 hG1 hG2 hG3 hG4 hG5 Q _  _ qa0 ih _ h
          · replace h := h.1 cq
            refine r_aload_n hC 0 dX4_readProduct_35 rfl rfl ?_
            refine r_bipush hC (by decide +kernel) dX4_readProduct_36 ?_
            refine r_callV (As := [vI 60]) (st := []) hC cw_X4_63 rfl qa0.1 qa0.2 rfl rfl (Nat.le_of_ble_eq_true rfl) (by constructor <;> simp only [rmX4_readProduct, rmX4_isAt] <;> omega) ⟨Nat.le_of_ble_eq_true rfl, Nat.le_of_ble_eq_true rfl⟩ dX4_readProduct_38 (fun hk => mX4_isAt Y hF _ _ _ _ _ (kqO hk qa0) h) (fun v M_18 h => ?_)
            obtain ⟨r_19, rfl, h⟩ := h
            refine r_if_ne hC 53 rfl dX4_readProduct_41 (by decide) (fun cq => ?_) (fun cq => ?_)
            · replace h := h.2 cq
              refine r_sub [0, 2] rfl ?_
              exact tX4_readProduct_J53 hC hF hL _ hG0 hG1 hG2 hG3 hG4 hG5 Q _  _ qa0 ih _ h
            · replace h := h.1 cq
              refine r_aload_n hC 0 dX4_readProduct_44 rfl rfl ?_
              refine r_bipush hC (by decide +kernel) dX4_readProduct_45 ?_
              refine r_callV (As := [vI 61]) (st := []) hC cw_X4_63 rfl qa0.1 qa0.2 rfl rfl (Nat.le_of_ble_eq_true rfl) (by constructor <;> simp only [rmX4_readProduct, rmX4_isAt] <;> omega) ⟨Nat.le_of_ble_eq_true rfl, Nat.le_of_ble_eq_true rfl⟩ dX4_readProduct_47 (fun hk => mX4_isAt Y hF _ _ _ _ _ (kqO hk qa0) h) (fun v M_20 h => ?_)
              obtain ⟨r_21, rfl, h⟩ := h
              refine r_if_eq hC 114 rfl dX4_readProduct_50 (by decide) (fun cq => ?_) (fun cq => ?_)
              · replace h := h.1 cq
                refine r_iload_n hC 1 dX4_readProduct_114 rfl rfl ?_
                exact r_zret hC h.1 (Nat.zero_le _) (Nat.zero_le _) dX4_readProduct_115 ⟨_, rfl, h.2⟩
              · replace h := h.2 cq
                refine r_sub [0, 2] rfl ?_
                exact tX4_readProduct_J53 hC hF hL _ hG0 hG1 hG2 hG3 hG4 hG5 Q _  _ qa0 ih _ h
set_option maxHeartbeats 4000000 in
set_option maxRecDepth 100000 in
theorem mbX4_readProduct (Y : Yx) (hF : Y.2.2.2.2 = true) (l : Launch) {Γ : Nat → List Int → Mem → (Int → Mem → Prop) → Prop} {d : Nat} (a0 : Nat) (hG0 : ∀ (M : Mem) (Q : Int → Mem → Prop), (0 < a0 ∧ M 0 a0 = kO 4) → Γ 0 [] M Q → CT Y l yX4_readChoice cX4_readChoice 1 (some .boolean) (rmX4_readChoice d) [vR Y.1 a0] M (QI Q)) (hG1 : ∀ (M : Mem) (Q : Int → Mem → Prop), (0 < a0 ∧ M 0 a0 = kO 4) → Γ 1 [] M Q → CT Y l yX4_readSum cX4_readSum 4 (some .boolean) (rmX4_readSum d) [vR Y.1 a0] M (QI Q)) (hG2 : ∀ (M : Mem) (Q : Int → Mem → Prop), (0 < a0 ∧ M 0 a0 = kO 4) → Γ 2 [] M Q → CT Y l yX4_readProduct cX4_readProduct 4 (some .boolean) (rmX4_readProduct d) [vR Y.1 a0] M (QI Q)) (hG3 : ∀ (M : Mem) (Q : Int → Mem → Prop), (0 < a0 ∧ M 0 a0 = kO 4) → Γ 3 [] M Q → CT Y l yX4_readOne cX4_readOne 2 (some .boolean) (rmX4_readOne d) [vR Y.1 a0] M (QI Q)) (hG4 : ∀ (M : Mem) (Q : Int → Mem → Prop), (0 < a0 ∧ M 0 a0 = kO 4) → Γ 4 [] M Q → CT Y l yX4_readNegated cX4_readNegated 1 (some .boolean) (rmX4_readNegated d) [vR Y.1 a0] M (QI Q)) (hG5 : ∀ (M : Mem) (Q : Int → Mem → Prop), (0 < a0 ∧ M 0 a0 = kO 4) → Γ 5 [] M Q → CT Y l yX4_readBraced cX4_readBraced 1 (some .boolean) (rmX4_readBraced d) [vR Y.1 a0] M (QI Q)) (M0 : Mem) (Q : Int → Mem → Prop) (qa0 : 0 < a0 ∧ M0 0 a0 = kO 4) (h : wbX4_readProduct Γ a0 M0 Q) : CT Y l yX4_readProduct cX4_readProduct 4 (some .boolean) (rmX4_readProduct (d + 1)) [vR Y.1 a0] M0 (QI Q) := by
  unfold wbX4_readProduct at h
  refine ct_intro (by decide) (Nat.le_of_ble_eq_true rfl) ?_
  intro X hXl hC hL0
  have hL := hL0 hF
  change OKX X Y RX4 cX4_readProduct 4 (some .boolean) (rmX4_readProduct (d + 1)) at hC
  subst hXl
  change WW X Y 4 (rmX4_readProduct (d + 1)) (QI Q) M0 0 0 0 [(0, vR Y.1 a0)] [] M0
  refine r_aload_n hC 0 dX4_readProduct_0 rfl rfl ?_
  refine r_callV (As := []) (st := []) hC cw_X4_79 rfl qa0.1 qa0.2 rfl rfl (Nat.le_of_ble_eq_true rfl) (by constructor <;> simp only [rmX4_readProduct, rmX4_readOne] <;> omega) ⟨Nat.le_of_ble_eq_true rfl, Nat.le_of_ble_eq_true rfl⟩ dX4_readProduct_1 (fun hk => hG3  _ _ (kqO hk qa0) h) (fun v M_1 h => ?_)
  obtain ⟨r_2, rfl, h⟩ := h
  refine r_istore_n (lv' := [(1, vI r_2), (0, vR Y.1 a0)]) hC dX4_readProduct_4 rfl (by decide) rfl ?_
  refine r_iconst hC dX4_readProduct_5 ?_
  refine r_istore_n (lv' := [(2, vI 0), (1, vI r_2), (0, vR Y.1 a0)]) hC dX4_readProduct_6 rfl (by decide) rfl ?_
  refine r_sub [2, 1, 0] rfl ?_
  obtain ⟨N_22, h⟩ := h
  refine tX4_readProduct_L7 hC hF hL _ hG0 hG1 hG2 hG3 hG4 hG5 Q   qa0  N_22 _ _ _ h
theorem dX4_readOne_0 : dec cX4_readOne 0 1 1 (.aload_n 0) := ⟨by decide +kernel, rfl⟩
theorem dX4_readOne_1 : dec cX4_readOne 1 2 3 (.bipush 45) := ⟨by decide +kernel, rfl⟩
theorem dX4_readOne_3 : dec cX4_readOne 3 3 6 (.invokevirtual 63) := ⟨by decide +kernel, rfl⟩
theorem dX4_readOne_6 : dec cX4_readOne 6 3 9 (.ifCond .eq 8) := ⟨by decide +kernel, rfl⟩
theorem dX4_readOne_9 : dec cX4_readOne 9 1 10 (.aload_n 0) := ⟨by decide +kernel, rfl⟩
theorem dX4_readOne_10 : dec cX4_readOne 10 3 13 (.invokevirtual 82) := ⟨by decide +kernel, rfl⟩
theorem dX4_readOne_13 : dec cX4_readOne 13 1 14 (.ireturn) := ⟨by decide +kernel, rfl⟩
theorem dX4_readOne_14 : dec cX4_readOne 14 1 15 (.aload_n 0) := ⟨by decide +kernel, rfl⟩
theorem dX4_readOne_15 : dec cX4_readOne 15 2 17 (.bipush 40) := ⟨by decide +kernel, rfl⟩
theorem dX4_readOne_17 : dec cX4_readOne 17 3 20 (.invokevirtual 63) := ⟨by decide +kernel, rfl⟩
theorem dX4_readOne_20 : dec cX4_readOne 20 3 23 (.ifCond .eq 8) := ⟨by decide +kernel, rfl⟩
theorem dX4_readOne_23 : dec cX4_readOne 23 1 24 (.aload_n 0) := ⟨by decide +kernel, rfl⟩
theorem dX4_readOne_24 : dec cX4_readOne 24 3 27 (.invokevirtual 85) := ⟨by decide +kernel, rfl⟩
theorem dX4_readOne_27 : dec cX4_readOne 27 1 28 (.ireturn) := ⟨by decide +kernel, rfl⟩
theorem dX4_readOne_28 : dec cX4_readOne 28 1 29 (.aload_n 0) := ⟨by decide +kernel, rfl⟩
theorem dX4_readOne_29 : dec cX4_readOne 29 3 32 (.invokevirtual 88) := ⟨by decide +kernel, rfl⟩
theorem dX4_readOne_32 : dec cX4_readOne 32 3 35 (.ifCond .eq 8) := ⟨by decide +kernel, rfl⟩
theorem dX4_readOne_35 : dec cX4_readOne 35 1 36 (.aload_n 0) := ⟨by decide +kernel, rfl⟩
theorem dX4_readOne_36 : dec cX4_readOne 36 3 39 (.invokevirtual 91) := ⟨by decide +kernel, rfl⟩
theorem dX4_readOne_39 : dec cX4_readOne 39 1 40 (.ireturn) := ⟨by decide +kernel, rfl⟩
theorem dX4_readOne_40 : dec cX4_readOne 40 1 41 (.aload_n 0) := ⟨by decide +kernel, rfl⟩
theorem dX4_readOne_41 : dec cX4_readOne 41 3 44 (.getfield 47) := ⟨by decide +kernel, rfl⟩
theorem dX4_readOne_44 : dec cX4_readOne 44 1 45 (.aload_n 0) := ⟨by decide +kernel, rfl⟩
theorem dX4_readOne_45 : dec cX4_readOne 45 3 48 (.getfield 34) := ⟨by decide +kernel, rfl⟩
theorem dX4_readOne_48 : dec cX4_readOne 48 3 51 (.if_icmp .ge 27) := ⟨by decide +kernel, rfl⟩
theorem dX4_readOne_51 : dec cX4_readOne 51 1 52 (.aload_n 0) := ⟨by decide +kernel, rfl⟩
theorem dX4_readOne_52 : dec cX4_readOne 52 3 55 (.getfield 21) := ⟨by decide +kernel, rfl⟩
theorem dX4_readOne_55 : dec cX4_readOne 55 1 56 (.aload_n 0) := ⟨by decide +kernel, rfl⟩
theorem dX4_readOne_56 : dec cX4_readOne 56 3 59 (.getfield 15) := ⟨by decide +kernel, rfl⟩
theorem dX4_readOne_59 : dec cX4_readOne 59 1 60 (.aload_n 0) := ⟨by decide +kernel, rfl⟩
theorem dX4_readOne_60 : dec cX4_readOne 60 3 63 (.getfield 47) := ⟨by decide +kernel, rfl⟩
theorem dX4_readOne_63 : dec cX4_readOne 63 1 64 (.baload) := ⟨by decide +kernel, rfl⟩
theorem dX4_readOne_64 : dec cX4_readOne 64 3 67 (.sipush 255) := ⟨by decide +kernel, rfl⟩
theorem dX4_readOne_67 : dec cX4_readOne 67 1 68 (.iand) := ⟨by decide +kernel, rfl⟩
theorem dX4_readOne_68 : dec cX4_readOne 68 1 69 (.i2c) := ⟨by decide +kernel, rfl⟩
theorem dX4_readOne_69 : dec cX4_readOne 69 3 72 (.invokevirtual 94) := ⟨by decide +kernel, rfl⟩
theorem dX4_readOne_72 : dec cX4_readOne 72 3 75 (.goto 4) := ⟨by decide +kernel, rfl⟩
theorem dX4_readOne_75 : dec cX4_readOne 75 1 76 (.iconst (-1)) := ⟨by decide +kernel, rfl⟩
theorem dX4_readOne_76 : dec cX4_readOne 76 1 77 (.istore_n 1) := ⟨by decide +kernel, rfl⟩
theorem dX4_readOne_77 : dec cX4_readOne 77 1 78 (.iload_n 1) := ⟨by decide +kernel, rfl⟩
theorem dX4_readOne_78 : dec cX4_readOne 78 3 81 (.ifCond .ge 5) := ⟨by decide +kernel, rfl⟩
theorem dX4_readOne_81 : dec cX4_readOne 81 1 82 (.iconst 0) := ⟨by decide +kernel, rfl⟩
theorem dX4_readOne_82 : dec cX4_readOne 82 1 83 (.ireturn) := ⟨by decide +kernel, rfl⟩
theorem dX4_readOne_83 : dec cX4_readOne 83 1 84 (.aload_n 0) := ⟨by decide +kernel, rfl⟩
theorem dX4_readOne_84 : dec cX4_readOne 84 1 85 (.dup) := ⟨by decide +kernel, rfl⟩
theorem dX4_readOne_85 : dec cX4_readOne 85 3 88 (.getfield 47) := ⟨by decide +kernel, rfl⟩
theorem dX4_readOne_88 : dec cX4_readOne 88 1 89 (.iconst 1) := ⟨by decide +kernel, rfl⟩
theorem dX4_readOne_89 : dec cX4_readOne 89 1 90 (.iadd) := ⟨by decide +kernel, rfl⟩
theorem dX4_readOne_90 : dec cX4_readOne 90 3 93 (.putfield 47) := ⟨by decide +kernel, rfl⟩
theorem dX4_readOne_93 : dec cX4_readOne 93 1 94 (.aload_n 0) := ⟨by decide +kernel, rfl⟩
theorem dX4_readOne_94 : dec cX4_readOne 94 2 96 (.bipush 100) := ⟨by decide +kernel, rfl⟩
theorem dX4_readOne_96 : dec cX4_readOne 96 1 97 (.iload_n 1) := ⟨by decide +kernel, rfl⟩
theorem dX4_readOne_97 : dec cX4_readOne 97 1 98 (.iadd) := ⟨by decide +kernel, rfl⟩
theorem dX4_readOne_98 : dec cX4_readOne 98 3 101 (.invokevirtual 72) := ⟨by decide +kernel, rfl⟩
theorem dX4_readOne_101 : dec cX4_readOne 101 1 102 (.ireturn) := ⟨by decide +kernel, rfl⟩
set_option maxHeartbeats 4000000 in
set_option maxRecDepth 100000 in
theorem tX4_readOne_J76 {X : Cx} {Y : Yx} {M0 : Mem} {Γ : Nat → List Int → Mem → (Int → Mem → Prop) → Prop} {d : Nat} (hC : OKX X Y RX4 cX4_readOne 2 (some .boolean) (rmX4_readOne (d + 1))) (hF : Y.2.2.2.2 = true) (hL : Lay M0) (a0 : Nat) (hG0 : ∀ (M : Mem) (Q : Int → Mem → Prop), (0 < a0 ∧ M 0 a0 = kO 4) → Γ 0 [] M Q → CT Y X.2.1 yX4_readChoice cX4_readChoice 1 (some .boolean) (rmX4_readChoice d) [vR Y.1 a0] M (QI Q)) (hG1 : ∀ (M : Mem) (Q : Int → Mem → Prop), (0 < a0 ∧ M 0 a0 = kO 4) → Γ 1 [] M Q → CT Y X.2.1 yX4_readSum cX4_readSum 4 (some .boolean) (rmX4_readSum d) [vR Y.1 a0] M (QI Q)) (hG2 : ∀ (M : Mem) (Q : Int → Mem → Prop), (0 < a0 ∧ M 0 a0 = kO 4) → Γ 2 [] M Q → CT Y X.2.1 yX4_readProduct cX4_readProduct 4 (some .boolean) (rmX4_readProduct d) [vR Y.1 a0] M (QI Q)) (hG3 : ∀ (M : Mem) (Q : Int → Mem → Prop), (0 < a0 ∧ M 0 a0 = kO 4) → Γ 3 [] M Q → CT Y X.2.1 yX4_readOne cX4_readOne 2 (some .boolean) (rmX4_readOne d) [vR Y.1 a0] M (QI Q)) (hG4 : ∀ (M : Mem) (Q : Int → Mem → Prop), (0 < a0 ∧ M 0 a0 = kO 4) → Γ 4 [] M Q → CT Y X.2.1 yX4_readNegated cX4_readNegated 1 (some .boolean) (rmX4_readNegated d) [vR Y.1 a0] M (QI Q)) (hG5 : ∀ (M : Mem) (Q : Int → Mem → Prop), (0 < a0 ∧ M 0 a0 = kO 4) → Γ 5 [] M Q → CT Y X.2.1 yX4_readBraced cX4_readBraced 1 (some .boolean) (rmX4_readBraced d) [vR Y.1 a0] M (QI Q)) (Q : Int → Mem → Prop)   (xs0 : Int) (qa0 : 0 < a0 ∧ M0 0 a0 = kO 4)  (M : Mem) (h : wX4_readOne_J76 Γ Q  a0 xs0 M) : WW X Y 2 (rmX4_readOne (d + 1)) (QI Q) M0 0 0 76 [(0, vR Y.1 a0)] [vI xs0] M := by
  unfold wX4_readOne_J76 at h
  refine r_istore_n (lv' := [(1, vI xs0), (0, vR Y.1 a0)]) hC dX4_readOne_76 rfl (by decide) rfl ?_
  refine r_iload_n hC 0 dX4_readOne_77 rfl rfl ?_
  refine r_if_ge hC 83 rfl dX4_readOne_78 (by decide) (fun cq => ?_) (fun cq => ?_)
  · replace h := h.1 cq
    refine r_aload_n hC 1 dX4_readOne_83 rfl rfl ?_
    refine r_dup hC rfl dX4_readOne_84 ?_
    refine r_getI hC fg_X4_47 rfl qa0.1 qa0.2 dX4_readOne_85 ?_
    refine r_iconst hC dX4_readOne_88 ?_
    refine r_iadd hC dX4_readOne_89 ?_
    refine r_putI hC fp_X4_47 rfl qa0.1 qa0.2 dX4_readOne_90 ?_
    refine r_nameM h (fun M_7 h => ?_)
    refine r_aload_n hC 1 dX4_readOne_93 rfl rfl ?_
    refine r_bipush hC (by decide +kernel) dX4_readOne_94 ?_
    refine r_iload_n hC 0 dX4_readOne_96 rfl rfl ?_
    refine r_iadd hC dX4_readOne_97 ?_
    refine r_callV (As := [vI (100 + xs0)]) (st := []) hC cw_X4_72 rfl qa0.1 qa0.2 rfl rfl (Nat.le_of_ble_eq_true rfl) (by constructor <;> simp only [rmX4_readOne, rmX4_writes] <;> omega) ⟨Nat.le_of_ble_eq_true rfl, Nat.le_of_ble_eq_true rfl⟩ dX4_readOne_98 (fun hk => mX4_writes Y hF _ _ _ _ _ (kqO hk qa0) h) (fun v M_8 h => ?_)
    obtain ⟨r_9, rfl, h⟩ := h
    exact r_zret hC h.1 (Nat.zero_le _) (Nat.zero_le _) dX4_readOne_101 ⟨_, rfl, h.2⟩
  · replace h := h.2 cq
    refine r_iconst hC dX4_readOne_81 ?_
    exact r_zret hC (Or.inl rfl) (Nat.zero_le _) (Nat.zero_le _) dX4_readOne_82 ⟨_, rfl, h⟩
set_option maxHeartbeats 4000000 in
set_option maxRecDepth 100000 in
theorem mbX4_readOne (Y : Yx) (hF : Y.2.2.2.2 = true) (l : Launch) {Γ : Nat → List Int → Mem → (Int → Mem → Prop) → Prop} {d : Nat} (a0 : Nat) (hG0 : ∀ (M : Mem) (Q : Int → Mem → Prop), (0 < a0 ∧ M 0 a0 = kO 4) → Γ 0 [] M Q → CT Y l yX4_readChoice cX4_readChoice 1 (some .boolean) (rmX4_readChoice d) [vR Y.1 a0] M (QI Q)) (hG1 : ∀ (M : Mem) (Q : Int → Mem → Prop), (0 < a0 ∧ M 0 a0 = kO 4) → Γ 1 [] M Q → CT Y l yX4_readSum cX4_readSum 4 (some .boolean) (rmX4_readSum d) [vR Y.1 a0] M (QI Q)) (hG2 : ∀ (M : Mem) (Q : Int → Mem → Prop), (0 < a0 ∧ M 0 a0 = kO 4) → Γ 2 [] M Q → CT Y l yX4_readProduct cX4_readProduct 4 (some .boolean) (rmX4_readProduct d) [vR Y.1 a0] M (QI Q)) (hG3 : ∀ (M : Mem) (Q : Int → Mem → Prop), (0 < a0 ∧ M 0 a0 = kO 4) → Γ 3 [] M Q → CT Y l yX4_readOne cX4_readOne 2 (some .boolean) (rmX4_readOne d) [vR Y.1 a0] M (QI Q)) (hG4 : ∀ (M : Mem) (Q : Int → Mem → Prop), (0 < a0 ∧ M 0 a0 = kO 4) → Γ 4 [] M Q → CT Y l yX4_readNegated cX4_readNegated 1 (some .boolean) (rmX4_readNegated d) [vR Y.1 a0] M (QI Q)) (hG5 : ∀ (M : Mem) (Q : Int → Mem → Prop), (0 < a0 ∧ M 0 a0 = kO 4) → Γ 5 [] M Q → CT Y l yX4_readBraced cX4_readBraced 1 (some .boolean) (rmX4_readBraced d) [vR Y.1 a0] M (QI Q)) (M0 : Mem) (Q : Int → Mem → Prop) (qa0 : 0 < a0 ∧ M0 0 a0 = kO 4) (h : wbX4_readOne Γ a0 M0 Q) : CT Y l yX4_readOne cX4_readOne 2 (some .boolean) (rmX4_readOne (d + 1)) [vR Y.1 a0] M0 (QI Q) := by
  unfold wbX4_readOne at h
  refine ct_intro (by decide) (Nat.le_of_ble_eq_true rfl) ?_
  intro X hXl hC hL0
  have hL := hL0 hF
  change OKX X Y RX4 cX4_readOne 2 (some .boolean) (rmX4_readOne (d + 1)) at hC
  subst hXl
  change WW X Y 2 (rmX4_readOne (d + 1)) (QI Q) M0 0 0 0 [(0, vR Y.1 a0)] [] M0
  refine r_aload_n hC 0 dX4_readOne_0 rfl rfl ?_
  refine r_bipush hC (by decide +kernel) dX4_readOne_1 ?_
  refine r_callV (As := [vI 45]) (st := []) hC cw_X4_63 rfl qa0.1 qa0.2 rfl rfl (Nat.le_of_ble_eq_true rfl) (by constructor <;> simp only [rmX4_readOne, rmX4_isAt] <;> omega) ⟨Nat.le_of_ble_eq_true rfl, Nat.le_of_ble_eq_true rfl⟩ dX4_readOne_3 (fun hk => mX4_isAt Y hF _ _ _ _ _ (kqO hk qa0) h) (fun v M_1 h => ?_)
  obtain ⟨r_2, rfl, h⟩ := h
  refine r_if_eq hC 14 rfl dX4_readOne_6 (by decide) (fun cq => ?_) (fun cq => ?_)
  · replace h := h.1 cq
    refine r_aload_n hC 0 dX4_readOne_14 rfl rfl ?_
    refine r_bipush hC (by decide +kernel) dX4_readOne_15 ?_
    refine r_callV (As := [vI 40]) (st := []) hC cw_X4_63 rfl qa0.1 qa0.2 rfl rfl (Nat.le_of_ble_eq_true rfl) (by constructor <;> simp only [rmX4_readOne, rmX4_isAt] <;> omega) ⟨Nat.le_of_ble_eq_true rfl, Nat.le_of_ble_eq_true rfl⟩ dX4_readOne_17 (fun hk => mX4_isAt Y hF _ _ _ _ _ (kqO hk qa0) h) (fun v M_3 h => ?_)
    obtain ⟨r_4, rfl, h⟩ := h
    refine r_if_eq hC 28 rfl dX4_readOne_20 (by decide) (fun cq => ?_) (fun cq => ?_)
    · replace h := h.1 cq
      refine r_aload_n hC 0 dX4_readOne_28 rfl rfl ?_
      refine r_callV (As := []) (st := []) hC cw_X4_88 rfl qa0.1 qa0.2 rfl rfl (Nat.le_of_ble_eq_true rfl) (by constructor <;> simp only [rmX4_readOne, rmX4_isAtDigit] <;> omega) ⟨Nat.le_of_ble_eq_true rfl, Nat.le_of_ble_eq_true rfl⟩ dX4_readOne_29 (fun hk => mX4_isAtDigit Y hF _ _ _ _ (kqO hk qa0) h) (fun v M_5 h => ?_)
      obtain ⟨r_6, rfl, h⟩ := h
      refine r_if_eq hC 40 rfl dX4_readOne_32 (by decide) (fun cq => ?_) (fun cq => ?_)
      · replace h := h.1 cq
        refine r_aload_n hC 0 dX4_readOne_40 rfl rfl ?_
        refine r_getI hC fg_X4_47 rfl qa0.1 qa0.2 dX4_readOne_41 ?_
        refine r_aload_n hC 0 dX4_readOne_44 rfl rfl ?_
        refine r_getI hC fg_X4_34 rfl qa0.1 qa0.2 dX4_readOne_45 ?_
        refine r_icmp_ge hC 75 rfl rfl dX4_readOne_48 (by decide) (fun cq => ?_) (fun cq => ?_)
        · replace h := h.1 cq
          refine r_iconst hC dX4_readOne_75 ?_
          refine r_sub [0] rfl ?_
          exact tX4_readOne_J76 hC hF hL _ hG0 hG1 hG2 hG3 hG4 hG5 Q   _ qa0  _ h
        · replace h := h.2 cq
          refine r_aload_n hC 0 dX4_readOne_51 rfl rfl ?_
          obtain ⟨z_10, h⟩ := h
          refine r_getS hC fg_X4_21 rfl qa0.1 qa0.2 dX4_readOne_52 ?_
          refine r_aload_n hC 0 dX4_readOne_55 rfl rfl ?_
          have q_11 : 0 < a0 + 2 ∧ M0 0 (a0 + 2) = kA 1 50 := lay_f0 (a := a0) hL qa0 fm_4_2
          refine r_getR0 (a' := a0 + 2) hC fg_X4_15 rfl hF fm_4_2 qa0.1 qa0.2 rfl dX4_readOne_56 ?_
          refine r_aload_n hC 0 dX4_readOne_59 rfl rfl ?_
          refine r_getI hC fg_X4_47 rfl qa0.1 qa0.2 dX4_readOne_60 ?_
          obtain ⟨i_12, h⟩ := h
          refine r_bald hC i_12 q_11.1 q_11.2 (by decide) dX4_readOne_63 ?_
          refine r_sipush hC (by decide +kernel) dX4_readOne_64 ?_
          refine r_iand hC dX4_readOne_67 ?_
          refine r_i2c hC dX4_readOne_68 ?_
          refine r_callT (As := [vI (iC (iAnd (rd M_5 (a0 + 2) (M_5 a0 5)) 255))]) (st := []) hC z_10 cw_X4_94 rfl rfl rfl (Nat.le_of_ble_eq_true rfl) (by constructor <;> simp only [rmX4_readOne, rmJ0_indexOf_0f7a4] <;> omega) ⟨Nat.le_of_ble_eq_true rfl, Nat.le_of_ble_eq_true rfl⟩ dX4_readOne_69 (fun hk => mJ0_indexOf_0f7a4 Y hF _ _ _ _ _ z_10 h) (fun v M_13 h => ?_)
          obtain ⟨r_14, rfl, h⟩ := h
          refine r_goto hC 76 dX4_readOne_72 (by decide) ?_
          refine r_sub [0] rfl ?_
          exact tX4_readOne_J76 hC hF hL _ hG0 hG1 hG2 hG3 hG4 hG5 Q   _ qa0  _ h
      · replace h := h.2 cq
        refine r_aload_n hC 0 dX4_readOne_35 rfl rfl ?_
        refine r_callV (As := []) (st := []) hC cw_X4_91 rfl qa0.1 qa0.2 rfl rfl (Nat.le_of_ble_eq_true rfl) (by constructor <;> simp only [rmX4_readOne, rmX4_readNumber] <;> omega) ⟨Nat.le_of_ble_eq_true rfl, Nat.le_of_ble_eq_true rfl⟩ dX4_readOne_36 (fun hk => mX4_readNumber Y hF _ _ _ _ (kqO hk qa0) h) (fun v M_15 h => ?_)
        obtain ⟨r_16, rfl, h⟩ := h
        exact r_zret hC h.1 (Nat.zero_le _) (Nat.zero_le _) dX4_readOne_39 ⟨_, rfl, h.2⟩
    · replace h := h.2 cq
      refine r_aload_n hC 0 dX4_readOne_23 rfl rfl ?_
      refine r_callV (As := []) (st := []) hC cw_X4_85 rfl qa0.1 qa0.2 rfl rfl (Nat.le_of_ble_eq_true rfl) (by constructor <;> simp only [rmX4_readOne, rmX4_readBraced] <;> omega) ⟨Nat.le_of_ble_eq_true rfl, Nat.le_of_ble_eq_true rfl⟩ dX4_readOne_24 (fun hk => hG5  _ _ (kqO hk qa0) h) (fun v M_17 h => ?_)
      obtain ⟨r_18, rfl, h⟩ := h
      exact r_zret hC h.1 (Nat.zero_le _) (Nat.zero_le _) dX4_readOne_27 ⟨_, rfl, h.2⟩
  · replace h := h.2 cq
    refine r_aload_n hC 0 dX4_readOne_9 rfl rfl ?_
    refine r_callV (As := []) (st := []) hC cw_X4_82 rfl qa0.1 qa0.2 rfl rfl (Nat.le_of_ble_eq_true rfl) (by constructor <;> simp only [rmX4_readOne, rmX4_readNegated] <;> omega) ⟨Nat.le_of_ble_eq_true rfl, Nat.le_of_ble_eq_true rfl⟩ dX4_readOne_10 (fun hk => hG4  _ _ (kqO hk qa0) h) (fun v M_19 h => ?_)
    obtain ⟨r_20, rfl, h⟩ := h
    exact r_zret hC h.1 (Nat.zero_le _) (Nat.zero_le _) dX4_readOne_13 ⟨_, rfl, h.2⟩
theorem dX4_readNegated_0 : dec cX4_readNegated 0 1 1 (.aload_n 0) := ⟨by decide +kernel, rfl⟩
theorem dX4_readNegated_1 : dec cX4_readNegated 1 3 4 (.invokevirtual 67) := ⟨by decide +kernel, rfl⟩
theorem dX4_readNegated_4 : dec cX4_readNegated 4 3 7 (.ifCond .ne 5) := ⟨by decide +kernel, rfl⟩
theorem dX4_readNegated_7 : dec cX4_readNegated 7 1 8 (.iconst 0) := ⟨by decide +kernel, rfl⟩
theorem dX4_readNegated_8 : dec cX4_readNegated 8 1 9 (.ireturn) := ⟨by decide +kernel, rfl⟩
theorem dX4_readNegated_9 : dec cX4_readNegated 9 1 10 (.aload_n 0) := ⟨by decide +kernel, rfl⟩
theorem dX4_readNegated_10 : dec cX4_readNegated 10 1 11 (.dup) := ⟨by decide +kernel, rfl⟩
theorem dX4_readNegated_11 : dec cX4_readNegated 11 3 14 (.getfield 53) := ⟨by decide +kernel, rfl⟩
theorem dX4_readNegated_14 : dec cX4_readNegated 14 1 15 (.iconst 1) := ⟨by decide +kernel, rfl⟩
theorem dX4_readNegated_15 : dec cX4_readNegated 15 1 16 (.iadd) := ⟨by decide +kernel, rfl⟩
theorem dX4_readNegated_16 : dec cX4_readNegated 16 3 19 (.putfield 53) := ⟨by decide +kernel, rfl⟩
theorem dX4_readNegated_19 : dec cX4_readNegated 19 1 20 (.aload_n 0) := ⟨by decide +kernel, rfl⟩
theorem dX4_readNegated_20 : dec cX4_readNegated 20 3 23 (.invokevirtual 79) := ⟨by decide +kernel, rfl⟩
theorem dX4_readNegated_23 : dec cX4_readNegated 23 3 26 (.ifCond .ne 5) := ⟨by decide +kernel, rfl⟩
theorem dX4_readNegated_26 : dec cX4_readNegated 26 1 27 (.iconst 0) := ⟨by decide +kernel, rfl⟩
theorem dX4_readNegated_27 : dec cX4_readNegated 27 1 28 (.ireturn) := ⟨by decide +kernel, rfl⟩
theorem dX4_readNegated_28 : dec cX4_readNegated 28 1 29 (.aload_n 0) := ⟨by decide +kernel, rfl⟩
theorem dX4_readNegated_29 : dec cX4_readNegated 29 1 30 (.dup) := ⟨by decide +kernel, rfl⟩
theorem dX4_readNegated_30 : dec cX4_readNegated 30 3 33 (.getfield 50) := ⟨by decide +kernel, rfl⟩
theorem dX4_readNegated_33 : dec cX4_readNegated 33 1 34 (.iconst 1) := ⟨by decide +kernel, rfl⟩
theorem dX4_readNegated_34 : dec cX4_readNegated 34 1 35 (.isub) := ⟨by decide +kernel, rfl⟩
theorem dX4_readNegated_35 : dec cX4_readNegated 35 3 38 (.putfield 50) := ⟨by decide +kernel, rfl⟩
theorem dX4_readNegated_38 : dec cX4_readNegated 38 1 39 (.aload_n 0) := ⟨by decide +kernel, rfl⟩
theorem dX4_readNegated_39 : dec cX4_readNegated 39 3 42 (.sipush 326) := ⟨by decide +kernel, rfl⟩
theorem dX4_readNegated_42 : dec cX4_readNegated 42 3 45 (.invokevirtual 72) := ⟨by decide +kernel, rfl⟩
theorem dX4_readNegated_45 : dec cX4_readNegated 45 1 46 (.ireturn) := ⟨by decide +kernel, rfl⟩
set_option maxHeartbeats 4000000 in
set_option maxRecDepth 100000 in
theorem mbX4_readNegated (Y : Yx) (hF : Y.2.2.2.2 = true) (l : Launch) {Γ : Nat → List Int → Mem → (Int → Mem → Prop) → Prop} {d : Nat} (a0 : Nat) (hG0 : ∀ (M : Mem) (Q : Int → Mem → Prop), (0 < a0 ∧ M 0 a0 = kO 4) → Γ 0 [] M Q → CT Y l yX4_readChoice cX4_readChoice 1 (some .boolean) (rmX4_readChoice d) [vR Y.1 a0] M (QI Q)) (hG1 : ∀ (M : Mem) (Q : Int → Mem → Prop), (0 < a0 ∧ M 0 a0 = kO 4) → Γ 1 [] M Q → CT Y l yX4_readSum cX4_readSum 4 (some .boolean) (rmX4_readSum d) [vR Y.1 a0] M (QI Q)) (hG2 : ∀ (M : Mem) (Q : Int → Mem → Prop), (0 < a0 ∧ M 0 a0 = kO 4) → Γ 2 [] M Q → CT Y l yX4_readProduct cX4_readProduct 4 (some .boolean) (rmX4_readProduct d) [vR Y.1 a0] M (QI Q)) (hG3 : ∀ (M : Mem) (Q : Int → Mem → Prop), (0 < a0 ∧ M 0 a0 = kO 4) → Γ 3 [] M Q → CT Y l yX4_readOne cX4_readOne 2 (some .boolean) (rmX4_readOne d) [vR Y.1 a0] M (QI Q)) (hG4 : ∀ (M : Mem) (Q : Int → Mem → Prop), (0 < a0 ∧ M 0 a0 = kO 4) → Γ 4 [] M Q → CT Y l yX4_readNegated cX4_readNegated 1 (some .boolean) (rmX4_readNegated d) [vR Y.1 a0] M (QI Q)) (hG5 : ∀ (M : Mem) (Q : Int → Mem → Prop), (0 < a0 ∧ M 0 a0 = kO 4) → Γ 5 [] M Q → CT Y l yX4_readBraced cX4_readBraced 1 (some .boolean) (rmX4_readBraced d) [vR Y.1 a0] M (QI Q)) (M0 : Mem) (Q : Int → Mem → Prop) (qa0 : 0 < a0 ∧ M0 0 a0 = kO 4) (h : wbX4_readNegated Γ a0 M0 Q) : CT Y l yX4_readNegated cX4_readNegated 1 (some .boolean) (rmX4_readNegated (d + 1)) [vR Y.1 a0] M0 (QI Q) := by
  unfold wbX4_readNegated at h
  refine ct_intro (by decide) (Nat.le_of_ble_eq_true rfl) ?_
  intro X hXl hC hL0
  have hL := hL0 hF
  change OKX X Y RX4 cX4_readNegated 1 (some .boolean) (rmX4_readNegated (d + 1)) at hC
  subst hXl
  change WW X Y 1 (rmX4_readNegated (d + 1)) (QI Q) M0 0 0 0 [(0, vR Y.1 a0)] [] M0
  refine r_aload_n hC 0 dX4_readNegated_0 rfl rfl ?_
  refine r_callV (As := []) (st := []) hC cw_X4_67 rfl qa0.1 qa0.2 rfl rfl (Nat.le_of_ble_eq_true rfl) (by constructor <;> simp only [rmX4_readNegated, rmX4_opensAnother] <;> omega) ⟨Nat.le_of_ble_eq_true rfl, Nat.le_of_ble_eq_true rfl⟩ dX4_readNegated_1 (fun hk => mX4_opensAnother Y hF _ _ _ _ (kqO hk qa0) h) (fun v M_1 h => ?_)
  obtain ⟨r_2, rfl, h⟩ := h
  refine r_if_ne hC 9 rfl dX4_readNegated_4 (by decide) (fun cq => ?_) (fun cq => ?_)
  · replace h := h.2 cq
    refine r_aload_n hC 0 dX4_readNegated_9 rfl rfl ?_
    refine r_dup hC rfl dX4_readNegated_10 ?_
    refine r_getI hC fg_X4_53 rfl qa0.1 qa0.2 dX4_readNegated_11 ?_
    refine r_iconst hC dX4_readNegated_14 ?_
    refine r_iadd hC dX4_readNegated_15 ?_
    refine r_putI hC fp_X4_53 rfl qa0.1 qa0.2 dX4_readNegated_16 ?_
    refine r_nameM h (fun M_3 h => ?_)
    refine r_aload_n hC 0 dX4_readNegated_19 rfl rfl ?_
    refine r_callV (As := []) (st := []) hC cw_X4_79 rfl qa0.1 qa0.2 rfl rfl (Nat.le_of_ble_eq_true rfl) (by constructor <;> simp only [rmX4_readNegated, rmX4_readOne] <;> omega) ⟨Nat.le_of_ble_eq_true rfl, Nat.le_of_ble_eq_true rfl⟩ dX4_readNegated_20 (fun hk => hG3  _ _ (kqO hk qa0) h) (fun v M_4 h => ?_)
    obtain ⟨r_5, rfl, h⟩ := h
    refine r_if_ne hC 28 rfl dX4_readNegated_23 (by decide) (fun cq => ?_) (fun cq => ?_)
    · replace h := h.2 cq
      refine r_aload_n hC 0 dX4_readNegated_28 rfl rfl ?_
      refine r_dup hC rfl dX4_readNegated_29 ?_
      refine r_getI hC fg_X4_50 rfl qa0.1 qa0.2 dX4_readNegated_30 ?_
      refine r_iconst hC dX4_readNegated_33 ?_
      refine r_isub hC dX4_readNegated_34 ?_
      refine r_putI hC fp_X4_50 rfl qa0.1 qa0.2 dX4_readNegated_35 ?_
      refine r_nameM h (fun M_6 h => ?_)
      refine r_aload_n hC 0 dX4_readNegated_38 rfl rfl ?_
      refine r_sipush hC (by decide +kernel) dX4_readNegated_39 ?_
      refine r_callV (As := [vI 326]) (st := []) hC cw_X4_72 rfl qa0.1 qa0.2 rfl rfl (Nat.le_of_ble_eq_true rfl) (by constructor <;> simp only [rmX4_readNegated, rmX4_writes] <;> omega) ⟨Nat.le_of_ble_eq_true rfl, Nat.le_of_ble_eq_true rfl⟩ dX4_readNegated_42 (fun hk => mX4_writes Y hF _ _ _ _ _ (kqO hk qa0) h) (fun v M_7 h => ?_)
      obtain ⟨r_8, rfl, h⟩ := h
      exact r_zret hC h.1 (Nat.zero_le _) (Nat.zero_le _) dX4_readNegated_45 ⟨_, rfl, h.2⟩
    · replace h := h.1 cq
      refine r_iconst hC dX4_readNegated_26 ?_
      exact r_zret hC (Or.inl rfl) (Nat.zero_le _) (Nat.zero_le _) dX4_readNegated_27 ⟨_, rfl, h⟩
  · replace h := h.1 cq
    refine r_iconst hC dX4_readNegated_7 ?_
    exact r_zret hC (Or.inl rfl) (Nat.zero_le _) (Nat.zero_le _) dX4_readNegated_8 ⟨_, rfl, h⟩
theorem dX4_readBraced_0 : dec cX4_readBraced 0 1 1 (.aload_n 0) := ⟨by decide +kernel, rfl⟩
theorem dX4_readBraced_1 : dec cX4_readBraced 1 3 4 (.invokevirtual 67) := ⟨by decide +kernel, rfl⟩
theorem dX4_readBraced_4 : dec cX4_readBraced 4 3 7 (.ifCond .eq 19) := ⟨by decide +kernel, rfl⟩
theorem dX4_readBraced_7 : dec cX4_readBraced 7 1 8 (.aload_n 0) := ⟨by decide +kernel, rfl⟩
theorem dX4_readBraced_8 : dec cX4_readBraced 8 3 11 (.invokevirtual 56) := ⟨by decide +kernel, rfl⟩
theorem dX4_readBraced_11 : dec cX4_readBraced 11 3 14 (.ifCond .eq 12) := ⟨by decide +kernel, rfl⟩
theorem dX4_readBraced_14 : dec cX4_readBraced 14 1 15 (.aload_n 0) := ⟨by decide +kernel, rfl⟩
theorem dX4_readBraced_15 : dec cX4_readBraced 15 2 17 (.bipush 41) := ⟨by decide +kernel, rfl⟩
theorem dX4_readBraced_17 : dec cX4_readBraced 17 3 20 (.invokevirtual 63) := ⟨by decide +kernel, rfl⟩
theorem dX4_readBraced_20 : dec cX4_readBraced 20 3 23 (.ifCond .ne 5) := ⟨by decide +kernel, rfl⟩
theorem dX4_readBraced_23 : dec cX4_readBraced 23 1 24 (.iconst 0) := ⟨by decide +kernel, rfl⟩
theorem dX4_readBraced_24 : dec cX4_readBraced 24 1 25 (.ireturn) := ⟨by decide +kernel, rfl⟩
theorem dX4_readBraced_25 : dec cX4_readBraced 25 1 26 (.aload_n 0) := ⟨by decide +kernel, rfl⟩
theorem dX4_readBraced_26 : dec cX4_readBraced 26 1 27 (.dup) := ⟨by decide +kernel, rfl⟩
theorem dX4_readBraced_27 : dec cX4_readBraced 27 3 30 (.getfield 50) := ⟨by decide +kernel, rfl⟩
theorem dX4_readBraced_30 : dec cX4_readBraced 30 1 31 (.iconst 1) := ⟨by decide +kernel, rfl⟩
theorem dX4_readBraced_31 : dec cX4_readBraced 31 1 32 (.isub) := ⟨by decide +kernel, rfl⟩
theorem dX4_readBraced_32 : dec cX4_readBraced 32 3 35 (.putfield 50) := ⟨by decide +kernel, rfl⟩
theorem dX4_readBraced_35 : dec cX4_readBraced 35 1 36 (.aload_n 0) := ⟨by decide +kernel, rfl⟩
theorem dX4_readBraced_36 : dec cX4_readBraced 36 1 37 (.dup) := ⟨by decide +kernel, rfl⟩
theorem dX4_readBraced_37 : dec cX4_readBraced 37 3 40 (.getfield 47) := ⟨by decide +kernel, rfl⟩
theorem dX4_readBraced_40 : dec cX4_readBraced 40 1 41 (.iconst 1) := ⟨by decide +kernel, rfl⟩
theorem dX4_readBraced_41 : dec cX4_readBraced 41 1 42 (.iadd) := ⟨by decide +kernel, rfl⟩
theorem dX4_readBraced_42 : dec cX4_readBraced 42 3 45 (.putfield 47) := ⟨by decide +kernel, rfl⟩
theorem dX4_readBraced_45 : dec cX4_readBraced 45 1 46 (.iconst 1) := ⟨by decide +kernel, rfl⟩
theorem dX4_readBraced_46 : dec cX4_readBraced 46 1 47 (.ireturn) := ⟨by decide +kernel, rfl⟩
set_option maxHeartbeats 4000000 in
set_option maxRecDepth 100000 in
theorem mbX4_readBraced (Y : Yx) (hF : Y.2.2.2.2 = true) (l : Launch) {Γ : Nat → List Int → Mem → (Int → Mem → Prop) → Prop} {d : Nat} (a0 : Nat) (hG0 : ∀ (M : Mem) (Q : Int → Mem → Prop), (0 < a0 ∧ M 0 a0 = kO 4) → Γ 0 [] M Q → CT Y l yX4_readChoice cX4_readChoice 1 (some .boolean) (rmX4_readChoice d) [vR Y.1 a0] M (QI Q)) (hG1 : ∀ (M : Mem) (Q : Int → Mem → Prop), (0 < a0 ∧ M 0 a0 = kO 4) → Γ 1 [] M Q → CT Y l yX4_readSum cX4_readSum 4 (some .boolean) (rmX4_readSum d) [vR Y.1 a0] M (QI Q)) (hG2 : ∀ (M : Mem) (Q : Int → Mem → Prop), (0 < a0 ∧ M 0 a0 = kO 4) → Γ 2 [] M Q → CT Y l yX4_readProduct cX4_readProduct 4 (some .boolean) (rmX4_readProduct d) [vR Y.1 a0] M (QI Q)) (hG3 : ∀ (M : Mem) (Q : Int → Mem → Prop), (0 < a0 ∧ M 0 a0 = kO 4) → Γ 3 [] M Q → CT Y l yX4_readOne cX4_readOne 2 (some .boolean) (rmX4_readOne d) [vR Y.1 a0] M (QI Q)) (hG4 : ∀ (M : Mem) (Q : Int → Mem → Prop), (0 < a0 ∧ M 0 a0 = kO 4) → Γ 4 [] M Q → CT Y l yX4_readNegated cX4_readNegated 1 (some .boolean) (rmX4_readNegated d) [vR Y.1 a0] M (QI Q)) (hG5 : ∀ (M : Mem) (Q : Int → Mem → Prop), (0 < a0 ∧ M 0 a0 = kO 4) → Γ 5 [] M Q → CT Y l yX4_readBraced cX4_readBraced 1 (some .boolean) (rmX4_readBraced d) [vR Y.1 a0] M (QI Q)) (M0 : Mem) (Q : Int → Mem → Prop) (qa0 : 0 < a0 ∧ M0 0 a0 = kO 4) (h : wbX4_readBraced Γ a0 M0 Q) : CT Y l yX4_readBraced cX4_readBraced 1 (some .boolean) (rmX4_readBraced (d + 1)) [vR Y.1 a0] M0 (QI Q) := by
  unfold wbX4_readBraced at h
  refine ct_intro (by decide) (Nat.le_of_ble_eq_true rfl) ?_
  intro X hXl hC hL0
  have hL := hL0 hF
  change OKX X Y RX4 cX4_readBraced 1 (some .boolean) (rmX4_readBraced (d + 1)) at hC
  subst hXl
  change WW X Y 1 (rmX4_readBraced (d + 1)) (QI Q) M0 0 0 0 [(0, vR Y.1 a0)] [] M0
  refine r_aload_n hC 0 dX4_readBraced_0 rfl rfl ?_
  refine r_callV (As := []) (st := []) hC cw_X4_67 rfl qa0.1 qa0.2 rfl rfl (Nat.le_of_ble_eq_true rfl) (by constructor <;> simp only [rmX4_readBraced, rmX4_opensAnother] <;> omega) ⟨Nat.le_of_ble_eq_true rfl, Nat.le_of_ble_eq_true rfl⟩ dX4_readBraced_1 (fun hk => mX4_opensAnother Y hF _ _ _ _ (kqO hk qa0) h) (fun v M_1 h => ?_)
  obtain ⟨r_2, rfl, h⟩ := h
  refine r_if_eq hC 23 rfl dX4_readBraced_4 (by decide) (fun cq => ?_) (fun cq => ?_)
  · replace h := h.1 cq
    refine r_iconst hC dX4_readBraced_23 ?_
    exact r_zret hC (Or.inl rfl) (Nat.zero_le _) (Nat.zero_le _) dX4_readBraced_24 ⟨_, rfl, h⟩
  · replace h := h.2 cq
    refine r_aload_n hC 0 dX4_readBraced_7 rfl rfl ?_
    refine r_callV (As := []) (st := []) hC cw_X4_56 rfl qa0.1 qa0.2 rfl rfl (Nat.le_of_ble_eq_true rfl) (by constructor <;> simp only [rmX4_readBraced, rmX4_readChoice] <;> omega) ⟨Nat.le_of_ble_eq_true rfl, Nat.le_of_ble_eq_true rfl⟩ dX4_readBraced_8 (fun hk => hG0  _ _ (kqO hk qa0) h) (fun v M_3 h => ?_)
    obtain ⟨r_4, rfl, h⟩ := h
    refine r_if_eq hC 23 rfl dX4_readBraced_11 (by decide) (fun cq => ?_) (fun cq => ?_)
    · replace h := h.1 cq
      refine r_iconst hC dX4_readBraced_23 ?_
      exact r_zret hC (Or.inl rfl) (Nat.zero_le _) (Nat.zero_le _) dX4_readBraced_24 ⟨_, rfl, h⟩
    · replace h := h.2 cq
      refine r_aload_n hC 0 dX4_readBraced_14 rfl rfl ?_
      refine r_bipush hC (by decide +kernel) dX4_readBraced_15 ?_
      refine r_callV (As := [vI 41]) (st := []) hC cw_X4_63 rfl qa0.1 qa0.2 rfl rfl (Nat.le_of_ble_eq_true rfl) (by constructor <;> simp only [rmX4_readBraced, rmX4_isAt] <;> omega) ⟨Nat.le_of_ble_eq_true rfl, Nat.le_of_ble_eq_true rfl⟩ dX4_readBraced_17 (fun hk => mX4_isAt Y hF _ _ _ _ _ (kqO hk qa0) h) (fun v M_5 h => ?_)
      obtain ⟨r_6, rfl, h⟩ := h
      refine r_if_ne hC 25 rfl dX4_readBraced_20 (by decide) (fun cq => ?_) (fun cq => ?_)
      · replace h := h.2 cq
        refine r_aload_n hC 0 dX4_readBraced_25 rfl rfl ?_
        refine r_dup hC rfl dX4_readBraced_26 ?_
        refine r_getI hC fg_X4_50 rfl qa0.1 qa0.2 dX4_readBraced_27 ?_
        refine r_iconst hC dX4_readBraced_30 ?_
        refine r_isub hC dX4_readBraced_31 ?_
        refine r_putI hC fp_X4_50 rfl qa0.1 qa0.2 dX4_readBraced_32 ?_
        refine r_nameM h (fun M_7 h => ?_)
        refine r_aload_n hC 0 dX4_readBraced_35 rfl rfl ?_
        refine r_dup hC rfl dX4_readBraced_36 ?_
        refine r_getI hC fg_X4_47 rfl qa0.1 qa0.2 dX4_readBraced_37 ?_
        refine r_iconst hC dX4_readBraced_40 ?_
        refine r_iadd hC dX4_readBraced_41 ?_
        refine r_putI hC fp_X4_47 rfl qa0.1 qa0.2 dX4_readBraced_42 ?_
        refine r_nameM h (fun M_8 h => ?_)
        refine r_iconst hC dX4_readBraced_45 ?_
        exact r_zret hC (Or.inr rfl) (Nat.zero_le _) (Nat.zero_le _) dX4_readBraced_46 ⟨_, rfl, h⟩
      · replace h := h.1 cq
        refine r_iconst hC dX4_readBraced_23 ?_
        exact r_zret hC (Or.inl rfl) (Nat.zero_le _) (Nat.zero_le _) dX4_readBraced_24 ⟨_, rfl, h⟩
set_option maxHeartbeats 4000000 in
set_option maxRecDepth 100000 in
theorem mGX4_readChoice (Y : Yx) (hF : Y.2.2.2.2 = true) (l : Launch) (a0 : Nat) : ∀ d : Nat, (∀ (M : Mem) (Q : Int → Mem → Prop), (0 < a0 ∧ M 0 a0 = kO 4) → wGX4_readChoice a0 d 0 [] M Q → CT Y l yX4_readChoice cX4_readChoice 1 (some .boolean) (rmX4_readChoice d) [vR Y.1 a0] M (QI Q)) ∧ (∀ (M : Mem) (Q : Int → Mem → Prop), (0 < a0 ∧ M 0 a0 = kO 4) → wGX4_readChoice a0 d 1 [] M Q → CT Y l yX4_readSum cX4_readSum 4 (some .boolean) (rmX4_readSum d) [vR Y.1 a0] M (QI Q)) ∧ (∀ (M : Mem) (Q : Int → Mem → Prop), (0 < a0 ∧ M 0 a0 = kO 4) → wGX4_readChoice a0 d 2 [] M Q → CT Y l yX4_readProduct cX4_readProduct 4 (some .boolean) (rmX4_readProduct d) [vR Y.1 a0] M (QI Q)) ∧ (∀ (M : Mem) (Q : Int → Mem → Prop), (0 < a0 ∧ M 0 a0 = kO 4) → wGX4_readChoice a0 d 3 [] M Q → CT Y l yX4_readOne cX4_readOne 2 (some .boolean) (rmX4_readOne d) [vR Y.1 a0] M (QI Q)) ∧ (∀ (M : Mem) (Q : Int → Mem → Prop), (0 < a0 ∧ M 0 a0 = kO 4) → wGX4_readChoice a0 d 4 [] M Q → CT Y l yX4_readNegated cX4_readNegated 1 (some .boolean) (rmX4_readNegated d) [vR Y.1 a0] M (QI Q)) ∧ (∀ (M : Mem) (Q : Int → Mem → Prop), (0 < a0 ∧ M 0 a0 = kO 4) → wGX4_readChoice a0 d 5 [] M Q → CT Y l yX4_readBraced cX4_readBraced 1 (some .boolean) (rmX4_readBraced d) [vR Y.1 a0] M (QI Q)) := by
  intro d
  induction d with
  | zero => exact ⟨fun  M Q f0 h => h.elim, fun  M Q f0 h => h.elim, fun  M Q f0 h => h.elim, fun  M Q f0 h => h.elim, fun  M Q f0 h => h.elim, fun  M Q f0 h => h.elim⟩
  | succ d ih => exact ⟨fun  M Q f0 h => mbX4_readChoice Y hF l a0 (ih.1) (ih.2.1) (ih.2.2.1) (ih.2.2.2.1) (ih.2.2.2.2.1) (ih.2.2.2.2.2) M Q f0 h, fun  M Q f0 h => mbX4_readSum Y hF l a0 (ih.1) (ih.2.1) (ih.2.2.1) (ih.2.2.2.1) (ih.2.2.2.2.1) (ih.2.2.2.2.2) M Q f0 h, fun  M Q f0 h => mbX4_readProduct Y hF l a0 (ih.1) (ih.2.1) (ih.2.2.1) (ih.2.2.2.1) (ih.2.2.2.2.1) (ih.2.2.2.2.2) M Q f0 h, fun  M Q f0 h => mbX4_readOne Y hF l a0 (ih.1) (ih.2.1) (ih.2.2.1) (ih.2.2.2.1) (ih.2.2.2.2.1) (ih.2.2.2.2.2) M Q f0 h, fun  M Q f0 h => mbX4_readNegated Y hF l a0 (ih.1) (ih.2.1) (ih.2.2.1) (ih.2.2.2.1) (ih.2.2.2.2.1) (ih.2.2.2.2.2) M Q f0 h, fun  M Q f0 h => mbX4_readBraced Y hF l a0 (ih.1) (ih.2.1) (ih.2.2.1) (ih.2.2.2.1) (ih.2.2.2.2.1) (ih.2.2.2.2.2) M Q f0 h⟩
set_option maxHeartbeats 4000000 in
set_option maxRecDepth 100000 in
theorem mX4_readChoice (Y : Yx) (hF : Y.2.2.2.2 = true) (l : Launch) (a0 : Nat) (M0 : Mem) (Q : Int → Mem → Prop) (qa0 : 0 < a0 ∧ M0 0 a0 = kO 4) (h : wX4_readChoice a0 M0 Q) : CT Y l yX4_readChoice cX4_readChoice 1 (some .boolean) (rmX4_readChoice 40) [vR Y.1 a0] M0 (QI Q) := (mGX4_readChoice Y hF l a0 40).1  M0 Q qa0 h
set_option maxHeartbeats 4000000 in
set_option maxRecDepth 100000 in
theorem mX4_readSum (Y : Yx) (hF : Y.2.2.2.2 = true) (l : Launch) (a0 : Nat) (M0 : Mem) (Q : Int → Mem → Prop) (qa0 : 0 < a0 ∧ M0 0 a0 = kO 4) (h : wX4_readSum a0 M0 Q) : CT Y l yX4_readSum cX4_readSum 4 (some .boolean) (rmX4_readSum 40) [vR Y.1 a0] M0 (QI Q) := (mGX4_readChoice Y hF l a0 40).2.1  M0 Q qa0 h
set_option maxHeartbeats 4000000 in
set_option maxRecDepth 100000 in
theorem mX4_readProduct (Y : Yx) (hF : Y.2.2.2.2 = true) (l : Launch) (a0 : Nat) (M0 : Mem) (Q : Int → Mem → Prop) (qa0 : 0 < a0 ∧ M0 0 a0 = kO 4) (h : wX4_readProduct a0 M0 Q) : CT Y l yX4_readProduct cX4_readProduct 4 (some .boolean) (rmX4_readProduct 40) [vR Y.1 a0] M0 (QI Q) := (mGX4_readChoice Y hF l a0 40).2.2.1  M0 Q qa0 h
set_option maxHeartbeats 4000000 in
set_option maxRecDepth 100000 in
theorem mX4_readOne (Y : Yx) (hF : Y.2.2.2.2 = true) (l : Launch) (a0 : Nat) (M0 : Mem) (Q : Int → Mem → Prop) (qa0 : 0 < a0 ∧ M0 0 a0 = kO 4) (h : wX4_readOne a0 M0 Q) : CT Y l yX4_readOne cX4_readOne 2 (some .boolean) (rmX4_readOne 40) [vR Y.1 a0] M0 (QI Q) := (mGX4_readChoice Y hF l a0 40).2.2.2.1  M0 Q qa0 h
set_option maxHeartbeats 4000000 in
set_option maxRecDepth 100000 in
theorem mX4_readNegated (Y : Yx) (hF : Y.2.2.2.2 = true) (l : Launch) (a0 : Nat) (M0 : Mem) (Q : Int → Mem → Prop) (qa0 : 0 < a0 ∧ M0 0 a0 = kO 4) (h : wX4_readNegated a0 M0 Q) : CT Y l yX4_readNegated cX4_readNegated 1 (some .boolean) (rmX4_readNegated 40) [vR Y.1 a0] M0 (QI Q) := (mGX4_readChoice Y hF l a0 40).2.2.2.2.1  M0 Q qa0 h
set_option maxHeartbeats 4000000 in
set_option maxRecDepth 100000 in
theorem mX4_readBraced (Y : Yx) (hF : Y.2.2.2.2 = true) (l : Launch) (a0 : Nat) (M0 : Mem) (Q : Int → Mem → Prop) (qa0 : 0 < a0 ∧ M0 0 a0 = kO 4) (h : wX4_readBraced a0 M0 Q) : CT Y l yX4_readBraced cX4_readBraced 1 (some .boolean) (rmX4_readBraced 40) [vR Y.1 a0] M0 (QI Q) := (mGX4_readChoice Y hF l a0 40).2.2.2.2.2  M0 Q qa0 h
theorem dX4_readTape_0 : dec cX4_readTape 0 1 1 (.aload_n 0) := ⟨by decide +kernel, rfl⟩
theorem dX4_readTape_1 : dec cX4_readTape 1 1 2 (.iconst 0) := ⟨by decide +kernel, rfl⟩
theorem dX4_readTape_2 : dec cX4_readTape 2 1 3 (.iload_n 2) := ⟨by decide +kernel, rfl⟩
theorem dX4_readTape_3 : dec cX4_readTape 3 1 4 (.aload_n 1) := ⟨by decide +kernel, rfl⟩
theorem dX4_readTape_4 : dec cX4_readTape 4 1 5 (.arraylength) := ⟨by decide +kernel, rfl⟩
theorem dX4_readTape_5 : dec cX4_readTape 5 2 7 (.bipush 50) := ⟨by decide +kernel, rfl⟩
theorem dX4_readTape_7 : dec cX4_readTape 7 3 10 (.invokestatic 25) := ⟨by decide +kernel, rfl⟩
theorem dX4_readTape_10 : dec cX4_readTape 10 3 13 (.invokestatic 25) := ⟨by decide +kernel, rfl⟩
theorem dX4_readTape_13 : dec cX4_readTape 13 3 16 (.invokestatic 31) := ⟨by decide +kernel, rfl⟩
theorem dX4_readTape_16 : dec cX4_readTape 16 3 19 (.putfield 34) := ⟨by decide +kernel, rfl⟩
theorem dX4_readTape_19 : dec cX4_readTape 19 1 20 (.aload_n 1) := ⟨by decide +kernel, rfl⟩
theorem dX4_readTape_20 : dec cX4_readTape 20 1 21 (.iconst 0) := ⟨by decide +kernel, rfl⟩
theorem dX4_readTape_21 : dec cX4_readTape 21 1 22 (.aload_n 0) := ⟨by decide +kernel, rfl⟩
theorem dX4_readTape_22 : dec cX4_readTape 22 3 25 (.getfield 15) := ⟨by decide +kernel, rfl⟩
theorem dX4_readTape_25 : dec cX4_readTape 25 1 26 (.iconst 0) := ⟨by decide +kernel, rfl⟩
theorem dX4_readTape_26 : dec cX4_readTape 26 1 27 (.aload_n 0) := ⟨by decide +kernel, rfl⟩
theorem dX4_readTape_27 : dec cX4_readTape 27 3 30 (.getfield 34) := ⟨by decide +kernel, rfl⟩
theorem dX4_readTape_30 : dec cX4_readTape 30 3 33 (.invokestatic 38) := ⟨by decide +kernel, rfl⟩
theorem dX4_readTape_33 : dec cX4_readTape 33 1 34 (.aload_n 0) := ⟨by decide +kernel, rfl⟩
theorem dX4_readTape_34 : dec cX4_readTape 34 1 35 (.aload_n 3) := ⟨by decide +kernel, rfl⟩
theorem dX4_readTape_35 : dec cX4_readTape 35 3 38 (.putfield 21) := ⟨by decide +kernel, rfl⟩
theorem dX4_readTape_38 : dec cX4_readTape 38 1 39 (.aload_n 0) := ⟨by decide +kernel, rfl⟩
theorem dX4_readTape_39 : dec cX4_readTape 39 1 40 (.iconst 0) := ⟨by decide +kernel, rfl⟩
theorem dX4_readTape_40 : dec cX4_readTape 40 3 43 (.putfield 44) := ⟨by decide +kernel, rfl⟩
theorem dX4_readTape_43 : dec cX4_readTape 43 1 44 (.aload_n 0) := ⟨by decide +kernel, rfl⟩
theorem dX4_readTape_44 : dec cX4_readTape 44 1 45 (.iconst 0) := ⟨by decide +kernel, rfl⟩
theorem dX4_readTape_45 : dec cX4_readTape 45 3 48 (.putfield 47) := ⟨by decide +kernel, rfl⟩
theorem dX4_readTape_48 : dec cX4_readTape 48 1 49 (.aload_n 0) := ⟨by decide +kernel, rfl⟩
theorem dX4_readTape_49 : dec cX4_readTape 49 1 50 (.iconst 0) := ⟨by decide +kernel, rfl⟩
theorem dX4_readTape_50 : dec cX4_readTape 50 3 53 (.putfield 50) := ⟨by decide +kernel, rfl⟩
theorem dX4_readTape_53 : dec cX4_readTape 53 1 54 (.aload_n 0) := ⟨by decide +kernel, rfl⟩
theorem dX4_readTape_54 : dec cX4_readTape 54 1 55 (.iconst 0) := ⟨by decide +kernel, rfl⟩
theorem dX4_readTape_55 : dec cX4_readTape 55 3 58 (.putfield 53) := ⟨by decide +kernel, rfl⟩
theorem dX4_readTape_58 : dec cX4_readTape 58 1 59 (.aload_n 0) := ⟨by decide +kernel, rfl⟩
theorem dX4_readTape_59 : dec cX4_readTape 59 3 62 (.invokevirtual 56) := ⟨by decide +kernel, rfl⟩
theorem dX4_readTape_62 : dec cX4_readTape 62 3 65 (.ifCond .eq 21) := ⟨by decide +kernel, rfl⟩
theorem dX4_readTape_65 : dec cX4_readTape 65 1 66 (.aload_n 0) := ⟨by decide +kernel, rfl⟩
theorem dX4_readTape_66 : dec cX4_readTape 66 3 69 (.getfield 47) := ⟨by decide +kernel, rfl⟩
theorem dX4_readTape_69 : dec cX4_readTape 69 1 70 (.aload_n 0) := ⟨by decide +kernel, rfl⟩
theorem dX4_readTape_70 : dec cX4_readTape 70 3 73 (.getfield 34) := ⟨by decide +kernel, rfl⟩
theorem dX4_readTape_73 : dec cX4_readTape 73 3 76 (.if_icmp .ne 10) := ⟨by decide +kernel, rfl⟩
theorem dX4_readTape_76 : dec cX4_readTape 76 1 77 (.aload_n 0) := ⟨by decide +kernel, rfl⟩
theorem dX4_readTape_77 : dec cX4_readTape 77 3 80 (.getfield 53) := ⟨by decide +kernel, rfl⟩
theorem dX4_readTape_80 : dec cX4_readTape 80 3 83 (.goto 10) := ⟨by decide +kernel, rfl⟩
theorem dX4_readTape_83 : dec cX4_readTape 83 2 85 (.bipush (-10)) := ⟨by decide +kernel, rfl⟩
theorem dX4_readTape_85 : dec cX4_readTape 85 1 86 (.aload_n 0) := ⟨by decide +kernel, rfl⟩
theorem dX4_readTape_86 : dec cX4_readTape 86 3 89 (.getfield 47) := ⟨by decide +kernel, rfl⟩
theorem dX4_readTape_89 : dec cX4_readTape 89 1 90 (.isub) := ⟨by decide +kernel, rfl⟩
theorem dX4_readTape_90 : dec cX4_readTape 90 1 91 (.ireturn) := ⟨by decide +kernel, rfl⟩
set_option maxHeartbeats 4000000 in
set_option maxRecDepth 100000 in
theorem mX4_readTape (Y : Yx) (hF : Y.2.2.2.2 = true) (l : Launch) (a0 : Nat) (a1 : Nat) (x2 : Int) (z3 : Int) (M0 : Mem) (Q : Int → Mem → Prop) (qa0 : 0 < a0 ∧ M0 0 a0 = kO 4) (qa1 : 0 < a1 ∧ M0 0 a1 = kA 1 50) (qz3 : isS z3) (h : wX4_readTape a0 a1 x2 z3 M0 Q) : CT Y l yX4_readTape cX4_readTape 4 (some .int) rmX4_readTape [vR Y.1 a0, vR Y.1 a1, vI x2, vS Y.2.2.1 z3] M0 (QI Q) := by
  unfold wX4_readTape at h
  refine ct_intro (by decide) (by simp only [vS]; split <;> exact Nat.le_of_ble_eq_true rfl) ?_
  intro X hXl hC hL0
  have hL := hL0 hF
  change OKX X Y RX4 cX4_readTape 4 (some .int) rmX4_readTape at hC
  change WW X Y 4 rmX4_readTape (QI Q) M0 0 0 0 [(0, vR Y.1 a0), (1, vR Y.1 a1), (2, vI x2), (3, vS Y.2.2.1 z3)] [] M0
  refine r_aload_n hC 0 dX4_readTape_0 rfl rfl ?_
  refine r_iconst hC dX4_readTape_1 ?_
  refine r_iload_n hC 2 dX4_readTape_2 rfl rfl ?_
  refine r_aload_n hC 1 dX4_readTape_3 rfl rfl ?_
  refine r_alen hC (by decide) qa1.1 qa1.2 (by decide) dX4_readTape_4 ?_
  refine r_bipush hC (by decide +kernel) dX4_readTape_5 ?_
  refine r_callS (As := [vI 50, vI 50]) (st := [vI x2, vI 0, vR Y.1 a0]) hC cw_X4_25 rfl rfl (Nat.le_of_ble_eq_true rfl) ⟨Nat.le_of_ble_eq_true rfl, Nat.le_of_ble_eq_true rfl⟩ ⟨Nat.le_of_ble_eq_true rfl, Nat.le_of_ble_eq_true rfl⟩ dX4_readTape_7 (fun hk => mJ9_min_7cf53 Y hF _ _ _ _ _  h) (fun v M_1 h => ?_)
  obtain ⟨r_2, rfl, h⟩ := h
  refine r_callS (As := [vI x2, vI r_2]) (st := [vI 0, vR Y.1 a0]) hC cw_X4_25 rfl rfl (Nat.le_of_ble_eq_true rfl) ⟨Nat.le_of_ble_eq_true rfl, Nat.le_of_ble_eq_true rfl⟩ ⟨Nat.le_of_ble_eq_true rfl, Nat.le_of_ble_eq_true rfl⟩ dX4_readTape_10 (fun hk => mJ9_min_7cf53 Y hF _ _ _ _ _  h) (fun v M_3 h => ?_)
  obtain ⟨r_4, rfl, h⟩ := h
  refine r_callS (As := [vI 0, vI r_4]) (st := [vR Y.1 a0]) hC cw_X4_31 rfl rfl (Nat.le_of_ble_eq_true rfl) ⟨Nat.le_of_ble_eq_true rfl, Nat.le_of_ble_eq_true rfl⟩ ⟨Nat.le_of_ble_eq_true rfl, Nat.le_of_ble_eq_true rfl⟩ dX4_readTape_13 (fun hk => mJ9_max_7cf53 Y hF _ _ _ _ _  h) (fun v M_5 h => ?_)
  obtain ⟨r_6, rfl, h⟩ := h
  refine r_putI hC fp_X4_34 rfl qa0.1 qa0.2 dX4_readTape_16 ?_
  refine r_nameM h (fun M_7 h => ?_)
  refine r_aload_n hC 1 dX4_readTape_19 rfl rfl ?_
  refine r_iconst hC dX4_readTape_20 ?_
  refine r_aload_n hC 0 dX4_readTape_21 rfl rfl ?_
  have q_8 : 0 < a0 + 2 ∧ M0 0 (a0 + 2) = kA 1 50 := lay_f0 (a := a0) hL qa0 fm_4_2
  refine r_getR0 (a' := a0 + 2) hC fg_X4_15 rfl hF fm_4_2 qa0.1 qa0.2 rfl dX4_readTape_22 ?_
  refine r_iconst hC dX4_readTape_25 ?_
  refine r_aload_n hC 0 dX4_readTape_26 rfl rfl ?_
  refine r_getI hC fg_X4_34 rfl qa0.1 qa0.2 dX4_readTape_27 ?_
  obtain ⟨i_9, h⟩ := h
  obtain ⟨b_10, h⟩ := h
  refine r_copy (t := 1) hC (by decide) cp_X4_38 (Nat.le_of_ble_eq_true rfl) (Nat.le_of_ble_eq_true rfl) (Nat.le_of_ble_eq_true rfl) i_9 (fun _ => b_10) qa1 q_8 (by decide) (by decide) dX4_readTape_30 ?_
  refine r_nameM h (fun M_11 h => ?_)
  refine r_aload_n hC 0 dX4_readTape_33 rfl rfl ?_
  refine r_aloadS_n hC qz3 3 dX4_readTape_34 rfl rfl ?_
  refine r_putS hC qz3 fp_X4_21 rfl qa0.1 qa0.2 dX4_readTape_35 ?_
  refine r_nameM h (fun M_12 h => ?_)
  refine r_aload_n hC 0 dX4_readTape_38 rfl rfl ?_
  refine r_iconst hC dX4_readTape_39 ?_
  refine r_putI hC fp_X4_44 rfl qa0.1 qa0.2 dX4_readTape_40 ?_
  refine r_nameM h (fun M_13 h => ?_)
  refine r_aload_n hC 0 dX4_readTape_43 rfl rfl ?_
  refine r_iconst hC dX4_readTape_44 ?_
  refine r_putI hC fp_X4_47 rfl qa0.1 qa0.2 dX4_readTape_45 ?_
  refine r_nameM h (fun M_14 h => ?_)
  refine r_aload_n hC 0 dX4_readTape_48 rfl rfl ?_
  refine r_iconst hC dX4_readTape_49 ?_
  refine r_putI hC fp_X4_50 rfl qa0.1 qa0.2 dX4_readTape_50 ?_
  refine r_nameM h (fun M_15 h => ?_)
  refine r_aload_n hC 0 dX4_readTape_53 rfl rfl ?_
  refine r_iconst hC dX4_readTape_54 ?_
  refine r_putI hC fp_X4_53 rfl qa0.1 qa0.2 dX4_readTape_55 ?_
  refine r_nameM h (fun M_16 h => ?_)
  refine r_aload_n hC 0 dX4_readTape_58 rfl rfl ?_
  refine r_callV (As := []) (st := []) hC cw_X4_56 rfl qa0.1 qa0.2 rfl rfl (Nat.le_of_ble_eq_true rfl) ⟨Nat.le_of_ble_eq_true rfl, Nat.le_of_ble_eq_true rfl⟩ ⟨Nat.le_of_ble_eq_true rfl, Nat.le_of_ble_eq_true rfl⟩ dX4_readTape_59 (fun hk => mX4_readChoice Y hF _ _ _ _ (kqO hk qa0) h) (fun v M_17 h => ?_)
  obtain ⟨r_18, rfl, h⟩ := h
  refine r_if_eq hC 83 rfl dX4_readTape_62 (by decide) (fun cq => ?_) (fun cq => ?_)
  · replace h := h.1 cq
    refine r_bipush hC (by decide +kernel) dX4_readTape_83 ?_
    refine r_aload_n hC 0 dX4_readTape_85 rfl rfl ?_
    refine r_getI hC fg_X4_47 rfl qa0.1 qa0.2 dX4_readTape_86 ?_
    refine r_isub hC dX4_readTape_89 ?_
    exact r_iret hC (Nat.zero_le _) (Nat.zero_le _) dX4_readTape_90 ⟨_, rfl, h⟩
  · replace h := h.2 cq
    refine r_aload_n hC 0 dX4_readTape_65 rfl rfl ?_
    refine r_getI hC fg_X4_47 rfl qa0.1 qa0.2 dX4_readTape_66 ?_
    refine r_aload_n hC 0 dX4_readTape_69 rfl rfl ?_
    refine r_getI hC fg_X4_34 rfl qa0.1 qa0.2 dX4_readTape_70 ?_
    refine r_icmp_ne hC 83 rfl rfl dX4_readTape_73 (by decide) (fun cq => ?_) (fun cq => ?_)
    · replace h := h.2 cq
      refine r_bipush hC (by decide +kernel) dX4_readTape_83 ?_
      refine r_aload_n hC 0 dX4_readTape_85 rfl rfl ?_
      refine r_getI hC fg_X4_47 rfl qa0.1 qa0.2 dX4_readTape_86 ?_
      refine r_isub hC dX4_readTape_89 ?_
      exact r_iret hC (Nat.zero_le _) (Nat.zero_le _) dX4_readTape_90 ⟨_, rfl, h⟩
    · replace h := h.1 cq
      refine r_aload_n hC 0 dX4_readTape_76 rfl rfl ?_
      refine r_getI hC fg_X4_53 rfl qa0.1 qa0.2 dX4_readTape_77 ?_
      refine r_goto hC 90 dX4_readTape_80 (by decide) ?_
      exact r_iret hC (Nat.zero_le _) (Nat.zero_le _) dX4_readTape_90 ⟨_, rfl, h⟩
