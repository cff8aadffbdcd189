theorem dX12_product_0 : dec cX12_product 0 1 1 (.aload_n 0) := ⟨by decide +kernel, rfl⟩
theorem dX12_product_1 : dec cX12_product 1 3 4 (.invokevirtual 146) := ⟨by decide +kernel, rfl⟩
theorem dX12_product_4 : dec cX12_product 4 3 7 (.ifCond .ne 5) := ⟨by decide +kernel, rfl⟩
theorem dX12_product_7 : dec cX12_product 7 1 8 (.iconst 0) := ⟨by decide +kernel, rfl⟩
theorem dX12_product_8 : dec cX12_product 8 1 9 (.ireturn) := ⟨by decide +kernel, rfl⟩
theorem dX12_product_9 : dec cX12_product 9 1 10 (.aload_n 0) := ⟨by decide +kernel, rfl⟩
theorem dX12_product_10 : dec cX12_product 10 3 13 (.invokevirtual 119) := ⟨by decide +kernel, rfl⟩
theorem dX12_product_13 : dec cX12_product 13 2 15 (.bipush 42) := ⟨by decide +kernel, rfl⟩
theorem dX12_product_15 : dec cX12_product 15 3 18 (.if_icmp .eq 30) := ⟨by decide +kernel, rfl⟩
theorem dX12_product_18 : dec cX12_product 18 1 19 (.aload_n 0) := ⟨by decide +kernel, rfl⟩
theorem dX12_product_19 : dec cX12_product 19 3 22 (.invokevirtual 119) := ⟨by decide +kernel, rfl⟩
theorem dX12_product_22 : dec cX12_product 22 2 24 (.bipush 47) := ⟨by decide +kernel, rfl⟩
theorem dX12_product_24 : dec cX12_product 24 3 27 (.if_icmp .eq 21) := ⟨by decide +kernel, rfl⟩
theorem dX12_product_27 : dec cX12_product 27 1 28 (.aload_n 0) := ⟨by decide +kernel, rfl⟩
theorem dX12_product_28 : dec cX12_product 28 3 31 (.invokevirtual 119) := ⟨by decide +kernel, rfl⟩
theorem dX12_product_31 : dec cX12_product 31 2 33 (.bipush 60) := ⟨by decide +kernel, rfl⟩
theorem dX12_product_33 : dec cX12_product 33 3 36 (.if_icmp .eq 12) := ⟨by decide +kernel, rfl⟩
theorem dX12_product_36 : dec cX12_product 36 1 37 (.aload_n 0) := ⟨by decide +kernel, rfl⟩
theorem dX12_product_37 : dec cX12_product 37 3 40 (.invokevirtual 119) := ⟨by decide +kernel, rfl⟩
theorem dX12_product_40 : dec cX12_product 40 2 42 (.bipush 61) := ⟨by decide +kernel, rfl⟩
theorem dX12_product_42 : dec cX12_product 42 3 45 (.if_icmp .ne 46) := ⟨by decide +kernel, rfl⟩
theorem dX12_product_45 : dec cX12_product 45 1 46 (.aload_n 0) := ⟨by decide +kernel, rfl⟩
theorem dX12_product_46 : dec cX12_product 46 3 49 (.invokevirtual 119) := ⟨by decide +kernel, rfl⟩
theorem dX12_product_49 : dec cX12_product 49 1 50 (.istore_n 1) := ⟨by decide +kernel, rfl⟩
theorem dX12_product_50 : dec cX12_product 50 1 51 (.aload_n 0) := ⟨by decide +kernel, rfl⟩
theorem dX12_product_51 : dec cX12_product 51 1 52 (.dup) := ⟨by decide +kernel, rfl⟩
theorem dX12_product_52 : dec cX12_product 52 3 55 (.getfield 106) := ⟨by decide +kernel, rfl⟩
theorem dX12_product_55 : dec cX12_product 55 1 56 (.iconst 1) := ⟨by decide +kernel, rfl⟩
theorem dX12_product_56 : dec cX12_product 56 1 57 (.iadd) := ⟨by decide +kernel, rfl⟩
theorem dX12_product_57 : dec cX12_product 57 3 60 (.putfield 106) := ⟨by decide +kernel, rfl⟩
theorem dX12_product_60 : dec cX12_product 60 1 61 (.aload_n 0) := ⟨by decide +kernel, rfl⟩
theorem dX12_product_61 : dec cX12_product 61 1 62 (.dup) := ⟨by decide +kernel, rfl⟩
theorem dX12_product_62 : dec cX12_product 62 3 65 (.getfield 130) := ⟨by decide +kernel, rfl⟩
theorem dX12_product_65 : dec cX12_product 65 1 66 (.iconst 1) := ⟨by decide +kernel, rfl⟩
theorem dX12_product_66 : dec cX12_product 66 1 67 (.iadd) := ⟨by decide +kernel, rfl⟩
theorem dX12_product_67 : dec cX12_product 67 3 70 (.putfield 130) := ⟨by decide +kernel, rfl⟩
theorem dX12_product_70 : dec cX12_product 70 1 71 (.aload_n 0) := ⟨by decide +kernel, rfl⟩
theorem dX12_product_71 : dec cX12_product 71 3 74 (.invokevirtual 146) := ⟨by decide +kernel, rfl⟩
theorem dX12_product_74 : dec cX12_product 74 3 77 (.ifCond .ne 5) := ⟨by decide +kernel, rfl⟩
theorem dX12_product_77 : dec cX12_product 77 1 78 (.iconst 0) := ⟨by decide +kernel, rfl⟩
theorem dX12_product_78 : dec cX12_product 78 1 79 (.ireturn) := ⟨by decide +kernel, rfl⟩
theorem dX12_product_79 : dec cX12_product 79 1 80 (.aload_n 0) := ⟨by decide +kernel, rfl⟩
theorem dX12_product_80 : dec cX12_product 80 1 81 (.iconst 3) := ⟨by decide +kernel, rfl⟩
theorem dX12_product_81 : dec cX12_product 81 1 82 (.iload_n 1) := ⟨by decide +kernel, rfl⟩
theorem dX12_product_82 : dec cX12_product 82 3 85 (.invokevirtual 139) := ⟨by decide +kernel, rfl⟩
theorem dX12_product_85 : dec cX12_product 85 3 88 (.goto (-76)) := ⟨by decide +kernel, rfl⟩
theorem dX12_product_88 : dec cX12_product 88 1 89 (.iconst 1) := ⟨by decide +kernel, rfl⟩
theorem dX12_product_89 : dec cX12_product 89 1 90 (.ireturn) := ⟨by decide +kernel, rfl⟩
set_option maxHeartbeats 4000000 in
set_option maxRecDepth 100000 in
theorem tX12_product_J45 {X : Cx} {Y : Yx} {M0 : Mem} {Γ : Nat → List Int → Mem → (Int → Mem → Prop) → Prop} {d : Nat} (hC : OKX X Y RX12 cX12_product 2 (some .boolean) (rmX12_product (d + 1))) (hF : Y.2.2.2.2 = true) (hL : Lay M0) (a0 : Nat) (hG0 : ∀ (M : Mem) (Q : Int → Mem → Prop), (0 < a0 ∧ M 0 a0 = kO 12) → Γ 0 [] M Q → CT Y X.2.1 yX12_whole cX12_whole 1 (some .boolean) (rmX12_whole d) [vR Y.1 a0] M (QI Q)) (hG1 : ∀ (M : Mem) (Q : Int → Mem → Prop), (0 < a0 ∧ M 0 a0 = kO 12) → Γ 1 [] M Q → CT Y X.2.1 yX12_sum cX12_sum 2 (some .boolean) (rmX12_sum d) [vR Y.1 a0] M (QI Q)) (hG2 : ∀ (M : Mem) (Q : Int → Mem → Prop), (0 < a0 ∧ M 0 a0 = kO 12) → Γ 2 [] M Q → CT Y X.2.1 yX12_product cX12_product 2 (some .boolean) (rmX12_product d) [vR Y.1 a0] M (QI Q)) (hG3 : ∀ (M : Mem) (Q : Int → Mem → Prop), (0 < a0 ∧ M 0 a0 = kO 12) → Γ 3 [] M Q → CT Y X.2.1 yX12_one cX12_one 3 (some .boolean) (rmX12_one d) [vR Y.1 a0] M (QI Q)) (Q : Int → Mem → Prop) (C9 : Mem → Prop)   (qa0 : 0 < a0 ∧ M0 0 a0 = kO 12) (hC9 : ∀  (M : Mem), C9  M → WW X Y 2 (rmX12_product (d + 1)) (QI Q) M0 0 0 9 [(0, vR Y.1 a0)] [] M) (M : Mem) (h : wX12_product_J45 Γ Q C9 a0 M) : WW X Y 2 (rmX12_product (d + 1)) (QI Q) M0 0 0 45 [(0, vR Y.1 a0)] [] M := by
  unfold wX12_product_J45 at h
  refine r_aload_n hC 0 dX12_product_45 rfl rfl ?_
  refine r_callV (As := []) (st := []) hC cw_X12_119 rfl qa0.1 qa0.2 rfl rfl (Nat.le_of_ble_eq_true rfl) (by constructor <;> simp only [rmX12_product, rmX12_look] <;> omega) ⟨Nat.le_of_ble_eq_true rfl, Nat.le_of_ble_eq_true rfl⟩ dX12_product_46 (fun hk => mX12_look Y hF _ _ _ _ (kqO hk qa0) h) (fun v M_5 h => ?_)
  obtain ⟨r_6, rfl, h⟩ := h
  refine r_istore_n (lv' := [(1, vI r_6), (0, vR Y.1 a0)]) hC dX12_product_49 rfl (by decide) rfl ?_
  refine r_aload_n hC 1 dX12_product_50 rfl rfl ?_
  refine r_dup hC rfl dX12_product_51 ?_
  refine r_getI hC fg_X12_106 rfl qa0.1 qa0.2 dX12_product_52 ?_
  refine r_iconst hC dX12_product_55 ?_
  refine r_iadd hC dX12_product_56 ?_
  refine r_putI hC fp_X12_106 rfl qa0.1 qa0.2 dX12_product_57 ?_
  refine r_nameM h (fun M_7 h => ?_)
  refine r_aload_n hC 1 dX12_product_60 rfl rfl ?_
  refine r_dup hC rfl dX12_product_61 ?_
  refine r_getI hC fg_X12_130 rfl qa0.1 qa0.2 dX12_product_62 ?_
  refine r_iconst hC dX12_product_65 ?_
  refine r_iadd hC dX12_product_66 ?_
  refine r_putI hC fp_X12_130 rfl qa0.1 qa0.2 dX12_product_67 ?_
  refine r_nameM h (fun M_8 h => ?_)
  refine r_aload_n hC 1 dX12_product_70 rfl rfl ?_
  refine r_callV (As := []) (st := []) hC cw_X12_146 rfl qa0.1 qa0.2 rfl rfl (Nat.le_of_ble_eq_true rfl) (by constructor <;> simp only [rmX12_product, rmX12_one] <;> omega) ⟨Nat.le_of_ble_eq_true rfl, Nat.le_of_ble_eq_true rfl⟩ dX12_product_71 (fun hk => hG3  _ _ (kqO hk qa0) h) (fun v M_9 h => ?_)
  obtain ⟨r_10, rfl, h⟩ := h
  refine r_if_ne hC 79 rfl dX12_product_74 (by decide) (fun cq => ?_) (fun cq => ?_)
  · replace h := h.2 cq
    refine r_aload_n hC 1 dX12_product_79 rfl rfl ?_
    refine r_iconst hC dX12_product_80 ?_
    refine r_iload_n hC 0 dX12_product_81 rfl rfl ?_
    refine r_callV (As := [vI 3, vI r_6]) (st := []) hC cw_X12_139 rfl qa0.1 qa0.2 rfl rfl (Nat.le_of_ble_eq_true rfl) (by constructor <;> simp only [rmX12_product, rmX12_lay] <;> omega) ⟨Nat.le_of_ble_eq_true rfl, Nat.le_of_ble_eq_true rfl⟩ dX12_product_82 (fun hk => mX12_lay Y hF _ _ _ _ _ _ (kqO hk qa0) h) (fun v M_11 h => ?_)
    obtain ⟨rfl, h⟩ := h
    refine r_goto hC 9 dX12_product_85 (by decide) ?_
    refine r_sub [1] rfl ?_
    exact hC9  _ h
  · replace h := h.1 cq
    refine r_iconst hC dX12_product_77 ?_
    exact r_zret hC (Or.inl rfl) (Nat.zero_le _) (Nat.zero_le _) dX12_product_78 ⟨_, rfl, h⟩
set_option maxHeartbeats 4000000 in
set_option maxRecDepth 100000 in
theorem tX12_product_L9 {X : Cx} {Y : Yx} {M0 : Mem} {Γ : Nat → List Int → Mem → (Int → Mem → Prop) → Prop} {d : Nat} (hC : OKX X Y RX12 cX12_product 2 (some .boolean) (rmX12_product (d + 1))) (hF : Y.2.2.2.2 = true) (hL : Lay M0) (a0 : Nat) (hG0 : ∀ (M : Mem) (Q : Int → Mem → Prop), (0 < a0 ∧ M 0 a0 = kO 12) → Γ 0 [] M Q → CT Y X.2.1 yX12_whole cX12_whole 1 (some .boolean) (rmX12_whole d) [vR Y.1 a0] M (QI Q)) (hG1 : ∀ (M : Mem) (Q : Int → Mem → Prop), (0 < a0 ∧ M 0 a0 = kO 12) → Γ 1 [] M Q → CT Y X.2.1 yX12_sum cX12_sum 2 (some .boolean) (rmX12_sum d) [vR Y.1 a0] M (QI Q)) (hG2 : ∀ (M : Mem) (Q : Int → Mem → Prop), (0 < a0 ∧ M 0 a0 = kO 12) → Γ 2 [] M Q → CT Y X.2.1 yX12_product cX12_product 2 (some .boolean) (rmX12_product d) [vR Y.1 a0] M (QI Q)) (hG3 : ∀ (M : Mem) (Q : Int → Mem → Prop), (0 < a0 ∧ M 0 a0 = kO 12) → Γ 3 [] M Q → CT Y X.2.1 yX12_one cX12_one 3 (some .boolean) (rmX12_one d) [vR Y.1 a0] M (QI Q)) (Q : Int → Mem → Prop)   (qa0 : 0 < a0 ∧ M0 0 a0 = kO 12)  : ∀ (N : Nat)  (M : Mem) (_ : wX12_product_L9 Γ Q  a0 N  M), WW X Y 2 (rmX12_product (d + 1)) (QI Q) M0 0 0 9 [(0, vR Y.1 a0)] [] M := by
  intro N
  induction N with
  | zero =>
    intro M h
    exact h.elim
  | succ N ih =>
    intro M h
    unfold wX12_product_L9 at h
    refine r_aload_n hC 0 dX12_product_9 rfl rfl ?_
    refine r_callV (As := []) (st := []) hC cw_X12_119 rfl qa0.1 qa0.2 rfl rfl (Nat.le_of_ble_eq_true rfl) (by constructor <;> simp only [rmX12_product, rmX12_look] <;> omega) ⟨Nat.le_of_ble_eq_true rfl, Nat.le_of_ble_eq_true rfl⟩ dX12_product_10 (fun hk => mX12_look Y hF _ _ _ _ (kqO hk qa0) h) (fun v M_3 h => ?_)
    obtain ⟨r_4, rfl, h⟩ := h
    refine r_bipush hC (by decide +kernel) dX12_product_13 ?_
    refine r_icmp_eq hC 45 rfl bmL_42 dX12_product_15 (by decide) (fun cq => ?_) (fun cq => ?_)
    · replace h := h.1 cq
      refine r_sub [0] rfl ?_
      exact tX12_product_J45 hC hF hL _ hG0 hG1 hG2 hG3 Q _   qa0 ih _ h
    · replace h := h.2 cq
      refine r_aload_n hC 0 dX12_product_18 rfl rfl ?_
      refine r_callV (As := []) (st := []) hC cw_X12_119 rfl qa0.1 qa0.2 rfl rfl (Nat.le_of_ble_eq_true rfl) (by constructor <;> simp only [rmX12_product, rmX12_look] <;> omega) ⟨Nat.le_of_ble_eq_true rfl, Nat.le_of_ble_eq_true rfl⟩ dX12_product_19 (fun hk => mX12_look Y hF _ _ _ _ (kqO hk qa0) h) (fun v M_12 h => ?_)
      obtain ⟨r_13, rfl, h⟩ := h
      refine r_bipush hC (by decide +kernel) dX12_product_22 ?_
      refine r_icmp_eq hC 45 rfl bmL_47 dX12_product_24 (by decide) (fun cq => ?_) (fun cq => ?_)
      · replace h := h.1 cq
        refine r_sub [0] rfl ?_
        exact tX12_product_J45 hC hF hL _ hG0 hG1 hG2 hG3 Q _   qa0 ih _ h
      · replace h := h.2 cq
        refine r_aload_n hC 0 dX12_product_27 rfl rfl ?_
        refine r_callV (As := []) (st := []) hC cw_X12_119 rfl qa0.1 qa0.2 rfl rfl (Nat.le_of_ble_eq_true rfl) (by constructor <;> simp only [rmX12_product, rmX12_look] <;> omega) ⟨Nat.le_of_ble_eq_true rfl, Nat.le_of_ble_eq_true rfl⟩ dX12_product_28 (fun hk => mX12_look Y hF _ _ _ _ (kqO hk qa0) h) (fun v M_14 h => ?_)
        obtain ⟨r_15, rfl, h⟩ := h
        refine r_bipush hC (by decide +kernel) dX12_product_31 ?_
        refine r_icmp_eq hC 45 rfl bmL_60 dX12_product_33 (by decide) (fun cq => ?_) (fun cq => ?_)
        · replace h := h.1 cq
          refine r_sub [0] rfl ?_
          exact tX12_product_J45 hC hF hL _ hG0 hG1 hG2 hG3 Q _   qa0 ih _ h
        · replace h := h.2 cq
          refine r_aload_n hC 0 dX12_product_36 rfl rfl ?_
          refine r_callV (As := []) (st := []) hC cw_X12_119 rfl qa0.1 qa0.2 rfl rfl (Nat.le_of_ble_eq_true rfl) (by constructor <;> simp only [rmX12_product, rmX12_look] <;> omega) ⟨Nat.le_of_ble_eq_true rfl, Nat.le_of_ble_eq_true rfl⟩ dX12_product_37 (fun hk => mX12_look Y hF _ _ _ _ (kqO hk qa0) h) (fun v M_16 h => ?_)
          obtain ⟨r_17, rfl, h⟩ := h
          refine r_bipush hC (by decide +kernel) dX12_product_40 ?_
          refine r_icmp_ne hC 88 rfl bmL_61 dX12_product_42 (by decide) (fun cq => ?_) (fun cq => ?_)
          · replace h := h.2 cq
            refine r_iconst hC dX12_product_88 ?_
            exact r_zret hC (Or.inr rfl) (Nat.zero_le _) (Nat.zero_le _) dX12_product_89 ⟨_, rfl, h⟩
          · replace h := h.1 cq
            refine r_sub [0] rfl ?_
            exact tX12_product_J45 hC hF hL _ hG0 hG1 hG2 hG3 Q _   qa0 ih _ h
set_option maxHeartbeats 4000000 in
set_option maxRecDepth 100000 in
theorem mbX12_product (Y : Yx) (hF : Y.2.2.2.2 = true) (l : Launch) {Γ : Nat → List Int → Mem → (Int → Mem → Prop) → Prop} {d : Nat} (a0 : Nat) (hG0 : ∀ (M : Mem) (Q : Int → Mem → Prop), (0 < a0 ∧ M 0 a0 = kO 12) → Γ 0 [] M Q → CT Y l yX12_whole cX12_whole 1 (some .boolean) (rmX12_whole d) [vR Y.1 a0] M (QI Q)) (hG1 : ∀ (M : Mem) (Q : Int → Mem → Prop), (0 < a0 ∧ M 0 a0 = kO 12) → Γ 1 [] M Q → CT Y l yX12_sum cX12_sum 2 (some .boolean) (rmX12_sum d) [vR Y.1 a0] M (QI Q)) (hG2 : ∀ (M : Mem) (Q : Int → Mem → Prop), (0 < a0 ∧ M 0 a0 = kO 12) → Γ 2 [] M Q → CT Y l yX12_product cX12_product 2 (some .boolean) (rmX12_product d) [vR Y.1 a0] M (QI Q)) (hG3 : ∀ (M : Mem) (Q : Int → Mem → Prop), (0 < a0 ∧ M 0 a0 = kO 12) → Γ 3 [] M Q → CT Y l yX12_one cX12_one 3 (some .boolean) (rmX12_one d) [vR Y.1 a0] M (QI Q)) (M0 : Mem) (Q : Int → Mem → Prop) (qa0 : 0 < a0 ∧ M0 0 a0 = kO 12) (h : wbX12_product Γ a0 M0 Q) : CT Y l yX12_product cX12_product 2 (some .boolean) (rmX12_product (d + 1)) [vR Y.1 a0] M0 (QI Q) := by
  unfold wbX12_product at h
  refine ct_intro (by decide) (Nat.le_of_ble_eq_true rfl) ?_
  intro X hXl hC hL0
  have hL := hL0 hF
  change OKX X Y RX12 cX12_product 2 (some .boolean) (rmX12_product (d + 1)) at hC
  subst hXl
  change WW X Y 2 (rmX12_product (d + 1)) (QI Q) M0 0 0 0 [(0, vR Y.1 a0)] [] M0
  refine r_aload_n hC 0 dX12_product_0 rfl rfl ?_
  refine r_callV (As := []) (st := []) hC cw_X12_146 rfl qa0.1 qa0.2 rfl rfl (Nat.le_of_ble_eq_true rfl) (by constructor <;> simp only [rmX12_product, rmX12_one] <;> omega) ⟨Nat.le_of_ble_eq_true rfl, Nat.le_of_ble_eq_true rfl⟩ dX12_product_1 (fun hk => hG3  _ _ (kqO hk qa0) h) (fun v M_1 h => ?_)
  obtain ⟨r_2, rfl, h⟩ := h
  refine r_if_ne hC 9 rfl dX12_product_4 (by decide) (fun cq => ?_) (fun cq => ?_)
  · replace h := h.2 cq
    refine r_sub [0] rfl ?_
    obtain ⟨N_18, h⟩ := h
    refine tX12_product_L9 hC hF hL _ hG0 hG1 hG2 hG3 Q   qa0  N_18  _ h
  · replace h := h.1 cq
    refine r_iconst hC dX12_product_7 ?_
    exact r_zret hC (Or.inl rfl) (Nat.zero_le _) (Nat.zero_le _) dX12_product_8 ⟨_, rfl, h⟩
theorem dX12_one_0 : dec cX12_one 0 1 1 (.aload_n 0) := ⟨by decide +kernel, rfl⟩
theorem dX12_one_1 : dec cX12_one 1 3 4 (.invokevirtual 119) := ⟨by decide +kernel, rfl⟩
theorem dX12_one_4 : dec cX12_one 4 1 5 (.istore_n 1) := ⟨by decide +kernel, rfl⟩
theorem dX12_one_5 : dec cX12_one 5 1 6 (.aload_n 0) := ⟨by decide +kernel, rfl⟩
theorem dX12_one_6 : dec cX12_one 6 1 7 (.iload_n 1) := ⟨by decide +kernel, rfl⟩
theorem dX12_one_7 : dec cX12_one 7 3 10 (.invokevirtual 149) := ⟨by decide +kernel, rfl⟩
theorem dX12_one_10 : dec cX12_one 10 3 13 (.ifCond .eq 21) := ⟨by decide +kernel, rfl⟩
theorem dX12_one_13 : dec cX12_one 13 1 14 (.aload_n 0) := ⟨by decide +kernel, rfl⟩
theorem dX12_one_14 : dec cX12_one 14 1 15 (.dup) := ⟨by decide +kernel, rfl⟩
theorem dX12_one_15 : dec cX12_one 15 3 18 (.getfield 106) := ⟨by decide +kernel, rfl⟩
theorem dX12_one_18 : dec cX12_one 18 1 19 (.iconst 1) := ⟨by decide +kernel, rfl⟩
theorem dX12_one_19 : dec cX12_one 19 1 20 (.iadd) := ⟨by decide +kernel, rfl⟩
theorem dX12_one_20 : dec cX12_one 20 3 23 (.putfield 106) := ⟨by decide +kernel, rfl⟩
theorem dX12_one_23 : dec cX12_one 23 1 24 (.aload_n 0) := ⟨by decide +kernel, rfl⟩
theorem dX12_one_24 : dec cX12_one 24 1 25 (.iconst 1) := ⟨by decide +kernel, rfl⟩
theorem dX12_one_25 : dec cX12_one 25 1 26 (.iload_n 1) := ⟨by decide +kernel, rfl⟩
theorem dX12_one_26 : dec cX12_one 26 3 29 (.invokevirtual 139) := ⟨by decide +kernel, rfl⟩
theorem dX12_one_29 : dec cX12_one 29 1 30 (.iconst 1) := ⟨by decide +kernel, rfl⟩
theorem dX12_one_30 : dec cX12_one 30 1 31 (.ireturn) := ⟨by decide +kernel, rfl⟩
theorem dX12_one_31 : dec cX12_one 31 1 32 (.iload_n 1) := ⟨by decide +kernel, rfl⟩
theorem dX12_one_32 : dec cX12_one 32 2 34 (.bipush 48) := ⟨by decide +kernel, rfl⟩
theorem dX12_one_34 : dec cX12_one 34 2 36 (.bipush 57) := ⟨by decide +kernel, rfl⟩
theorem dX12_one_36 : dec cX12_one 36 3 39 (.invokestatic 79) := ⟨by decide +kernel, rfl⟩
theorem dX12_one_39 : dec cX12_one 39 3 42 (.ifCond .eq 63) := ⟨by decide +kernel, rfl⟩
theorem dX12_one_42 : dec cX12_one 42 1 43 (.iload_n 1) := ⟨by decide +kernel, rfl⟩
theorem dX12_one_43 : dec cX12_one 43 2 45 (.bipush 48) := ⟨by decide +kernel, rfl⟩
theorem dX12_one_45 : dec cX12_one 45 1 46 (.isub) := ⟨by decide +kernel, rfl⟩
theorem dX12_one_46 : dec cX12_one 46 1 47 (.istore_n 2) := ⟨by decide +kernel, rfl⟩
theorem dX12_one_47 : dec cX12_one 47 1 48 (.aload_n 0) := ⟨by decide +kernel, rfl⟩
theorem dX12_one_48 : dec cX12_one 48 1 49 (.dup) := ⟨by decide +kernel, rfl⟩
theorem dX12_one_49 : dec cX12_one 49 3 52 (.getfield 106) := ⟨by decide +kernel, rfl⟩
theorem dX12_one_52 : dec cX12_one 52 1 53 (.iconst 1) := ⟨by decide +kernel, rfl⟩
theorem dX12_one_53 : dec cX12_one 53 1 54 (.iadd) := ⟨by decide +kernel, rfl⟩
theorem dX12_one_54 : dec cX12_one 54 3 57 (.putfield 106) := ⟨by decide +kernel, rfl⟩
theorem dX12_one_57 : dec cX12_one 57 1 58 (.aload_n 0) := ⟨by decide +kernel, rfl⟩
theorem dX12_one_58 : dec cX12_one 58 3 61 (.invokevirtual 119) := ⟨by decide +kernel, rfl⟩
theorem dX12_one_61 : dec cX12_one 61 2 63 (.bipush 48) := ⟨by decide +kernel, rfl⟩
theorem dX12_one_63 : dec cX12_one 63 2 65 (.bipush 57) := ⟨by decide +kernel, rfl⟩
theorem dX12_one_65 : dec cX12_one 65 3 68 (.invokestatic 79) := ⟨by decide +kernel, rfl⟩
theorem dX12_one_68 : dec cX12_one 68 3 71 (.ifCond .eq 26) := ⟨by decide +kernel, rfl⟩
theorem dX12_one_71 : dec cX12_one 71 2 73 (.bipush 10) := ⟨by decide +kernel, rfl⟩
theorem dX12_one_73 : dec cX12_one 73 1 74 (.iload_n 2) := ⟨by decide +kernel, rfl⟩
theorem dX12_one_74 : dec cX12_one 74 1 75 (.imul) := ⟨by decide +kernel, rfl⟩
theorem dX12_one_75 : dec cX12_one 75 1 76 (.aload_n 0) := ⟨by decide +kernel, rfl⟩
theorem dX12_one_76 : dec cX12_one 76 3 79 (.invokevirtual 119) := ⟨by decide +kernel, rfl⟩
theorem dX12_one_79 : dec cX12_one 79 1 80 (.iadd) := ⟨by decide +kernel, rfl⟩
theorem dX12_one_80 : dec cX12_one 80 2 82 (.bipush 48) := ⟨by decide +kernel, rfl⟩
theorem dX12_one_82 : dec cX12_one 82 1 83 (.isub) := ⟨by decide +kernel, rfl⟩
theorem dX12_one_83 : dec cX12_one 83 1 84 (.istore_n 2) := ⟨by decide +kernel, rfl⟩
theorem dX12_one_84 : dec cX12_one 84 1 85 (.aload_n 0) := ⟨by decide +kernel, rfl⟩
theorem dX12_one_85 : dec cX12_one 85 1 86 (.dup) := ⟨by decide +kernel, rfl⟩
theorem dX12_one_86 : dec cX12_one 86 3 89 (.getfield 106) := ⟨by decide +kernel, rfl⟩
theorem dX12_one_89 : dec cX12_one 89 1 90 (.iconst 1) := ⟨by decide +kernel, rfl⟩
theorem dX12_one_90 : dec cX12_one 90 1 91 (.iadd) := ⟨by decide +kernel, rfl⟩
theorem dX12_one_91 : dec cX12_one 91 3 94 (.putfield 106) := ⟨by decide +kernel, rfl⟩
theorem dX12_one_94 : dec cX12_one 94 1 95 (.aload_n 0) := ⟨by decide +kernel, rfl⟩
theorem dX12_one_95 : dec cX12_one 95 1 96 (.iconst 0) := ⟨by decide +kernel, rfl⟩
theorem dX12_one_96 : dec cX12_one 96 1 97 (.iload_n 2) := ⟨by decide +kernel, rfl⟩
theorem dX12_one_97 : dec cX12_one 97 3 100 (.invokevirtual 139) := ⟨by decide +kernel, rfl⟩
theorem dX12_one_100 : dec cX12_one 100 1 101 (.iconst 1) := ⟨by decide +kernel, rfl⟩
theorem dX12_one_101 : dec cX12_one 101 1 102 (.ireturn) := ⟨by decide +kernel, rfl⟩
theorem dX12_one_102 : dec cX12_one 102 1 103 (.iload_n 1) := ⟨by decide +kernel, rfl⟩
theorem dX12_one_103 : dec cX12_one 103 2 105 (.bipush 45) := ⟨by decide +kernel, rfl⟩
theorem dX12_one_105 : dec cX12_one 105 3 108 (.if_icmp .ne 49) := ⟨by decide +kernel, rfl⟩
theorem dX12_one_108 : dec cX12_one 108 1 109 (.aload_n 0) := ⟨by decide +kernel, rfl⟩
theorem dX12_one_109 : dec cX12_one 109 3 112 (.invokevirtual 127) := ⟨by decide +kernel, rfl⟩
theorem dX12_one_112 : dec cX12_one 112 3 115 (.ifCond .ne 5) := ⟨by decide +kernel, rfl⟩
theorem dX12_one_115 : dec cX12_one 115 1 116 (.iconst 0) := ⟨by decide +kernel, rfl⟩
theorem dX12_one_116 : dec cX12_one 116 1 117 (.ireturn) := ⟨by decide +kernel, rfl⟩
theorem dX12_one_117 : dec cX12_one 117 1 118 (.aload_n 0) := ⟨by decide +kernel, rfl⟩
theorem dX12_one_118 : dec cX12_one 118 1 119 (.dup) := ⟨by decide +kernel, rfl⟩
theorem dX12_one_119 : dec cX12_one 119 3 122 (.getfield 130) := ⟨by decide +kernel, rfl⟩
theorem dX12_one_122 : dec cX12_one 122 1 123 (.iconst 1) := ⟨by decide +kernel, rfl⟩
theorem dX12_one_123 : dec cX12_one 123 1 124 (.iadd) := ⟨by decide +kernel, rfl⟩
theorem dX12_one_124 : dec cX12_one 124 3 127 (.putfield 130) := ⟨by decide +kernel, rfl⟩
theorem dX12_one_127 : dec cX12_one 127 1 128 (.aload_n 0) := ⟨by decide +kernel, rfl⟩
theorem dX12_one_128 : dec cX12_one 128 3 131 (.invokevirtual 146) := ⟨by decide +kernel, rfl⟩
theorem dX12_one_131 : dec cX12_one 131 3 134 (.ifCond .ne 5) := ⟨by decide +kernel, rfl⟩
theorem dX12_one_134 : dec cX12_one 134 1 135 (.iconst 0) := ⟨by decide +kernel, rfl⟩
theorem dX12_one_135 : dec cX12_one 135 1 136 (.ireturn) := ⟨by decide +kernel, rfl⟩
theorem dX12_one_136 : dec cX12_one 136 1 137 (.aload_n 0) := ⟨by decide +kernel, rfl⟩
theorem dX12_one_137 : dec cX12_one 137 1 138 (.dup) := ⟨by decide +kernel, rfl⟩
theorem dX12_one_138 : dec cX12_one 138 3 141 (.getfield 116) := ⟨by decide +kernel, rfl⟩
theorem dX12_one_141 : dec cX12_one 141 1 142 (.iconst 1) := ⟨by decide +kernel, rfl⟩
theorem dX12_one_142 : dec cX12_one 142 1 143 (.isub) := ⟨by decide +kernel, rfl⟩
theorem dX12_one_143 : dec cX12_one 143 3 146 (.putfield 116) := ⟨by decide +kernel, rfl⟩
theorem dX12_one_146 : dec cX12_one 146 1 147 (.aload_n 0) := ⟨by decide +kernel, rfl⟩
theorem dX12_one_147 : dec cX12_one 147 1 148 (.iconst 2) := ⟨by decide +kernel, rfl⟩
theorem dX12_one_148 : dec cX12_one 148 1 149 (.iconst 0) := ⟨by decide +kernel, rfl⟩
theorem dX12_one_149 : dec cX12_one 149 3 152 (.invokevirtual 139) := ⟨by decide +kernel, rfl⟩
theorem dX12_one_152 : dec cX12_one 152 1 153 (.iconst 1) := ⟨by decide +kernel, rfl⟩
theorem dX12_one_153 : dec cX12_one 153 1 154 (.ireturn) := ⟨by decide +kernel, rfl⟩
theorem dX12_one_154 : dec cX12_one 154 1 155 (.iload_n 1) := ⟨by decide +kernel, rfl⟩
theorem dX12_one_155 : dec cX12_one 155 2 157 (.bipush 40) := ⟨by decide +kernel, rfl⟩
theorem dX12_one_157 : dec cX12_one 157 3 160 (.if_icmp .ne 10) := ⟨by decide +kernel, rfl⟩
theorem dX12_one_160 : dec cX12_one 160 1 161 (.aload_n 0) := ⟨by decide +kernel, rfl⟩
theorem dX12_one_161 : dec cX12_one 161 3 164 (.invokevirtual 127) := ⟨by decide +kernel, rfl⟩
theorem dX12_one_164 : dec cX12_one 164 3 167 (.ifCond .ne 5) := ⟨by decide +kernel, rfl⟩
theorem dX12_one_167 : dec cX12_one 167 1 168 (.iconst 0) := ⟨by decide +kernel, rfl⟩
theorem dX12_one_168 : dec cX12_one 168 1 169 (.ireturn) := ⟨by decide +kernel, rfl⟩
theorem dX12_one_169 : dec cX12_one 169 1 170 (.aload_n 0) := ⟨by decide +kernel, rfl⟩
theorem dX12_one_170 : dec cX12_one 170 3 173 (.invokevirtual 133) := ⟨by decide +kernel, rfl⟩
theorem dX12_one_173 : dec cX12_one 173 3 176 (.ifCond .eq 12) := ⟨by decide +kernel, rfl⟩
theorem dX12_one_176 : dec cX12_one 176 1 177 (.aload_n 0) := ⟨by decide +kernel, rfl⟩
theorem dX12_one_177 : dec cX12_one 177 2 179 (.bipush 41) := ⟨by decide +kernel, rfl⟩
theorem dX12_one_179 : dec cX12_one 179 3 182 (.invokevirtual 136) := ⟨by decide +kernel, rfl⟩
theorem dX12_one_182 : dec cX12_one 182 3 185 (.ifCond .ne 5) := ⟨by decide +kernel, rfl⟩
theorem dX12_one_185 : dec cX12_one 185 1 186 (.iconst 0) := ⟨by decide +kernel, rfl⟩
theorem dX12_one_186 : dec cX12_one 186 1 187 (.ireturn) := ⟨by decide +kernel, rfl⟩
theorem dX12_one_187 : dec cX12_one 187 1 188 (.aload_n 0) := ⟨by decide +kernel, rfl⟩
theorem dX12_one_188 : dec cX12_one 188 1 189 (.dup) := ⟨by decide +kernel, rfl⟩
theorem dX12_one_189 : dec cX12_one 189 3 192 (.getfield 116) := ⟨by decide +kernel, rfl⟩
theorem dX12_one_192 : dec cX12_one 192 1 193 (.iconst 1) := ⟨by decide +kernel, rfl⟩
theorem dX12_one_193 : dec cX12_one 193 1 194 (.isub) := ⟨by decide +kernel, rfl⟩
theorem dX12_one_194 : dec cX12_one 194 3 197 (.putfield 116) := ⟨by decide +kernel, rfl⟩
theorem dX12_one_197 : dec cX12_one 197 1 198 (.iconst 1) := ⟨by decide +kernel, rfl⟩
theorem dX12_one_198 : dec cX12_one 198 1 199 (.ireturn) := ⟨by decide +kernel, rfl⟩
set_option maxHeartbeats 4000000 in
set_option maxRecDepth 100000 in
theorem tX12_one_J94 {X : Cx} {Y : Yx} {M0 : Mem} {Γ : Nat → List Int → Mem → (Int → Mem → Prop) → Prop} {d : Nat} (hC : OKX X Y RX12 cX12_one 3 (some .boolean) (rmX12_one (d + 1))) (hF : Y.2.2.2.2 = true) (hL : Lay M0) (a0 : Nat) (hG0 : ∀ (M : Mem) (Q : Int → Mem → Prop), (0 < a0 ∧ M 0 a0 = kO 12) → Γ 0 [] M Q → CT Y X.2.1 yX12_whole cX12_whole 1 (some .boolean) (rmX12_whole d) [vR Y.1 a0] M (QI Q)) (hG1 : ∀ (M : Mem) (Q : Int → Mem → Prop), (0 < a0 ∧ M 0 a0 = kO 12) → Γ 1 [] M Q → CT Y X.2.1 yX12_sum cX12_sum 2 (some .boolean) (rmX12_sum d) [vR Y.1 a0] M (QI Q)) (hG2 : ∀ (M : Mem) (Q : Int → Mem → Prop), (0 < a0 ∧ M 0 a0 = kO 12) → Γ 2 [] M Q → CT Y X.2.1 yX12_product cX12_product 2 (some .boolean) (rmX12_product d) [vR Y.1 a0] M (QI Q)) (hG3 : ∀ (M : Mem) (Q : Int → Mem → Prop), (0 < a0 ∧ M 0 a0 = kO 12) → Γ 3 [] M Q → CT Y X.2.1 yX12_one cX12_one 3 (some .boolean) (rmX12_one d) [vR Y.1 a0] M (QI Q)) (Q : Int → Mem → Prop)   (x2 : Int) (qa0 : 0 < a0 ∧ M0 0 a0 = kO 12)  (M : Mem) (h : wX12_one_J94 Γ Q  a0 x2 M) : WW X Y 3 (rmX12_one (d + 1)) (QI Q) M0 0 0 94 [(0, vR Y.1 a0), (2, vI x2)] [] M := by
  unfold wX12_one_J94 at h
  refine r_aload_n hC 0 dX12_one_94 rfl rfl ?_
  refine r_iconst hC dX12_one_95 ?_
  refine r_iload_n hC 1 dX12_one_96 rfl rfl ?_
  refine r_callV (As := [vI 0, vI x2]) (st := []) hC cw_X12_139 rfl qa0.1 qa0.2 rfl rfl (Nat.le_of_ble_eq_true rfl) (by constructor <;> simp only [rmX12_one, rmX12_lay] <;> omega) ⟨Nat.le_of_ble_eq_true rfl, Nat.le_of_ble_eq_true rfl⟩ dX12_one_97 (fun hk => mX12_lay Y hF _ _ _ _ _ _ (kqO hk qa0) h) (fun v M_27 h => ?_)
  obtain ⟨rfl, h⟩ := h
  refine r_iconst hC dX12_one_100 ?_
  exact r_zret hC (Or.inr rfl) (Nat.zero_le _) (Nat.zero_le _) dX12_one_101 ⟨_, rfl, h⟩
set_option maxHeartbeats 4000000 in
set_option maxRecDepth 100000 in
theorem mbX12_one (Y : Yx) (hF : Y.2.2.2.2 = true) (l : Launch) {Γ : Nat → List Int → Mem → (Int → Mem → Prop) → Prop} {d : Nat} (a0 : Nat) (hG0 : ∀ (M : Mem) (Q : Int → Mem → Prop), (0 < a0 ∧ M 0 a0 = kO 12) → Γ 0 [] M Q → CT Y l yX12_whole cX12_whole 1 (some .boolean) (rmX12_whole d) [vR Y.1 a0] M (QI Q)) (hG1 : ∀ (M : Mem) (Q : Int → Mem → Prop), (0 < a0 ∧ M 0 a0 = kO 12) → Γ 1 [] M Q → CT Y l yX12_sum cX12_sum 2 (some .boolean) (rmX12_sum d) [vR Y.1 a0] M (QI Q)) (hG2 : ∀ (M : Mem) (Q : Int → Mem → Prop), (0 < a0 ∧ M 0 a0 = kO 12) → Γ 2 [] M Q → CT Y l yX12_product cX12_product 2 (some .boolean) (rmX12_product d) [vR Y.1 a0] M (QI Q)) (hG3 : ∀ (M : Mem) (Q : Int → Mem → Prop), (0 < a0 ∧ M 0 a0 = kO 12) → Γ 3 [] M Q → CT Y l yX12_one cX12_one 3 (some .boolean) (rmX12_one d) [vR Y.1 a0] M (QI Q)) (M0 : Mem) (Q : Int → Mem → Prop) (qa0 : 0 < a0 ∧ M0 0 a0 = kO 12) (h : wbX12_one Γ a0 M0 Q) : CT Y l yX12_one cX12_one 3 (some .boolean) (rmX12_one (d + 1)) [vR Y.1 a0] M0 (QI Q) := by
  unfold wbX12_one at h
  refine ct_intro (by decide) (Nat.le_of_ble_eq_true rfl) ?_
  intro X hXl hC hL0
  have hL := hL0 hF
  change OKX X Y RX12 cX12_one 3 (some .boolean) (rmX12_one (d + 1)) at hC
  subst hXl
  change WW X Y 3 (rmX12_one (d + 1)) (QI Q) M0 0 0 0 [(0, vR Y.1 a0)] [] M0
  refine r_aload_n hC 0 dX12_one_0 rfl rfl ?_
  refine r_callV (As := []) (st := []) hC cw_X12_119 rfl qa0.1 qa0.2 rfl rfl (Nat.le_of_ble_eq_true rfl) (by constructor <;> simp only [rmX12_one, rmX12_look] <;> omega) ⟨Nat.le_of_ble_eq_true rfl, Nat.le_of_ble_eq_true rfl⟩ dX12_one_1 (fun hk => mX12_look Y hF _ _ _ _ (kqO hk qa0) h) (fun v M_1 h => ?_)
  obtain ⟨r_2, rfl, h⟩ := h
  refine r_istore_n (lv' := [(1, vI r_2), (0, vR Y.1 a0)]) hC dX12_one_4 rfl (by decide) rfl ?_
  refine r_aload_n hC 1 dX12_one_5 rfl rfl ?_
  refine r_iload_n hC 0 dX12_one_6 rfl rfl ?_
  refine r_callV (As := [vI r_2]) (st := []) hC cw_X12_149 rfl qa0.1 qa0.2 rfl rfl (Nat.le_of_ble_eq_true rfl) (by constructor <;> simp only [rmX12_one, rmX12_isName] <;> omega) ⟨Nat.le_of_ble_eq_true rfl, Nat.le_of_ble_eq_true rfl⟩ dX12_one_7 (fun hk => mX12_isName Y hF _ _ _ _ _ (kqO hk qa0) h) (fun v M_3 h => ?_)
  obtain ⟨r_4, rfl, h⟩ := h
  refine r_if_eq hC 31 rfl dX12_one_10 (by decide) (fun cq => ?_) (fun cq => ?_)
  · replace h := h.1 cq
    refine r_iload_n hC 0 dX12_one_31 rfl rfl ?_
    refine r_bipush hC (by decide +kernel) dX12_one_32 ?_
    refine r_bipush hC (by decide +kernel) dX12_one_34 ?_
    refine r_callS (As := [vI r_2, vI 48, vI 57]) (st := []) hC cw_X12_79 rfl rfl (Nat.le_of_ble_eq_true rfl) (by constructor <;> simp only [rmX12_one, rmX12_in] <;> omega) ⟨Nat.le_of_ble_eq_true rfl, Nat.le_of_ble_eq_true rfl⟩ dX12_one_36 (fun hk => mX12_in Y hF _ _ _ _ _ _  h) (fun v M_5 h => ?_)
    obtain ⟨r_6, rfl, h⟩ := h
    refine r_if_eq hC 102 rfl dX12_one_39 (by decide) (fun cq => ?_) (fun cq => ?_)
    · replace h := h.1 cq
      refine r_iload_n hC 0 dX12_one_102 rfl rfl ?_
      refine r_bipush hC (by decide +kernel) dX12_one_103 ?_
      refine r_icmp_ne hC 154 rfl bmL_45 dX12_one_105 (by decide) (fun cq => ?_) (fun cq => ?_)
      · replace h := h.2 cq
        refine r_iload_n hC 0 dX12_one_154 rfl rfl ?_
        refine r_bipush hC (by decide +kernel) dX12_one_155 ?_
        refine r_icmp_ne hC 167 rfl bmL_40 dX12_one_157 (by decide) (fun cq => ?_) (fun cq => ?_)
        · replace h := h.2 cq
          refine r_iconst hC dX12_one_167 ?_
          exact r_zret hC (Or.inl rfl) (Nat.zero_le _) (Nat.zero_le _) dX12_one_168 ⟨_, rfl, h⟩
        · replace h := h.1 cq
          refine r_aload_n hC 1 dX12_one_160 rfl rfl ?_
          refine r_callV (As := []) (st := []) hC cw_X12_127 rfl qa0.1 qa0.2 rfl rfl (Nat.le_of_ble_eq_true rfl) (by constructor <;> simp only [rmX12_one, rmX12_opens] <;> omega) ⟨Nat.le_of_ble_eq_true rfl, Nat.le_of_ble_eq_true rfl⟩ dX12_one_161 (fun hk => mX12_opens Y hF _ _ _ _ (kqO hk qa0) h) (fun v M_7 h => ?_)
          obtain ⟨r_8, rfl, h⟩ := h
          refine r_if_ne hC 169 rfl dX12_one_164 (by decide) (fun cq => ?_) (fun cq => ?_)
          · replace h := h.2 cq
            refine r_aload_n hC 1 dX12_one_169 rfl rfl ?_
            refine r_callV (As := []) (st := []) hC cw_X12_133 rfl qa0.1 qa0.2 rfl rfl (Nat.le_of_ble_eq_true rfl) (by constructor <;> simp only [rmX12_one, rmX12_whole] <;> omega) ⟨Nat.le_of_ble_eq_true rfl, Nat.le_of_ble_eq_true rfl⟩ dX12_one_170 (fun hk => hG0  _ _ (kqO hk qa0) h) (fun v M_9 h => ?_)
            obtain ⟨r_10, rfl, h⟩ := h
            refine r_if_eq hC 185 rfl dX12_one_173 (by decide) (fun cq => ?_) (fun cq => ?_)
            · replace h := h.1 cq
              refine r_iconst hC dX12_one_185 ?_
              exact r_zret hC (Or.inl rfl) (Nat.zero_le _) (Nat.zero_le _) dX12_one_186 ⟨_, rfl, h⟩
            · replace h := h.2 cq
              refine r_aload_n hC 1 dX12_one_176 rfl rfl ?_
              refine r_bipush hC (by decide +kernel) dX12_one_177 ?_
              refine r_callV (As := [vI 41]) (st := []) hC cw_X12_136 rfl qa0.1 qa0.2 rfl rfl (Nat.le_of_ble_eq_true rfl) (by constructor <;> simp only [rmX12_one, rmX12_passes] <;> omega) ⟨Nat.le_of_ble_eq_true rfl, Nat.le_of_ble_eq_true rfl⟩ dX12_one_179 (fun hk => mX12_passes Y hF _ _ _ _ _ (kqO hk qa0) h) (fun v M_11 h => ?_)
              obtain ⟨r_12, rfl, h⟩ := h
              refine r_if_ne hC 187 rfl dX12_one_182 (by decide) (fun cq => ?_) (fun cq => ?_)
              · replace h := h.2 cq
                refine r_aload_n hC 1 dX12_one_187 rfl rfl ?_
                refine r_dup hC rfl dX12_one_188 ?_
                refine r_getI hC fg_X12_116 rfl qa0.1 qa0.2 dX12_one_189 ?_
                refine r_iconst hC dX12_one_192 ?_
                refine r_isub hC dX12_one_193 ?_
                refine r_putI hC fp_X12_116 rfl qa0.1 qa0.2 dX12_one_194 ?_
                refine r_nameM h (fun M_13 h => ?_)
                refine r_iconst hC dX12_one_197 ?_
                exact r_zret hC (Or.inr rfl) (Nat.zero_le _) (Nat.zero_le _) dX12_one_198 ⟨_, rfl, h⟩
              · replace h := h.1 cq
                refine r_iconst hC dX12_one_185 ?_
                exact r_zret hC (Or.inl rfl) (Nat.zero_le _) (Nat.zero_le _) dX12_one_186 ⟨_, rfl, h⟩
          · replace h := h.1 cq
            refine r_iconst hC dX12_one_167 ?_
            exact r_zret hC (Or.inl rfl) (Nat.zero_le _) (Nat.zero_le _) dX12_one_168 ⟨_, rfl, h⟩
      · replace h := h.1 cq
        refine r_aload_n hC 1 dX12_one_108 rfl rfl ?_
        refine r_callV (As := []) (st := []) hC cw_X12_127 rfl qa0.1 qa0.2 rfl rfl (Nat.le_of_ble_eq_true rfl) (by constructor <;> simp only [rmX12_one, rmX12_opens] <;> omega) ⟨Nat.le_of_ble_eq_true rfl, Nat.le_of_ble_eq_true rfl⟩ dX12_one_109 (fun hk => mX12_opens Y hF _ _ _ _ (kqO hk qa0) h) (fun v M_14 h => ?_)
        obtain ⟨r_15, rfl, h⟩ := h
        refine r_if_ne hC 117 rfl dX12_one_112 (by decide) (fun cq => ?_) (fun cq => ?_)
        · replace h := h.2 cq
          refine r_aload_n hC 1 dX12_one_117 rfl rfl ?_
          refine r_dup hC rfl dX12_one_118 ?_
          refine r_getI hC fg_X12_130 rfl qa0.1 qa0.2 dX12_one_119 ?_
          refine r_iconst hC dX12_one_122 ?_
          refine r_iadd hC dX12_one_123 ?_
          refine r_putI hC fp_X12_130 rfl qa0.1 qa0.2 dX12_one_124 ?_
          refine r_nameM h (fun M_16 h => ?_)
          refine r_aload_n hC 1 dX12_one_127 rfl rfl ?_
          refine r_callV (As := []) (st := []) hC cw_X12_146 rfl qa0.1 qa0.2 rfl rfl (Nat.le_of_ble_eq_true rfl) (by constructor <;> simp only [rmX12_one, rmX12_one] <;> omega) ⟨Nat.le_of_ble_eq_true rfl, Nat.le_of_ble_eq_true rfl⟩ dX12_one_128 (fun hk => hG3  _ _ (kqO hk qa0) h) (fun v M_17 h => ?_)
          obtain ⟨r_18, rfl, h⟩ := h
          refine r_if_ne hC 136 rfl dX12_one_131 (by decide) (fun cq => ?_) (fun cq => ?_)
          · replace h := h.2 cq
            refine r_aload_n hC 1 dX12_one_136 rfl rfl ?_
            refine r_dup hC rfl dX12_one_137 ?_
            refine r_getI hC fg_X12_116 rfl qa0.1 qa0.2 dX12_one_138 ?_
            refine r_iconst hC dX12_one_141 ?_
            refine r_isub hC dX12_one_142 ?_
            refine r_putI hC fp_X12_116 rfl qa0.1 qa0.2 dX12_one_143 ?_
            refine r_nameM h (fun M_19 h => ?_)
            refine r_aload_n hC 1 dX12_one_146 rfl rfl ?_
            refine r_iconst hC dX12_one_147 ?_
            refine r_iconst hC dX12_one_148 ?_
            refine r_callV (As := [vI 2, vI 0]) (st := []) hC cw_X12_139 rfl qa0.1 qa0.2 rfl rfl (Nat.le_of_ble_eq_true rfl) (by constructor <;> simp only [rmX12_one, rmX12_lay] <;> omega) ⟨Nat.le_of_ble_eq_true rfl, Nat.le_of_ble_eq_true rfl⟩ dX12_one_149 (fun hk => mX12_lay Y hF _ _ _ _ _ _ (kqO hk qa0) h) (fun v M_20 h => ?_)
            obtain ⟨rfl, h⟩ := h
            refine r_iconst hC dX12_one_152 ?_
            exact r_zret hC (Or.inr rfl) (Nat.zero_le _) (Nat.zero_le _) dX12_one_153 ⟨_, rfl, h⟩
          · replace h := h.1 cq
            refine r_iconst hC dX12_one_134 ?_
            exact r_zret hC (Or.inl rfl) (Nat.zero_le _) (Nat.zero_le _) dX12_one_135 ⟨_, rfl, h⟩
        · replace h := h.1 cq
          refine r_iconst hC dX12_one_115 ?_
          exact r_zret hC (Or.inl rfl) (Nat.zero_le _) (Nat.zero_le _) dX12_one_116 ⟨_, rfl, h⟩
    · replace h := h.2 cq
      refine r_iload_n hC 0 dX12_one_42 rfl rfl ?_
      refine r_bipush hC (by decide +kernel) dX12_one_43 ?_
      refine r_isub hC dX12_one_45 ?_
      refine r_nameI h (fun x2_21 h => ?_)
      refine r_istore_n (lv' := [(2, vI x2_21), (1, vI r_2), (0, vR Y.1 a0)]) hC dX12_one_46 rfl (by decide) rfl ?_
      refine r_aload_n hC 2 dX12_one_47 rfl rfl ?_
      refine r_dup hC rfl dX12_one_48 ?_
      refine r_getI hC fg_X12_106 rfl qa0.1 qa0.2 dX12_one_49 ?_
      refine r_iconst hC dX12_one_52 ?_
      refine r_iadd hC dX12_one_53 ?_
      refine r_putI hC fp_X12_106 rfl qa0.1 qa0.2 dX12_one_54 ?_
      refine r_nameM h (fun M_22 h => ?_)
      refine r_aload_n hC 2 dX12_one_57 rfl rfl ?_
      refine r_callV (As := []) (st := []) hC cw_X12_119 rfl qa0.1 qa0.2 rfl rfl (Nat.le_of_ble_eq_true rfl) (by constructor <;> simp only [rmX12_one, rmX12_look] <;> omega) ⟨Nat.le_of_ble_eq_true rfl, Nat.le_of_ble_eq_true rfl⟩ dX12_one_58 (fun hk => mX12_look Y hF _ _ _ _ (kqO hk qa0) h) (fun v M_23 h => ?_)
      obtain ⟨r_24, rfl, h⟩ := h
      refine r_bipush hC (by decide +kernel) dX12_one_61 ?_
      refine r_bipush hC (by decide +kernel) dX12_one_63 ?_
      refine r_callS (As := [vI r_24, vI 48, vI 57]) (st := []) hC cw_X12_79 rfl rfl (Nat.le_of_ble_eq_true rfl) (by constructor <;> simp only [rmX12_one, rmX12_in] <;> omega) ⟨Nat.le_of_ble_eq_true rfl, Nat.le_of_ble_eq_true rfl⟩ dX12_one_65 (fun hk => mX12_in Y hF _ _ _ _ _ _  h) (fun v M_25 h => ?_)
      obtain ⟨r_26, rfl, h⟩ := h
      refine r_if_eq hC 94 rfl dX12_one_68 (by decide) (fun cq => ?_) (fun cq => ?_)
      · replace h := h.1 cq
        refine r_sub [2, 0] rfl ?_
        exact tX12_one_J94 hC hF hL _ hG0 hG1 hG2 hG3 Q   _ qa0  _ h
      · replace h := h.2 cq
        refine r_bipush hC (by decide +kernel) dX12_one_71 ?_
        refine r_iload_n hC 0 dX12_one_73 rfl rfl ?_
        refine r_imul hC dX12_one_74 ?_
        refine r_aload_n hC 2 dX12_one_75 rfl rfl ?_
        refine r_callV (As := []) (st := [vI (10 * x2_21)]) hC cw_X12_119 rfl qa0.1 qa0.2 rfl rfl (Nat.le_of_ble_eq_true rfl) (by constructor <;> simp only [rmX12_one, rmX12_look] <;> omega) ⟨Nat.le_of_ble_eq_true rfl, Nat.le_of_ble_eq_true rfl⟩ dX12_one_76 (fun hk => mX12_look Y hF _ _ _ _ (kqO hk qa0) h) (fun v M_28 h => ?_)
        obtain ⟨r_29, rfl, h⟩ := h
        refine r_iadd hC dX12_one_79 ?_
        refine r_bipush hC (by decide +kernel) dX12_one_80 ?_
        refine r_isub hC dX12_one_82 ?_
        refine r_nameI h (fun x2_30 h => ?_)
        refine r_istore_n (lv' := [(2, vI x2_30), (1, vI r_2), (0, vR Y.1 a0)]) hC dX12_one_83 rfl (by decide) rfl ?_
        refine r_aload_n hC 2 dX12_one_84 rfl rfl ?_
        refine r_dup hC rfl dX12_one_85 ?_
        refine r_getI hC fg_X12_106 rfl qa0.1 qa0.2 dX12_one_86 ?_
        refine r_iconst hC dX12_one_89 ?_
        refine r_iadd hC dX12_one_90 ?_
        refine r_putI hC fp_X12_106 rfl qa0.1 qa0.2 dX12_one_91 ?_
        refine r_nameM h (fun M_31 h => ?_)
        refine r_sub [2, 0] rfl ?_
        exact tX12_one_J94 hC hF hL _ hG0 hG1 hG2 hG3 Q   _ qa0  _ h
  · replace h := h.2 cq
    refine r_aload_n hC 1 dX12_one_13 rfl rfl ?_
    refine r_dup hC rfl dX12_one_14 ?_
    refine r_getI hC fg_X12_106 rfl qa0.1 qa0.2 dX12_one_15 ?_
    refine r_iconst hC dX12_one_18 ?_
    refine r_iadd hC dX12_one_19 ?_
    refine r_putI hC fp_X12_106 rfl qa0.1 qa0.2 dX12_one_20 ?_
    refine r_nameM h (fun M_32 h => ?_)
    refine r_aload_n hC 1 dX12_one_23 rfl rfl ?_
    refine r_iconst hC dX12_one_24 ?_
    refine r_iload_n hC 0 dX12_one_25 rfl rfl ?_
    refine r_callV (As := [vI 1, vI r_2]) (st := []) hC cw_X12_139 rfl qa0.1 qa0.2 rfl rfl (Nat.le_of_ble_eq_true rfl) (by constructor <;> simp only [rmX12_one, rmX12_lay] <;> omega) ⟨Nat.le_of_ble_eq_true rfl, Nat.le_of_ble_eq_true rfl⟩ dX12_one_26 (fun hk => mX12_lay Y hF _ _ _ _ _ _ (kqO hk qa0) h) (fun v M_33 h => ?_)
    obtain ⟨rfl, h⟩ := h
    refine r_iconst hC dX12_one_29 ?_
    exact r_zret hC (Or.inr rfl) (Nat.zero_le _) (Nat.zero_le _) dX12_one_30 ⟨_, rfl, h⟩
set_option maxHeartbeats 4000000 in
set_option maxRecDepth 100000 in
theorem mGX12_whole (Y : Yx) (hF : Y.2.2.2.2 = true) (l : Launch) (a0 : Nat) : ∀ d : Nat, (∀ (M : Mem) (Q : Int → Mem → Prop), (0 < a0 ∧ M 0 a0 = kO 12) → wGX12_whole a0 d 0 [] M Q → CT Y l yX12_whole cX12_whole 1 (some .boolean) (rmX12_whole d) [vR Y.1 a0] M (QI Q)) ∧ (∀ (M : Mem) (Q : Int → Mem → Prop), (0 < a0 ∧ M 0 a0 = kO 12) → wGX12_whole a0 d 1 [] M Q → CT Y l yX12_sum cX12_sum 2 (some .boolean) (rmX12_sum d) [vR Y.1 a0] M (QI Q)) ∧ (∀ (M : Mem) (Q : Int → Mem → Prop), (0 < a0 ∧ M 0 a0 = kO 12) → wGX12_whole a0 d 2 [] M Q → CT Y l yX12_product cX12_product 2 (some .boolean) (rmX12_product d) [vR Y.1 a0] M (QI Q)) ∧ (∀ (M : Mem) (Q : Int → Mem → Prop), (0 < a0 ∧ M 0 a0 = kO 12) → wGX12_whole a0 d 3 [] M Q → CT Y l yX12_one cX12_one 3 (some .boolean) (rmX12_one d) [vR Y.1 a0] M (QI Q)) := by
  intro d
  induction d with
  | zero => exact ⟨fun  M Q f0 h => h.elim, fun  M Q f0 h => h.elim, fun  M Q f0 h => h.elim, fun  M Q f0 h => h.elim⟩
  | succ d ih => exact ⟨fun  M Q f0 h => mbX12_whole Y hF l a0 (ih.1) (ih.2.1) (ih.2.2.1) (ih.2.2.2) M Q f0 h, fun  M Q f0 h => mbX12_sum Y hF l a0 (ih.1) (ih.2.1) (ih.2.2.1) (ih.2.2.2) M Q f0 h, fun  M Q f0 h => mbX12_product Y hF l a0 (ih.1) (ih.2.1) (ih.2.2.1) (ih.2.2.2) M Q f0 h, fun  M Q f0 h => mbX12_one Y hF l a0 (ih.1) (ih.2.1) (ih.2.2.1) (ih.2.2.2) M Q f0 h⟩
set_option maxHeartbeats 4000000 in
set_option maxRecDepth 100000 in
theorem mX12_whole (Y : Yx) (hF : Y.2.2.2.2 = true) (l : Launch) (a0 : Nat) (M0 : Mem) (Q : Int → Mem → Prop) (qa0 : 0 < a0 ∧ M0 0 a0 = kO 12) (h : wX12_whole a0 M0 Q) : CT Y l yX12_whole cX12_whole 1 (some .boolean) (rmX12_whole 40) [vR Y.1 a0] M0 (QI Q) := (mGX12_whole Y hF l a0 40).1  M0 Q qa0 h
set_option maxHeartbeats 4000000 in
set_option maxRecDepth 100000 in
theorem mX12_sum (Y : Yx) (hF : Y.2.2.2.2 = true) (l : Launch) (a0 : Nat) (M0 : Mem) (Q : Int → Mem → Prop) (qa0 : 0 < a0 ∧ M0 0 a0 = kO 12) (h : wX12_sum a0 M0 Q) : CT Y l yX12_sum cX12_sum 2 (some .boolean) (rmX12_sum 40) [vR Y.1 a0] M0 (QI Q) := (mGX12_whole Y hF l a0 40).2.1  M0 Q qa0 h
set_option maxHeartbeats 4000000 in
set_option maxRecDepth 100000 in
theorem mX12_product (Y : Yx) (hF : Y.2.2.2.2 = true) (l : Launch) (a0 : Nat) (M0 : Mem) (Q : Int → Mem → Prop) (qa0 : 0 < a0 ∧ M0 0 a0 = kO 12) (h : wX12_product a0 M0 Q) : CT Y l yX12_product cX12_product 2 (some .boolean) (rmX12_product 40) [vR Y.1 a0] M0 (QI Q) := (mGX12_whole Y hF l a0 40).2.2.1  M0 Q qa0 h
set_option maxHeartbeats 4000000 in
set_option maxRecDepth 100000 in
theorem mX12_one (Y : Yx) (hF : Y.2.2.2.2 = true) (l : Launch) (a0 : Nat) (M0 : Mem) (Q : Int → Mem → Prop) (qa0 : 0 < a0 ∧ M0 0 a0 = kO 12) (h : wX12_one a0 M0 Q) : CT Y l yX12_one cX12_one 3 (some .boolean) (rmX12_one 40) [vR Y.1 a0] M0 (QI Q) := (mGX12_whole Y hF l a0 40).2.2.2  M0 Q qa0 h
theorem dX12_text_0 : dec cX12_text 0 1 1 (.aload_n 0) := ⟨by decide +kernel, rfl⟩
theorem dX12_text_1 : dec cX12_text 1 1 2 (.iload_n 1) := ⟨by decide +kernel, rfl⟩
theorem dX12_text_2 : dec cX12_text 2 3 5 (.invokevirtual 98) := ⟨by decide +kernel, rfl⟩
theorem dX12_text_5 : dec cX12_text 5 3 8 (.ifCond .ne 9) := ⟨by decide +kernel, rfl⟩
theorem dX12_text_8 : dec cX12_text 8 1 9 (.aload_n 0) := ⟨by decide +kernel, rfl⟩
theorem dX12_text_9 : dec cX12_text 9 1 10 (.iconst 1) := ⟨by decide +kernel, rfl⟩
theorem dX12_text_10 : dec cX12_text 10 3 13 (.invokevirtual 83) := ⟨by decide +kernel, rfl⟩
theorem dX12_text_13 : dec cX12_text 13 1 14 (.ireturn) := ⟨by decide +kernel, rfl⟩
theorem dX12_text_14 : dec cX12_text 14 1 15 (.aload_n 0) := ⟨by decide +kernel, rfl⟩
theorem dX12_text_15 : dec cX12_text 15 1 16 (.aload_n 0) := ⟨by decide +kernel, rfl⟩
theorem dX12_text_16 : dec cX12_text 16 1 17 (.iload_n 1) := ⟨by decide +kernel, rfl⟩
theorem dX12_text_17 : dec cX12_text 17 1 18 (.iconst 0) := ⟨by decide +kernel, rfl⟩
theorem dX12_text_18 : dec cX12_text 18 3 21 (.invokevirtual 101) := ⟨by decide +kernel, rfl⟩
theorem dX12_text_21 : dec cX12_text 21 3 24 (.putfield 110) := ⟨by decide +kernel, rfl⟩
theorem dX12_text_24 : dec cX12_text 24 1 25 (.aload_n 0) := ⟨by decide +kernel, rfl⟩
theorem dX12_text_25 : dec cX12_text 25 3 28 (.getfield 110) := ⟨by decide +kernel, rfl⟩
theorem dX12_text_28 : dec cX12_text 28 3 31 (.ifCond .eq 12) := ⟨by decide +kernel, rfl⟩
theorem dX12_text_31 : dec cX12_text 31 1 32 (.aload_n 0) := ⟨by decide +kernel, rfl⟩
theorem dX12_text_32 : dec cX12_text 32 3 35 (.getfield 110) := ⟨by decide +kernel, rfl⟩
theorem dX12_text_35 : dec cX12_text 35 2 37 (.bipush 6) := ⟨by decide +kernel, rfl⟩
theorem dX12_text_37 : dec cX12_text 37 3 40 (.if_icmp .ne 9) := ⟨by decide +kernel, rfl⟩
theorem dX12_text_40 : dec cX12_text 40 1 41 (.aload_n 0) := ⟨by decide +kernel, rfl⟩
theorem dX12_text_41 : dec cX12_text 41 1 42 (.iconst 5) := ⟨by decide +kernel, rfl⟩
theorem dX12_text_42 : dec cX12_text 42 3 45 (.invokevirtual 83) := ⟨by decide +kernel, rfl⟩
theorem dX12_text_45 : dec cX12_text 45 1 46 (.ireturn) := ⟨by decide +kernel, rfl⟩
theorem dX12_text_46 : dec cX12_text 46 1 47 (.aload_n 0) := ⟨by decide +kernel, rfl⟩
theorem dX12_text_47 : dec cX12_text 47 1 48 (.iconst 0) := ⟨by decide +kernel, rfl⟩
theorem dX12_text_48 : dec cX12_text 48 3 51 (.putfield 106) := ⟨by decide +kernel, rfl⟩
theorem dX12_text_51 : dec cX12_text 51 1 52 (.aload_n 0) := ⟨by decide +kernel, rfl⟩
theorem dX12_text_52 : dec cX12_text 52 1 53 (.iconst 0) := ⟨by decide +kernel, rfl⟩
theorem dX12_text_53 : dec cX12_text 53 3 56 (.putfield 116) := ⟨by decide +kernel, rfl⟩
theorem dX12_text_56 : dec cX12_text 56 1 57 (.aload_n 0) := ⟨by decide +kernel, rfl⟩
theorem dX12_text_57 : dec cX12_text 57 1 58 (.iconst 0) := ⟨by decide +kernel, rfl⟩
theorem dX12_text_58 : dec cX12_text 58 3 61 (.putfield 130) := ⟨by decide +kernel, rfl⟩
theorem dX12_text_61 : dec cX12_text 61 1 62 (.aload_n 0) := ⟨by decide +kernel, rfl⟩
theorem dX12_text_62 : dec cX12_text 62 1 63 (.iconst 0) := ⟨by decide +kernel, rfl⟩
theorem dX12_text_63 : dec cX12_text 63 3 66 (.putfield 113) := ⟨by decide +kernel, rfl⟩
theorem dX12_text_66 : dec cX12_text 66 1 67 (.aload_n 0) := ⟨by decide +kernel, rfl⟩
theorem dX12_text_67 : dec cX12_text 67 3 70 (.invokevirtual 133) := ⟨by decide +kernel, rfl⟩
theorem dX12_text_70 : dec cX12_text 70 3 73 (.ifCond .eq 20) := ⟨by decide +kernel, rfl⟩
theorem dX12_text_73 : dec cX12_text 73 1 74 (.aload_n 0) := ⟨by decide +kernel, rfl⟩
theorem dX12_text_74 : dec cX12_text 74 3 77 (.getfield 106) := ⟨by decide +kernel, rfl⟩
theorem dX12_text_77 : dec cX12_text 77 1 78 (.aload_n 0) := ⟨by decide +kernel, rfl⟩
theorem dX12_text_78 : dec cX12_text 78 3 81 (.getfield 7) := ⟨by decide +kernel, rfl⟩
theorem dX12_text_81 : dec cX12_text 81 1 82 (.iconst 4) := ⟨by decide +kernel, rfl⟩
theorem dX12_text_82 : dec cX12_text 82 1 83 (.iaload) := ⟨by decide +kernel, rfl⟩
theorem dX12_text_83 : dec cX12_text 83 3 86 (.if_icmp .ne 7) := ⟨by decide +kernel, rfl⟩
theorem dX12_text_86 : dec cX12_text 86 1 87 (.iconst 1) := ⟨by decide +kernel, rfl⟩
theorem dX12_text_87 : dec cX12_text 87 3 90 (.goto 4) := ⟨by decide +kernel, rfl⟩
theorem dX12_text_90 : dec cX12_text 90 1 91 (.iconst 0) := ⟨by decide +kernel, rfl⟩
theorem dX12_text_91 : dec cX12_text 91 1 92 (.istore_n 2) := ⟨by decide +kernel, rfl⟩
theorem dX12_text_92 : dec cX12_text 92 1 93 (.aload_n 0) := ⟨by decide +kernel, rfl⟩
theorem dX12_text_93 : dec cX12_text 93 3 96 (.getfield 7) := ⟨by decide +kernel, rfl⟩
theorem dX12_text_96 : dec cX12_text 96 1 97 (.iconst 4) := ⟨by decide +kernel, rfl⟩
theorem dX12_text_97 : dec cX12_text 97 1 98 (.iconst 0) := ⟨by decide +kernel, rfl⟩
theorem dX12_text_98 : dec cX12_text 98 1 99 (.iastore) := ⟨by decide +kernel, rfl⟩
theorem dX12_text_99 : dec cX12_text 99 1 100 (.iload_n 2) := ⟨by decide +kernel, rfl⟩
theorem dX12_text_100 : dec cX12_text 100 3 103 (.ifCond .ne 11) := ⟨by decide +kernel, rfl⟩
theorem dX12_text_103 : dec cX12_text 103 2 105 (.bipush (-10)) := ⟨by decide +kernel, rfl⟩
theorem dX12_text_105 : dec cX12_text 105 1 106 (.aload_n 0) := ⟨by decide +kernel, rfl⟩
theorem dX12_text_106 : dec cX12_text 106 3 109 (.getfield 106) := ⟨by decide +kernel, rfl⟩
theorem dX12_text_109 : dec cX12_text 109 1 110 (.isub) := ⟨by decide +kernel, rfl⟩
theorem dX12_text_110 : dec cX12_text 110 1 111 (.ireturn) := ⟨by decide +kernel, rfl⟩
theorem dX12_text_111 : dec cX12_text 111 3 114 (.sipush 150) := ⟨by decide +kernel, rfl⟩
theorem dX12_text_114 : dec cX12_text 114 2 116 (.bipush 105) := ⟨by decide +kernel, rfl⟩
theorem dX12_text_116 : dec cX12_text 116 1 117 (.iload_n 1) := ⟨by decide +kernel, rfl⟩
theorem dX12_text_117 : dec cX12_text 117 1 118 (.imul) := ⟨by decide +kernel, rfl⟩
theorem dX12_text_118 : dec cX12_text 118 1 119 (.iadd) := ⟨by decide +kernel, rfl⟩
theorem dX12_text_119 : dec cX12_text 119 1 120 (.istore_n 3) := ⟨by decide +kernel, rfl⟩
theorem dX12_text_120 : dec cX12_text 120 1 121 (.aload_n 0) := ⟨by decide +kernel, rfl⟩
theorem dX12_text_121 : dec cX12_text 121 3 124 (.getfield 7) := ⟨by decide +kernel, rfl⟩
theorem dX12_text_124 : dec cX12_text 124 1 125 (.iload_n 3) := ⟨by decide +kernel, rfl⟩
theorem dX12_text_125 : dec cX12_text 125 1 126 (.aload_n 0) := ⟨by decide +kernel, rfl⟩
theorem dX12_text_126 : dec cX12_text 126 3 129 (.getfield 113) := ⟨by decide +kernel, rfl⟩
theorem dX12_text_129 : dec cX12_text 129 1 130 (.iastore) := ⟨by decide +kernel, rfl⟩
theorem dX12_text_130 : dec cX12_text 130 1 131 (.iconst 0) := ⟨by decide +kernel, rfl⟩
theorem dX12_text_131 : dec cX12_text 131 2 133 (.istore 4) := ⟨by decide +kernel, rfl⟩
theorem dX12_text_133 : dec cX12_text 133 2 135 (.iload 4) := ⟨by decide +kernel, rfl⟩
theorem dX12_text_135 : dec cX12_text 135 1 136 (.iconst 2) := ⟨by decide +kernel, rfl⟩
theorem dX12_text_136 : dec cX12_text 136 1 137 (.aload_n 0) := ⟨by decide +kernel, rfl⟩
theorem dX12_text_137 : dec cX12_text 137 3 140 (.getfield 113) := ⟨by decide +kernel, rfl⟩
theorem dX12_text_140 : dec cX12_text 140 1 141 (.imul) := ⟨by decide +kernel, rfl⟩
theorem dX12_text_141 : dec cX12_text 141 3 144 (.if_icmp .ge 27) := ⟨by decide +kernel, rfl⟩
theorem dX12_text_144 : dec cX12_text 144 1 145 (.aload_n 0) := ⟨by decide +kernel, rfl⟩
theorem dX12_text_145 : dec cX12_text 145 3 148 (.getfield 7) := ⟨by decide +kernel, rfl⟩
theorem dX12_text_148 : dec cX12_text 148 1 149 (.iload_n 3) := ⟨by decide +kernel, rfl⟩
theorem dX12_text_149 : dec cX12_text 149 1 150 (.iconst 1) := ⟨by decide +kernel, rfl⟩
theorem dX12_text_150 : dec cX12_text 150 1 151 (.iadd) := ⟨by decide +kernel, rfl⟩
theorem dX12_text_151 : dec cX12_text 151 2 153 (.iload 4) := ⟨by decide +kernel, rfl⟩
theorem dX12_text_153 : dec cX12_text 153 1 154 (.iadd) := ⟨by decide +kernel, rfl⟩
theorem dX12_text_154 : dec cX12_text 154 1 155 (.aload_n 0) := ⟨by decide +kernel, rfl⟩
theorem dX12_text_155 : dec cX12_text 155 3 158 (.getfield 19) := ⟨by decide +kernel, rfl⟩
theorem dX12_text_158 : dec cX12_text 158 2 160 (.iload 4) := ⟨by decide +kernel, rfl⟩
theorem dX12_text_160 : dec cX12_text 160 1 161 (.iaload) := ⟨by decide +kernel, rfl⟩
theorem dX12_text_161 : dec cX12_text 161 1 162 (.iastore) := ⟨by decide +kernel, rfl⟩
theorem dX12_text_162 : dec cX12_text 162 3 165 (.iinc 4 1) := ⟨by decide +kernel, rfl⟩
theorem dX12_text_165 : dec cX12_text 165 3 168 (.goto (-32)) := ⟨by decide +kernel, rfl⟩
theorem dX12_text_168 : dec cX12_text 168 1 169 (.aload_n 0) := ⟨by decide +kernel, rfl⟩
theorem dX12_text_169 : dec cX12_text 169 3 172 (.getfield 130) := ⟨by decide +kernel, rfl⟩
theorem dX12_text_172 : dec cX12_text 172 1 173 (.ireturn) := ⟨by decide +kernel, rfl⟩
set_option maxHeartbeats 4000000 in
set_option maxRecDepth 100000 in
theorem tX12_text_J40 {X : Cx} {Y : Yx} {M0 : Mem} (hC : OKX X Y RX12 cX12_text 5 (some .int) rmX12_text) (hF : Y.2.2.2.2 = true) (hL : Lay M0) (Q : Int → Mem → Prop)   (a0 : Nat) (qa0 : 0 < a0 ∧ M0 0 a0 = kO 12)  (M : Mem) (h : wX12_text_J40 Q  a0 M) : WW X Y 5 rmX12_text (QI Q) M0 0 0 40 [(0, vR Y.1 a0)] [] M := by
  unfold wX12_text_J40 at h
  refine r_aload_n hC 0 dX12_text_40 rfl rfl ?_
  refine r_iconst hC dX12_text_41 ?_
  refine r_callV (As := [vI 5]) (st := []) hC cw_X12_83 rfl qa0.1 qa0.2 rfl rfl (Nat.le_of_ble_eq_true rfl) ⟨Nat.le_of_ble_eq_true rfl, Nat.le_of_ble_eq_true rfl⟩ ⟨Nat.le_of_ble_eq_true rfl, Nat.le_of_ble_eq_true rfl⟩ dX12_text_42 (fun hk => mX12_error Y hF _ _ _ _ _ (kqO hk qa0) h) (fun v M_6 h => ?_)
  obtain ⟨r_7, rfl, h⟩ := h
  exact r_iret hC (Nat.zero_le _) (Nat.zero_le _) dX12_text_45 ⟨_, rfl, h⟩
set_option maxHeartbeats 4000000 in
set_option maxRecDepth 100000 in
theorem tX12_text_L133 {X : Cx} {Y : Yx} {M0 : Mem} (hC : OKX X Y RX12 cX12_text 5 (some .int) rmX12_text) (hF : Y.2.2.2.2 = true) (hL : Lay M0) (Q : Int → Mem → Prop)  (a0 : Nat) (x3 : Int) (qa0 : 0 < a0 ∧ M0 0 a0 = kO 12)  : ∀ (N : Nat) (x4 : Int) (M : Mem) (_ : wX12_text_L133 Q  a0 x3 N x4 M), WW X Y 5 rmX12_text (QI Q) M0 0 0 133 [(0, vR Y.1 a0), (3, vI x3), (4, vI x4)] [] M := by
  intro N
  induction N with
  | zero =>
    intro x4 M h
    exact h.elim
  | succ N ih =>
    intro x4 M h
    unfold wX12_text_L133 at h
    refine r_iload hC 2 dX12_text_133 rfl ?_
    refine r_iconst hC dX12_text_135 ?_
    refine r_aload_n hC 0 dX12_text_136 rfl rfl ?_
    refine r_getI hC fg_X12_113 rfl qa0.1 qa0.2 dX12_text_137 ?_
    refine r_imul hC dX12_text_140 ?_
    refine r_icmp_ge hC 168 rfl rfl dX12_text_141 (by decide) (fun cq => ?_) (fun cq => ?_)
    · replace h := h.1 cq
      refine r_aload_n hC 0 dX12_text_168 rfl rfl ?_
      refine r_getI hC fg_X12_130 rfl qa0.1 qa0.2 dX12_text_169 ?_
      exact r_iret hC (Nat.zero_le _) (Nat.zero_le _) dX12_text_172 ⟨_, rfl, h⟩
    · replace h := h.2 cq
      refine r_aload_n hC 0 dX12_text_144 rfl rfl ?_
      have q_20 : 0 < a0 + 1 ∧ M0 0 (a0 + 1) = kA 0 1522 := lay_f0 (a := a0) hL qa0 fm_12_0
      refine r_getR0 (a' := a0 + 1) hC fg_X12_7 rfl hF fm_12_0 qa0.1 qa0.2 rfl dX12_text_145 ?_
      refine r_iload_n hC 1 dX12_text_148 rfl rfl ?_
      refine r_iconst hC dX12_text_149 ?_
      refine r_iadd hC dX12_text_150 ?_
      refine r_iload hC 2 dX12_text_151 rfl ?_
      refine r_iadd hC dX12_text_153 ?_
      refine r_aload_n hC 0 dX12_text_154 rfl rfl ?_
      have q_21 : 0 < a0 + 4 ∧ M0 0 (a0 + 4) = kA 0 104 := lay_f0 (a := a0) hL qa0 fm_12_9
      refine r_getR0 (a' := a0 + 4) hC fg_X12_19 rfl hF fm_12_9 qa0.1 qa0.2 rfl dX12_text_155 ?_
      refine r_iload hC 2 dX12_text_158 rfl ?_
      obtain ⟨i_22, h⟩ := h
      refine r_iald hC i_22 q_21.1 q_21.2 (by decide) dX12_text_160 ?_
      obtain ⟨i_23, h⟩ := h
      refine r_iast hC i_23 q_20.1 q_20.2 (by decide) dX12_text_161 ?_
      refine r_nameM h (fun M_24 h => ?_)
      refine let_elim h (fun x4_25 e_26 h => ?_)
      refine r_iinc (lv' := [(4, vI x4_25), (0, vR Y.1 a0), (3, vI x3)]) hC 2 dX12_text_162 rfl (by decide) e_26 rfl ?_
      refine r_goto hC 133 dX12_text_165 (by decide) ?_
      refine r_sub [1, 2, 0] rfl ?_
      exact ih _ _ h
set_option maxHeartbeats 4000000 in
set_option maxRecDepth 100000 in
theorem tX12_text_J91 {X : Cx} {Y : Yx} {M0 : Mem} (hC : OKX X Y RX12 cX12_text 5 (some .int) rmX12_text) (hF : Y.2.2.2.2 = true) (hL : Lay M0) (Q : Int → Mem → Prop)   (a0 : Nat) (x1 : Int) (xs0 : Int) (qa0 : 0 < a0 ∧ M0 0 a0 = kO 12)  (M : Mem) (h : wX12_text_J91 Q  a0 x1 xs0 M) : WW X Y 5 rmX12_text (QI Q) M0 0 0 91 [(0, vR Y.1 a0), (1, vI x1)] [vI xs0] M := by
  unfold wX12_text_J91 at h
  refine r_istore_n (lv' := [(2, vI xs0), (0, vR Y.1 a0), (1, vI x1)]) hC dX12_text_91 rfl (by decide) rfl ?_
  refine r_aload_n hC 1 dX12_text_92 rfl rfl ?_
  have q_14 : 0 < a0 + 1 ∧ M0 0 (a0 + 1) = kA 0 1522 := lay_f0 (a := a0) hL qa0 fm_12_0
  refine r_getR0 (a' := a0 + 1) hC fg_X12_7 rfl hF fm_12_0 qa0.1 qa0.2 rfl dX12_text_93 ?_
  refine r_iconst hC dX12_text_96 ?_
  refine r_iconst hC dX12_text_97 ?_
  refine r_iast hC ⟨by decide +kernel, by decide +kernel⟩ q_14.1 q_14.2 (by decide) dX12_text_98 ?_
  refine r_nameM h (fun M_15 h => ?_)
  refine r_iload_n hC 0 dX12_text_99 rfl rfl ?_
  refine r_if_ne hC 111 rfl dX12_text_100 (by decide) (fun cq => ?_) (fun cq => ?_)
  · replace h := h.2 cq
    refine r_sipush hC (by decide +kernel) dX12_text_111 ?_
    refine r_bipush hC (by decide +kernel) dX12_text_114 ?_
    refine r_iload_n hC 2 dX12_text_116 rfl rfl ?_
    refine r_imul hC dX12_text_117 ?_
    refine r_iadd hC dX12_text_118 ?_
    refine r_nameI h (fun x3_16 h => ?_)
    refine r_istore_n (lv' := [(3, vI x3_16), (2, vI xs0), (0, vR Y.1 a0), (1, vI x1)]) hC dX12_text_119 rfl (by decide) rfl ?_
    refine r_aload_n hC 2 dX12_text_120 rfl rfl ?_
    have q_17 : 0 < a0 + 1 ∧ M0 0 (a0 + 1) = kA 0 1522 := lay_f0 (a := a0) hL qa0 fm_12_0
    refine r_getR0 (a' := a0 + 1) hC fg_X12_7 rfl hF fm_12_0 qa0.1 qa0.2 rfl dX12_text_121 ?_
    refine r_iload_n hC 0 dX12_text_124 rfl rfl ?_
    refine r_aload_n hC 2 dX12_text_125 rfl rfl ?_
    refine r_getI hC fg_X12_113 rfl qa0.1 qa0.2 dX12_text_126 ?_
    obtain ⟨i_18, h⟩ := h
    refine r_iast hC i_18 q_17.1 q_17.2 (by decide) dX12_text_129 ?_
    refine r_nameM h (fun M_19 h => ?_)
    refine r_iconst hC dX12_text_130 ?_
    refine r_istore (lv' := [(4, vI 0), (3, vI x3_16), (2, vI xs0), (0, vR Y.1 a0), (1, vI x1)]) hC dX12_text_131 (by decide) rfl ?_
    refine r_sub [3, 1, 0] rfl ?_
    obtain ⟨N_27, h⟩ := h
    refine tX12_text_L133 hC hF hL Q  _ _ qa0  N_27 _ _ h
  · replace h := h.1 cq
    refine r_bipush hC (by decide +kernel) dX12_text_103 ?_
    refine r_aload_n hC 1 dX12_text_105 rfl rfl ?_
    refine r_getI hC fg_X12_106 rfl qa0.1 qa0.2 dX12_text_106 ?_
    refine r_isub hC dX12_text_109 ?_
    exact r_iret hC (Nat.zero_le _) (Nat.zero_le _) dX12_text_110 ⟨_, rfl, h⟩
set_option maxHeartbeats 4000000 in
set_option maxRecDepth 100000 in
theorem tX12_text_J90 {X : Cx} {Y : Yx} {M0 : Mem} (hC : OKX X Y RX12 cX12_text 5 (some .int) rmX12_text) (hF : Y.2.2.2.2 = true) (hL : Lay M0) (Q : Int → Mem → Prop)   (a0 : Nat) (x1 : Int) (qa0 : 0 < a0 ∧ M0 0 a0 = kO 12)  (M : Mem) (h : wX12_text_J90 Q  a0 x1 M) : WW X Y 5 rmX12_text (QI Q) M0 0 0 90 [(0, vR Y.1 a0), (1, vI x1)] [] M := by
  unfold wX12_text_J90 at h
  refine r_iconst hC dX12_text_90 ?_
  refine r_sub [0, 1] rfl ?_
  exact tX12_text_J91 hC hF hL Q   _ _ _ qa0  _ h
set_option maxHeartbeats 4000000 in
set_option maxRecDepth 100000 in
theorem mX12_text (Y : Yx) (hF : Y.2.2.2.2 = true) (l : Launch) (a0 : Nat) (x1 : Int) (M0 : Mem) (Q : Int → Mem → Prop) (qa0 : 0 < a0 ∧ M0 0 a0 = kO 12) (h : wX12_text a0 x1 M0 Q) : CT Y l yX12_text cX12_text 5 (some .int) rmX12_text [vR Y.1 a0, vI x1] M0 (QI Q) := by
  unfold wX12_text at h
  refine ct_intro (by decide) (Nat.le_of_ble_eq_true rfl) ?_
  intro X hXl hC hL0
  have hL := hL0 hF
  change OKX X Y RX12 cX12_text 5 (some .int) rmX12_text at hC
  change WW X Y 5 rmX12_text (QI Q) M0 0 0 0 [(0, vR Y.1 a0), (1, vI x1)] [] M0
  refine r_aload_n hC 0 dX12_text_0 rfl rfl ?_
  refine r_iload_n hC 1 dX12_text_1 rfl rfl ?_
  refine r_callV (As := [vI x1]) (st := []) hC cw_X12_98 rfl qa0.1 qa0.2 rfl rfl (Nat.le_of_ble_eq_true rfl) ⟨Nat.le_of_ble_eq_true rfl, Nat.le_of_ble_eq_true rfl⟩ ⟨Nat.le_of_ble_eq_true rfl, Nat.le_of_ble_eq_true rfl⟩ dX12_text_2 (fun hk => mX12_isLiking Y hF _ _ _ _ _ (kqO hk qa0) h) (fun v M_1 h => ?_)
  obtain ⟨r_2, rfl, h⟩ := h
  refine r_if_ne hC 14 rfl dX12_text_5 (by decide) (fun cq => ?_) (fun cq => ?_)
  · replace h := h.2 cq
    refine r_aload_n hC 0 dX12_text_14 rfl rfl ?_
    refine r_aload_n hC 0 dX12_text_15 rfl rfl ?_
    refine r_iload_n hC 1 dX12_text_16 rfl rfl ?_
    refine r_iconst hC dX12_text_17 ?_
    refine r_callV (As := [vI x1, vI 0]) (st := [vR Y.1 a0]) hC cw_X12_101 rfl qa0.1 qa0.2 rfl rfl (Nat.le_of_ble_eq_true rfl) ⟨Nat.le_of_ble_eq_true rfl, Nat.le_of_ble_eq_true rfl⟩ ⟨Nat.le_of_ble_eq_true rfl, Nat.le_of_ble_eq_true rfl⟩ dX12_text_18 (fun hk => mX12_likingIs Y hF _ _ _ _ _ _ (kqO hk qa0) h) (fun v M_3 h => ?_)
    obtain ⟨r_4, rfl, h⟩ := h
    refine r_putI hC fp_X12_110 rfl qa0.1 qa0.2 dX12_text_21 ?_
    refine r_nameM h (fun M_5 h => ?_)
    refine r_aload_n hC 0 dX12_text_24 rfl rfl ?_
    refine r_getI hC fg_X12_110 rfl qa0.1 qa0.2 dX12_text_25 ?_
    refine r_if_eq hC 40 rfl dX12_text_28 (by decide) (fun cq => ?_) (fun cq => ?_)
    · replace h := h.1 cq
      refine r_sub [0] rfl ?_
      exact tX12_text_J40 hC hF hL Q   _ qa0  _ h
    · replace h := h.2 cq
      refine r_aload_n hC 0 dX12_text_31 rfl rfl ?_
      refine r_getI hC fg_X12_110 rfl qa0.1 qa0.2 dX12_text_32 ?_
      refine r_bipush hC (by decide +kernel) dX12_text_35 ?_
      refine r_icmp_ne hC 46 rfl bmL_6 dX12_text_37 (by decide) (fun cq => ?_) (fun cq => ?_)
      · replace h := h.2 cq
        refine r_aload_n hC 0 dX12_text_46 rfl rfl ?_
        refine r_iconst hC dX12_text_47 ?_
        refine r_putI hC fp_X12_106 rfl qa0.1 qa0.2 dX12_text_48 ?_
        refine r_nameM h (fun M_8 h => ?_)
        refine r_aload_n hC 0 dX12_text_51 rfl rfl ?_
        refine r_iconst hC dX12_text_52 ?_
        refine r_putI hC fp_X12_116 rfl qa0.1 qa0.2 dX12_text_53 ?_
        refine r_nameM h (fun M_9 h => ?_)
        refine r_aload_n hC 0 dX12_text_56 rfl rfl ?_
        refine r_iconst hC dX12_text_57 ?_
        refine r_putI hC fp_X12_130 rfl qa0.1 qa0.2 dX12_text_58 ?_
        refine r_nameM h (fun M_10 h => ?_)
        refine r_aload_n hC 0 dX12_text_61 rfl rfl ?_
        refine r_iconst hC dX12_text_62 ?_
        refine r_putI hC fp_X12_113 rfl qa0.1 qa0.2 dX12_text_63 ?_
        refine r_nameM h (fun M_11 h => ?_)
        refine r_aload_n hC 0 dX12_text_66 rfl rfl ?_
        refine r_callV (As := []) (st := []) hC cw_X12_133 rfl qa0.1 qa0.2 rfl rfl (Nat.le_of_ble_eq_true rfl) ⟨Nat.le_of_ble_eq_true rfl, Nat.le_of_ble_eq_true rfl⟩ ⟨Nat.le_of_ble_eq_true rfl, Nat.le_of_ble_eq_true rfl⟩ dX12_text_67 (fun hk => mX12_whole Y hF _ _ _ _ (kqO hk qa0) h) (fun v M_12 h => ?_)
        obtain ⟨r_13, rfl, h⟩ := h
        refine r_if_eq hC 90 rfl dX12_text_70 (by decide) (fun cq => ?_) (fun cq => ?_)
        · replace h := h.1 cq
          refine r_sub [0, 1] rfl ?_
          exact tX12_text_J90 hC hF hL Q   _ _ qa0  _ h
        · replace h := h.2 cq
          refine r_aload_n hC 0 dX12_text_73 rfl rfl ?_
          refine r_getI hC fg_X12_106 rfl qa0.1 qa0.2 dX12_text_74 ?_
          refine r_aload_n hC 0 dX12_text_77 rfl rfl ?_
          have q_28 : 0 < a0 + 1 ∧ M0 0 (a0 + 1) = kA 0 1522 := lay_f0 (a := a0) hL qa0 fm_12_0
          refine r_getR0 (a' := a0 + 1) hC fg_X12_7 rfl hF fm_12_0 qa0.1 qa0.2 rfl dX12_text_78 ?_
          refine r_iconst hC dX12_text_81 ?_
          refine r_iald hC ⟨by decide +kernel, by decide +kernel⟩ q_28.1 q_28.2 (by decide) dX12_text_82 ?_
          refine r_icmp_ne hC 90 rfl rfl dX12_text_83 (by decide) (fun cq => ?_) (fun cq => ?_)
          · replace h := h.2 cq
            refine r_sub [0, 1] rfl ?_
            exact tX12_text_J90 hC hF hL Q   _ _ qa0  _ h
          · replace h := h.1 cq
            refine r_iconst hC dX12_text_86 ?_
            refine r_goto hC 91 dX12_text_87 (by decide) ?_
            refine r_sub [0, 1] rfl ?_
            exact tX12_text_J91 hC hF hL Q   _ _ _ qa0  _ h
      · replace h := h.1 cq
        refine r_sub [0] rfl ?_
        exact tX12_text_J40 hC hF hL Q   _ qa0  _ h
  · replace h := h.1 cq
    refine r_aload_n hC 0 dX12_text_8 rfl rfl ?_
    refine r_iconst hC dX12_text_9 ?_
    refine r_callV (As := [vI 1]) (st := []) hC cw_X12_83 rfl qa0.1 qa0.2 rfl rfl (Nat.le_of_ble_eq_true rfl) ⟨Nat.le_of_ble_eq_true rfl, Nat.le_of_ble_eq_true rfl⟩ ⟨Nat.le_of_ble_eq_true rfl, Nat.le_of_ble_eq_true rfl⟩ dX12_text_10 (fun hk => mX12_error Y hF _ _ _ _ _ (kqO hk qa0) h) (fun v M_29 h => ?_)
    obtain ⟨r_30, rfl, h⟩ := h
    exact r_iret hC (Nat.zero_le _) (Nat.zero_le _) dX12_text_13 ⟨_, rfl, h⟩
theorem dX12_joined_0 : dec cX12_joined 0 1 1 (.iload_n 0) := ⟨by decide +kernel, rfl⟩
theorem dX12_joined_1 : dec cX12_joined 1 51 52 (.lookupswitch 96 #[(42, 59), (43, 51), (45, 55), (47, 63), (60, 85)]) := ⟨by decide +kernel, rfl⟩
theorem dX12_joined_52 : dec cX12_joined 52 1 53 (.iload_n 1) := ⟨by decide +kernel, rfl⟩
theorem dX12_joined_53 : dec cX12_joined 53 1 54 (.iload_n 2) := ⟨by decide +kernel, rfl⟩
theorem dX12_joined_54 : dec cX12_joined 54 1 55 (.iadd) := ⟨by decide +kernel, rfl⟩
theorem dX12_joined_55 : dec cX12_joined 55 1 56 (.ireturn) := ⟨by decide +kernel, rfl⟩
theorem dX12_joined_56 : dec cX12_joined 56 1 57 (.iload_n 1) := ⟨by decide +kernel, rfl⟩
theorem dX12_joined_57 : dec cX12_joined 57 1 58 (.iload_n 2) := ⟨by decide +kernel, rfl⟩
theorem dX12_joined_58 : dec cX12_joined 58 1 59 (.isub) := ⟨by decide +kernel, rfl⟩
theorem dX12_joined_59 : dec cX12_joined 59 1 60 (.ireturn) := ⟨by decide +kernel, rfl⟩
theorem dX12_joined_60 : dec cX12_joined 60 1 61 (.iload_n 1) := ⟨by decide +kernel, rfl⟩
theorem dX12_joined_61 : dec cX12_joined 61 1 62 (.iload_n 2) := ⟨by decide +kernel, rfl⟩
theorem dX12_joined_62 : dec cX12_joined 62 1 63 (.imul) := ⟨by decide +kernel, rfl⟩
theorem dX12_joined_63 : dec cX12_joined 63 1 64 (.ireturn) := ⟨by decide +kernel, rfl⟩
theorem dX12_joined_64 : dec cX12_joined 64 1 65 (.iload_n 2) := ⟨by decide +kernel, rfl⟩
theorem dX12_joined_65 : dec cX12_joined 65 3 68 (.ifCond .ne 7) := ⟨by decide +kernel, rfl⟩
theorem dX12_joined_68 : dec cX12_joined 68 1 69 (.iconst 0) := ⟨by decide +kernel, rfl⟩
theorem dX12_joined_69 : dec cX12_joined 69 3 72 (.goto 16) := ⟨by decide +kernel, rfl⟩
theorem dX12_joined_72 : dec cX12_joined 72 1 73 (.iload_n 2) := ⟨by decide +kernel, rfl⟩
theorem dX12_joined_73 : dec cX12_joined 73 1 74 (.iconst (-1)) := ⟨by decide +kernel, rfl⟩
theorem dX12_joined_74 : dec cX12_joined 74 3 77 (.if_icmp .ne 8) := ⟨by decide +kernel, rfl⟩
theorem dX12_joined_77 : dec cX12_joined 77 1 78 (.iload_n 1) := ⟨by decide +kernel, rfl⟩
theorem dX12_joined_78 : dec cX12_joined 78 1 79 (.ineg) := ⟨by decide +kernel, rfl⟩
theorem dX12_joined_79 : dec cX12_joined 79 3 82 (.goto 6) := ⟨by decide +kernel, rfl⟩
theorem dX12_joined_82 : dec cX12_joined 82 1 83 (.iload_n 1) := ⟨by decide +kernel, rfl⟩
theorem dX12_joined_83 : dec cX12_joined 83 1 84 (.iload_n 2) := ⟨by decide +kernel, rfl⟩
theorem dX12_joined_84 : dec cX12_joined 84 1 85 (.idiv) := ⟨by decide +kernel, rfl⟩
theorem dX12_joined_85 : dec cX12_joined 85 1 86 (.ireturn) := ⟨by decide +kernel, rfl⟩
theorem dX12_joined_86 : dec cX12_joined 86 1 87 (.iload_n 1) := ⟨by decide +kernel, rfl⟩
theorem dX12_joined_87 : dec cX12_joined 87 1 88 (.iload_n 2) := ⟨by decide +kernel, rfl⟩
theorem dX12_joined_88 : dec cX12_joined 88 3 91 (.if_icmp .ge 7) := ⟨by decide +kernel, rfl⟩
theorem dX12_joined_91 : dec cX12_joined 91 1 92 (.iconst 1) := ⟨by decide +kernel, rfl⟩
theorem dX12_joined_92 : dec cX12_joined 92 3 95 (.goto 4) := ⟨by decide +kernel, rfl⟩
theorem dX12_joined_95 : dec cX12_joined 95 1 96 (.iconst 0) := ⟨by decide +kernel, rfl⟩
theorem dX12_joined_96 : dec cX12_joined 96 1 97 (.ireturn) := ⟨by decide +kernel, rfl⟩
theorem dX12_joined_97 : dec cX12_joined 97 1 98 (.iload_n 1) := ⟨by decide +kernel, rfl⟩
theorem dX12_joined_98 : dec cX12_joined 98 1 99 (.iload_n 2) := ⟨by decide +kernel, rfl⟩
theorem dX12_joined_99 : dec cX12_joined 99 3 102 (.if_icmp .ne 7) := ⟨by decide +kernel, rfl⟩
theorem dX12_joined_102 : dec cX12_joined 102 1 103 (.iconst 1) := ⟨by decide +kernel, rfl⟩
theorem dX12_joined_103 : dec cX12_joined 103 3 106 (.goto 4) := ⟨by decide +kernel, rfl⟩
theorem dX12_joined_106 : dec cX12_joined 106 1 107 (.iconst 0) := ⟨by decide +kernel, rfl⟩
theorem dX12_joined_107 : dec cX12_joined 107 1 108 (.ireturn) := ⟨by decide +kernel, rfl⟩
set_option maxHeartbeats 4000000 in
set_option maxRecDepth 100000 in
theorem mX12_joined (Y : Yx) (hF : Y.2.2.2.2 = true) (l : Launch) (x0 : Int) (x1 : Int) (x2 : Int) (M0 : Mem) (Q : Int → Mem → Prop)  (h : wX12_joined x0 x1 x2 M0 Q) : CT Y l yX12_joined cX12_joined 3 (some .int) rmX12_joined [vI x0, vI x1, vI x2] M0 (QI Q) := by
  unfold wX12_joined at h
  refine ct_intro (by decide) (Nat.le_of_ble_eq_true rfl) ?_
  intro X hXl hC hL0
  have hL := hL0 hF
  change OKX X Y RX12 cX12_joined 3 (some .int) rmX12_joined at hC
  change WW X Y 3 rmX12_joined (QI Q) M0 0 0 0 [(0, vI x0), (1, vI x1), (2, vI x2)] [] M0
  refine r_iload_n hC 0 dX12_joined_0 rfl rfl ?_
  by_cases c0 : bm x0 = 42
  · replace h := h.1 c0
    refine r_lookup hC 60 dX12_joined_1 (by decide +kernel) (off := 59) (by rw [c0]; rfl) (by decide) ?_
    refine r_iload_n hC 1 dX12_joined_60 rfl rfl ?_
    refine r_iload_n hC 2 dX12_joined_61 rfl rfl ?_
    refine r_imul hC dX12_joined_62 ?_
    exact r_iret hC (Nat.zero_le _) (Nat.zero_le _) dX12_joined_63 ⟨_, rfl, h⟩
  · replace h := h.2 c0
    by_cases c1 : bm x0 = 43
    · replace h := h.1 c1
      refine r_lookup hC 52 dX12_joined_1 (by decide +kernel) (off := 51) (by rw [c1]; rfl) (by decide) ?_
      refine r_iload_n hC 1 dX12_joined_52 rfl rfl ?_
      refine r_iload_n hC 2 dX12_joined_53 rfl rfl ?_
      refine r_iadd hC dX12_joined_54 ?_
      exact r_iret hC (Nat.zero_le _) (Nat.zero_le _) dX12_joined_55 ⟨_, rfl, h⟩
    · replace h := h.2 c1
      by_cases c2 : bm x0 = 45
      · replace h := h.1 c2
        refine r_lookup hC 56 dX12_joined_1 (by decide +kernel) (off := 55) (by rw [c2]; rfl) (by decide) ?_
        refine r_iload_n hC 1 dX12_joined_56 rfl rfl ?_
        refine r_iload_n hC 2 dX12_joined_57 rfl rfl ?_
        refine r_isub hC dX12_joined_58 ?_
        exact r_iret hC (Nat.zero_le _) (Nat.zero_le _) dX12_joined_59 ⟨_, rfl, h⟩
      · replace h := h.2 c2
        by_cases c3 : bm x0 = 47
        · replace h := h.1 c3
          refine r_lookup hC 64 dX12_joined_1 (by decide +kernel) (off := 63) (by rw [c3]; rfl) (by decide) ?_
          refine r_iload_n hC 2 dX12_joined_64 rfl rfl ?_
          refine r_if_ne hC 72 rfl dX12_joined_65 (by decide) (fun cq => ?_) (fun cq => ?_)
          · replace h := h.2 cq
            refine r_iload_n hC 2 dX12_joined_72 rfl rfl ?_
            refine r_iconst hC dX12_joined_73 ?_
            refine r_icmp_ne hC 82 rfl bmL_m1 dX12_joined_74 (by decide) (fun cq => ?_) (fun cq => ?_)
            · replace h := h.2 cq
              refine r_iload_n hC 1 dX12_joined_82 rfl rfl ?_
              refine r_iload_n hC 2 dX12_joined_83 rfl rfl ?_
              obtain ⟨z_1, h⟩ := h
              refine r_idiv hC z_1 dX12_joined_84 ?_
              exact r_iret hC (Nat.zero_le _) (Nat.zero_le _) dX12_joined_85 ⟨_, rfl, h⟩
            · replace h := h.1 cq
              refine r_iload_n hC 1 dX12_joined_77 rfl rfl ?_
              refine r_ineg hC dX12_joined_78 ?_
              refine r_goto hC 85 dX12_joined_79 (by decide) ?_
              exact r_iret hC (Nat.zero_le _) (Nat.zero_le _) dX12_joined_85 ⟨_, rfl, h⟩
          · replace h := h.1 cq
            refine r_iconst hC dX12_joined_68 ?_
            refine r_goto hC 85 dX12_joined_69 (by decide) ?_
            exact r_iret hC (Nat.zero_le _) (Nat.zero_le _) dX12_joined_85 ⟨_, rfl, h⟩
        · replace h := h.2 c3
          by_cases c4 : bm x0 = 60
          · replace h := h.1 c4
            refine r_lookup hC 86 dX12_joined_1 (by decide +kernel) (off := 85) (by rw [c4]; rfl) (by decide) ?_
            refine r_iload_n hC 1 dX12_joined_86 rfl rfl ?_
            refine r_iload_n hC 2 dX12_joined_87 rfl rfl ?_
            refine r_icmp_ge hC 95 rfl rfl dX12_joined_88 (by decide) (fun cq => ?_) (fun cq => ?_)
            · replace h := h.1 cq
              refine r_iconst hC dX12_joined_95 ?_
              exact r_iret hC (Nat.zero_le _) (Nat.zero_le _) dX12_joined_96 ⟨_, rfl, h⟩
            · replace h := h.2 cq
              refine r_iconst hC dX12_joined_91 ?_
              refine r_goto hC 96 dX12_joined_92 (by decide) ?_
              exact r_iret hC (Nat.zero_le _) (Nat.zero_le _) dX12_joined_96 ⟨_, rfl, h⟩
          · replace h := h.2 c4
            refine r_lookup hC 97 dX12_joined_1 (by decide +kernel) (off := 96) (by simp [Op.lookupswitch.offset, Ne.symm c0, Ne.symm c1, Ne.symm c2, Ne.symm c3, Ne.symm c4]) (by decide) ?_
            refine r_iload_n hC 1 dX12_joined_97 rfl rfl ?_
            refine r_iload_n hC 2 dX12_joined_98 rfl rfl ?_
            refine r_icmp_ne hC 106 rfl rfl dX12_joined_99 (by decide) (fun cq => ?_) (fun cq => ?_)
            · replace h := h.2 cq
              refine r_iconst hC dX12_joined_106 ?_
              exact r_iret hC (Nat.zero_le _) (Nat.zero_le _) dX12_joined_107 ⟨_, rfl, h⟩
            · replace h := h.1 cq
              refine r_iconst hC dX12_joined_102 ?_
              refine r_goto hC 107 dX12_joined_103 (by decide) ?_
              exact r_iret hC (Nat.zero_le _) (Nat.zero_le _) dX12_joined_107 ⟨_, rfl, h⟩
theorem dX12_worked_0 : dec cX12_worked 0 3 3 (.sipush 150) := ⟨by decide +kernel, rfl⟩
theorem dX12_worked_3 : dec cX12_worked 3 2 5 (.bipush 105) := ⟨by decide +kernel, rfl⟩
theorem dX12_worked_5 : dec cX12_worked 5 1 6 (.iload_n 1) := ⟨by decide +kernel, rfl⟩
theorem dX12_worked_6 : dec cX12_worked 6 1 7 (.imul) := ⟨by decide +kernel, rfl⟩
theorem dX12_worked_7 : dec cX12_worked 7 1 8 (.iadd) := ⟨by decide +kernel, rfl⟩
theorem dX12_worked_8 : dec cX12_worked 8 1 9 (.istore_n 3) := ⟨by decide +kernel, rfl⟩
theorem dX12_worked_9 : dec cX12_worked 9 1 10 (.aload_n 0) := ⟨by decide +kernel, rfl⟩
theorem dX12_worked_10 : dec cX12_worked 10 3 13 (.getfield 7) := ⟨by decide +kernel, rfl⟩
theorem dX12_worked_13 : dec cX12_worked 13 1 14 (.iload_n 3) := ⟨by decide +kernel, rfl⟩
theorem dX12_worked_14 : dec cX12_worked 14 1 15 (.iaload) := ⟨by decide +kernel, rfl⟩
theorem dX12_worked_15 : dec cX12_worked 15 3 18 (.ifCond .ne 5) := ⟨by decide +kernel, rfl⟩
theorem dX12_worked_18 : dec cX12_worked 18 1 19 (.iload_n 2) := ⟨by decide +kernel, rfl⟩
theorem dX12_worked_19 : dec cX12_worked 19 1 20 (.ireturn) := ⟨by decide +kernel, rfl⟩
theorem dX12_worked_20 : dec cX12_worked 20 1 21 (.iconst 0) := ⟨by decide +kernel, rfl⟩
theorem dX12_worked_21 : dec cX12_worked 21 2 23 (.istore 4) := ⟨by decide +kernel, rfl⟩
theorem dX12_worked_23 : dec cX12_worked 23 1 24 (.iconst 0) := ⟨by decide +kernel, rfl⟩
theorem dX12_worked_24 : dec cX12_worked 24 2 26 (.istore 5) := ⟨by decide +kernel, rfl⟩
theorem dX12_worked_26 : dec cX12_worked 26 2 28 (.iload 5) := ⟨by decide +kernel, rfl⟩
theorem dX12_worked_28 : dec cX12_worked 28 1 29 (.aload_n 0) := ⟨by decide +kernel, rfl⟩
theorem dX12_worked_29 : dec cX12_worked 29 3 32 (.getfield 7) := ⟨by decide +kernel, rfl⟩
theorem dX12_worked_32 : dec cX12_worked 32 1 33 (.iload_n 3) := ⟨by decide +kernel, rfl⟩
theorem dX12_worked_33 : dec cX12_worked 33 1 34 (.iaload) := ⟨by decide +kernel, rfl⟩
theorem dX12_worked_34 : dec cX12_worked 34 3 37 (.if_icmp .ge 193) := ⟨by decide +kernel, rfl⟩
theorem dX12_worked_37 : dec cX12_worked 37 1 38 (.aload_n 0) := ⟨by decide +kernel, rfl⟩
theorem dX12_worked_38 : dec cX12_worked 38 3 41 (.getfield 7) := ⟨by decide +kernel, rfl⟩
theorem dX12_worked_41 : dec cX12_worked 41 1 42 (.iload_n 3) := ⟨by decide +kernel, rfl⟩
theorem dX12_worked_42 : dec cX12_worked 42 1 43 (.iconst 1) := ⟨by decide +kernel, rfl⟩
theorem dX12_worked_43 : dec cX12_worked 43 1 44 (.iadd) := ⟨by decide +kernel, rfl⟩
theorem dX12_worked_44 : dec cX12_worked 44 1 45 (.iconst 2) := ⟨by decide +kernel, rfl⟩
theorem dX12_worked_45 : dec cX12_worked 45 2 47 (.iload 5) := ⟨by decide +kernel, rfl⟩
theorem dX12_worked_47 : dec cX12_worked 47 1 48 (.imul) := ⟨by decide +kernel, rfl⟩
theorem dX12_worked_48 : dec cX12_worked 48 1 49 (.iadd) := ⟨by decide +kernel, rfl⟩
theorem dX12_worked_49 : dec cX12_worked 49 1 50 (.iaload) := ⟨by decide +kernel, rfl⟩
theorem dX12_worked_50 : dec cX12_worked 50 2 52 (.istore 6) := ⟨by decide +kernel, rfl⟩
theorem dX12_worked_52 : dec cX12_worked 52 1 53 (.aload_n 0) := ⟨by decide +kernel, rfl⟩
theorem dX12_worked_53 : dec cX12_worked 53 3 56 (.getfield 7) := ⟨by decide +kernel, rfl⟩
theorem dX12_worked_56 : dec cX12_worked 56 1 57 (.iload_n 3) := ⟨by decide +kernel, rfl⟩
theorem dX12_worked_57 : dec cX12_worked 57 1 58 (.iconst 2) := ⟨by decide +kernel, rfl⟩
theorem dX12_worked_58 : dec cX12_worked 58 1 59 (.iadd) := ⟨by decide +kernel, rfl⟩
theorem dX12_worked_59 : dec cX12_worked 59 1 60 (.iconst 2) := ⟨by decide +kernel, rfl⟩
theorem dX12_worked_60 : dec cX12_worked 60 2 62 (.iload 5) := ⟨by decide +kernel, rfl⟩
theorem dX12_worked_62 : dec cX12_worked 62 1 63 (.imul) := ⟨by decide +kernel, rfl⟩
theorem dX12_worked_63 : dec cX12_worked 63 1 64 (.iadd) := ⟨by decide +kernel, rfl⟩
theorem dX12_worked_64 : dec cX12_worked 64 1 65 (.iaload) := ⟨by decide +kernel, rfl⟩
theorem dX12_worked_65 : dec cX12_worked 65 2 67 (.istore 7) := ⟨by decide +kernel, rfl⟩
theorem dX12_worked_67 : dec cX12_worked 67 2 69 (.iload 6) := ⟨by decide +kernel, rfl⟩
theorem dX12_worked_69 : dec cX12_worked 69 3 72 (.ifCond .eq 9) := ⟨by decide +kernel, rfl⟩
theorem dX12_worked_72 : dec cX12_worked 72 2 74 (.iload 6) := ⟨by decide +kernel, rfl⟩
theorem dX12_worked_74 : dec cX12_worked 74 1 75 (.iconst 1) := ⟨by decide +kernel, rfl⟩
theorem dX12_worked_75 : dec cX12_worked 75 3 78 (.if_icmp .ne 33) := ⟨by decide +kernel, rfl⟩
theorem dX12_worked_78 : dec cX12_worked 78 1 79 (.aload_n 0) := ⟨by decide +kernel, rfl⟩
theorem dX12_worked_79 : dec cX12_worked 79 3 82 (.getfield 25) := ⟨by decide +kernel, rfl⟩
theorem dX12_worked_82 : dec cX12_worked 82 2 84 (.iload 4) := ⟨by decide +kernel, rfl⟩
theorem dX12_worked_84 : dec cX12_worked 84 2 86 (.iload 6) := ⟨by decide +kernel, rfl⟩
theorem dX12_worked_86 : dec cX12_worked 86 3 89 (.ifCond .ne 8) := ⟨by decide +kernel, rfl⟩
theorem dX12_worked_89 : dec cX12_worked 89 2 91 (.iload 7) := ⟨by decide +kernel, rfl⟩
theorem dX12_worked_91 : dec cX12_worked 91 3 94 (.goto 10) := ⟨by decide +kernel, rfl⟩
theorem dX12_worked_94 : dec cX12_worked 94 1 95 (.aload_n 0) := ⟨by decide +kernel, rfl⟩
theorem dX12_worked_95 : dec cX12_worked 95 3 98 (.getfield 22) := ⟨by decide +kernel, rfl⟩
theorem dX12_worked_98 : dec cX12_worked 98 2 100 (.iload 7) := ⟨by decide +kernel, rfl⟩
theorem dX12_worked_100 : dec cX12_worked 100 1 101 (.iaload) := ⟨by decide +kernel, rfl⟩
theorem dX12_worked_101 : dec cX12_worked 101 1 102 (.iastore) := ⟨by decide +kernel, rfl⟩
theorem dX12_worked_102 : dec cX12_worked 102 3 105 (.iinc 4 1) := ⟨by decide +kernel, rfl⟩
theorem dX12_worked_105 : dec cX12_worked 105 3 108 (.goto 116) := ⟨by decide +kernel, rfl⟩
theorem dX12_worked_108 : dec cX12_worked 108 2 110 (.iload 6) := ⟨by decide +kernel, rfl⟩
theorem dX12_worked_110 : dec cX12_worked 110 1 111 (.iconst 2) := ⟨by decide +kernel, rfl⟩
theorem dX12_worked_111 : dec cX12_worked 111 3 114 (.if_icmp .ne 25) := ⟨by decide +kernel, rfl⟩
theorem dX12_worked_114 : dec cX12_worked 114 1 115 (.aload_n 0) := ⟨by decide +kernel, rfl⟩
theorem dX12_worked_115 : dec cX12_worked 115 3 118 (.getfield 25) := ⟨by decide +kernel, rfl⟩
theorem dX12_worked_118 : dec cX12_worked 118 2 120 (.iload 4) := ⟨by decide +kernel, rfl⟩
theorem dX12_worked_120 : dec cX12_worked 120 1 121 (.iconst 1) := ⟨by decide +kernel, rfl⟩
theorem dX12_worked_121 : dec cX12_worked 121 1 122 (.isub) := ⟨by decide +kernel, rfl⟩
theorem dX12_worked_122 : dec cX12_worked 122 1 123 (.aload_n 0) := ⟨by decide +kernel, rfl⟩
theorem dX12_worked_123 : dec cX12_worked 123 3 126 (.getfield 25) := ⟨by decide +kernel, rfl⟩
theorem dX12_worked_126 : dec cX12_worked 126 2 128 (.iload 4) := ⟨by decide +kernel, rfl⟩
theorem dX12_worked_128 : dec cX12_worked 128 1 129 (.iconst 1) := ⟨by decide +kernel, rfl⟩
theorem dX12_worked_129 : dec cX12_worked 129 1 130 (.isub) := ⟨by decide +kernel, rfl⟩
theorem dX12_worked_130 : dec cX12_worked 130 1 131 (.iaload) := ⟨by decide +kernel, rfl⟩
theorem dX12_worked_131 : dec cX12_worked 131 1 132 (.ineg) := ⟨by decide +kernel, rfl⟩
theorem dX12_worked_132 : dec cX12_worked 132 1 133 (.iastore) := ⟨by decide +kernel, rfl⟩
theorem dX12_worked_133 : dec cX12_worked 133 3 136 (.goto 88) := ⟨by decide +kernel, rfl⟩
theorem dX12_worked_136 : dec cX12_worked 136 2 138 (.iload 6) := ⟨by decide +kernel, rfl⟩
theorem dX12_worked_138 : dec cX12_worked 138 1 139 (.iconst 3) := ⟨by decide +kernel, rfl⟩
theorem dX12_worked_139 : dec cX12_worked 139 3 142 (.if_icmp .ne 39) := ⟨by decide +kernel, rfl⟩
theorem dX12_worked_142 : dec cX12_worked 142 3 145 (.iinc 4 (-1)) := ⟨by decide +kernel, rfl⟩
theorem dX12_worked_145 : dec cX12_worked 145 1 146 (.aload_n 0) := ⟨by decide +kernel, rfl⟩
theorem dX12_worked_146 : dec cX12_worked 146 3 149 (.getfield 25) := ⟨by decide +kernel, rfl⟩
theorem dX12_worked_149 : dec cX12_worked 149 2 151 (.iload 4) := ⟨by decide +kernel, rfl⟩
theorem dX12_worked_151 : dec cX12_worked 151 1 152 (.iconst 1) := ⟨by decide +kernel, rfl⟩
theorem dX12_worked_152 : dec cX12_worked 152 1 153 (.isub) := ⟨by decide +kernel, rfl⟩
theorem dX12_worked_153 : dec cX12_worked 153 2 155 (.iload 7) := ⟨by decide +kernel, rfl⟩
theorem dX12_worked_155 : dec cX12_worked 155 1 156 (.aload_n 0) := ⟨by decide +kernel, rfl⟩
theorem dX12_worked_156 : dec cX12_worked 156 3 159 (.getfield 25) := ⟨by decide +kernel, rfl⟩
theorem dX12_worked_159 : dec cX12_worked 159 2 161 (.iload 4) := ⟨by decide +kernel, rfl⟩
theorem dX12_worked_161 : dec cX12_worked 161 1 162 (.iconst 1) := ⟨by decide +kernel, rfl⟩
theorem dX12_worked_162 : dec cX12_worked 162 1 163 (.isub) := ⟨by decide +kernel, rfl⟩
theorem dX12_worked_163 : dec cX12_worked 163 1 164 (.iaload) := ⟨by decide +kernel, rfl⟩
theorem dX12_worked_164 : dec cX12_worked 164 1 165 (.aload_n 0) := ⟨by decide +kernel, rfl⟩
theorem dX12_worked_165 : dec cX12_worked 165 3 168 (.getfield 25) := ⟨by decide +kernel, rfl⟩
theorem dX12_worked_168 : dec cX12_worked 168 2 170 (.iload 4) := ⟨by decide +kernel, rfl⟩
theorem dX12_worked_170 : dec cX12_worked 170 1 171 (.iaload) := ⟨by decide +kernel, rfl⟩
theorem dX12_worked_171 : dec cX12_worked 171 3 174 (.invokestatic 152) := ⟨by decide +kernel, rfl⟩
theorem dX12_worked_174 : dec cX12_worked 174 1 175 (.iastore) := ⟨by decide +kernel, rfl⟩
theorem dX12_worked_175 : dec cX12_worked 175 3 178 (.goto 46) := ⟨by decide +kernel, rfl⟩
theorem dX12_worked_178 : dec cX12_worked 178 3 181 (.iinc 4 (-2)) := ⟨by decide +kernel, rfl⟩
theorem dX12_worked_181 : dec cX12_worked 181 1 182 (.aload_n 0) := ⟨by decide +kernel, rfl⟩
theorem dX12_worked_182 : dec cX12_worked 182 3 185 (.getfield 25) := ⟨by decide +kernel, rfl⟩
theorem dX12_worked_185 : dec cX12_worked 185 2 187 (.iload 4) := ⟨by decide +kernel, rfl⟩
theorem dX12_worked_187 : dec cX12_worked 187 1 188 (.iconst 1) := ⟨by decide +kernel, rfl⟩
theorem dX12_worked_188 : dec cX12_worked 188 1 189 (.isub) := ⟨by decide +kernel, rfl⟩
theorem dX12_worked_189 : dec cX12_worked 189 1 190 (.aload_n 0) := ⟨by decide +kernel, rfl⟩
theorem dX12_worked_190 : dec cX12_worked 190 3 193 (.getfield 25) := ⟨by decide +kernel, rfl⟩
theorem dX12_worked_193 : dec cX12_worked 193 2 195 (.iload 4) := ⟨by decide +kernel, rfl⟩
theorem dX12_worked_195 : dec cX12_worked 195 1 196 (.iconst 1) := ⟨by decide +kernel, rfl⟩
theorem dX12_worked_196 : dec cX12_worked 196 1 197 (.isub) := ⟨by decide +kernel, rfl⟩
theorem dX12_worked_197 : dec cX12_worked 197 1 198 (.iaload) := ⟨by decide +kernel, rfl⟩
theorem dX12_worked_198 : dec cX12_worked 198 3 201 (.ifCond .eq 13) := ⟨by decide +kernel, rfl⟩
theorem dX12_worked_201 : dec cX12_worked 201 1 202 (.aload_n 0) := ⟨by decide +kernel, rfl⟩
theorem dX12_worked_202 : dec cX12_worked 202 3 205 (.getfield 25) := ⟨by decide +kernel, rfl⟩
theorem dX12_worked_205 : dec cX12_worked 205 2 207 (.iload 4) := ⟨by decide +kernel, rfl⟩
theorem dX12_worked_207 : dec cX12_worked 207 1 208 (.iaload) := ⟨by decide +kernel, rfl⟩
theorem dX12_worked_208 : dec cX12_worked 208 3 211 (.goto 12) := ⟨by decide +kernel, rfl⟩
theorem dX12_worked_211 : dec cX12_worked 211 1 212 (.aload_n 0) := ⟨by decide +kernel, rfl⟩
theorem dX12_worked_212 : dec cX12_worked 212 3 215 (.getfield 25) := ⟨by decide +kernel, rfl⟩
theorem dX12_worked_215 : dec cX12_worked 215 2 217 (.iload 4) := ⟨by decide +kernel, rfl⟩
theorem dX12_worked_217 : dec cX12_worked 217 1 218 (.iconst 1) := ⟨by decide +kernel, rfl⟩
theorem dX12_worked_218 : dec cX12_worked 218 1 219 (.iadd) := ⟨by decide +kernel, rfl⟩
theorem dX12_worked_219 : dec cX12_worked 219 1 220 (.iaload) := ⟨by decide +kernel, rfl⟩
theorem dX12_worked_220 : dec cX12_worked 220 1 221 (.iastore) := ⟨by decide +kernel, rfl⟩
theorem dX12_worked_221 : dec cX12_worked 221 3 224 (.iinc 5 1) := ⟨by decide +kernel, rfl⟩
theorem dX12_worked_224 : dec cX12_worked 224 3 227 (.goto (-198)) := ⟨by decide +kernel, rfl⟩
theorem dX12_worked_227 : dec cX12_worked 227 1 228 (.aload_n 0) := ⟨by decide +kernel, rfl⟩
theorem dX12_worked_228 : dec cX12_worked 228 3 231 (.getfield 25) := ⟨by decide +kernel, rfl⟩
theorem dX12_worked_231 : dec cX12_worked 231 1 232 (.iconst 0) := ⟨by decide +kernel, rfl⟩
theorem dX12_worked_232 : dec cX12_worked 232 1 233 (.iaload) := ⟨by decide +kernel, rfl⟩
theorem dX12_worked_233 : dec cX12_worked 233 1 234 (.ireturn) := ⟨by decide +kernel, rfl⟩
set_option maxHeartbeats 4000000 in
set_option maxRecDepth 100000 in
theorem tX12_worked_J101 {X : Cx} {Y : Yx} {M0 : Mem} (hC : OKX X Y RX12 cX12_worked 8 (some .int) rmX12_worked) (hF : Y.2.2.2.2 = true) (hL : Lay M0) (Q : Int → Mem → Prop) (C26 : Int → Int → Mem → Prop)  (a0 : Nat) (x3 : Int) (x4 : Int) (x5 : Int) (xs0 : Int) (xs1 : Int) (as2 : Nat) (qa0 : 0 < a0 ∧ M0 0 a0 = kO 12) (qas2 : 0 < as2 ∧ M0 0 as2 = kA 0 60) (hC26 : ∀ (x4 : Int) (x5 : Int) (M : Mem), C26 x4 x5 M → WW X Y 8 rmX12_worked (QI Q) M0 0 0 26 [(0, vR Y.1 a0), (3, vI x3), (4, vI x4), (5, vI x5)] [] M) (M : Mem) (h : wX12_worked_J101 Q C26 a0 x3 x4 x5 xs0 xs1 as2 M) : WW X Y 8 rmX12_worked (QI Q) M0 0 0 101 [(0, vR Y.1 a0), (3, vI x3), (4, vI x4), (5, vI x5)] [vI xs0, vI xs1, vR Y.1 as2] M := by
  unfold wX12_worked_J101 at h
  obtain ⟨i_16, h⟩ := h
  refine r_iast hC i_16 qas2.1 qas2.2 (by decide) dX12_worked_101 ?_
  refine r_nameM h (fun M_17 h => ?_)
  refine let_elim h (fun x4_18 e_19 h => ?_)
  refine r_iinc (lv' := [(4, vI x4_18), (0, vR Y.1 a0), (3, vI x3), (5, vI x5)]) hC 2 dX12_worked_102 rfl (by decide) e_19 rfl ?_
  refine r_goto hC 221 dX12_worked_105 (by decide) ?_
  refine let_elim h (fun x5_20 e_21 h => ?_)
  refine r_iinc (lv' := [(5, vI x5_20), (4, vI x4_18), (0, vR Y.1 a0), (3, vI x3)]) hC 3 dX12_worked_221 rfl (by decide) e_21 rfl ?_
  refine r_goto hC 26 dX12_worked_224 (by decide) ?_
  refine r_sub [2, 3, 1, 0] rfl ?_
  exact hC26 _ _ _ h
set_option maxHeartbeats 4000000 in
set_option maxRecDepth 100000 in
theorem tX12_worked_J78 {X : Cx} {Y : Yx} {M0 : Mem} (hC : OKX X Y RX12 cX12_worked 8 (some .int) rmX12_worked) (hF : Y.2.2.2.2 = true) (hL : Lay M0) (Q : Int → Mem → Prop) (C26 : Int → Int → Mem → Prop)  (a0 : Nat) (x3 : Int) (x4 : Int) (x5 : Int) (x6 : Int) (x7 : Int) (qa0 : 0 < a0 ∧ M0 0 a0 = kO 12) (hC26 : ∀ (x4 : Int) (x5 : Int) (M : Mem), C26 x4 x5 M → WW X Y 8 rmX12_worked (QI Q) M0 0 0 26 [(0, vR Y.1 a0), (3, vI x3), (4, vI x4), (5, vI x5)] [] M) (M : Mem) (h : wX12_worked_J78 Q C26 a0 x3 x4 x5 x6 x7 M) : WW X Y 8 rmX12_worked (QI Q) M0 0 0 78 [(0, vR Y.1 a0), (3, vI x3), (4, vI x4), (5, vI x5), (6, vI x6), (7, vI x7)] [] M := by
  unfold wX12_worked_J78 at h
  refine r_aload_n hC 0 dX12_worked_78 rfl rfl ?_
  have q_13 : 0 < a0 + 6 ∧ M0 0 (a0 + 6) = kA 0 60 := lay_f0 (a := a0) hL qa0 fm_12_11
  refine r_getR0 (a' := a0 + 6) hC fg_X12_25 rfl hF fm_12_11 qa0.1 qa0.2 rfl dX12_worked_79 ?_
  refine r_iload hC 2 dX12_worked_82 rfl ?_
  refine r_iload hC 4 dX12_worked_84 rfl ?_
  refine r_if_ne hC 94 rfl dX12_worked_86 (by decide) (fun cq => ?_) (fun cq => ?_)
  · replace h := h.2 cq
    refine r_aload_n hC 0 dX12_worked_94 rfl rfl ?_
    have q_14 : 0 < a0 + 5 ∧ M0 0 (a0 + 5) = kA 0 128 := lay_f0 (a := a0) hL qa0 fm_12_10
    refine r_getR0 (a' := a0 + 5) hC fg_X12_22 rfl hF fm_12_10 qa0.1 qa0.2 rfl dX12_worked_95 ?_
    refine r_iload hC 5 dX12_worked_98 rfl ?_
    obtain ⟨i_15, h⟩ := h
    refine r_iald hC i_15 q_14.1 q_14.2 (by decide) dX12_worked_100 ?_
    refine r_sub [0, 1, 2, 3] rfl ?_
    exact tX12_worked_J101 hC hF hL Q _  _ _ _ _ _ _ _ qa0 q_13 hC26 _ h
  · replace h := h.1 cq
    refine r_iload hC 5 dX12_worked_89 rfl ?_
    refine r_goto hC 101 dX12_worked_91 (by decide) ?_
    refine r_sub [0, 1, 2, 3] rfl ?_
    exact tX12_worked_J101 hC hF hL Q _  _ _ _ _ _ _ _ qa0 q_13 hC26 _ h
set_option maxHeartbeats 4000000 in
set_option maxRecDepth 100000 in
theorem tX12_worked_J220 {X : Cx} {Y : Yx} {M0 : Mem} (hC : OKX X Y RX12 cX12_worked 8 (some .int) rmX12_worked) (hF : Y.2.2.2.2 = true) (hL : Lay M0) (Q : Int → Mem → Prop) (C26 : Int → Int → Mem → Prop)  (a0 : Nat) (x3 : Int) (x4 : Int) (x5 : Int) (xs0 : Int) (xs1 : Int) (as2 : Nat) (qa0 : 0 < a0 ∧ M0 0 a0 = kO 12) (qas2 : 0 < as2 ∧ M0 0 as2 = kA 0 60) (hC26 : ∀ (x4 : Int) (x5 : Int) (M : Mem), C26 x4 x5 M → WW X Y 8 rmX12_worked (QI Q) M0 0 0 26 [(0, vR Y.1 a0), (3, vI x3), (4, vI x4), (5, vI x5)] [] M) (M : Mem) (h : wX12_worked_J220 Q C26 a0 x3 x4 x5 xs0 xs1 as2 M) : WW X Y 8 rmX12_worked (QI Q) M0 0 0 220 [(0, vR Y.1 a0), (3, vI x3), (4, vI x4), (5, vI x5)] [vI xs0, vI xs1, vR Y.1 as2] M := by
  unfold wX12_worked_J220 at h
  obtain ⟨i_29, h⟩ := h
  refine r_iast hC i_29 qas2.1 qas2.2 (by decide) dX12_worked_220 ?_
  refine r_nameM h (fun M_30 h => ?_)
  refine let_elim h (fun x5_31 e_32 h => ?_)
  refine r_iinc (lv' := [(5, vI x5_31), (0, vR Y.1 a0), (3, vI x3), (4, vI x4)]) hC 3 dX12_worked_221 rfl (by decide) e_32 rfl ?_
  refine r_goto hC 26 dX12_worked_224 (by decide) ?_
  refine r_sub [1, 2, 3, 0] rfl ?_
  exact hC26 _ _ _ h
set_option maxHeartbeats 4000000 in
set_option maxRecDepth 100000 in
theorem tX12_worked_L26 {X : Cx} {Y : Yx} {M0 : Mem} (hC : OKX X Y RX12 cX12_worked 8 (some .int) rmX12_worked) (hF : Y.2.2.2.2 = true) (hL : Lay M0) (Q : Int → Mem → Prop)  (a0 : Nat) (x3 : Int) (qa0 : 0 < a0 ∧ M0 0 a0 = kO 12)  : ∀ (N : Nat) (x4 : Int) (x5 : Int) (M : Mem) (_ : wX12_worked_L26 Q  a0 x3 N x4 x5 M), WW X Y 8 rmX12_worked (QI Q) M0 0 0 26 [(0, vR Y.1 a0), (3, vI x3), (4, vI x4), (5, vI x5)] [] M := by
  intro N
  induction N with
  | zero =>
    intro x4 x5 M h
    exact h.elim
  | succ N ih =>
    intro x4 x5 M h
    unfold wX12_worked_L26 at h
    refine r_iload hC 3 dX12_worked_26 rfl ?_
    refine r_aload_n hC 0 dX12_worked_28 rfl rfl ?_
    have q_4 : 0 < a0 + 1 ∧ M0 0 (a0 + 1) = kA 0 1522 := lay_f0 (a := a0) hL qa0 fm_12_0
    refine r_getR0 (a' := a0 + 1) hC fg_X12_7 rfl hF fm_12_0 qa0.1 qa0.2 rfl dX12_worked_29 ?_
    refine r_iload_n hC 1 dX12_worked_32 rfl rfl ?_
    obtain ⟨i_5, h⟩ := h
    refine r_iald hC i_5 q_4.1 q_4.2 (by decide) dX12_worked_33 ?_
    refine r_icmp_ge hC 227 rfl rfl dX12_worked_34 (by decide) (fun cq => ?_) (fun cq => ?_)
    · replace h := h.1 cq
      refine r_aload_n hC 0 dX12_worked_227 rfl rfl ?_
      have q_6 : 0 < a0 + 6 ∧ M0 0 (a0 + 6) = kA 0 60 := lay_f0 (a := a0) hL qa0 fm_12_11
      refine r_getR0 (a' := a0 + 6) hC fg_X12_25 rfl hF fm_12_11 qa0.1 qa0.2 rfl dX12_worked_228 ?_
      refine r_iconst hC dX12_worked_231 ?_
      refine r_iald hC ⟨by decide +kernel, by decide +kernel⟩ q_6.1 q_6.2 (by decide) dX12_worked_232 ?_
      exact r_iret hC (Nat.zero_le _) (Nat.zero_le _) dX12_worked_233 ⟨_, rfl, h⟩
    · replace h := h.2 cq
      refine r_aload_n hC 0 dX12_worked_37 rfl rfl ?_
      have q_7 : 0 < a0 + 1 ∧ M0 0 (a0 + 1) = kA 0 1522 := lay_f0 (a := a0) hL qa0 fm_12_0
      refine r_getR0 (a' := a0 + 1) hC fg_X12_7 rfl hF fm_12_0 qa0.1 qa0.2 rfl dX12_worked_38 ?_
      refine r_iload_n hC 1 dX12_worked_41 rfl rfl ?_
      refine r_iconst hC dX12_worked_42 ?_
      refine r_iadd hC dX12_worked_43 ?_
      refine r_iconst hC dX12_worked_44 ?_
      refine r_iload hC 3 dX12_worked_45 rfl ?_
      refine r_imul hC dX12_worked_47 ?_
      refine r_iadd hC dX12_worked_48 ?_
      obtain ⟨i_8, h⟩ := h
      refine r_iald hC i_8 q_7.1 q_7.2 (by decide) dX12_worked_49 ?_
      refine r_nameI h (fun x6_9 h => ?_)
      refine r_istore (lv' := [(6, vI x6_9), (0, vR Y.1 a0), (3, vI x3), (4, vI x4), (5, vI x5)]) hC dX12_worked_50 (by decide) rfl ?_
      refine r_aload_n hC 1 dX12_worked_52 rfl rfl ?_
      have q_10 : 0 < a0 + 1 ∧ M0 0 (a0 + 1) = kA 0 1522 := lay_f0 (a := a0) hL qa0 fm_12_0
      refine r_getR0 (a' := a0 + 1) hC fg_X12_7 rfl hF fm_12_0 qa0.1 qa0.2 rfl dX12_worked_53 ?_
      refine r_iload_n hC 2 dX12_worked_56 rfl rfl ?_
      refine r_iconst hC dX12_worked_57 ?_
      refine r_iadd hC dX12_worked_58 ?_
      refine r_iconst hC dX12_worked_59 ?_
      refine r_iload hC 4 dX12_worked_60 rfl ?_
      refine r_imul hC dX12_worked_62 ?_
      refine r_iadd hC dX12_worked_63 ?_
      obtain ⟨i_11, h⟩ := h
      refine r_iald hC i_11 q_10.1 q_10.2 (by decide) dX12_worked_64 ?_
      refine r_nameI h (fun x7_12 h => ?_)
      refine r_istore (lv' := [(7, vI x7_12), (6, vI x6_9), (0, vR Y.1 a0), (3, vI x3), (4, vI x4), (5, vI x5)]) hC dX12_worked_65 (by decide) rfl ?_
      refine r_iload hC 1 dX12_worked_67 rfl ?_
      refine r_if_eq hC 78 rfl dX12_worked_69 (by decide) (fun cq => ?_) (fun cq => ?_)
      · replace h := h.1 cq
        refine r_sub [2, 3, 4, 5, 1, 0] rfl ?_
        exact tX12_worked_J78 hC hF hL Q _  _ _ _ _ _ _ qa0 ih _ h
      · replace h := h.2 cq
        refine r_iload hC 1 dX12_worked_72 rfl ?_
        refine r_iconst hC dX12_worked_74 ?_
        refine r_icmp_ne hC 108 rfl bmL_1 dX12_worked_75 (by decide) (fun cq => ?_) (fun cq => ?_)
        · replace h := h.2 cq
          refine r_iload hC 1 dX12_worked_108 rfl ?_
          refine r_iconst hC dX12_worked_110 ?_
          refine r_icmp_ne hC 136 rfl bmL_2 dX12_worked_111 (by decide) (fun cq => ?_) (fun cq => ?_)
          · replace h := h.2 cq
            refine r_iload hC 1 dX12_worked_136 rfl ?_
            refine r_iconst hC dX12_worked_138 ?_
            refine r_icmp_ne hC 178 rfl bmL_3 dX12_worked_139 (by decide) (fun cq => ?_) (fun cq => ?_)
            · replace h := h.2 cq
              refine let_elim h (fun x4_22 e_23 h => ?_)
              refine r_iinc (lv' := [(4, vI x4_22), (7, vI x7_12), (6, vI x6_9), (0, vR Y.1 a0), (3, vI x3), (5, vI x5)]) hC 4 dX12_worked_178 rfl (by decide) e_23 rfl ?_
              refine r_aload_n hC 3 dX12_worked_181 rfl rfl ?_
              have q_24 : 0 < a0 + 6 ∧ M0 0 (a0 + 6) = kA 0 60 := lay_f0 (a := a0) hL qa0 fm_12_11
              refine r_getR0 (a' := a0 + 6) hC fg_X12_25 rfl hF fm_12_11 qa0.1 qa0.2 rfl dX12_worked_182 ?_
              refine r_iload hC 0 dX12_worked_185 rfl ?_
              refine r_iconst hC dX12_worked_187 ?_
              refine r_isub hC dX12_worked_188 ?_
              refine r_aload_n hC 3 dX12_worked_189 rfl rfl ?_
              have q_25 : 0 < a0 + 6 ∧ M0 0 (a0 + 6) = kA 0 60 := lay_f0 (a := a0) hL qa0 fm_12_11
              refine r_getR0 (a' := a0 + 6) hC fg_X12_25 rfl hF fm_12_11 qa0.1 qa0.2 rfl dX12_worked_190 ?_
              refine r_iload hC 0 dX12_worked_193 rfl ?_
              refine r_iconst hC dX12_worked_195 ?_
              refine r_isub hC dX12_worked_196 ?_
              obtain ⟨i_26, h⟩ := h
              refine r_iald hC i_26 q_25.1 q_25.2 (by decide) dX12_worked_197 ?_
              refine r_if_eq hC 211 rfl dX12_worked_198 (by decide) (fun cq => ?_) (fun cq => ?_)
              · replace h := h.1 cq
                refine r_aload_n hC 3 dX12_worked_211 rfl rfl ?_
                have q_27 : 0 < a0 + 6 ∧ M0 0 (a0 + 6) = kA 0 60 := lay_f0 (a := a0) hL qa0 fm_12_11
                refine r_getR0 (a' := a0 + 6) hC fg_X12_25 rfl hF fm_12_11 qa0.1 qa0.2 rfl dX12_worked_212 ?_
                refine r_iload hC 0 dX12_worked_215 rfl ?_
                refine r_iconst hC dX12_worked_217 ?_
                refine r_iadd hC dX12_worked_218 ?_
                obtain ⟨i_28, h⟩ := h
                refine r_iald hC i_28 q_27.1 q_27.2 (by decide) dX12_worked_219 ?_
                refine r_sub [3, 4, 0, 5] rfl ?_
                exact tX12_worked_J220 hC hF hL Q _  _ _ _ _ _ _ _ qa0 q_24 ih _ h
              · replace h := h.2 cq
                refine r_aload_n hC 3 dX12_worked_201 rfl rfl ?_
                have q_33 : 0 < a0 + 6 ∧ M0 0 (a0 + 6) = kA 0 60 := lay_f0 (a := a0) hL qa0 fm_12_11
                refine r_getR0 (a' := a0 + 6) hC fg_X12_25 rfl hF fm_12_11 qa0.1 qa0.2 rfl dX12_worked_202 ?_
                refine r_iload hC 0 dX12_worked_205 rfl ?_
                obtain ⟨i_34, h⟩ := h
                refine r_iald hC i_34 q_33.1 q_33.2 (by decide) dX12_worked_207 ?_
                refine r_goto hC 220 dX12_worked_208 (by decide) ?_
                refine r_sub [3, 4, 0, 5] rfl ?_
                exact tX12_worked_J220 hC hF hL Q _  _ _ _ _ _ _ _ qa0 q_24 ih _ h
            · replace h := h.1 cq
              refine let_elim h (fun x4_35 e_36 h => ?_)
              refine r_iinc (lv' := [(4, vI x4_35), (7, vI x7_12), (6, vI x6_9), (0, vR Y.1 a0), (3, vI x3), (5, vI x5)]) hC 4 dX12_worked_142 rfl (by decide) e_36 rfl ?_
              refine r_aload_n hC 3 dX12_worked_145 rfl rfl ?_
              have q_37 : 0 < a0 + 6 ∧ M0 0 (a0 + 6) = kA 0 60 := lay_f0 (a := a0) hL qa0 fm_12_11
              refine r_getR0 (a' := a0 + 6) hC fg_X12_25 rfl hF fm_12_11 qa0.1 qa0.2 rfl dX12_worked_146 ?_
              refine r_iload hC 0 dX12_worked_149 rfl ?_
              refine r_iconst hC dX12_worked_151 ?_
              refine r_isub hC dX12_worked_152 ?_
              refine r_iload hC 1 dX12_worked_153 rfl ?_
              refine r_aload_n hC 3 dX12_worked_155 rfl rfl ?_
              have q_38 : 0 < a0 + 6 ∧ M0 0 (a0 + 6) = kA 0 60 := lay_f0 (a := a0) hL qa0 fm_12_11
              refine r_getR0 (a' := a0 + 6) hC fg_X12_25 rfl hF fm_12_11 qa0.1 qa0.2 rfl dX12_worked_156 ?_
              refine r_iload hC 0 dX12_worked_159 rfl ?_
              refine r_iconst hC dX12_worked_161 ?_
              refine r_isub hC dX12_worked_162 ?_
              obtain ⟨i_39, h⟩ := h
              refine r_iald hC i_39 q_38.1 q_38.2 (by decide) dX12_worked_163 ?_
              refine r_aload_n hC 3 dX12_worked_164 rfl rfl ?_
              have q_40 : 0 < a0 + 6 ∧ M0 0 (a0 + 6) = kA 0 60 := lay_f0 (a := a0) hL qa0 fm_12_11
              refine r_getR0 (a' := a0 + 6) hC fg_X12_25 rfl hF fm_12_11 qa0.1 qa0.2 rfl dX12_worked_165 ?_
              refine r_iload hC 0 dX12_worked_168 rfl ?_
              obtain ⟨i_41, h⟩ := h
              refine r_iald hC i_41 q_40.1 q_40.2 (by decide) dX12_worked_170 ?_
              refine r_callS (As := [vI x7_12, vI (rd M (a0 + 6) (x4_35 - 1)), vI (rd M (a0 + 6) x4_35)]) (st := [vI (x4_35 - 1), vR Y.1 (a0 + 6)]) hC cw_X12_152 rfl rfl (Nat.le_of_ble_eq_true rfl) ⟨Nat.le_of_ble_eq_true rfl, Nat.le_of_ble_eq_true rfl⟩ ⟨Nat.le_of_ble_eq_true rfl, Nat.le_of_ble_eq_true rfl⟩ dX12_worked_171 (fun hk => mX12_joined Y hF _ _ _ _ _ _  h) (fun v M_42 h => ?_)
              obtain ⟨r_43, rfl, h⟩ := h
              obtain ⟨i_44, h⟩ := h
              refine r_iast hC i_44 q_37.1 q_37.2 (by decide) dX12_worked_174 ?_
              refine r_nameM h (fun M_45 h => ?_)
              refine r_goto hC 221 dX12_worked_175 (by decide) ?_
              refine let_elim h (fun x5_46 e_47 h => ?_)
              refine r_iinc (lv' := [(5, vI x5_46), (4, vI x4_35), (7, vI x7_12), (6, vI x6_9), (0, vR Y.1 a0), (3, vI x3)]) hC 5 dX12_worked_221 rfl (by decide) e_47 rfl ?_
              refine r_goto hC 26 dX12_worked_224 (by decide) ?_
              refine r_sub [4, 5, 1, 0] rfl ?_
              exact ih _ _ _ h
          · replace h := h.1 cq
            refine r_aload_n hC 2 dX12_worked_114 rfl rfl ?_
            have q_48 : 0 < a0 + 6 ∧ M0 0 (a0 + 6) = kA 0 60 := lay_f0 (a := a0) hL qa0 fm_12_11
            refine r_getR0 (a' := a0 + 6) hC fg_X12_25 rfl hF fm_12_11 qa0.1 qa0.2 rfl dX12_worked_115 ?_
            refine r_iload hC 4 dX12_worked_118 rfl ?_
            refine r_iconst hC dX12_worked_120 ?_
            refine r_isub hC dX12_worked_121 ?_
            refine r_aload_n hC 2 dX12_worked_122 rfl rfl ?_
            have q_49 : 0 < a0 + 6 ∧ M0 0 (a0 + 6) = kA 0 60 := lay_f0 (a := a0) hL qa0 fm_12_11
            refine r_getR0 (a' := a0 + 6) hC fg_X12_25 rfl hF fm_12_11 qa0.1 qa0.2 rfl dX12_worked_123 ?_
            refine r_iload hC 4 dX12_worked_126 rfl ?_
            refine r_iconst hC dX12_worked_128 ?_
            refine r_isub hC dX12_worked_129 ?_
            obtain ⟨i_50, h⟩ := h
            refine r_iald hC i_50 q_49.1 q_49.2 (by decide) dX12_worked_130 ?_
            refine r_ineg hC dX12_worked_131 ?_
            obtain ⟨i_51, h⟩ := h
            refine r_iast hC i_51 q_48.1 q_48.2 (by decide) dX12_worked_132 ?_
            refine r_nameM h (fun M_52 h => ?_)
            refine r_goto hC 221 dX12_worked_133 (by decide) ?_
            refine let_elim h (fun x5_53 e_54 h => ?_)
            refine r_iinc (lv' := [(5, vI x5_53), (7, vI x7_12), (6, vI x6_9), (0, vR Y.1 a0), (3, vI x3), (4, vI x4)]) hC 5 dX12_worked_221 rfl (by decide) e_54 rfl ?_
            refine r_goto hC 26 dX12_worked_224 (by decide) ?_
            refine r_sub [3, 4, 5, 0] rfl ?_
            exact ih _ _ _ h
        · replace h := h.1 cq
          refine r_sub [2, 3, 4, 5, 1, 0] rfl ?_
          exact tX12_worked_J78 hC hF hL Q _  _ _ _ _ _ _ qa0 ih _ h
set_option maxHeartbeats 4000000 in
set_option maxRecDepth 100000 in
theorem mX12_worked (Y : Yx) (hF : Y.2.2.2.2 = true) (l : Launch) (a0 : Nat) (x1 : Int) (x2 : Int) (M0 : Mem) (Q : Int → Mem → Prop) (qa0 : 0 < a0 ∧ M0 0 a0 = kO 12) (h : wX12_worked a0 x1 x2 M0 Q) : CT Y l yX12_worked cX12_worked 8 (some .int) rmX12_worked [vR Y.1 a0, vI x1, vI x2] M0 (QI Q) := by
  unfold wX12_worked at h
  refine ct_intro (by decide) (Nat.le_of_ble_eq_true rfl) ?_
  intro X hXl hC hL0
  have hL := hL0 hF
  change OKX X Y RX12 cX12_worked 8 (some .int) rmX12_worked at hC
  change WW X Y 8 rmX12_worked (QI Q) M0 0 0 0 [(0, vR Y.1 a0), (1, vI x1), (2, vI x2)] [] M0
  refine r_sipush hC (by decide +kernel) dX12_worked_0 ?_
  refine r_bipush hC (by decide +kernel) dX12_worked_3 ?_
  refine r_iload_n hC 1 dX12_worked_5 rfl rfl ?_
  refine r_imul hC dX12_worked_6 ?_
  refine r_iadd hC dX12_worked_7 ?_
  refine r_nameI h (fun x3_1 h => ?_)
  refine r_istore_n (lv' := [(3, vI x3_1), (0, vR Y.1 a0), (1, vI x1), (2, vI x2)]) hC dX12_worked_8 rfl (by decide) rfl ?_
  refine r_aload_n hC 1 dX12_worked_9 rfl rfl ?_
  have q_2 : 0 < a0 + 1 ∧ M0 0 (a0 + 1) = kA 0 1522 := lay_f0 (a := a0) hL qa0 fm_12_0
  refine r_getR0 (a' := a0 + 1) hC fg_X12_7 rfl hF fm_12_0 qa0.1 qa0.2 rfl dX12_worked_10 ?_
  refine r_iload_n hC 0 dX12_worked_13 rfl rfl ?_
  obtain ⟨i_3, h⟩ := h
  refine r_iald hC i_3 q_2.1 q_2.2 (by decide) dX12_worked_14 ?_
  refine r_if_ne hC 20 rfl dX12_worked_15 (by decide) (fun cq => ?_) (fun cq => ?_)
  · replace h := h.2 cq
    refine r_iconst hC dX12_worked_20 ?_
    refine r_istore (lv' := [(4, vI 0), (3, vI x3_1), (0, vR Y.1 a0), (1, vI x1), (2, vI x2)]) hC dX12_worked_21 (by decide) rfl ?_
    refine r_iconst hC dX12_worked_23 ?_
    refine r_istore (lv' := [(5, vI 0), (4, vI 0), (3, vI x3_1), (0, vR Y.1 a0), (1, vI x1), (2, vI x2)]) hC dX12_worked_24 (by decide) rfl ?_
    refine r_sub [3, 2, 1, 0] rfl ?_
    obtain ⟨N_55, h⟩ := h
    refine tX12_worked_L26 hC hF hL Q  _ _ qa0  N_55 _ _ _ h
  · replace h := h.1 cq
    refine r_iload_n hC 3 dX12_worked_18 rfl rfl ?_
    exact r_iret hC (Nat.zero_le _) (Nat.zero_le _) dX12_worked_19 ⟨_, rfl, h⟩
theorem dX12_carried_0 : dec cX12_carried 0 1 1 (.aload_n 0) := ⟨by decide +kernel, rfl⟩
theorem dX12_carried_1 : dec cX12_carried 1 1 2 (.iload_n 1) := ⟨by decide +kernel, rfl⟩
theorem dX12_carried_2 : dec cX12_carried 2 1 3 (.iconst 4) := ⟨by decide +kernel, rfl⟩
theorem dX12_carried_3 : dec cX12_carried 3 3 6 (.invokevirtual 91) := ⟨by decide +kernel, rfl⟩
theorem dX12_carried_6 : dec cX12_carried 6 1 7 (.aload_n 0) := ⟨by decide +kernel, rfl⟩
theorem dX12_carried_7 : dec cX12_carried 7 1 8 (.iload_n 2) := ⟨by decide +kernel, rfl⟩
theorem dX12_carried_8 : dec cX12_carried 8 1 9 (.iconst 4) := ⟨by decide +kernel, rfl⟩
theorem dX12_carried_9 : dec cX12_carried 9 3 12 (.invokevirtual 91) := ⟨by decide +kernel, rfl⟩
theorem dX12_carried_12 : dec cX12_carried 12 1 13 (.ixor) := ⟨by decide +kernel, rfl⟩
theorem dX12_carried_13 : dec cX12_carried 13 3 16 (.invokestatic 156) := ⟨by decide +kernel, rfl⟩
theorem dX12_carried_16 : dec cX12_carried 16 1 17 (.ireturn) := ⟨by decide +kernel, rfl⟩
set_option maxHeartbeats 4000000 in
set_option maxRecDepth 100000 in
theorem mX12_carried (Y : Yx) (hF : Y.2.2.2.2 = true) (l : Launch) (a0 : Nat) (x1 : Int) (x2 : Int) (M0 : Mem) (Q : Int → Mem → Prop) (qa0 : 0 < a0 ∧ M0 0 a0 = kO 12) (h : wX12_carried a0 x1 x2 M0 Q) : CT Y l yX12_carried cX12_carried 3 (some .int) rmX12_carried [vR Y.1 a0, vI x1, vI x2] M0 (QI Q) := by
  unfold wX12_carried at h
  refine ct_intro (by decide) (Nat.le_of_ble_eq_true rfl) ?_
  intro X hXl hC hL0
  have hL := hL0 hF
  change OKX X Y RX12 cX12_carried 3 (some .int) rmX12_carried at hC
  change WW X Y 3 rmX12_carried (QI Q) M0 0 0 0 [(0, vR Y.1 a0), (1, vI x1), (2, vI x2)] [] M0
  refine r_aload_n hC 0 dX12_carried_0 rfl rfl ?_
  refine r_iload_n hC 1 dX12_carried_1 rfl rfl ?_
  refine r_iconst hC dX12_carried_2 ?_
  refine r_callV (As := [vI x1, vI 4]) (st := []) hC cw_X12_91 rfl qa0.1 qa0.2 rfl rfl (Nat.le_of_ble_eq_true rfl) ⟨Nat.le_of_ble_eq_true rfl, Nat.le_of_ble_eq_true rfl⟩ ⟨Nat.le_of_ble_eq_true rfl, Nat.le_of_ble_eq_true rfl⟩ dX12_carried_3 (fun hk => mX12_of Y hF _ _ _ _ _ _ (kqO hk qa0) h) (fun v M_1 h => ?_)
  obtain ⟨r_2, rfl, h⟩ := h
  refine r_aload_n hC 0 dX12_carried_6 rfl rfl ?_
  refine r_iload_n hC 2 dX12_carried_7 rfl rfl ?_
  refine r_iconst hC dX12_carried_8 ?_
  refine r_callV (As := [vI x2, vI 4]) (st := [vI r_2]) hC cw_X12_91 rfl qa0.1 qa0.2 rfl rfl (Nat.le_of_ble_eq_true rfl) ⟨Nat.le_of_ble_eq_true rfl, Nat.le_of_ble_eq_true rfl⟩ ⟨Nat.le_of_ble_eq_true rfl, Nat.le_of_ble_eq_true rfl⟩ dX12_carried_9 (fun hk => mX12_of Y hF _ _ _ _ _ _ (kqO hk qa0) h) (fun v M_3 h => ?_)
  obtain ⟨r_4, rfl, h⟩ := h
  refine r_ixor hC dX12_carried_12 ?_
  refine r_callS (As := [vI (iXor r_2 r_4)]) (st := []) hC cw_X12_156 rfl rfl (Nat.le_of_ble_eq_true rfl) ⟨Nat.le_of_ble_eq_true rfl, Nat.le_of_ble_eq_true rfl⟩ ⟨Nat.le_of_ble_eq_true rfl, Nat.le_of_ble_eq_true rfl⟩ dX12_carried_13 (fun hk => mX12_ones Y hF _ _ _ _  h) (fun v M_5 h => ?_)
  obtain ⟨r_6, rfl, h⟩ := h
  exact r_iret hC (Nat.zero_le _) (Nat.zero_le _) dX12_carried_16 ⟨_, rfl, h⟩
theorem dX12_isApart_0 : dec cX12_isApart 0 1 1 (.aload_n 0) := ⟨by decide +kernel, rfl⟩
theorem dX12_isApart_1 : dec cX12_isApart 1 3 4 (.getfield 159) := ⟨by decide +kernel, rfl⟩
theorem dX12_isApart_4 : dec cX12_isApart 4 3 7 (.ifCond .le 15) := ⟨by decide +kernel, rfl⟩
theorem dX12_isApart_7 : dec cX12_isApart 7 1 8 (.iload_n 1) := ⟨by decide +kernel, rfl⟩
theorem dX12_isApart_8 : dec cX12_isApart 8 1 9 (.aload_n 0) := ⟨by decide +kernel, rfl⟩
theorem dX12_isApart_9 : dec cX12_isApart 9 3 12 (.getfield 159) := ⟨by decide +kernel, rfl⟩
theorem dX12_isApart_12 : dec cX12_isApart 12 3 15 (.if_icmp .ne 7) := ⟨by decide +kernel, rfl⟩
theorem dX12_isApart_15 : dec cX12_isApart 15 1 16 (.iconst 1) := ⟨by decide +kernel, rfl⟩
theorem dX12_isApart_16 : dec cX12_isApart 16 3 19 (.goto 4) := ⟨by decide +kernel, rfl⟩
theorem dX12_isApart_19 : dec cX12_isApart 19 1 20 (.iconst 0) := ⟨by decide +kernel, rfl⟩
theorem dX12_isApart_20 : dec cX12_isApart 20 1 21 (.ireturn) := ⟨by decide +kernel, rfl⟩
set_option maxHeartbeats 4000000 in
set_option maxRecDepth 100000 in
theorem mX12_isApart (Y : Yx) (hF : Y.2.2.2.2 = true) (l : Launch) (a0 : Nat) (x1 : Int) (M0 : Mem) (Q : Int → Mem → Prop) (qa0 : 0 < a0 ∧ M0 0 a0 = kO 12) (h : wX12_isApart a0 x1 M0 Q) : CT Y l yX12_isApart cX12_isApart 2 (some .boolean) rmX12_isApart [vR Y.1 a0, vI x1] M0 (QI Q) := by
  unfold wX12_isApart at h
  refine ct_intro (by decide) (Nat.le_of_ble_eq_true rfl) ?_
  intro X hXl hC hL0
  have hL := hL0 hF
  change OKX X Y RX12 cX12_isApart 2 (some .boolean) rmX12_isApart at hC
  change WW X Y 2 rmX12_isApart (QI Q) M0 0 0 0 [(0, vR Y.1 a0), (1, vI x1)] [] M0
  refine r_aload_n hC 0 dX12_isApart_0 rfl rfl ?_
  refine r_getI hC fg_X12_159 rfl qa0.1 qa0.2 dX12_isApart_1 ?_
  refine r_if_le hC 19 rfl dX12_isApart_4 (by decide) (fun cq => ?_) (fun cq => ?_)
  · replace h := h.1 cq
    refine r_iconst hC dX12_isApart_19 ?_
    exact r_zret hC (Or.inl rfl) (Nat.zero_le _) (Nat.zero_le _) dX12_isApart_20 ⟨_, rfl, h⟩
  · replace h := h.2 cq
    refine r_iload_n hC 1 dX12_isApart_7 rfl rfl ?_
    refine r_aload_n hC 0 dX12_isApart_8 rfl rfl ?_
    refine r_getI hC fg_X12_159 rfl qa0.1 qa0.2 dX12_isApart_9 ?_
    refine r_icmp_ne hC 19 rfl rfl dX12_isApart_12 (by decide) (fun cq => ?_) (fun cq => ?_)
    · replace h := h.2 cq
      refine r_iconst hC dX12_isApart_19 ?_
      exact r_zret hC (Or.inl rfl) (Nat.zero_le _) (Nat.zero_le _) dX12_isApart_20 ⟨_, rfl, h⟩
    · replace h := h.1 cq
      refine r_iconst hC dX12_isApart_15 ?_
      refine r_goto hC 20 dX12_isApart_16 (by decide) ?_
      exact r_zret hC (Or.inr rfl) (Nat.zero_le _) (Nat.zero_le _) dX12_isApart_20 ⟨_, rfl, h⟩
