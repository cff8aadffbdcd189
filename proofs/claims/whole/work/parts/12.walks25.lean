theorem dX12_asks_0 : dec cX12_asks 0 1 1 (.iload_n 1) := ⟨by decide +kernel, rfl⟩
theorem dX12_asks_1 : dec cX12_asks 1 39 40 (.tableswitch 127 0 5 #[39, 127, 127, 60, 78, 99]) := ⟨by decide +kernel, rfl⟩
theorem dX12_asks_40 : dec cX12_asks 40 1 41 (.aload_n 0) := ⟨by decide +kernel, rfl⟩
theorem dX12_asks_41 : dec cX12_asks 41 2 43 (.bipush 12) := ⟨by decide +kernel, rfl⟩
theorem dX12_asks_43 : dec cX12_asks 43 3 46 (.invokevirtual 311) := ⟨by decide +kernel, rfl⟩
theorem dX12_asks_46 : dec cX12_asks 46 1 47 (.aload_n 0) := ⟨by decide +kernel, rfl⟩
theorem dX12_asks_47 : dec cX12_asks 47 1 48 (.aload_n 0) := ⟨by decide +kernel, rfl⟩
theorem dX12_asks_48 : dec cX12_asks 48 3 51 (.invokevirtual 320) := ⟨by decide +kernel, rfl⟩
theorem dX12_asks_51 : dec cX12_asks 51 1 52 (.iload_n 2) := ⟨by decide +kernel, rfl⟩
theorem dX12_asks_52 : dec cX12_asks 52 3 55 (.invokevirtual 323) := ⟨by decide +kernel, rfl⟩
theorem dX12_asks_55 : dec cX12_asks 55 1 56 (.aload_n 0) := ⟨by decide +kernel, rfl⟩
theorem dX12_asks_56 : dec cX12_asks 56 3 59 (.getfield 308) := ⟨by decide +kernel, rfl⟩
theorem dX12_asks_59 : dec cX12_asks 59 1 60 (.isub) := ⟨by decide +kernel, rfl⟩
theorem dX12_asks_60 : dec cX12_asks 60 1 61 (.ireturn) := ⟨by decide +kernel, rfl⟩
theorem dX12_asks_61 : dec cX12_asks 61 1 62 (.aload_n 0) := ⟨by decide +kernel, rfl⟩
theorem dX12_asks_62 : dec cX12_asks 62 2 64 (.bipush 40) := ⟨by decide +kernel, rfl⟩
theorem dX12_asks_64 : dec cX12_asks 64 3 67 (.invokevirtual 311) := ⟨by decide +kernel, rfl⟩
theorem dX12_asks_67 : dec cX12_asks 67 1 68 (.aload_n 0) := ⟨by decide +kernel, rfl⟩
theorem dX12_asks_68 : dec cX12_asks 68 1 69 (.iconst 3) := ⟨by decide +kernel, rfl⟩
theorem dX12_asks_69 : dec cX12_asks 69 3 72 (.invokestatic 314) := ⟨by decide +kernel, rfl⟩
theorem dX12_asks_72 : dec cX12_asks 72 1 73 (.iload_n 2) := ⟨by decide +kernel, rfl⟩
theorem dX12_asks_73 : dec cX12_asks 73 1 74 (.iconst 1) := ⟨by decide +kernel, rfl⟩
theorem dX12_asks_74 : dec cX12_asks 74 1 75 (.iadd) := ⟨by decide +kernel, rfl⟩
theorem dX12_asks_75 : dec cX12_asks 75 3 78 (.invokevirtual 326) := ⟨by decide +kernel, rfl⟩
theorem dX12_asks_78 : dec cX12_asks 78 1 79 (.ireturn) := ⟨by decide +kernel, rfl⟩
theorem dX12_asks_79 : dec cX12_asks 79 1 80 (.aload_n 0) := ⟨by decide +kernel, rfl⟩
theorem dX12_asks_80 : dec cX12_asks 80 2 82 (.bipush 51) := ⟨by decide +kernel, rfl⟩
theorem dX12_asks_82 : dec cX12_asks 82 3 85 (.invokevirtual 311) := ⟨by decide +kernel, rfl⟩
theorem dX12_asks_85 : dec cX12_asks 85 1 86 (.aload_n 0) := ⟨by decide +kernel, rfl⟩
theorem dX12_asks_86 : dec cX12_asks 86 1 87 (.iconst 4) := ⟨by decide +kernel, rfl⟩
theorem dX12_asks_87 : dec cX12_asks 87 3 90 (.invokestatic 314) := ⟨by decide +kernel, rfl⟩
theorem dX12_asks_90 : dec cX12_asks 90 1 91 (.iload_n 2) := ⟨by decide +kernel, rfl⟩
theorem dX12_asks_91 : dec cX12_asks 91 3 94 (.invokevirtual 326) := ⟨by decide +kernel, rfl⟩
theorem dX12_asks_94 : dec cX12_asks 94 1 95 (.aload_n 0) := ⟨by decide +kernel, rfl⟩
theorem dX12_asks_95 : dec cX12_asks 95 3 98 (.getfield 308) := ⟨by decide +kernel, rfl⟩
theorem dX12_asks_98 : dec cX12_asks 98 1 99 (.ixor) := ⟨by decide +kernel, rfl⟩
theorem dX12_asks_99 : dec cX12_asks 99 1 100 (.ireturn) := ⟨by decide +kernel, rfl⟩
theorem dX12_asks_100 : dec cX12_asks 100 1 101 (.aload_n 0) := ⟨by decide +kernel, rfl⟩
theorem dX12_asks_101 : dec cX12_asks 101 2 103 (.bipush 61) := ⟨by decide +kernel, rfl⟩
theorem dX12_asks_103 : dec cX12_asks 103 3 106 (.invokevirtual 311) := ⟨by decide +kernel, rfl⟩
theorem dX12_asks_106 : dec cX12_asks 106 1 107 (.aload_n 0) := ⟨by decide +kernel, rfl⟩
theorem dX12_asks_107 : dec cX12_asks 107 1 108 (.iconst 5) := ⟨by decide +kernel, rfl⟩
theorem dX12_asks_108 : dec cX12_asks 108 3 111 (.invokestatic 314) := ⟨by decide +kernel, rfl⟩
theorem dX12_asks_111 : dec cX12_asks 111 1 112 (.iload_n 2) := ⟨by decide +kernel, rfl⟩
theorem dX12_asks_112 : dec cX12_asks 112 3 115 (.invokevirtual 326) := ⟨by decide +kernel, rfl⟩
theorem dX12_asks_115 : dec cX12_asks 115 1 116 (.istore_n 3) := ⟨by decide +kernel, rfl⟩
theorem dX12_asks_116 : dec cX12_asks 116 1 117 (.iload_n 3) := ⟨by decide +kernel, rfl⟩
theorem dX12_asks_117 : dec cX12_asks 117 1 118 (.aload_n 0) := ⟨by decide +kernel, rfl⟩
theorem dX12_asks_118 : dec cX12_asks 118 1 119 (.aload_n 0) := ⟨by decide +kernel, rfl⟩
theorem dX12_asks_119 : dec cX12_asks 119 3 122 (.invokevirtual 320) := ⟨by decide +kernel, rfl⟩
theorem dX12_asks_122 : dec cX12_asks 122 1 123 (.iconst 2) := ⟨by decide +kernel, rfl⟩
theorem dX12_asks_123 : dec cX12_asks 123 3 126 (.invokevirtual 317) := ⟨by decide +kernel, rfl⟩
theorem dX12_asks_126 : dec cX12_asks 126 1 127 (.isub) := ⟨by decide +kernel, rfl⟩
theorem dX12_asks_127 : dec cX12_asks 127 1 128 (.ireturn) := ⟨by decide +kernel, rfl⟩
theorem dX12_asks_128 : dec cX12_asks 128 1 129 (.aload_n 0) := ⟨by decide +kernel, rfl⟩
theorem dX12_asks_129 : dec cX12_asks 129 1 130 (.iload_n 1) := ⟨by decide +kernel, rfl⟩
theorem dX12_asks_130 : dec cX12_asks 130 3 133 (.invokestatic 314) := ⟨by decide +kernel, rfl⟩
theorem dX12_asks_133 : dec cX12_asks 133 1 134 (.iload_n 2) := ⟨by decide +kernel, rfl⟩
theorem dX12_asks_134 : dec cX12_asks 134 3 137 (.invokevirtual 326) := ⟨by decide +kernel, rfl⟩
theorem dX12_asks_137 : dec cX12_asks 137 1 138 (.ireturn) := ⟨by decide +kernel, rfl⟩
set_option maxHeartbeats 4000000 in
set_option maxRecDepth 100000 in
theorem tX12_asks_J128 {X : Cx} {Y : Yx} {M0 : Mem} {Γ : Nat → List Int → Mem → (Int → Mem → Prop) → Prop} {d : Nat} (hC : OKX X Y RX12 cX12_asks 4 (some .int) (rmX12_asks (d + 1))) (hF : Y.2.2.2.2 = true) (hL : Lay M0) (a0 : Nat) (hG0 : ∀ (x0 : Int) (x1 : Int) (M : Mem) (Q : Int → Mem → Prop), (0 < a0 ∧ M 0 a0 = kO 12) → Γ 0 [x0, x1] M Q → CT Y X.2.1 yX12_asks cX12_asks 4 (some .int) (rmX12_asks d) [vR Y.1 a0, vI x0, vI x1] M (QI Q)) (Q : Int → Mem → Prop)   (x1 : Int) (x2 : Int) (qa0 : 0 < a0 ∧ M0 0 a0 = kO 12)  (M : Mem) (h : wX12_asks_J128 Γ Q  a0 x1 x2 M) : WW X Y 4 (rmX12_asks (d + 1)) (QI Q) M0 0 0 128 [(0, vR Y.1 a0), (1, vI x1), (2, vI x2)] [] M := by
  unfold wX12_asks_J128 at h
  refine r_aload_n hC 0 dX12_asks_128 rfl rfl ?_
  refine r_iload_n hC 1 dX12_asks_129 rfl rfl ?_
  refine r_callS (As := [vI x1]) (st := [vR Y.1 a0]) hC cw_X12_314 rfl rfl (Nat.le_of_ble_eq_true rfl) (by constructor <;> simp only [rmX12_asks, rmX12_above] <;> omega) ⟨Nat.le_of_ble_eq_true rfl, Nat.le_of_ble_eq_true rfl⟩ dX12_asks_130 (fun hk => mX12_above Y hF _ _ _ _  h) (fun v M_6 h => ?_)
  obtain ⟨r_7, rfl, h⟩ := h
  refine r_iload_n hC 2 dX12_asks_133 rfl rfl ?_
  refine r_callV (As := [vI r_7, vI x2]) (st := []) hC cw_X12_326 rfl qa0.1 qa0.2 rfl rfl (Nat.le_of_ble_eq_true rfl) (by constructor <;> simp only [rmX12_asks, rmX12_asks] <;> omega) ⟨Nat.le_of_ble_eq_true rfl, Nat.le_of_ble_eq_true rfl⟩ dX12_asks_134 (fun hk => hG0 _ _ _ _ (kqO hk qa0) h) (fun v M_8 h => ?_)
  obtain ⟨r_9, rfl, h⟩ := h
  exact r_iret hC (Nat.zero_le _) (Nat.zero_le _) dX12_asks_137 ⟨_, rfl, h⟩
set_option maxHeartbeats 4000000 in
set_option maxRecDepth 100000 in
theorem mbX12_asks (Y : Yx) (hF : Y.2.2.2.2 = true) (l : Launch) {Γ : Nat → List Int → Mem → (Int → Mem → Prop) → Prop} {d : Nat} (a0 : Nat) (x1 : Int) (x2 : Int) (hG0 : ∀ (x0 : Int) (x1 : Int) (M : Mem) (Q : Int → Mem → Prop), (0 < a0 ∧ M 0 a0 = kO 12) → Γ 0 [x0, x1] M Q → CT Y l yX12_asks cX12_asks 4 (some .int) (rmX12_asks d) [vR Y.1 a0, vI x0, vI x1] M (QI Q)) (M0 : Mem) (Q : Int → Mem → Prop) (qa0 : 0 < a0 ∧ M0 0 a0 = kO 12) (h : wbX12_asks Γ a0 x1 x2 M0 Q) : CT Y l yX12_asks cX12_asks 4 (some .int) (rmX12_asks (d + 1)) [vR Y.1 a0, vI x1, vI x2] M0 (QI Q) := by
  unfold wbX12_asks at h
  refine ct_intro (by decide) (Nat.le_of_ble_eq_true rfl) ?_
  intro X hXl hC hL0
  have hL := hL0 hF
  change OKX X Y RX12 cX12_asks 4 (some .int) (rmX12_asks (d + 1)) at hC
  subst hXl
  change WW X Y 4 (rmX12_asks (d + 1)) (QI Q) M0 0 0 0 [(0, vR Y.1 a0), (1, vI x1), (2, vI x2)] [] M0
  refine r_iload_n hC 1 dX12_asks_0 rfl rfl ?_
  by_cases c0 : bm x1 = 0
  · replace h := h.1 c0
    refine r_tabIn hC 40 0 dX12_asks_1 c0 (by decide) (by decide) rfl (by decide) ?_
    refine r_aload_n hC 0 dX12_asks_40 rfl rfl ?_
    refine r_bipush hC (by decide +kernel) dX12_asks_41 ?_
    refine r_callV (As := [vI 12]) (st := []) hC cw_X12_311 rfl qa0.1 qa0.2 rfl rfl (Nat.le_of_ble_eq_true rfl) (by constructor <;> simp only [rmX12_asks, rmX12_body] <;> omega) ⟨Nat.le_of_ble_eq_true rfl, Nat.le_of_ble_eq_true rfl⟩ dX12_asks_43 (fun hk => mX12_body Y hF _ _ _ _ _ (kqO hk qa0) h) (fun v M_1 h => ?_)
    obtain ⟨rfl, h⟩ := h
    refine r_aload_n hC 0 dX12_asks_46 rfl rfl ?_
    refine r_aload_n hC 0 dX12_asks_47 rfl rfl ?_
    refine r_callV (As := []) (st := [vR Y.1 a0]) hC cw_X12_320 rfl qa0.1 qa0.2 rfl rfl (Nat.le_of_ble_eq_true rfl) (by constructor <;> simp only [rmX12_asks, rmX12_kindNow] <;> omega) ⟨Nat.le_of_ble_eq_true rfl, Nat.le_of_ble_eq_true rfl⟩ dX12_asks_48 (fun hk => mX12_kindNow Y hF _ _ _ _ (kqO hk qa0) h) (fun v M_2 h => ?_)
    obtain ⟨r_3, rfl, h⟩ := h
    refine r_iload_n hC 2 dX12_asks_51 rfl rfl ?_
    refine r_callV (As := [vI r_3, vI x2]) (st := []) hC cw_X12_323 rfl qa0.1 qa0.2 rfl rfl (Nat.le_of_ble_eq_true rfl) (by constructor <;> simp only [rmX12_asks, rmX12_hears] <;> omega) ⟨Nat.le_of_ble_eq_true rfl, Nat.le_of_ble_eq_true rfl⟩ dX12_asks_52 (fun hk => mX12_hears Y hF _ _ _ _ _ _ (kqO hk qa0) h) (fun v M_4 h => ?_)
    obtain ⟨r_5, rfl, h⟩ := h
    refine r_aload_n hC 0 dX12_asks_55 rfl rfl ?_
    refine r_getI hC fg_X12_308 rfl qa0.1 qa0.2 dX12_asks_56 ?_
    refine r_isub hC dX12_asks_59 ?_
    exact r_iret hC (Nat.zero_le _) (Nat.zero_le _) dX12_asks_60 ⟨_, rfl, h⟩
  · replace h := h.2 c0
    by_cases c1 : bm x1 = 1
    · replace h := h.1 c1
      refine r_tabIn hC 128 1 dX12_asks_1 c1 (by decide) (by decide) rfl (by decide) ?_
      refine r_sub [0, 1, 2] rfl ?_
      exact tX12_asks_J128 hC hF hL _ hG0 Q   _ _ qa0  _ h
    · replace h := h.2 c1
      by_cases c2 : bm x1 = 2
      · replace h := h.1 c2
        refine r_tabIn hC 128 2 dX12_asks_1 c2 (by decide) (by decide) rfl (by decide) ?_
        refine r_sub [0, 1, 2] rfl ?_
        exact tX12_asks_J128 hC hF hL _ hG0 Q   _ _ qa0  _ h
      · replace h := h.2 c2
        by_cases c3 : bm x1 = 3
        · replace h := h.1 c3
          refine r_tabIn hC 61 3 dX12_asks_1 c3 (by decide) (by decide) rfl (by decide) ?_
          refine r_aload_n hC 0 dX12_asks_61 rfl rfl ?_
          refine r_bipush hC (by decide +kernel) dX12_asks_62 ?_
          refine r_callV (As := [vI 40]) (st := []) hC cw_X12_311 rfl qa0.1 qa0.2 rfl rfl (Nat.le_of_ble_eq_true rfl) (by constructor <;> simp only [rmX12_asks, rmX12_body] <;> omega) ⟨Nat.le_of_ble_eq_true rfl, Nat.le_of_ble_eq_true rfl⟩ dX12_asks_64 (fun hk => mX12_body Y hF _ _ _ _ _ (kqO hk qa0) h) (fun v M_10 h => ?_)
          obtain ⟨rfl, h⟩ := h
          refine r_aload_n hC 0 dX12_asks_67 rfl rfl ?_
          refine r_iconst hC dX12_asks_68 ?_
          refine r_callS (As := [vI 3]) (st := [vR Y.1 a0]) hC cw_X12_314 rfl rfl (Nat.le_of_ble_eq_true rfl) (by constructor <;> simp only [rmX12_asks, rmX12_above] <;> omega) ⟨Nat.le_of_ble_eq_true rfl, Nat.le_of_ble_eq_true rfl⟩ dX12_asks_69 (fun hk => mX12_above Y hF _ _ _ _  h) (fun v M_11 h => ?_)
          obtain ⟨r_12, rfl, h⟩ := h
          refine r_iload_n hC 2 dX12_asks_72 rfl rfl ?_
          refine r_iconst hC dX12_asks_73 ?_
          refine r_iadd hC dX12_asks_74 ?_
          refine r_callV (As := [vI r_12, vI (x2 + 1)]) (st := []) hC cw_X12_326 rfl qa0.1 qa0.2 rfl rfl (Nat.le_of_ble_eq_true rfl) (by constructor <;> simp only [rmX12_asks, rmX12_asks] <;> omega) ⟨Nat.le_of_ble_eq_true rfl, Nat.le_of_ble_eq_true rfl⟩ dX12_asks_75 (fun hk => hG0 _ _ _ _ (kqO hk qa0) h) (fun v M_13 h => ?_)
          obtain ⟨r_14, rfl, h⟩ := h
          exact r_iret hC (Nat.zero_le _) (Nat.zero_le _) dX12_asks_78 ⟨_, rfl, h⟩
        · replace h := h.2 c3
          by_cases c4 : bm x1 = 4
          · replace h := h.1 c4
            refine r_tabIn hC 79 4 dX12_asks_1 c4 (by decide) (by decide) rfl (by decide) ?_
            refine r_aload_n hC 0 dX12_asks_79 rfl rfl ?_
            refine r_bipush hC (by decide +kernel) dX12_asks_80 ?_
            refine r_callV (As := [vI 51]) (st := []) hC cw_X12_311 rfl qa0.1 qa0.2 rfl rfl (Nat.le_of_ble_eq_true rfl) (by constructor <;> simp only [rmX12_asks, rmX12_body] <;> omega) ⟨Nat.le_of_ble_eq_true rfl, Nat.le_of_ble_eq_true rfl⟩ dX12_asks_82 (fun hk => mX12_body Y hF _ _ _ _ _ (kqO hk qa0) h) (fun v M_15 h => ?_)
            obtain ⟨rfl, h⟩ := h
            refine r_aload_n hC 0 dX12_asks_85 rfl rfl ?_
            refine r_iconst hC dX12_asks_86 ?_
            refine r_callS (As := [vI 4]) (st := [vR Y.1 a0]) hC cw_X12_314 rfl rfl (Nat.le_of_ble_eq_true rfl) (by constructor <;> simp only [rmX12_asks, rmX12_above] <;> omega) ⟨Nat.le_of_ble_eq_true rfl, Nat.le_of_ble_eq_true rfl⟩ dX12_asks_87 (fun hk => mX12_above Y hF _ _ _ _  h) (fun v M_16 h => ?_)
            obtain ⟨r_17, rfl, h⟩ := h
            refine r_iload_n hC 2 dX12_asks_90 rfl rfl ?_
            refine r_callV (As := [vI r_17, vI x2]) (st := []) hC cw_X12_326 rfl qa0.1 qa0.2 rfl rfl (Nat.le_of_ble_eq_true rfl) (by constructor <;> simp only [rmX12_asks, rmX12_asks] <;> omega) ⟨Nat.le_of_ble_eq_true rfl, Nat.le_of_ble_eq_true rfl⟩ dX12_asks_91 (fun hk => hG0 _ _ _ _ (kqO hk qa0) h) (fun v M_18 h => ?_)
            obtain ⟨r_19, rfl, h⟩ := h
            refine r_aload_n hC 0 dX12_asks_94 rfl rfl ?_
            refine r_getI hC fg_X12_308 rfl qa0.1 qa0.2 dX12_asks_95 ?_
            refine r_ixor hC dX12_asks_98 ?_
            exact r_iret hC (Nat.zero_le _) (Nat.zero_le _) dX12_asks_99 ⟨_, rfl, h⟩
          · replace h := h.2 c4
            by_cases c5 : bm x1 = 5
            · replace h := h.1 c5
              refine r_tabIn hC 100 5 dX12_asks_1 c5 (by decide) (by decide) rfl (by decide) ?_
              refine r_aload_n hC 0 dX12_asks_100 rfl rfl ?_
              refine r_bipush hC (by decide +kernel) dX12_asks_101 ?_
              refine r_callV (As := [vI 61]) (st := []) hC cw_X12_311 rfl qa0.1 qa0.2 rfl rfl (Nat.le_of_ble_eq_true rfl) (by constructor <;> simp only [rmX12_asks, rmX12_body] <;> omega) ⟨Nat.le_of_ble_eq_true rfl, Nat.le_of_ble_eq_true rfl⟩ dX12_asks_103 (fun hk => mX12_body Y hF _ _ _ _ _ (kqO hk qa0) h) (fun v M_20 h => ?_)
              obtain ⟨rfl, h⟩ := h
              refine r_aload_n hC 0 dX12_asks_106 rfl rfl ?_
              refine r_iconst hC dX12_asks_107 ?_
              refine r_callS (As := [vI 5]) (st := [vR Y.1 a0]) hC cw_X12_314 rfl rfl (Nat.le_of_ble_eq_true rfl) (by constructor <;> simp only [rmX12_asks, rmX12_above] <;> omega) ⟨Nat.le_of_ble_eq_true rfl, Nat.le_of_ble_eq_true rfl⟩ dX12_asks_108 (fun hk => mX12_above Y hF _ _ _ _  h) (fun v M_21 h => ?_)
              obtain ⟨r_22, rfl, h⟩ := h
              refine r_iload_n hC 2 dX12_asks_111 rfl rfl ?_
              refine r_callV (As := [vI r_22, vI x2]) (st := []) hC cw_X12_326 rfl qa0.1 qa0.2 rfl rfl (Nat.le_of_ble_eq_true rfl) (by constructor <;> simp only [rmX12_asks, rmX12_asks] <;> omega) ⟨Nat.le_of_ble_eq_true rfl, Nat.le_of_ble_eq_true rfl⟩ dX12_asks_112 (fun hk => hG0 _ _ _ _ (kqO hk qa0) h) (fun v M_23 h => ?_)
              obtain ⟨r_24, rfl, h⟩ := h
              refine r_istore_n (lv' := [(3, vI r_24), (0, vR Y.1 a0), (1, vI x1), (2, vI x2)]) hC dX12_asks_115 rfl (by decide) rfl ?_
              refine r_iload_n hC 0 dX12_asks_116 rfl rfl ?_
              refine r_aload_n hC 1 dX12_asks_117 rfl rfl ?_
              refine r_aload_n hC 1 dX12_asks_118 rfl rfl ?_
              refine r_callV (As := []) (st := [vR Y.1 a0, vI r_24]) hC cw_X12_320 rfl qa0.1 qa0.2 rfl rfl (Nat.le_of_ble_eq_true rfl) (by constructor <;> simp only [rmX12_asks, rmX12_kindNow] <;> omega) ⟨Nat.le_of_ble_eq_true rfl, Nat.le_of_ble_eq_true rfl⟩ dX12_asks_119 (fun hk => mX12_kindNow Y hF _ _ _ _ (kqO hk qa0) h) (fun v M_25 h => ?_)
              obtain ⟨r_26, rfl, h⟩ := h
              refine r_iconst hC dX12_asks_122 ?_
              refine r_callV (As := [vI r_26, vI 2]) (st := [vI r_24]) hC cw_X12_317 rfl qa0.1 qa0.2 rfl rfl (Nat.le_of_ble_eq_true rfl) (by constructor <;> simp only [rmX12_asks, rmX12_says] <;> omega) ⟨Nat.le_of_ble_eq_true rfl, Nat.le_of_ble_eq_true rfl⟩ dX12_asks_123 (fun hk => mX12_says Y hF _ _ _ _ _ _ (kqO hk qa0) h) (fun v M_27 h => ?_)
              obtain ⟨r_28, rfl, h⟩ := h
              refine r_isub hC dX12_asks_126 ?_
              exact r_iret hC (Nat.zero_le _) (Nat.zero_le _) dX12_asks_127 ⟨_, rfl, h⟩
            · replace h := h.2 c5
              refine r_tabOut hC 128 dX12_asks_1 (by omega) (by decide) ?_
              refine r_sub [0, 1, 2] rfl ?_
              exact tX12_asks_J128 hC hF hL _ hG0 Q   _ _ qa0  _ h
set_option maxHeartbeats 4000000 in
set_option maxRecDepth 100000 in
theorem mGX12_asks (Y : Yx) (hF : Y.2.2.2.2 = true) (l : Launch) (a0 : Nat) : ∀ d : Nat, (∀ (x1 : Int) (x2 : Int) (M : Mem) (Q : Int → Mem → Prop), (0 < a0 ∧ M 0 a0 = kO 12) → wGX12_asks a0 d 0 [x1, x2] M Q → CT Y l yX12_asks cX12_asks 4 (some .int) (rmX12_asks d) [vR Y.1 a0, vI x1, vI x2] M (QI Q)) := by
  intro d
  induction d with
  | zero => exact fun x1 x2 M Q f0 h => h.elim
  | succ d ih => exact fun x1 x2 M Q f0 h => mbX12_asks Y hF l a0 x1 x2 ih M Q f0 h
set_option maxHeartbeats 4000000 in
set_option maxRecDepth 100000 in
theorem mX12_asks (Y : Yx) (hF : Y.2.2.2.2 = true) (l : Launch) (a0 : Nat) (x1 : Int) (x2 : Int) (M0 : Mem) (Q : Int → Mem → Prop) (qa0 : 0 < a0 ∧ M0 0 a0 = kO 12) (h : wX12_asks a0 x1 x2 M0 Q) : CT Y l yX12_asks cX12_asks 4 (some .int) (rmX12_asks 8) [vR Y.1 a0, vI x1, vI x2] M0 (QI Q) := (mGX12_asks Y hF l a0 8) _ _ M0 Q qa0 h
theorem dX12_parts_0 : dec cX12_parts 0 1 1 (.iconst 0) := ⟨by decide +kernel, rfl⟩
theorem dX12_parts_1 : dec cX12_parts 1 1 2 (.istore_n 3) := ⟨by decide +kernel, rfl⟩
theorem dX12_parts_2 : dec cX12_parts 2 1 3 (.iload_n 1) := ⟨by decide +kernel, rfl⟩
theorem dX12_parts_3 : dec cX12_parts 3 33 36 (.lookupswitch 161 #[(0, 33), (1, 94), (5, 133)]) := ⟨by decide +kernel, rfl⟩
theorem dX12_parts_36 : dec cX12_parts 36 1 37 (.aload_n 0) := ⟨by decide +kernel, rfl⟩
theorem dX12_parts_37 : dec cX12_parts 37 2 39 (.bipush 13) := ⟨by decide +kernel, rfl⟩
theorem dX12_parts_39 : dec cX12_parts 39 3 42 (.invokevirtual 311) := ⟨by decide +kernel, rfl⟩
theorem dX12_parts_42 : dec cX12_parts 42 1 43 (.aload_n 0) := ⟨by decide +kernel, rfl⟩
theorem dX12_parts_43 : dec cX12_parts 43 1 44 (.aload_n 0) := ⟨by decide +kernel, rfl⟩
theorem dX12_parts_44 : dec cX12_parts 44 3 47 (.getfield 308) := ⟨by decide +kernel, rfl⟩
theorem dX12_parts_47 : dec cX12_parts 47 1 48 (.iconst 2) := ⟨by decide +kernel, rfl⟩
theorem dX12_parts_48 : dec cX12_parts 48 3 51 (.invokevirtual 101) := ⟨by decide +kernel, rfl⟩
theorem dX12_parts_51 : dec cX12_parts 51 1 52 (.aload_n 0) := ⟨by decide +kernel, rfl⟩
theorem dX12_parts_52 : dec cX12_parts 52 3 55 (.getfield 308) := ⟨by decide +kernel, rfl⟩
theorem dX12_parts_55 : dec cX12_parts 55 1 56 (.isub) := ⟨by decide +kernel, rfl⟩
theorem dX12_parts_56 : dec cX12_parts 56 2 58 (.istore 4) := ⟨by decide +kernel, rfl⟩
theorem dX12_parts_58 : dec cX12_parts 58 1 59 (.aload_n 0) := ⟨by decide +kernel, rfl⟩
theorem dX12_parts_59 : dec cX12_parts 59 2 61 (.iload 4) := ⟨by decide +kernel, rfl⟩
theorem dX12_parts_61 : dec cX12_parts 61 3 64 (.ifCond .ne 7) := ⟨by decide +kernel, rfl⟩
theorem dX12_parts_64 : dec cX12_parts 64 1 65 (.iconst 1) := ⟨by decide +kernel, rfl⟩
theorem dX12_parts_65 : dec cX12_parts 65 3 68 (.goto 4) := ⟨by decide +kernel, rfl⟩
theorem dX12_parts_68 : dec cX12_parts 68 1 69 (.iconst 0) := ⟨by decide +kernel, rfl⟩
theorem dX12_parts_69 : dec cX12_parts 69 3 72 (.putfield 329) := ⟨by decide +kernel, rfl⟩
theorem dX12_parts_72 : dec cX12_parts 72 2 74 (.iload 4) := ⟨by decide +kernel, rfl⟩
theorem dX12_parts_74 : dec cX12_parts 74 3 77 (.ifCond .ne 7) := ⟨by decide +kernel, rfl⟩
theorem dX12_parts_77 : dec cX12_parts 77 1 78 (.iconst 0) := ⟨by decide +kernel, rfl⟩
theorem dX12_parts_78 : dec cX12_parts 78 3 81 (.goto 18) := ⟨by decide +kernel, rfl⟩
theorem dX12_parts_81 : dec cX12_parts 81 2 83 (.iload 4) := ⟨by decide +kernel, rfl⟩
theorem dX12_parts_83 : dec cX12_parts 83 1 84 (.iconst (-1)) := ⟨by decide +kernel, rfl⟩
theorem dX12_parts_84 : dec cX12_parts 84 3 87 (.if_icmp .ne 8) := ⟨by decide +kernel, rfl⟩
theorem dX12_parts_87 : dec cX12_parts 87 1 88 (.iload_n 2) := ⟨by decide +kernel, rfl⟩
theorem dX12_parts_88 : dec cX12_parts 88 1 89 (.ineg) := ⟨by decide +kernel, rfl⟩
theorem dX12_parts_89 : dec cX12_parts 89 3 92 (.goto 7) := ⟨by decide +kernel, rfl⟩
theorem dX12_parts_92 : dec cX12_parts 92 1 93 (.iload_n 2) := ⟨by decide +kernel, rfl⟩
theorem dX12_parts_93 : dec cX12_parts 93 2 95 (.iload 4) := ⟨by decide +kernel, rfl⟩
theorem dX12_parts_95 : dec cX12_parts 95 1 96 (.idiv) := ⟨by decide +kernel, rfl⟩
theorem dX12_parts_96 : dec cX12_parts 96 1 97 (.ireturn) := ⟨by decide +kernel, rfl⟩
theorem dX12_parts_97 : dec cX12_parts 97 1 98 (.aload_n 0) := ⟨by decide +kernel, rfl⟩
theorem dX12_parts_98 : dec cX12_parts 98 2 100 (.bipush 21) := ⟨by decide +kernel, rfl⟩
theorem dX12_parts_100 : dec cX12_parts 100 3 103 (.invokevirtual 311) := ⟨by decide +kernel, rfl⟩
theorem dX12_parts_103 : dec cX12_parts 103 1 104 (.aload_n 0) := ⟨by decide +kernel, rfl⟩
theorem dX12_parts_104 : dec cX12_parts 104 1 105 (.iconst 1) := ⟨by decide +kernel, rfl⟩
theorem dX12_parts_105 : dec cX12_parts 105 3 108 (.invokestatic 314) := ⟨by decide +kernel, rfl⟩
theorem dX12_parts_108 : dec cX12_parts 108 1 109 (.iload_n 2) := ⟨by decide +kernel, rfl⟩
theorem dX12_parts_109 : dec cX12_parts 109 3 112 (.invokevirtual 333) := ⟨by decide +kernel, rfl⟩
theorem dX12_parts_112 : dec cX12_parts 112 1 113 (.istore_n 3) := ⟨by decide +kernel, rfl⟩
theorem dX12_parts_113 : dec cX12_parts 113 1 114 (.aload_n 0) := ⟨by decide +kernel, rfl⟩
theorem dX12_parts_114 : dec cX12_parts 114 3 117 (.getfield 329) := ⟨by decide +kernel, rfl⟩
theorem dX12_parts_117 : dec cX12_parts 117 3 120 (.ifCond .eq 7) := ⟨by decide +kernel, rfl⟩
theorem dX12_parts_120 : dec cX12_parts 120 1 121 (.iconst 0) := ⟨by decide +kernel, rfl⟩
theorem dX12_parts_121 : dec cX12_parts 121 3 124 (.goto 14) := ⟨by decide +kernel, rfl⟩
theorem dX12_parts_124 : dec cX12_parts 124 1 125 (.iload_n 3) := ⟨by decide +kernel, rfl⟩
theorem dX12_parts_125 : dec cX12_parts 125 1 126 (.aload_n 0) := ⟨by decide +kernel, rfl⟩
theorem dX12_parts_126 : dec cX12_parts 126 1 127 (.aload_n 0) := ⟨by decide +kernel, rfl⟩
theorem dX12_parts_127 : dec cX12_parts 127 3 130 (.invokevirtual 320) := ⟨by decide +kernel, rfl⟩
theorem dX12_parts_130 : dec cX12_parts 130 1 131 (.iconst 1) := ⟨by decide +kernel, rfl⟩
theorem dX12_parts_131 : dec cX12_parts 131 3 134 (.invokevirtual 326) := ⟨by decide +kernel, rfl⟩
theorem dX12_parts_134 : dec cX12_parts 134 1 135 (.iadd) := ⟨by decide +kernel, rfl⟩
theorem dX12_parts_135 : dec cX12_parts 135 1 136 (.ireturn) := ⟨by decide +kernel, rfl⟩
theorem dX12_parts_136 : dec cX12_parts 136 1 137 (.aload_n 0) := ⟨by decide +kernel, rfl⟩
theorem dX12_parts_137 : dec cX12_parts 137 2 139 (.bipush 62) := ⟨by decide +kernel, rfl⟩
theorem dX12_parts_139 : dec cX12_parts 139 3 142 (.invokevirtual 311) := ⟨by decide +kernel, rfl⟩
theorem dX12_parts_142 : dec cX12_parts 142 1 143 (.aload_n 0) := ⟨by decide +kernel, rfl⟩
theorem dX12_parts_143 : dec cX12_parts 143 1 144 (.aload_n 0) := ⟨by decide +kernel, rfl⟩
theorem dX12_parts_144 : dec cX12_parts 144 3 147 (.invokevirtual 320) := ⟨by decide +kernel, rfl⟩
theorem dX12_parts_147 : dec cX12_parts 147 1 148 (.iload_n 2) := ⟨by decide +kernel, rfl⟩
theorem dX12_parts_148 : dec cX12_parts 148 3 151 (.invokevirtual 323) := ⟨by decide +kernel, rfl⟩
theorem dX12_parts_151 : dec cX12_parts 151 1 152 (.istore_n 3) := ⟨by decide +kernel, rfl⟩
theorem dX12_parts_152 : dec cX12_parts 152 1 153 (.iload_n 3) := ⟨by decide +kernel, rfl⟩
theorem dX12_parts_153 : dec cX12_parts 153 1 154 (.aload_n 0) := ⟨by decide +kernel, rfl⟩
theorem dX12_parts_154 : dec cX12_parts 154 1 155 (.iconst 5) := ⟨by decide +kernel, rfl⟩
theorem dX12_parts_155 : dec cX12_parts 155 3 158 (.invokestatic 314) := ⟨by decide +kernel, rfl⟩
theorem dX12_parts_158 : dec cX12_parts 158 1 159 (.iload_n 2) := ⟨by decide +kernel, rfl⟩
theorem dX12_parts_159 : dec cX12_parts 159 3 162 (.invokevirtual 333) := ⟨by decide +kernel, rfl⟩
theorem dX12_parts_162 : dec cX12_parts 162 1 163 (.isub) := ⟨by decide +kernel, rfl⟩
theorem dX12_parts_163 : dec cX12_parts 163 1 164 (.ireturn) := ⟨by decide +kernel, rfl⟩
theorem dX12_parts_164 : dec cX12_parts 164 1 165 (.aload_n 0) := ⟨by decide +kernel, rfl⟩
theorem dX12_parts_165 : dec cX12_parts 165 1 166 (.iload_n 1) := ⟨by decide +kernel, rfl⟩
theorem dX12_parts_166 : dec cX12_parts 166 3 169 (.invokestatic 314) := ⟨by decide +kernel, rfl⟩
theorem dX12_parts_169 : dec cX12_parts 169 1 170 (.iload_n 2) := ⟨by decide +kernel, rfl⟩
theorem dX12_parts_170 : dec cX12_parts 170 3 173 (.invokevirtual 333) := ⟨by decide +kernel, rfl⟩
theorem dX12_parts_173 : dec cX12_parts 173 1 174 (.ireturn) := ⟨by decide +kernel, rfl⟩
set_option maxHeartbeats 4000000 in
set_option maxRecDepth 100000 in
theorem tX12_parts_J69 {X : Cx} {Y : Yx} {M0 : Mem} {Γ : Nat → List Int → Mem → (Int → Mem → Prop) → Prop} {d : Nat} (hC : OKX X Y RX12 cX12_parts 5 (some .int) (rmX12_parts (d + 1))) (hF : Y.2.2.2.2 = true) (hL : Lay M0) (a0 : Nat) (hG0 : ∀ (x0 : Int) (x1 : Int) (M : Mem) (Q : Int → Mem → Prop), (0 < a0 ∧ M 0 a0 = kO 12) → Γ 0 [x0, x1] M Q → CT Y X.2.1 yX12_parts cX12_parts 5 (some .int) (rmX12_parts d) [vR Y.1 a0, vI x0, vI x1] M (QI Q)) (Q : Int → Mem → Prop)   (x2 : Int) (x4 : Int) (xs0 : Int) (as1 : Nat) (qas1 : 0 < as1 ∧ M0 0 as1 = kO 12)  (M : Mem) (h : wX12_parts_J69 Γ Q  x2 x4 xs0 as1 M) : WW X Y 5 (rmX12_parts (d + 1)) (QI Q) M0 0 0 69 [(2, vI x2), (4, vI x4)] [vI xs0, vR Y.1 as1] M := by
  unfold wX12_parts_J69 at h
  obtain ⟨z_6, h⟩ := h
  refine r_putZ hC z_6 fp_X12_329 rfl qas1.1 qas1.2 dX12_parts_69 ?_
  refine r_nameM h (fun M_5 h => ?_)
  refine r_iload hC 1 dX12_parts_72 rfl ?_
  refine r_if_ne hC 81 rfl dX12_parts_74 (by decide) (fun cq => ?_) (fun cq => ?_)
  · replace h := h.2 cq
    refine r_iload hC 1 dX12_parts_81 rfl ?_
    refine r_iconst hC dX12_parts_83 ?_
    refine r_icmp_ne hC 92 rfl bmL_m1 dX12_parts_84 (by decide) (fun cq => ?_) (fun cq => ?_)
    · replace h := h.2 cq
      refine r_iload_n hC 0 dX12_parts_92 rfl rfl ?_
      refine r_iload hC 1 dX12_parts_93 rfl ?_
      obtain ⟨z_7, h⟩ := h
      refine r_idiv hC z_7 dX12_parts_95 ?_
      exact r_iret hC (Nat.zero_le _) (Nat.zero_le _) dX12_parts_96 ⟨_, rfl, h⟩
    · replace h := h.1 cq
      refine r_iload_n hC 0 dX12_parts_87 rfl rfl ?_
      refine r_ineg hC dX12_parts_88 ?_
      refine r_goto hC 96 dX12_parts_89 (by decide) ?_
      exact r_iret hC (Nat.zero_le _) (Nat.zero_le _) dX12_parts_96 ⟨_, rfl, h⟩
  · replace h := h.1 cq
    refine r_iconst hC dX12_parts_77 ?_
    refine r_goto hC 96 dX12_parts_78 (by decide) ?_
    exact r_iret hC (Nat.zero_le _) (Nat.zero_le _) dX12_parts_96 ⟨_, rfl, h⟩
set_option maxHeartbeats 4000000 in
set_option maxRecDepth 100000 in
theorem mbX12_parts (Y : Yx) (hF : Y.2.2.2.2 = true) (l : Launch) {Γ : Nat → List Int → Mem → (Int → Mem → Prop) → Prop} {d : Nat} (a0 : Nat) (x1 : Int) (x2 : Int) (hG0 : ∀ (x0 : Int) (x1 : Int) (M : Mem) (Q : Int → Mem → Prop), (0 < a0 ∧ M 0 a0 = kO 12) → Γ 0 [x0, x1] M Q → CT Y l yX12_parts cX12_parts 5 (some .int) (rmX12_parts d) [vR Y.1 a0, vI x0, vI x1] M (QI Q)) (M0 : Mem) (Q : Int → Mem → Prop) (qa0 : 0 < a0 ∧ M0 0 a0 = kO 12) (h : wbX12_parts Γ a0 x1 x2 M0 Q) : CT Y l yX12_parts cX12_parts 5 (some .int) (rmX12_parts (d + 1)) [vR Y.1 a0, vI x1, vI x2] M0 (QI Q) := by
  unfold wbX12_parts at h
  refine ct_intro (by decide) (Nat.le_of_ble_eq_true rfl) ?_
  intro X hXl hC hL0
  have hL := hL0 hF
  change OKX X Y RX12 cX12_parts 5 (some .int) (rmX12_parts (d + 1)) at hC
  subst hXl
  change WW X Y 5 (rmX12_parts (d + 1)) (QI Q) M0 0 0 0 [(0, vR Y.1 a0), (1, vI x1), (2, vI x2)] [] M0
  refine r_iconst hC dX12_parts_0 ?_
  refine r_istore_n (lv' := [(3, vI 0), (0, vR Y.1 a0), (1, vI x1), (2, vI x2)]) hC dX12_parts_1 rfl (by decide) rfl ?_
  refine r_iload_n hC 2 dX12_parts_2 rfl rfl ?_
  by_cases c0 : bm x1 = 0
  · replace h := h.1 c0
    refine r_lookup hC 36 dX12_parts_3 (by decide +kernel) (off := 33) (by rw [c0]; rfl) (by decide) ?_
    refine r_aload_n hC 1 dX12_parts_36 rfl rfl ?_
    refine r_bipush hC (by decide +kernel) dX12_parts_37 ?_
    refine r_callV (As := [vI 13]) (st := []) hC cw_X12_311 rfl qa0.1 qa0.2 rfl rfl (Nat.le_of_ble_eq_true rfl) (by constructor <;> simp only [rmX12_parts, rmX12_body] <;> omega) ⟨Nat.le_of_ble_eq_true rfl, Nat.le_of_ble_eq_true rfl⟩ dX12_parts_39 (fun hk => mX12_body Y hF _ _ _ _ _ (kqO hk qa0) h) (fun v M_1 h => ?_)
    obtain ⟨rfl, h⟩ := h
    refine r_aload_n hC 1 dX12_parts_42 rfl rfl ?_
    refine r_aload_n hC 1 dX12_parts_43 rfl rfl ?_
    refine r_getI hC fg_X12_308 rfl qa0.1 qa0.2 dX12_parts_44 ?_
    refine r_iconst hC dX12_parts_47 ?_
    refine r_callV (As := [vI (M_1 a0 34), vI 2]) (st := []) hC cw_X12_101 rfl qa0.1 qa0.2 rfl rfl (Nat.le_of_ble_eq_true rfl) (by constructor <;> simp only [rmX12_parts, rmX12_likingIs] <;> omega) ⟨Nat.le_of_ble_eq_true rfl, Nat.le_of_ble_eq_true rfl⟩ dX12_parts_48 (fun hk => mX12_likingIs Y hF _ _ _ _ _ _ (kqO hk qa0) h) (fun v M_2 h => ?_)
    obtain ⟨r_3, rfl, h⟩ := h
    refine r_aload_n hC 1 dX12_parts_51 rfl rfl ?_
    refine r_getI hC fg_X12_308 rfl qa0.1 qa0.2 dX12_parts_52 ?_
    refine r_isub hC dX12_parts_55 ?_
    refine r_nameI h (fun x4_4 h => ?_)
    refine r_istore (lv' := [(4, vI x4_4), (3, vI 0), (0, vR Y.1 a0), (1, vI x1), (2, vI x2)]) hC dX12_parts_56 (by decide) rfl ?_
    refine r_aload_n hC 2 dX12_parts_58 rfl rfl ?_
    refine r_iload hC 0 dX12_parts_59 rfl ?_
    refine r_if_ne hC 68 rfl dX12_parts_61 (by decide) (fun cq => ?_) (fun cq => ?_)
    · replace h := h.2 cq
      refine r_iconst hC dX12_parts_68 ?_
      refine r_sub [4, 0] rfl ?_
      exact tX12_parts_J69 hC hF hL _ hG0 Q   _ _ _ _ qa0  _ h
    · replace h := h.1 cq
      refine r_iconst hC dX12_parts_64 ?_
      refine r_goto hC 69 dX12_parts_65 (by decide) ?_
      refine r_sub [4, 0] rfl ?_
      exact tX12_parts_J69 hC hF hL _ hG0 Q   _ _ _ _ qa0  _ h
  · replace h := h.2 c0
    by_cases c1 : bm x1 = 1
    · replace h := h.1 c1
      refine r_lookup hC 97 dX12_parts_3 (by decide +kernel) (off := 94) (by rw [c1]; rfl) (by decide) ?_
      refine r_aload_n hC 1 dX12_parts_97 rfl rfl ?_
      refine r_bipush hC (by decide +kernel) dX12_parts_98 ?_
      refine r_callV (As := [vI 21]) (st := []) hC cw_X12_311 rfl qa0.1 qa0.2 rfl rfl (Nat.le_of_ble_eq_true rfl) (by constructor <;> simp only [rmX12_parts, rmX12_body] <;> omega) ⟨Nat.le_of_ble_eq_true rfl, Nat.le_of_ble_eq_true rfl⟩ dX12_parts_100 (fun hk => mX12_body Y hF _ _ _ _ _ (kqO hk qa0) h) (fun v M_8 h => ?_)
      obtain ⟨rfl, h⟩ := h
      refine r_aload_n hC 1 dX12_parts_103 rfl rfl ?_
      refine r_iconst hC dX12_parts_104 ?_
      refine r_callS (As := [vI 1]) (st := [vR Y.1 a0]) hC cw_X12_314 rfl rfl (Nat.le_of_ble_eq_true rfl) (by constructor <;> simp only [rmX12_parts, rmX12_above] <;> omega) ⟨Nat.le_of_ble_eq_true rfl, Nat.le_of_ble_eq_true rfl⟩ dX12_parts_105 (fun hk => mX12_above Y hF _ _ _ _  h) (fun v M_9 h => ?_)
      obtain ⟨r_10, rfl, h⟩ := h
      refine r_iload_n hC 3 dX12_parts_108 rfl rfl ?_
      refine r_callV (As := [vI r_10, vI x2]) (st := []) hC cw_X12_333 rfl qa0.1 qa0.2 rfl rfl (Nat.le_of_ble_eq_true rfl) (by constructor <;> simp only [rmX12_parts, rmX12_parts] <;> omega) ⟨Nat.le_of_ble_eq_true rfl, Nat.le_of_ble_eq_true rfl⟩ dX12_parts_109 (fun hk => hG0 _ _ _ _ (kqO hk qa0) h) (fun v M_11 h => ?_)
      obtain ⟨r_12, rfl, h⟩ := h
      refine r_istore_n (lv' := [(3, vI r_12), (0, vR Y.1 a0), (1, vI x1), (2, vI x2)]) hC dX12_parts_112 rfl (by decide) rfl ?_
      refine r_aload_n hC 1 dX12_parts_113 rfl rfl ?_
      refine r_getI hC fg_X12_329 rfl qa0.1 qa0.2 dX12_parts_114 ?_
      refine r_if_eq hC 124 rfl dX12_parts_117 (by decide) (fun cq => ?_) (fun cq => ?_)
      · replace h := h.1 cq
        refine r_iload_n hC 0 dX12_parts_124 rfl rfl ?_
        refine r_aload_n hC 1 dX12_parts_125 rfl rfl ?_
        refine r_aload_n hC 1 dX12_parts_126 rfl rfl ?_
        refine r_callV (As := []) (st := [vR Y.1 a0, vI r_12]) hC cw_X12_320 rfl qa0.1 qa0.2 rfl rfl (Nat.le_of_ble_eq_true rfl) (by constructor <;> simp only [rmX12_parts, rmX12_kindNow] <;> omega) ⟨Nat.le_of_ble_eq_true rfl, Nat.le_of_ble_eq_true rfl⟩ dX12_parts_127 (fun hk => mX12_kindNow Y hF _ _ _ _ (kqO hk qa0) h) (fun v M_13 h => ?_)
        obtain ⟨r_14, rfl, h⟩ := h
        refine r_iconst hC dX12_parts_130 ?_
        refine r_callV (As := [vI r_14, vI 1]) (st := [vI r_12]) hC cw_X12_326 rfl qa0.1 qa0.2 rfl rfl (Nat.le_of_ble_eq_true rfl) (by constructor <;> simp only [rmX12_parts, rmX12_asks] <;> omega) ⟨Nat.le_of_ble_eq_true rfl, Nat.le_of_ble_eq_true rfl⟩ dX12_parts_131 (fun hk => mX12_asks Y hF _ _ _ _ _ _ (kqO hk qa0) h) (fun v M_15 h => ?_)
        obtain ⟨r_16, rfl, h⟩ := h
        refine r_iadd hC dX12_parts_134 ?_
        exact r_iret hC (Nat.zero_le _) (Nat.zero_le _) dX12_parts_135 ⟨_, rfl, h⟩
      · replace h := h.2 cq
        refine r_iconst hC dX12_parts_120 ?_
        refine r_goto hC 135 dX12_parts_121 (by decide) ?_
        exact r_iret hC (Nat.zero_le _) (Nat.zero_le _) dX12_parts_135 ⟨_, rfl, h⟩
    · replace h := h.2 c1
      by_cases c2 : bm x1 = 5
      · replace h := h.1 c2
        refine r_lookup hC 136 dX12_parts_3 (by decide +kernel) (off := 133) (by rw [c2]; rfl) (by decide) ?_
        refine r_aload_n hC 1 dX12_parts_136 rfl rfl ?_
        refine r_bipush hC (by decide +kernel) dX12_parts_137 ?_
        refine r_callV (As := [vI 62]) (st := []) hC cw_X12_311 rfl qa0.1 qa0.2 rfl rfl (Nat.le_of_ble_eq_true rfl) (by constructor <;> simp only [rmX12_parts, rmX12_body] <;> omega) ⟨Nat.le_of_ble_eq_true rfl, Nat.le_of_ble_eq_true rfl⟩ dX12_parts_139 (fun hk => mX12_body Y hF _ _ _ _ _ (kqO hk qa0) h) (fun v M_17 h => ?_)
        obtain ⟨rfl, h⟩ := h
        refine r_aload_n hC 1 dX12_parts_142 rfl rfl ?_
        refine r_aload_n hC 1 dX12_parts_143 rfl rfl ?_
        refine r_callV (As := []) (st := [vR Y.1 a0]) hC cw_X12_320 rfl qa0.1 qa0.2 rfl rfl (Nat.le_of_ble_eq_true rfl) (by constructor <;> simp only [rmX12_parts, rmX12_kindNow] <;> omega) ⟨Nat.le_of_ble_eq_true rfl, Nat.le_of_ble_eq_true rfl⟩ dX12_parts_144 (fun hk => mX12_kindNow Y hF _ _ _ _ (kqO hk qa0) h) (fun v M_18 h => ?_)
        obtain ⟨r_19, rfl, h⟩ := h
        refine r_iload_n hC 3 dX12_parts_147 rfl rfl ?_
        refine r_callV (As := [vI r_19, vI x2]) (st := []) hC cw_X12_323 rfl qa0.1 qa0.2 rfl rfl (Nat.le_of_ble_eq_true rfl) (by constructor <;> simp only [rmX12_parts, rmX12_hears] <;> omega) ⟨Nat.le_of_ble_eq_true rfl, Nat.le_of_ble_eq_true rfl⟩ dX12_parts_148 (fun hk => mX12_hears Y hF _ _ _ _ _ _ (kqO hk qa0) h) (fun v M_20 h => ?_)
        obtain ⟨r_21, rfl, h⟩ := h
        refine r_istore_n (lv' := [(3, vI r_21), (0, vR Y.1 a0), (1, vI x1), (2, vI x2)]) hC dX12_parts_151 rfl (by decide) rfl ?_
        refine r_iload_n hC 0 dX12_parts_152 rfl rfl ?_
        refine r_aload_n hC 1 dX12_parts_153 rfl rfl ?_
        refine r_iconst hC dX12_parts_154 ?_
        refine r_callS (As := [vI 5]) (st := [vR Y.1 a0, vI r_21]) hC cw_X12_314 rfl rfl (Nat.le_of_ble_eq_true rfl) (by constructor <;> simp only [rmX12_parts, rmX12_above] <;> omega) ⟨Nat.le_of_ble_eq_true rfl, Nat.le_of_ble_eq_true rfl⟩ dX12_parts_155 (fun hk => mX12_above Y hF _ _ _ _  h) (fun v M_22 h => ?_)
        obtain ⟨r_23, rfl, h⟩ := h
        refine r_iload_n hC 3 dX12_parts_158 rfl rfl ?_
        refine r_callV (As := [vI r_23, vI x2]) (st := [vI r_21]) hC cw_X12_333 rfl qa0.1 qa0.2 rfl rfl (Nat.le_of_ble_eq_true rfl) (by constructor <;> simp only [rmX12_parts, rmX12_parts] <;> omega) ⟨Nat.le_of_ble_eq_true rfl, Nat.le_of_ble_eq_true rfl⟩ dX12_parts_159 (fun hk => hG0 _ _ _ _ (kqO hk qa0) h) (fun v M_24 h => ?_)
        obtain ⟨r_25, rfl, h⟩ := h
        refine r_isub hC dX12_parts_162 ?_
        exact r_iret hC (Nat.zero_le _) (Nat.zero_le _) dX12_parts_163 ⟨_, rfl, h⟩
      · replace h := h.2 c2
        refine r_lookup hC 164 dX12_parts_3 (by decide +kernel) (off := 161) (by simp [Op.lookupswitch.offset, Ne.symm c0, Ne.symm c1, Ne.symm c2]) (by decide) ?_
        refine r_aload_n hC 1 dX12_parts_164 rfl rfl ?_
        refine r_iload_n hC 2 dX12_parts_165 rfl rfl ?_
        refine r_callS (As := [vI x1]) (st := [vR Y.1 a0]) hC cw_X12_314 rfl rfl (Nat.le_of_ble_eq_true rfl) (by constructor <;> simp only [rmX12_parts, rmX12_above] <;> omega) ⟨Nat.le_of_ble_eq_true rfl, Nat.le_of_ble_eq_true rfl⟩ dX12_parts_166 (fun hk => mX12_above Y hF _ _ _ _  h) (fun v M_26 h => ?_)
        obtain ⟨r_27, rfl, h⟩ := h
        refine r_iload_n hC 3 dX12_parts_169 rfl rfl ?_
        refine r_callV (As := [vI r_27, vI x2]) (st := []) hC cw_X12_333 rfl qa0.1 qa0.2 rfl rfl (Nat.le_of_ble_eq_true rfl) (by constructor <;> simp only [rmX12_parts, rmX12_parts] <;> omega) ⟨Nat.le_of_ble_eq_true rfl, Nat.le_of_ble_eq_true rfl⟩ dX12_parts_170 (fun hk => hG0 _ _ _ _ (kqO hk qa0) h) (fun v M_28 h => ?_)
        obtain ⟨r_29, rfl, h⟩ := h
        exact r_iret hC (Nat.zero_le _) (Nat.zero_le _) dX12_parts_173 ⟨_, rfl, h⟩
set_option maxHeartbeats 4000000 in
set_option maxRecDepth 100000 in
theorem mGX12_parts (Y : Yx) (hF : Y.2.2.2.2 = true) (l : Launch) (a0 : Nat) : ∀ d : Nat, (∀ (x1 : Int) (x2 : Int) (M : Mem) (Q : Int → Mem → Prop), (0 < a0 ∧ M 0 a0 = kO 12) → wGX12_parts a0 d 0 [x1, x2] M Q → CT Y l yX12_parts cX12_parts 5 (some .int) (rmX12_parts d) [vR Y.1 a0, vI x1, vI x2] M (QI Q)) := by
  intro d
  induction d with
  | zero => exact fun x1 x2 M Q f0 h => h.elim
  | succ d ih => exact fun x1 x2 M Q f0 h => mbX12_parts Y hF l a0 x1 x2 ih M Q f0 h
set_option maxHeartbeats 4000000 in
set_option maxRecDepth 100000 in
theorem mX12_parts (Y : Yx) (hF : Y.2.2.2.2 = true) (l : Launch) (a0 : Nat) (x1 : Int) (x2 : Int) (M0 : Mem) (Q : Int → Mem → Prop) (qa0 : 0 < a0 ∧ M0 0 a0 = kO 12) (h : wX12_parts a0 x1 x2 M0 Q) : CT Y l yX12_parts cX12_parts 5 (some .int) (rmX12_parts 8) [vR Y.1 a0, vI x1, vI x2] M0 (QI Q) := (mGX12_parts Y hF l a0 8) _ _ M0 Q qa0 h
theorem dX12_voice_0 : dec cX12_voice 0 1 1 (.aload_n 0) := ⟨by decide +kernel, rfl⟩
theorem dX12_voice_1 : dec cX12_voice 1 1 2 (.iload_n 1) := ⟨by decide +kernel, rfl⟩
theorem dX12_voice_2 : dec cX12_voice 2 3 5 (.invokevirtual 98) := ⟨by decide +kernel, rfl⟩
theorem dX12_voice_5 : dec cX12_voice 5 3 8 (.ifCond .eq 12) := ⟨by decide +kernel, rfl⟩
theorem dX12_voice_8 : dec cX12_voice 8 1 9 (.iload_n 2) := ⟨by decide +kernel, rfl⟩
theorem dX12_voice_9 : dec cX12_voice 9 1 10 (.iconst 0) := ⟨by decide +kernel, rfl⟩
theorem dX12_voice_10 : dec cX12_voice 10 1 11 (.iconst 3) := ⟨by decide +kernel, rfl⟩
theorem dX12_voice_11 : dec cX12_voice 11 3 14 (.invokestatic 79) := ⟨by decide +kernel, rfl⟩
theorem dX12_voice_14 : dec cX12_voice 14 3 17 (.ifCond .ne 9) := ⟨by decide +kernel, rfl⟩
theorem dX12_voice_17 : dec cX12_voice 17 1 18 (.aload_n 0) := ⟨by decide +kernel, rfl⟩
theorem dX12_voice_18 : dec cX12_voice 18 1 19 (.iconst 1) := ⟨by decide +kernel, rfl⟩
theorem dX12_voice_19 : dec cX12_voice 19 3 22 (.invokevirtual 83) := ⟨by decide +kernel, rfl⟩
theorem dX12_voice_22 : dec cX12_voice 22 1 23 (.ireturn) := ⟨by decide +kernel, rfl⟩
theorem dX12_voice_23 : dec cX12_voice 23 1 24 (.aload_n 0) := ⟨by decide +kernel, rfl⟩
theorem dX12_voice_24 : dec cX12_voice 24 1 25 (.iconst 0) := ⟨by decide +kernel, rfl⟩
theorem dX12_voice_25 : dec cX12_voice 25 3 28 (.putfield 305) := ⟨by decide +kernel, rfl⟩
theorem dX12_voice_28 : dec cX12_voice 28 1 29 (.aload_n 0) := ⟨by decide +kernel, rfl⟩
theorem dX12_voice_29 : dec cX12_voice 29 1 30 (.iload_n 1) := ⟨by decide +kernel, rfl⟩
theorem dX12_voice_30 : dec cX12_voice 30 3 33 (.putfield 308) := ⟨by decide +kernel, rfl⟩
theorem dX12_voice_33 : dec cX12_voice 33 1 34 (.aload_n 0) := ⟨by decide +kernel, rfl⟩
theorem dX12_voice_34 : dec cX12_voice 34 1 35 (.iconst 0) := ⟨by decide +kernel, rfl⟩
theorem dX12_voice_35 : dec cX12_voice 35 3 38 (.putfield 329) := ⟨by decide +kernel, rfl⟩
theorem dX12_voice_38 : dec cX12_voice 38 1 39 (.aload_n 0) := ⟨by decide +kernel, rfl⟩
theorem dX12_voice_39 : dec cX12_voice 39 3 42 (.invokevirtual 320) := ⟨by decide +kernel, rfl⟩
theorem dX12_voice_42 : dec cX12_voice 42 2 44 (.istore 4) := ⟨by decide +kernel, rfl⟩
theorem dX12_voice_44 : dec cX12_voice 44 1 45 (.iload_n 2) := ⟨by decide +kernel, rfl⟩
theorem dX12_voice_45 : dec cX12_voice 45 3 48 (.ifCond .ne 13) := ⟨by decide +kernel, rfl⟩
theorem dX12_voice_48 : dec cX12_voice 48 1 49 (.aload_n 0) := ⟨by decide +kernel, rfl⟩
theorem dX12_voice_49 : dec cX12_voice 49 2 51 (.iload 4) := ⟨by decide +kernel, rfl⟩
theorem dX12_voice_51 : dec cX12_voice 51 1 52 (.iload_n 3) := ⟨by decide +kernel, rfl⟩
theorem dX12_voice_52 : dec cX12_voice 52 3 55 (.invokevirtual 317) := ⟨by decide +kernel, rfl⟩
theorem dX12_voice_55 : dec cX12_voice 55 3 58 (.goto 40) := ⟨by decide +kernel, rfl⟩
theorem dX12_voice_58 : dec cX12_voice 58 1 59 (.iload_n 2) := ⟨by decide +kernel, rfl⟩
theorem dX12_voice_59 : dec cX12_voice 59 1 60 (.iconst 1) := ⟨by decide +kernel, rfl⟩
theorem dX12_voice_60 : dec cX12_voice 60 3 63 (.if_icmp .ne 13) := ⟨by decide +kernel, rfl⟩
theorem dX12_voice_63 : dec cX12_voice 63 1 64 (.aload_n 0) := ⟨by decide +kernel, rfl⟩
theorem dX12_voice_64 : dec cX12_voice 64 2 66 (.iload 4) := ⟨by decide +kernel, rfl⟩
theorem dX12_voice_66 : dec cX12_voice 66 1 67 (.iload_n 3) := ⟨by decide +kernel, rfl⟩
theorem dX12_voice_67 : dec cX12_voice 67 3 70 (.invokevirtual 323) := ⟨by decide +kernel, rfl⟩
theorem dX12_voice_70 : dec cX12_voice 70 3 73 (.goto 25) := ⟨by decide +kernel, rfl⟩
theorem dX12_voice_73 : dec cX12_voice 73 1 74 (.iload_n 2) := ⟨by decide +kernel, rfl⟩
theorem dX12_voice_74 : dec cX12_voice 74 1 75 (.iconst 2) := ⟨by decide +kernel, rfl⟩
theorem dX12_voice_75 : dec cX12_voice 75 3 78 (.if_icmp .ne 13) := ⟨by decide +kernel, rfl⟩
theorem dX12_voice_78 : dec cX12_voice 78 1 79 (.aload_n 0) := ⟨by decide +kernel, rfl⟩
theorem dX12_voice_79 : dec cX12_voice 79 2 81 (.iload 4) := ⟨by decide +kernel, rfl⟩
theorem dX12_voice_81 : dec cX12_voice 81 1 82 (.iload_n 3) := ⟨by decide +kernel, rfl⟩
theorem dX12_voice_82 : dec cX12_voice 82 3 85 (.invokevirtual 326) := ⟨by decide +kernel, rfl⟩
theorem dX12_voice_85 : dec cX12_voice 85 3 88 (.goto 10) := ⟨by decide +kernel, rfl⟩
theorem dX12_voice_88 : dec cX12_voice 88 1 89 (.aload_n 0) := ⟨by decide +kernel, rfl⟩
theorem dX12_voice_89 : dec cX12_voice 89 2 91 (.iload 4) := ⟨by decide +kernel, rfl⟩
theorem dX12_voice_91 : dec cX12_voice 91 1 92 (.iload_n 3) := ⟨by decide +kernel, rfl⟩
theorem dX12_voice_92 : dec cX12_voice 92 3 95 (.invokevirtual 333) := ⟨by decide +kernel, rfl⟩
theorem dX12_voice_95 : dec cX12_voice 95 2 97 (.istore 5) := ⟨by decide +kernel, rfl⟩
theorem dX12_voice_97 : dec cX12_voice 97 1 98 (.aload_n 0) := ⟨by decide +kernel, rfl⟩
theorem dX12_voice_98 : dec cX12_voice 98 3 101 (.getfield 329) := ⟨by decide +kernel, rfl⟩
theorem dX12_voice_101 : dec cX12_voice 101 3 104 (.ifCond .eq 12) := ⟨by decide +kernel, rfl⟩
theorem dX12_voice_104 : dec cX12_voice 104 1 105 (.aload_n 0) := ⟨by decide +kernel, rfl⟩
theorem dX12_voice_105 : dec cX12_voice 105 2 107 (.bipush 6) := ⟨by decide +kernel, rfl⟩
theorem dX12_voice_107 : dec cX12_voice 107 3 110 (.invokevirtual 83) := ⟨by decide +kernel, rfl⟩
theorem dX12_voice_110 : dec cX12_voice 110 3 113 (.goto 5) := ⟨by decide +kernel, rfl⟩
theorem dX12_voice_113 : dec cX12_voice 113 2 115 (.iload 5) := ⟨by decide +kernel, rfl⟩
theorem dX12_voice_115 : dec cX12_voice 115 1 116 (.ireturn) := ⟨by decide +kernel, rfl⟩
set_option maxHeartbeats 4000000 in
set_option maxRecDepth 100000 in
theorem tX12_voice_J17 {X : Cx} {Y : Yx} {M0 : Mem} (hC : OKX X Y RX12 cX12_voice 6 (some .int) rmX12_voice) (hF : Y.2.2.2.2 = true) (hL : Lay M0) (Q : Int → Mem → Prop)   (a0 : Nat) (qa0 : 0 < a0 ∧ M0 0 a0 = kO 12)  (M : Mem) (h : wX12_voice_J17 Q  a0 M) : WW X Y 6 rmX12_voice (QI Q) M0 0 0 17 [(0, vR Y.1 a0)] [] M := by
  unfold wX12_voice_J17 at h
  refine r_aload_n hC 0 dX12_voice_17 rfl rfl ?_
  refine r_iconst hC dX12_voice_18 ?_
  refine r_callV (As := [vI 1]) (st := []) hC cw_X12_83 rfl qa0.1 qa0.2 rfl rfl (Nat.le_of_ble_eq_true rfl) ⟨Nat.le_of_ble_eq_true rfl, Nat.le_of_ble_eq_true rfl⟩ ⟨Nat.le_of_ble_eq_true rfl, Nat.le_of_ble_eq_true rfl⟩ dX12_voice_19 (fun hk => mX12_error Y hF _ _ _ _ _ (kqO hk qa0) h) (fun v M_3 h => ?_)
  obtain ⟨r_4, rfl, h⟩ := h
  exact r_iret hC (Nat.zero_le _) (Nat.zero_le _) dX12_voice_22 ⟨_, rfl, h⟩
set_option maxHeartbeats 4000000 in
set_option maxRecDepth 100000 in
theorem tX12_voice_J95 {X : Cx} {Y : Yx} {M0 : Mem} (hC : OKX X Y RX12 cX12_voice 6 (some .int) rmX12_voice) (hF : Y.2.2.2.2 = true) (hL : Lay M0) (Q : Int → Mem → Prop)   (a0 : Nat) (xs0 : Int) (qa0 : 0 < a0 ∧ M0 0 a0 = kO 12)  (M : Mem) (h : wX12_voice_J95 Q  a0 xs0 M) : WW X Y 6 rmX12_voice (QI Q) M0 0 0 95 [(0, vR Y.1 a0)] [vI xs0] M := by
  unfold wX12_voice_J95 at h
  refine r_istore (lv' := [(5, vI xs0), (0, vR Y.1 a0)]) hC dX12_voice_95 (by decide) rfl ?_
  refine r_aload_n hC 1 dX12_voice_97 rfl rfl ?_
  refine r_getI hC fg_X12_329 rfl qa0.1 qa0.2 dX12_voice_98 ?_
  refine r_if_eq hC 113 rfl dX12_voice_101 (by decide) (fun cq => ?_) (fun cq => ?_)
  · replace h := h.1 cq
    refine r_iload hC 0 dX12_voice_113 rfl ?_
    exact r_iret hC (Nat.zero_le _) (Nat.zero_le _) dX12_voice_115 ⟨_, rfl, h⟩
  · replace h := h.2 cq
    refine r_aload_n hC 1 dX12_voice_104 rfl rfl ?_
    refine r_bipush hC (by decide +kernel) dX12_voice_105 ?_
    refine r_callV (As := [vI 6]) (st := []) hC cw_X12_83 rfl qa0.1 qa0.2 rfl rfl (Nat.le_of_ble_eq_true rfl) ⟨Nat.le_of_ble_eq_true rfl, Nat.le_of_ble_eq_true rfl⟩ ⟨Nat.le_of_ble_eq_true rfl, Nat.le_of_ble_eq_true rfl⟩ dX12_voice_107 (fun hk => mX12_error Y hF _ _ _ _ _ (kqO hk qa0) h) (fun v M_14 h => ?_)
    obtain ⟨r_15, rfl, h⟩ := h
    refine r_goto hC 115 dX12_voice_110 (by decide) ?_
    exact r_iret hC (Nat.zero_le _) (Nat.zero_le _) dX12_voice_115 ⟨_, rfl, h⟩
set_option maxHeartbeats 4000000 in
set_option maxRecDepth 100000 in
theorem mX12_voice (Y : Yx) (hF : Y.2.2.2.2 = true) (l : Launch) (a0 : Nat) (x1 : Int) (x2 : Int) (x3 : Int) (M0 : Mem) (Q : Int → Mem → Prop) (qa0 : 0 < a0 ∧ M0 0 a0 = kO 12) (h : wX12_voice a0 x1 x2 x3 M0 Q) : CT Y l yX12_voice cX12_voice 6 (some .int) rmX12_voice [vR Y.1 a0, vI x1, vI x2, vI x3] M0 (QI Q) := by
  unfold wX12_voice at h
  refine ct_intro (by decide) (Nat.le_of_ble_eq_true rfl) ?_
  intro X hXl hC hL0
  have hL := hL0 hF
  change OKX X Y RX12 cX12_voice 6 (some .int) rmX12_voice at hC
  change WW X Y 6 rmX12_voice (QI Q) M0 0 0 0 [(0, vR Y.1 a0), (1, vI x1), (2, vI x2), (3, vI x3)] [] M0
  refine r_aload_n hC 0 dX12_voice_0 rfl rfl ?_
  refine r_iload_n hC 1 dX12_voice_1 rfl rfl ?_
  refine r_callV (As := [vI x1]) (st := []) hC cw_X12_98 rfl qa0.1 qa0.2 rfl rfl (Nat.le_of_ble_eq_true rfl) ⟨Nat.le_of_ble_eq_true rfl, Nat.le_of_ble_eq_true rfl⟩ ⟨Nat.le_of_ble_eq_true rfl, Nat.le_of_ble_eq_true rfl⟩ dX12_voice_2 (fun hk => mX12_isLiking Y hF _ _ _ _ _ (kqO hk qa0) h) (fun v M_1 h => ?_)
  obtain ⟨r_2, rfl, h⟩ := h
  refine r_if_eq hC 17 rfl dX12_voice_5 (by decide) (fun cq => ?_) (fun cq => ?_)
  · replace h := h.1 cq
    refine r_sub [0] rfl ?_
    exact tX12_voice_J17 hC hF hL Q   _ qa0  _ h
  · replace h := h.2 cq
    refine r_iload_n hC 2 dX12_voice_8 rfl rfl ?_
    refine r_iconst hC dX12_voice_9 ?_
    refine r_iconst hC dX12_voice_10 ?_
    refine r_callS (As := [vI x2, vI 0, vI 3]) (st := []) hC cw_X12_79 rfl rfl (Nat.le_of_ble_eq_true rfl) ⟨Nat.le_of_ble_eq_true rfl, Nat.le_of_ble_eq_true rfl⟩ ⟨Nat.le_of_ble_eq_true rfl, Nat.le_of_ble_eq_true rfl⟩ dX12_voice_11 (fun hk => mX12_in Y hF _ _ _ _ _ _  h) (fun v M_5 h => ?_)
    obtain ⟨r_6, rfl, h⟩ := h
    refine r_if_ne hC 23 rfl dX12_voice_14 (by decide) (fun cq => ?_) (fun cq => ?_)
    · replace h := h.2 cq
      refine r_aload_n hC 0 dX12_voice_23 rfl rfl ?_
      refine r_iconst hC dX12_voice_24 ?_
      refine r_putI hC fp_X12_305 rfl qa0.1 qa0.2 dX12_voice_25 ?_
      refine r_nameM h (fun M_7 h => ?_)
      refine r_aload_n hC 0 dX12_voice_28 rfl rfl ?_
      refine r_iload_n hC 1 dX12_voice_29 rfl rfl ?_
      refine r_putI hC fp_X12_308 rfl qa0.1 qa0.2 dX12_voice_30 ?_
      refine r_nameM h (fun M_8 h => ?_)
      refine r_aload_n hC 0 dX12_voice_33 rfl rfl ?_
      refine r_iconst hC dX12_voice_34 ?_
      refine r_putZ hC (Or.inl rfl) fp_X12_329 rfl qa0.1 qa0.2 dX12_voice_35 ?_
      refine r_nameM h (fun M_9 h => ?_)
      refine r_aload_n hC 0 dX12_voice_38 rfl rfl ?_
      refine r_callV (As := []) (st := []) hC cw_X12_320 rfl qa0.1 qa0.2 rfl rfl (Nat.le_of_ble_eq_true rfl) ⟨Nat.le_of_ble_eq_true rfl, Nat.le_of_ble_eq_true rfl⟩ ⟨Nat.le_of_ble_eq_true rfl, Nat.le_of_ble_eq_true rfl⟩ dX12_voice_39 (fun hk => mX12_kindNow Y hF _ _ _ _ (kqO hk qa0) h) (fun v M_10 h => ?_)
      obtain ⟨r_11, rfl, h⟩ := h
      refine r_istore (lv' := [(4, vI r_11), (0, vR Y.1 a0), (1, vI x1), (2, vI x2), (3, vI x3)]) hC dX12_voice_42 (by decide) rfl ?_
      refine r_iload_n hC 3 dX12_voice_44 rfl rfl ?_
      refine r_if_ne hC 58 rfl dX12_voice_45 (by decide) (fun cq => ?_) (fun cq => ?_)
      · replace h := h.2 cq
        refine r_iload_n hC 3 dX12_voice_58 rfl rfl ?_
        refine r_iconst hC dX12_voice_59 ?_
        refine r_icmp_ne hC 73 rfl bmL_1 dX12_voice_60 (by decide) (fun cq => ?_) (fun cq => ?_)
        · replace h := h.2 cq
          refine r_iload_n hC 3 dX12_voice_73 rfl rfl ?_
          refine r_iconst hC dX12_voice_74 ?_
          refine r_icmp_ne hC 88 rfl bmL_2 dX12_voice_75 (by decide) (fun cq => ?_) (fun cq => ?_)
          · replace h := h.2 cq
            refine r_aload_n hC 1 dX12_voice_88 rfl rfl ?_
            refine r_iload hC 0 dX12_voice_89 rfl ?_
            refine r_iload_n hC 4 dX12_voice_91 rfl rfl ?_
            refine r_callV (As := [vI r_11, vI x3]) (st := []) hC cw_X12_333 rfl qa0.1 qa0.2 rfl rfl (Nat.le_of_ble_eq_true rfl) ⟨Nat.le_of_ble_eq_true rfl, Nat.le_of_ble_eq_true rfl⟩ ⟨Nat.le_of_ble_eq_true rfl, Nat.le_of_ble_eq_true rfl⟩ dX12_voice_92 (fun hk => mX12_parts Y hF _ _ _ _ _ _ (kqO hk qa0) h) (fun v M_12 h => ?_)
            obtain ⟨r_13, rfl, h⟩ := h
            refine r_sub [1] rfl ?_
            exact tX12_voice_J95 hC hF hL Q   _ _ qa0  _ h
          · replace h := h.1 cq
            refine r_aload_n hC 1 dX12_voice_78 rfl rfl ?_
            refine r_iload hC 0 dX12_voice_79 rfl ?_
            refine r_iload_n hC 4 dX12_voice_81 rfl rfl ?_
            refine r_callV (As := [vI r_11, vI x3]) (st := []) hC cw_X12_326 rfl qa0.1 qa0.2 rfl rfl (Nat.le_of_ble_eq_true rfl) ⟨Nat.le_of_ble_eq_true rfl, Nat.le_of_ble_eq_true rfl⟩ ⟨Nat.le_of_ble_eq_true rfl, Nat.le_of_ble_eq_true rfl⟩ dX12_voice_82 (fun hk => mX12_asks Y hF _ _ _ _ _ _ (kqO hk qa0) h) (fun v M_16 h => ?_)
            obtain ⟨r_17, rfl, h⟩ := h
            refine r_goto hC 95 dX12_voice_85 (by decide) ?_
            refine r_sub [1] rfl ?_
            exact tX12_voice_J95 hC hF hL Q   _ _ qa0  _ h
        · replace h := h.1 cq
          refine r_aload_n hC 1 dX12_voice_63 rfl rfl ?_
          refine r_iload hC 0 dX12_voice_64 rfl ?_
          refine r_iload_n hC 4 dX12_voice_66 rfl rfl ?_
          refine r_callV (As := [vI r_11, vI x3]) (st := []) hC cw_X12_323 rfl qa0.1 qa0.2 rfl rfl (Nat.le_of_ble_eq_true rfl) ⟨Nat.le_of_ble_eq_true rfl, Nat.le_of_ble_eq_true rfl⟩ ⟨Nat.le_of_ble_eq_true rfl, Nat.le_of_ble_eq_true rfl⟩ dX12_voice_67 (fun hk => mX12_hears Y hF _ _ _ _ _ _ (kqO hk qa0) h) (fun v M_18 h => ?_)
          obtain ⟨r_19, rfl, h⟩ := h
          refine r_goto hC 95 dX12_voice_70 (by decide) ?_
          refine r_sub [1] rfl ?_
          exact tX12_voice_J95 hC hF hL Q   _ _ qa0  _ h
      · replace h := h.1 cq
        refine r_aload_n hC 1 dX12_voice_48 rfl rfl ?_
        refine r_iload hC 0 dX12_voice_49 rfl ?_
        refine r_iload_n hC 4 dX12_voice_51 rfl rfl ?_
        refine r_callV (As := [vI r_11, vI x3]) (st := []) hC cw_X12_317 rfl qa0.1 qa0.2 rfl rfl (Nat.le_of_ble_eq_true rfl) ⟨Nat.le_of_ble_eq_true rfl, Nat.le_of_ble_eq_true rfl⟩ ⟨Nat.le_of_ble_eq_true rfl, Nat.le_of_ble_eq_true rfl⟩ dX12_voice_52 (fun hk => mX12_says Y hF _ _ _ _ _ _ (kqO hk qa0) h) (fun v M_20 h => ?_)
        obtain ⟨r_21, rfl, h⟩ := h
        refine r_goto hC 95 dX12_voice_55 (by decide) ?_
        refine r_sub [1] rfl ?_
        exact tX12_voice_J95 hC hF hL Q   _ _ qa0  _ h
    · replace h := h.1 cq
      refine r_sub [0] rfl ?_
      exact tX12_voice_J17 hC hF hL Q   _ qa0  _ h
theorem dX12_trace_0 : dec cX12_trace 0 1 1 (.iload_n 1) := ⟨by decide +kernel, rfl⟩
theorem dX12_trace_1 : dec cX12_trace 1 1 2 (.iconst 0) := ⟨by decide +kernel, rfl⟩
theorem dX12_trace_2 : dec cX12_trace 2 1 3 (.aload_n 0) := ⟨by decide +kernel, rfl⟩
theorem dX12_trace_3 : dec cX12_trace 3 3 6 (.getfield 305) := ⟨by decide +kernel, rfl⟩
theorem dX12_trace_6 : dec cX12_trace 6 1 7 (.iconst 1) := ⟨by decide +kernel, rfl⟩
theorem dX12_trace_7 : dec cX12_trace 7 1 8 (.isub) := ⟨by decide +kernel, rfl⟩
theorem dX12_trace_8 : dec cX12_trace 8 3 11 (.invokestatic 79) := ⟨by decide +kernel, rfl⟩
theorem dX12_trace_11 : dec cX12_trace 11 3 14 (.ifCond .eq 12) := ⟨by decide +kernel, rfl⟩
theorem dX12_trace_14 : dec cX12_trace 14 1 15 (.aload_n 0) := ⟨by decide +kernel, rfl⟩
theorem dX12_trace_15 : dec cX12_trace 15 3 18 (.getfield 63) := ⟨by decide +kernel, rfl⟩
theorem dX12_trace_18 : dec cX12_trace 18 1 19 (.iload_n 1) := ⟨by decide +kernel, rfl⟩
theorem dX12_trace_19 : dec cX12_trace 19 1 20 (.iaload) := ⟨by decide +kernel, rfl⟩
theorem dX12_trace_20 : dec cX12_trace 20 3 23 (.goto 8) := ⟨by decide +kernel, rfl⟩
theorem dX12_trace_23 : dec cX12_trace 23 1 24 (.aload_n 0) := ⟨by decide +kernel, rfl⟩
theorem dX12_trace_24 : dec cX12_trace 24 1 25 (.iconst 2) := ⟨by decide +kernel, rfl⟩
theorem dX12_trace_25 : dec cX12_trace 25 3 28 (.invokevirtual 83) := ⟨by decide +kernel, rfl⟩
theorem dX12_trace_28 : dec cX12_trace 28 1 29 (.ireturn) := ⟨by decide +kernel, rfl⟩
set_option maxHeartbeats 4000000 in
set_option maxRecDepth 100000 in
theorem mX12_trace (Y : Yx) (hF : Y.2.2.2.2 = true) (l : Launch) (a0 : Nat) (x1 : Int) (M0 : Mem) (Q : Int → Mem → Prop) (qa0 : 0 < a0 ∧ M0 0 a0 = kO 12) (h : wX12_trace a0 x1 M0 Q) : CT Y l yX12_trace cX12_trace 2 (some .int) rmX12_trace [vR Y.1 a0, vI x1] M0 (QI Q) := by
  unfold wX12_trace at h
  refine ct_intro (by decide) (Nat.le_of_ble_eq_true rfl) ?_
  intro X hXl hC hL0
  have hL := hL0 hF
  change OKX X Y RX12 cX12_trace 2 (some .int) rmX12_trace at hC
  change WW X Y 2 rmX12_trace (QI Q) M0 0 0 0 [(0, vR Y.1 a0), (1, vI x1)] [] M0
  refine r_iload_n hC 1 dX12_trace_0 rfl rfl ?_
  refine r_iconst hC dX12_trace_1 ?_
  refine r_aload_n hC 0 dX12_trace_2 rfl rfl ?_
  refine r_getI hC fg_X12_305 rfl qa0.1 qa0.2 dX12_trace_3 ?_
  refine r_iconst hC dX12_trace_6 ?_
  refine r_isub hC dX12_trace_7 ?_
  refine r_callS (As := [vI x1, vI 0, vI ((M0 a0 33) - 1)]) (st := []) hC cw_X12_79 rfl rfl (Nat.le_of_ble_eq_true rfl) ⟨Nat.le_of_ble_eq_true rfl, Nat.le_of_ble_eq_true rfl⟩ ⟨Nat.le_of_ble_eq_true rfl, Nat.le_of_ble_eq_true rfl⟩ dX12_trace_8 (fun hk => mX12_in Y hF _ _ _ _ _ _  h) (fun v M_1 h => ?_)
  obtain ⟨r_2, rfl, h⟩ := h
  refine r_if_eq hC 23 rfl dX12_trace_11 (by decide) (fun cq => ?_) (fun cq => ?_)
  · replace h := h.1 cq
    refine r_aload_n hC 0 dX12_trace_23 rfl rfl ?_
    refine r_iconst hC dX12_trace_24 ?_
    refine r_callV (As := [vI 2]) (st := []) hC cw_X12_83 rfl qa0.1 qa0.2 rfl rfl (Nat.le_of_ble_eq_true rfl) ⟨Nat.le_of_ble_eq_true rfl, Nat.le_of_ble_eq_true rfl⟩ ⟨Nat.le_of_ble_eq_true rfl, Nat.le_of_ble_eq_true rfl⟩ dX12_trace_25 (fun hk => mX12_error Y hF _ _ _ _ _ (kqO hk qa0) h) (fun v M_3 h => ?_)
    obtain ⟨r_4, rfl, h⟩ := h
    exact r_iret hC (Nat.zero_le _) (Nat.zero_le _) dX12_trace_28 ⟨_, rfl, h⟩
  · replace h := h.2 cq
    refine r_aload_n hC 0 dX12_trace_14 rfl rfl ?_
    have q_5 : 0 < a0 + 18 ∧ M0 0 (a0 + 18) = kA 0 30 := lay_f0 (a := a0) hL qa0 fm_12_32
    refine r_getR0 (a' := a0 + 18) hC fg_X12_63 rfl hF fm_12_32 qa0.1 qa0.2 rfl dX12_trace_15 ?_
    refine r_iload_n hC 1 dX12_trace_18 rfl rfl ?_
    obtain ⟨i_6, h⟩ := h
    refine r_iald hC i_6 q_5.1 q_5.2 (by decide) dX12_trace_19 ?_
    refine r_goto hC 28 dX12_trace_20 (by decide) ?_
    exact r_iret hC (Nat.zero_le _) (Nat.zero_le _) dX12_trace_28 ⟨_, rfl, h⟩
theorem dX12_sheet_0 : dec cX12_sheet 0 1 1 (.iload_n 1) := ⟨by decide +kernel, rfl⟩
theorem dX12_sheet_1 : dec cX12_sheet 1 3 4 (.invokestatic 214) := ⟨by decide +kernel, rfl⟩
theorem dX12_sheet_4 : dec cX12_sheet 4 3 7 (.ifCond .eq 25) := ⟨by decide +kernel, rfl⟩
theorem dX12_sheet_7 : dec cX12_sheet 7 1 8 (.iload_n 2) := ⟨by decide +kernel, rfl⟩
theorem dX12_sheet_8 : dec cX12_sheet 8 3 11 (.ifCond .eq 27) := ⟨by decide +kernel, rfl⟩
theorem dX12_sheet_11 : dec cX12_sheet 11 1 12 (.iload_n 2) := ⟨by decide +kernel, rfl⟩
theorem dX12_sheet_12 : dec cX12_sheet 12 2 14 (.bipush 8) := ⟨by decide +kernel, rfl⟩
theorem dX12_sheet_14 : dec cX12_sheet 14 3 17 (.if_icmp .eq 21) := ⟨by decide +kernel, rfl⟩
theorem dX12_sheet_17 : dec cX12_sheet 17 1 18 (.iload_n 2) := ⟨by decide +kernel, rfl⟩
theorem dX12_sheet_18 : dec cX12_sheet 18 2 20 (.bipush 16) := ⟨by decide +kernel, rfl⟩
theorem dX12_sheet_20 : dec cX12_sheet 20 3 23 (.if_icmp .eq 15) := ⟨by decide +kernel, rfl⟩
theorem dX12_sheet_23 : dec cX12_sheet 23 1 24 (.iload_n 2) := ⟨by decide +kernel, rfl⟩
theorem dX12_sheet_24 : dec cX12_sheet 24 2 26 (.bipush 32) := ⟨by decide +kernel, rfl⟩
theorem dX12_sheet_26 : dec cX12_sheet 26 3 29 (.if_icmp .eq 9) := ⟨by decide +kernel, rfl⟩
theorem dX12_sheet_29 : dec cX12_sheet 29 1 30 (.aload_n 0) := ⟨by decide +kernel, rfl⟩
theorem dX12_sheet_30 : dec cX12_sheet 30 1 31 (.iconst 1) := ⟨by decide +kernel, rfl⟩
theorem dX12_sheet_31 : dec cX12_sheet 31 3 34 (.invokevirtual 83) := ⟨by decide +kernel, rfl⟩
theorem dX12_sheet_34 : dec cX12_sheet 34 1 35 (.ireturn) := ⟨by decide +kernel, rfl⟩
theorem dX12_sheet_35 : dec cX12_sheet 35 1 36 (.iload_n 2) := ⟨by decide +kernel, rfl⟩
theorem dX12_sheet_36 : dec cX12_sheet 36 3 39 (.ifCond .eq 13) := ⟨by decide +kernel, rfl⟩
theorem dX12_sheet_39 : dec cX12_sheet 39 1 40 (.iload_n 3) := ⟨by decide +kernel, rfl⟩
theorem dX12_sheet_40 : dec cX12_sheet 40 3 43 (.ifCond .ge 9) := ⟨by decide +kernel, rfl⟩
theorem dX12_sheet_43 : dec cX12_sheet 43 1 44 (.aload_n 0) := ⟨by decide +kernel, rfl⟩
theorem dX12_sheet_44 : dec cX12_sheet 44 1 45 (.iconst 3) := ⟨by decide +kernel, rfl⟩
theorem dX12_sheet_45 : dec cX12_sheet 45 3 48 (.invokevirtual 83) := ⟨by decide +kernel, rfl⟩
theorem dX12_sheet_48 : dec cX12_sheet 48 1 49 (.ireturn) := ⟨by decide +kernel, rfl⟩
theorem dX12_sheet_49 : dec cX12_sheet 49 1 50 (.iload_n 2) := ⟨by decide +kernel, rfl⟩
theorem dX12_sheet_50 : dec cX12_sheet 50 3 53 (.ifCond .eq 15) := ⟨by decide +kernel, rfl⟩
theorem dX12_sheet_53 : dec cX12_sheet 53 1 54 (.iload_n 3) := ⟨by decide +kernel, rfl⟩
theorem dX12_sheet_54 : dec cX12_sheet 54 2 56 (.bipush 24) := ⟨by decide +kernel, rfl⟩
theorem dX12_sheet_56 : dec cX12_sheet 56 3 59 (.if_icmp .le 9) := ⟨by decide +kernel, rfl⟩
theorem dX12_sheet_59 : dec cX12_sheet 59 1 60 (.aload_n 0) := ⟨by decide +kernel, rfl⟩
theorem dX12_sheet_60 : dec cX12_sheet 60 1 61 (.iconst 1) := ⟨by decide +kernel, rfl⟩
theorem dX12_sheet_61 : dec cX12_sheet 61 3 64 (.invokevirtual 83) := ⟨by decide +kernel, rfl⟩
theorem dX12_sheet_64 : dec cX12_sheet 64 1 65 (.ireturn) := ⟨by decide +kernel, rfl⟩
theorem dX12_sheet_65 : dec cX12_sheet 65 1 66 (.aload_n 0) := ⟨by decide +kernel, rfl⟩
theorem dX12_sheet_66 : dec cX12_sheet 66 3 69 (.getfield 66) := ⟨by decide +kernel, rfl⟩
theorem dX12_sheet_69 : dec cX12_sheet 69 1 70 (.iload_n 1) := ⟨by decide +kernel, rfl⟩
theorem dX12_sheet_70 : dec cX12_sheet 70 1 71 (.iload_n 2) := ⟨by decide +kernel, rfl⟩
theorem dX12_sheet_71 : dec cX12_sheet 71 1 72 (.iastore) := ⟨by decide +kernel, rfl⟩
theorem dX12_sheet_72 : dec cX12_sheet 72 1 73 (.aload_n 0) := ⟨by decide +kernel, rfl⟩
theorem dX12_sheet_73 : dec cX12_sheet 73 3 76 (.getfield 69) := ⟨by decide +kernel, rfl⟩
theorem dX12_sheet_76 : dec cX12_sheet 76 1 77 (.iload_n 1) := ⟨by decide +kernel, rfl⟩
theorem dX12_sheet_77 : dec cX12_sheet 77 1 78 (.iload_n 2) := ⟨by decide +kernel, rfl⟩
theorem dX12_sheet_78 : dec cX12_sheet 78 3 81 (.ifCond .ne 7) := ⟨by decide +kernel, rfl⟩
theorem dX12_sheet_81 : dec cX12_sheet 81 1 82 (.iconst 0) := ⟨by decide +kernel, rfl⟩
theorem dX12_sheet_82 : dec cX12_sheet 82 3 85 (.goto 4) := ⟨by decide +kernel, rfl⟩
theorem dX12_sheet_85 : dec cX12_sheet 85 1 86 (.iload_n 3) := ⟨by decide +kernel, rfl⟩
theorem dX12_sheet_86 : dec cX12_sheet 86 1 87 (.iastore) := ⟨by decide +kernel, rfl⟩
theorem dX12_sheet_87 : dec cX12_sheet 87 1 88 (.iconst 0) := ⟨by decide +kernel, rfl⟩
theorem dX12_sheet_88 : dec cX12_sheet 88 2 90 (.istore 4) := ⟨by decide +kernel, rfl⟩
theorem dX12_sheet_90 : dec cX12_sheet 90 2 92 (.iload 4) := ⟨by decide +kernel, rfl⟩
theorem dX12_sheet_92 : dec cX12_sheet 92 2 94 (.bipush 24) := ⟨by decide +kernel, rfl⟩
theorem dX12_sheet_94 : dec cX12_sheet 94 3 97 (.if_icmp .ge 22) := ⟨by decide +kernel, rfl⟩
theorem dX12_sheet_97 : dec cX12_sheet 97 1 98 (.aload_n 0) := ⟨by decide +kernel, rfl⟩
theorem dX12_sheet_98 : dec cX12_sheet 98 3 101 (.getfield 72) := ⟨by decide +kernel, rfl⟩
theorem dX12_sheet_101 : dec cX12_sheet 101 2 103 (.bipush 24) := ⟨by decide +kernel, rfl⟩
theorem dX12_sheet_103 : dec cX12_sheet 103 1 104 (.iload_n 1) := ⟨by decide +kernel, rfl⟩
theorem dX12_sheet_104 : dec cX12_sheet 104 1 105 (.imul) := ⟨by decide +kernel, rfl⟩
theorem dX12_sheet_105 : dec cX12_sheet 105 2 107 (.iload 4) := ⟨by decide +kernel, rfl⟩
theorem dX12_sheet_107 : dec cX12_sheet 107 1 108 (.iadd) := ⟨by decide +kernel, rfl⟩
theorem dX12_sheet_108 : dec cX12_sheet 108 1 109 (.iconst 0) := ⟨by decide +kernel, rfl⟩
theorem dX12_sheet_109 : dec cX12_sheet 109 1 110 (.iastore) := ⟨by decide +kernel, rfl⟩
theorem dX12_sheet_110 : dec cX12_sheet 110 3 113 (.iinc 4 1) := ⟨by decide +kernel, rfl⟩
theorem dX12_sheet_113 : dec cX12_sheet 113 3 116 (.goto (-23)) := ⟨by decide +kernel, rfl⟩
theorem dX12_sheet_116 : dec cX12_sheet 116 1 117 (.iconst 1) := ⟨by decide +kernel, rfl⟩
theorem dX12_sheet_117 : dec cX12_sheet 117 1 118 (.ireturn) := ⟨by decide +kernel, rfl⟩
set_option maxHeartbeats 4000000 in
set_option maxRecDepth 100000 in
theorem tX12_sheet_J29 {X : Cx} {Y : Yx} {M0 : Mem} (hC : OKX X Y RX12 cX12_sheet 5 (some .int) rmX12_sheet) (hF : Y.2.2.2.2 = true) (hL : Lay M0) (Q : Int → Mem → Prop)   (a0 : Nat) (qa0 : 0 < a0 ∧ M0 0 a0 = kO 12)  (M : Mem) (h : wX12_sheet_J29 Q  a0 M) : WW X Y 5 rmX12_sheet (QI Q) M0 0 0 29 [(0, vR Y.1 a0)] [] M := by
  unfold wX12_sheet_J29 at h
  refine r_aload_n hC 0 dX12_sheet_29 rfl rfl ?_
  refine r_iconst hC dX12_sheet_30 ?_
  refine r_callV (As := [vI 1]) (st := []) hC cw_X12_83 rfl qa0.1 qa0.2 rfl rfl (Nat.le_of_ble_eq_true rfl) ⟨Nat.le_of_ble_eq_true rfl, Nat.le_of_ble_eq_true rfl⟩ ⟨Nat.le_of_ble_eq_true rfl, Nat.le_of_ble_eq_true rfl⟩ dX12_sheet_31 (fun hk => mX12_error Y hF _ _ _ _ _ (kqO hk qa0) h) (fun v M_3 h => ?_)
  obtain ⟨r_4, rfl, h⟩ := h
  exact r_iret hC (Nat.zero_le _) (Nat.zero_le _) dX12_sheet_34 ⟨_, rfl, h⟩
set_option maxHeartbeats 4000000 in
set_option maxRecDepth 100000 in
theorem tX12_sheet_L90 {X : Cx} {Y : Yx} {M0 : Mem} (hC : OKX X Y RX12 cX12_sheet 5 (some .int) rmX12_sheet) (hF : Y.2.2.2.2 = true) (hL : Lay M0) (Q : Int → Mem → Prop)  (a0 : Nat) (x1 : Int) (qa0 : 0 < a0 ∧ M0 0 a0 = kO 12)  : ∀ (N : Nat) (x4 : Int) (M : Mem) (_ : wX12_sheet_L90 Q  a0 x1 N x4 M), WW X Y 5 rmX12_sheet (QI Q) M0 0 0 90 [(0, vR Y.1 a0), (1, vI x1), (4, vI x4)] [] M := by
  intro N
  induction N with
  | zero =>
    intro x4 M h
    exact h.elim
  | succ N ih =>
    intro x4 M h
    unfold wX12_sheet_L90 at h
    refine r_iload hC 2 dX12_sheet_90 rfl ?_
    refine r_bipush hC (by decide +kernel) dX12_sheet_92 ?_
    refine r_icmp_ge hC 116 rfl bmL_24 dX12_sheet_94 (by decide) (fun cq => ?_) (fun cq => ?_)
    · replace h := h.1 cq
      refine r_iconst hC dX12_sheet_116 ?_
      exact r_iret hC (Nat.zero_le _) (Nat.zero_le _) dX12_sheet_117 ⟨_, rfl, h⟩
    · replace h := h.2 cq
      refine r_aload_n hC 0 dX12_sheet_97 rfl rfl ?_
      have q_11 : 0 < a0 + 21 ∧ M0 0 (a0 + 21) = kA 0 96 := lay_f0 (a := a0) hL qa0 fm_12_38
      refine r_getR0 (a' := a0 + 21) hC fg_X12_72 rfl hF fm_12_38 qa0.1 qa0.2 rfl dX12_sheet_98 ?_
      refine r_bipush hC (by decide +kernel) dX12_sheet_101 ?_
      refine r_iload_n hC 1 dX12_sheet_103 rfl rfl ?_
      refine r_imul hC dX12_sheet_104 ?_
      refine r_iload hC 2 dX12_sheet_105 rfl ?_
      refine r_iadd hC dX12_sheet_107 ?_
      refine r_iconst hC dX12_sheet_108 ?_
      obtain ⟨i_12, h⟩ := h
      refine r_iast hC i_12 q_11.1 q_11.2 (by decide) dX12_sheet_109 ?_
      refine r_nameM h (fun M_13 h => ?_)
      refine let_elim h (fun x4_14 e_15 h => ?_)
      refine r_iinc (lv' := [(4, vI x4_14), (0, vR Y.1 a0), (1, vI x1)]) hC 2 dX12_sheet_110 rfl (by decide) e_15 rfl ?_
      refine r_goto hC 90 dX12_sheet_113 (by decide) ?_
      refine r_sub [1, 2, 0] rfl ?_
      exact ih _ _ h
set_option maxHeartbeats 4000000 in
set_option maxRecDepth 100000 in
theorem tX12_sheet_J86 {X : Cx} {Y : Yx} {M0 : Mem} (hC : OKX X Y RX12 cX12_sheet 5 (some .int) rmX12_sheet) (hF : Y.2.2.2.2 = true) (hL : Lay M0) (Q : Int → Mem → Prop)   (a0 : Nat) (x1 : Int) (xs0 : Int) (xs1 : Int) (as2 : Nat) (qa0 : 0 < a0 ∧ M0 0 a0 = kO 12) (qas2 : 0 < as2 ∧ M0 0 as2 = kA 0 4)  (M : Mem) (h : wX12_sheet_J86 Q  a0 x1 xs0 xs1 as2 M) : WW X Y 5 rmX12_sheet (QI Q) M0 0 0 86 [(0, vR Y.1 a0), (1, vI x1)] [vI xs0, vI xs1, vR Y.1 as2] M := by
  unfold wX12_sheet_J86 at h
  obtain ⟨i_9, h⟩ := h
  refine r_iast hC i_9 qas2.1 qas2.2 (by decide) dX12_sheet_86 ?_
  refine r_nameM h (fun M_10 h => ?_)
  refine r_iconst hC dX12_sheet_87 ?_
  refine r_istore (lv' := [(4, vI 0), (0, vR Y.1 a0), (1, vI x1)]) hC dX12_sheet_88 (by decide) rfl ?_
  refine r_sub [1, 2, 0] rfl ?_
  obtain ⟨N_16, h⟩ := h
  refine tX12_sheet_L90 hC hF hL Q  _ _ qa0  N_16 _ _ h
set_option maxHeartbeats 4000000 in
set_option maxRecDepth 100000 in
theorem tX12_sheet_J65 {X : Cx} {Y : Yx} {M0 : Mem} (hC : OKX X Y RX12 cX12_sheet 5 (some .int) rmX12_sheet) (hF : Y.2.2.2.2 = true) (hL : Lay M0) (Q : Int → Mem → Prop)   (a0 : Nat) (x1 : Int) (x2 : Int) (x3 : Int) (qa0 : 0 < a0 ∧ M0 0 a0 = kO 12)  (M : Mem) (h : wX12_sheet_J65 Q  a0 x1 x2 x3 M) : WW X Y 5 rmX12_sheet (QI Q) M0 0 0 65 [(0, vR Y.1 a0), (1, vI x1), (2, vI x2), (3, vI x3)] [] M := by
  unfold wX12_sheet_J65 at h
  refine r_aload_n hC 0 dX12_sheet_65 rfl rfl ?_
  have q_5 : 0 < a0 + 19 ∧ M0 0 (a0 + 19) = kA 0 4 := lay_f0 (a := a0) hL qa0 fm_12_36
  refine r_getR0 (a' := a0 + 19) hC fg_X12_66 rfl hF fm_12_36 qa0.1 qa0.2 rfl dX12_sheet_66 ?_
  refine r_iload_n hC 1 dX12_sheet_69 rfl rfl ?_
  refine r_iload_n hC 2 dX12_sheet_70 rfl rfl ?_
  obtain ⟨i_6, h⟩ := h
  refine r_iast hC i_6 q_5.1 q_5.2 (by decide) dX12_sheet_71 ?_
  refine r_nameM h (fun M_7 h => ?_)
  refine r_aload_n hC 0 dX12_sheet_72 rfl rfl ?_
  have q_8 : 0 < a0 + 20 ∧ M0 0 (a0 + 20) = kA 0 4 := lay_f0 (a := a0) hL qa0 fm_12_37
  refine r_getR0 (a' := a0 + 20) hC fg_X12_69 rfl hF fm_12_37 qa0.1 qa0.2 rfl dX12_sheet_73 ?_
  refine r_iload_n hC 1 dX12_sheet_76 rfl rfl ?_
  refine r_iload_n hC 2 dX12_sheet_77 rfl rfl ?_
  refine r_if_ne hC 85 rfl dX12_sheet_78 (by decide) (fun cq => ?_) (fun cq => ?_)
  · replace h := h.2 cq
    refine r_iload_n hC 3 dX12_sheet_85 rfl rfl ?_
    refine r_sub [0, 1] rfl ?_
    exact tX12_sheet_J86 hC hF hL Q   _ _ _ _ _ qa0 q_8  _ h
  · replace h := h.1 cq
    refine r_iconst hC dX12_sheet_81 ?_
    refine r_goto hC 86 dX12_sheet_82 (by decide) ?_
    refine r_sub [0, 1] rfl ?_
    exact tX12_sheet_J86 hC hF hL Q   _ _ _ _ _ qa0 q_8  _ h
set_option maxHeartbeats 4000000 in
set_option maxRecDepth 100000 in
theorem tX12_sheet_J49 {X : Cx} {Y : Yx} {M0 : Mem} (hC : OKX X Y RX12 cX12_sheet 5 (some .int) rmX12_sheet) (hF : Y.2.2.2.2 = true) (hL : Lay M0) (Q : Int → Mem → Prop)   (a0 : Nat) (x1 : Int) (x2 : Int) (x3 : Int) (qa0 : 0 < a0 ∧ M0 0 a0 = kO 12)  (M : Mem) (h : wX12_sheet_J49 Q  a0 x1 x2 x3 M) : WW X Y 5 rmX12_sheet (QI Q) M0 0 0 49 [(0, vR Y.1 a0), (1, vI x1), (2, vI x2), (3, vI x3)] [] M := by
  unfold wX12_sheet_J49 at h
  refine r_iload_n hC 2 dX12_sheet_49 rfl rfl ?_
  refine r_if_eq hC 65 rfl dX12_sheet_50 (by decide) (fun cq => ?_) (fun cq => ?_)
  · replace h := h.1 cq
    refine r_sub [0, 1, 2, 3] rfl ?_
    exact tX12_sheet_J65 hC hF hL Q   _ _ _ _ qa0  _ h
  · replace h := h.2 cq
    refine r_iload_n hC 3 dX12_sheet_53 rfl rfl ?_
    refine r_bipush hC (by decide +kernel) dX12_sheet_54 ?_
    refine r_icmp_le hC 65 rfl bmL_24 dX12_sheet_56 (by decide) (fun cq => ?_) (fun cq => ?_)
    · replace h := h.1 cq
      refine r_sub [0, 1, 2, 3] rfl ?_
      exact tX12_sheet_J65 hC hF hL Q   _ _ _ _ qa0  _ h
    · replace h := h.2 cq
      refine r_aload_n hC 0 dX12_sheet_59 rfl rfl ?_
      refine r_iconst hC dX12_sheet_60 ?_
      refine r_callV (As := [vI 1]) (st := []) hC cw_X12_83 rfl qa0.1 qa0.2 rfl rfl (Nat.le_of_ble_eq_true rfl) ⟨Nat.le_of_ble_eq_true rfl, Nat.le_of_ble_eq_true rfl⟩ ⟨Nat.le_of_ble_eq_true rfl, Nat.le_of_ble_eq_true rfl⟩ dX12_sheet_61 (fun hk => mX12_error Y hF _ _ _ _ _ (kqO hk qa0) h) (fun v M_17 h => ?_)
      obtain ⟨r_18, rfl, h⟩ := h
      exact r_iret hC (Nat.zero_le _) (Nat.zero_le _) dX12_sheet_64 ⟨_, rfl, h⟩
set_option maxHeartbeats 4000000 in
set_option maxRecDepth 100000 in
theorem tX12_sheet_J35 {X : Cx} {Y : Yx} {M0 : Mem} (hC : OKX X Y RX12 cX12_sheet 5 (some .int) rmX12_sheet) (hF : Y.2.2.2.2 = true) (hL : Lay M0) (Q : Int → Mem → Prop)   (a0 : Nat) (x1 : Int) (x2 : Int) (x3 : Int) (qa0 : 0 < a0 ∧ M0 0 a0 = kO 12)  (M : Mem) (h : wX12_sheet_J35 Q  a0 x1 x2 x3 M) : WW X Y 5 rmX12_sheet (QI Q) M0 0 0 35 [(0, vR Y.1 a0), (1, vI x1), (2, vI x2), (3, vI x3)] [] M := by
  unfold wX12_sheet_J35 at h
  refine r_iload_n hC 2 dX12_sheet_35 rfl rfl ?_
  refine r_if_eq hC 49 rfl dX12_sheet_36 (by decide) (fun cq => ?_) (fun cq => ?_)
  · replace h := h.1 cq
    refine r_sub [0, 1, 2, 3] rfl ?_
    exact tX12_sheet_J49 hC hF hL Q   _ _ _ _ qa0  _ h
  · replace h := h.2 cq
    refine r_iload_n hC 3 dX12_sheet_39 rfl rfl ?_
    refine r_if_ge hC 49 rfl dX12_sheet_40 (by decide) (fun cq => ?_) (fun cq => ?_)
    · replace h := h.1 cq
      refine r_sub [0, 1, 2, 3] rfl ?_
      exact tX12_sheet_J49 hC hF hL Q   _ _ _ _ qa0  _ h
    · replace h := h.2 cq
      refine r_aload_n hC 0 dX12_sheet_43 rfl rfl ?_
      refine r_iconst hC dX12_sheet_44 ?_
      refine r_callV (As := [vI 3]) (st := []) hC cw_X12_83 rfl qa0.1 qa0.2 rfl rfl (Nat.le_of_ble_eq_true rfl) ⟨Nat.le_of_ble_eq_true rfl, Nat.le_of_ble_eq_true rfl⟩ ⟨Nat.le_of_ble_eq_true rfl, Nat.le_of_ble_eq_true rfl⟩ dX12_sheet_45 (fun hk => mX12_error Y hF _ _ _ _ _ (kqO hk qa0) h) (fun v M_19 h => ?_)
      obtain ⟨r_20, rfl, h⟩ := h
      exact r_iret hC (Nat.zero_le _) (Nat.zero_le _) dX12_sheet_48 ⟨_, rfl, h⟩
set_option maxHeartbeats 4000000 in
set_option maxRecDepth 100000 in
theorem mX12_sheet (Y : Yx) (hF : Y.2.2.2.2 = true) (l : Launch) (a0 : Nat) (x1 : Int) (x2 : Int) (x3 : Int) (M0 : Mem) (Q : Int → Mem → Prop) (qa0 : 0 < a0 ∧ M0 0 a0 = kO 12) (h : wX12_sheet a0 x1 x2 x3 M0 Q) : CT Y l yX12_sheet cX12_sheet 5 (some .int) rmX12_sheet [vR Y.1 a0, vI x1, vI x2, vI x3] M0 (QI Q) := by
  unfold wX12_sheet at h
  refine ct_intro (by decide) (Nat.le_of_ble_eq_true rfl) ?_
  intro X hXl hC hL0
  have hL := hL0 hF
  change OKX X Y RX12 cX12_sheet 5 (some .int) rmX12_sheet at hC
  change WW X Y 5 rmX12_sheet (QI Q) M0 0 0 0 [(0, vR Y.1 a0), (1, vI x1), (2, vI x2), (3, vI x3)] [] M0
  refine r_iload_n hC 1 dX12_sheet_0 rfl rfl ?_
  refine r_callS (As := [vI x1]) (st := []) hC cw_X12_214 rfl rfl (Nat.le_of_ble_eq_true rfl) ⟨Nat.le_of_ble_eq_true rfl, Nat.le_of_ble_eq_true rfl⟩ ⟨Nat.le_of_ble_eq_true rfl, Nat.le_of_ble_eq_true rfl⟩ dX12_sheet_1 (fun hk => mX12_isSheet Y hF _ _ _ _  h) (fun v M_1 h => ?_)
  obtain ⟨r_2, rfl, h⟩ := h
  refine r_if_eq hC 29 rfl dX12_sheet_4 (by decide) (fun cq => ?_) (fun cq => ?_)
  · replace h := h.1 cq
    refine r_sub [0] rfl ?_
    exact tX12_sheet_J29 hC hF hL Q   _ qa0  _ h
  · replace h := h.2 cq
    refine r_iload_n hC 2 dX12_sheet_7 rfl rfl ?_
    refine r_if_eq hC 35 rfl dX12_sheet_8 (by decide) (fun cq => ?_) (fun cq => ?_)
    · replace h := h.1 cq
      refine r_sub [0, 1, 2, 3] rfl ?_
      exact tX12_sheet_J35 hC hF hL Q   _ _ _ _ qa0  _ h
    · replace h := h.2 cq
      refine r_iload_n hC 2 dX12_sheet_11 rfl rfl ?_
      refine r_bipush hC (by decide +kernel) dX12_sheet_12 ?_
      refine r_icmp_eq hC 35 rfl bmL_8 dX12_sheet_14 (by decide) (fun cq => ?_) (fun cq => ?_)
      · replace h := h.1 cq
        refine r_sub [0, 1, 2, 3] rfl ?_
        exact tX12_sheet_J35 hC hF hL Q   _ _ _ _ qa0  _ h
      · replace h := h.2 cq
        refine r_iload_n hC 2 dX12_sheet_17 rfl rfl ?_
        refine r_bipush hC (by decide +kernel) dX12_sheet_18 ?_
        refine r_icmp_eq hC 35 rfl bmL_16 dX12_sheet_20 (by decide) (fun cq => ?_) (fun cq => ?_)
        · replace h := h.1 cq
          refine r_sub [0, 1, 2, 3] rfl ?_
          exact tX12_sheet_J35 hC hF hL Q   _ _ _ _ qa0  _ h
        · replace h := h.2 cq
          refine r_iload_n hC 2 dX12_sheet_23 rfl rfl ?_
          refine r_bipush hC (by decide +kernel) dX12_sheet_24 ?_
          refine r_icmp_eq hC 35 rfl bmL_32 dX12_sheet_26 (by decide) (fun cq => ?_) (fun cq => ?_)
          · replace h := h.1 cq
            refine r_sub [0, 1, 2, 3] rfl ?_
            exact tX12_sheet_J35 hC hF hL Q   _ _ _ _ qa0  _ h
          · replace h := h.2 cq
            refine r_sub [0] rfl ?_
            exact tX12_sheet_J29 hC hF hL Q   _ qa0  _ h
theorem dX12_refused_0 : dec cX12_refused 0 1 1 (.iload_n 1) := ⟨by decide +kernel, rfl⟩
theorem dX12_refused_1 : dec cX12_refused 1 3 4 (.invokestatic 214) := ⟨by decide +kernel, rfl⟩
theorem dX12_refused_4 : dec cX12_refused 4 3 7 (.ifCond .ne 7) := ⟨by decide +kernel, rfl⟩
theorem dX12_refused_7 : dec cX12_refused 7 1 8 (.iconst 1) := ⟨by decide +kernel, rfl⟩
theorem dX12_refused_8 : dec cX12_refused 8 3 11 (.goto 37) := ⟨by decide +kernel, rfl⟩
theorem dX12_refused_11 : dec cX12_refused 11 1 12 (.aload_n 0) := ⟨by decide +kernel, rfl⟩
theorem dX12_refused_12 : dec cX12_refused 12 3 15 (.getfield 66) := ⟨by decide +kernel, rfl⟩
theorem dX12_refused_15 : dec cX12_refused 15 1 16 (.iload_n 1) := ⟨by decide +kernel, rfl⟩
theorem dX12_refused_16 : dec cX12_refused 16 1 17 (.iaload) := ⟨by decide +kernel, rfl⟩
theorem dX12_refused_17 : dec cX12_refused 17 3 20 (.ifCond .ne 7) := ⟨by decide +kernel, rfl⟩
theorem dX12_refused_20 : dec cX12_refused 20 1 21 (.iconst 2) := ⟨by decide +kernel, rfl⟩
theorem dX12_refused_21 : dec cX12_refused 21 3 24 (.goto 24) := ⟨by decide +kernel, rfl⟩
theorem dX12_refused_24 : dec cX12_refused 24 1 25 (.iload_n 2) := ⟨by decide +kernel, rfl⟩
theorem dX12_refused_25 : dec cX12_refused 25 1 26 (.iconst 0) := ⟨by decide +kernel, rfl⟩
theorem dX12_refused_26 : dec cX12_refused 26 1 27 (.aload_n 0) := ⟨by decide +kernel, rfl⟩
theorem dX12_refused_27 : dec cX12_refused 27 3 30 (.getfield 69) := ⟨by decide +kernel, rfl⟩
theorem dX12_refused_30 : dec cX12_refused 30 1 31 (.iload_n 1) := ⟨by decide +kernel, rfl⟩
theorem dX12_refused_31 : dec cX12_refused 31 1 32 (.iaload) := ⟨by decide +kernel, rfl⟩
theorem dX12_refused_32 : dec cX12_refused 32 1 33 (.iconst 1) := ⟨by decide +kernel, rfl⟩
theorem dX12_refused_33 : dec cX12_refused 33 1 34 (.isub) := ⟨by decide +kernel, rfl⟩
theorem dX12_refused_34 : dec cX12_refused 34 3 37 (.invokestatic 79) := ⟨by decide +kernel, rfl⟩
theorem dX12_refused_37 : dec cX12_refused 37 3 40 (.ifCond .eq 7) := ⟨by decide +kernel, rfl⟩
theorem dX12_refused_40 : dec cX12_refused 40 1 41 (.iconst 0) := ⟨by decide +kernel, rfl⟩
theorem dX12_refused_41 : dec cX12_refused 41 3 44 (.goto 4) := ⟨by decide +kernel, rfl⟩
theorem dX12_refused_44 : dec cX12_refused 44 1 45 (.iconst 1) := ⟨by decide +kernel, rfl⟩
theorem dX12_refused_45 : dec cX12_refused 45 1 46 (.ireturn) := ⟨by decide +kernel, rfl⟩
set_option maxHeartbeats 4000000 in
set_option maxRecDepth 100000 in
theorem mX12_refused (Y : Yx) (hF : Y.2.2.2.2 = true) (l : Launch) (a0 : Nat) (x1 : Int) (x2 : Int) (M0 : Mem) (Q : Int → Mem → Prop) (qa0 : 0 < a0 ∧ M0 0 a0 = kO 12) (h : wX12_refused a0 x1 x2 M0 Q) : CT Y l yX12_refused cX12_refused 3 (some .int) rmX12_refused [vR Y.1 a0, vI x1, vI x2] M0 (QI Q) := by
  unfold wX12_refused at h
  refine ct_intro (by decide) (Nat.le_of_ble_eq_true rfl) ?_
  intro X hXl hC hL0
  have hL := hL0 hF
  change OKX X Y RX12 cX12_refused 3 (some .int) rmX12_refused at hC
  change WW X Y 3 rmX12_refused (QI Q) M0 0 0 0 [(0, vR Y.1 a0), (1, vI x1), (2, vI x2)] [] M0
  refine r_iload_n hC 1 dX12_refused_0 rfl rfl ?_
  refine r_callS (As := [vI x1]) (st := []) hC cw_X12_214 rfl rfl (Nat.le_of_ble_eq_true rfl) ⟨Nat.le_of_ble_eq_true rfl, Nat.le_of_ble_eq_true rfl⟩ ⟨Nat.le_of_ble_eq_true rfl, Nat.le_of_ble_eq_true rfl⟩ dX12_refused_1 (fun hk => mX12_isSheet Y hF _ _ _ _  h) (fun v M_1 h => ?_)
  obtain ⟨r_2, rfl, h⟩ := h
  refine r_if_ne hC 11 rfl dX12_refused_4 (by decide) (fun cq => ?_) (fun cq => ?_)
  · replace h := h.2 cq
    refine r_aload_n hC 0 dX12_refused_11 rfl rfl ?_
    have q_3 : 0 < a0 + 19 ∧ M0 0 (a0 + 19) = kA 0 4 := lay_f0 (a := a0) hL qa0 fm_12_36
    refine r_getR0 (a' := a0 + 19) hC fg_X12_66 rfl hF fm_12_36 qa0.1 qa0.2 rfl dX12_refused_12 ?_
    refine r_iload_n hC 1 dX12_refused_15 rfl rfl ?_
    obtain ⟨i_4, h⟩ := h
    refine r_iald hC i_4 q_3.1 q_3.2 (by decide) dX12_refused_16 ?_
    refine r_if_ne hC 24 rfl dX12_refused_17 (by decide) (fun cq => ?_) (fun cq => ?_)
    · replace h := h.2 cq
      refine r_iload_n hC 2 dX12_refused_24 rfl rfl ?_
      refine r_iconst hC dX12_refused_25 ?_
      refine r_aload_n hC 0 dX12_refused_26 rfl rfl ?_
      have q_5 : 0 < a0 + 20 ∧ M0 0 (a0 + 20) = kA 0 4 := lay_f0 (a := a0) hL qa0 fm_12_37
      refine r_getR0 (a' := a0 + 20) hC fg_X12_69 rfl hF fm_12_37 qa0.1 qa0.2 rfl dX12_refused_27 ?_
      refine r_iload_n hC 1 dX12_refused_30 rfl rfl ?_
      obtain ⟨i_6, h⟩ := h
      refine r_iald hC i_6 q_5.1 q_5.2 (by decide) dX12_refused_31 ?_
      refine r_iconst hC dX12_refused_32 ?_
      refine r_isub hC dX12_refused_33 ?_
      refine r_callS (As := [vI x2, vI 0, vI ((rd M_1 (a0 + 20) x1) - 1)]) (st := []) hC cw_X12_79 rfl rfl (Nat.le_of_ble_eq_true rfl) ⟨Nat.le_of_ble_eq_true rfl, Nat.le_of_ble_eq_true rfl⟩ ⟨Nat.le_of_ble_eq_true rfl, Nat.le_of_ble_eq_true rfl⟩ dX12_refused_34 (fun hk => mX12_in Y hF _ _ _ _ _ _  h) (fun v M_7 h => ?_)
      obtain ⟨r_8, rfl, h⟩ := h
      refine r_if_eq hC 44 rfl dX12_refused_37 (by decide) (fun cq => ?_) (fun cq => ?_)
      · replace h := h.1 cq
        refine r_iconst hC dX12_refused_44 ?_
        exact r_iret hC (Nat.zero_le _) (Nat.zero_le _) dX12_refused_45 ⟨_, rfl, h⟩
      · replace h := h.2 cq
        refine r_iconst hC dX12_refused_40 ?_
        refine r_goto hC 45 dX12_refused_41 (by decide) ?_
        exact r_iret hC (Nat.zero_le _) (Nat.zero_le _) dX12_refused_45 ⟨_, rfl, h⟩
    · replace h := h.1 cq
      refine r_iconst hC dX12_refused_20 ?_
      refine r_goto hC 45 dX12_refused_21 (by decide) ?_
      exact r_iret hC (Nat.zero_le _) (Nat.zero_le _) dX12_refused_45 ⟨_, rfl, h⟩
  · replace h := h.1 cq
    refine r_iconst hC dX12_refused_7 ?_
    refine r_goto hC 45 dX12_refused_8 (by decide) ?_
    exact r_iret hC (Nat.zero_le _) (Nat.zero_le _) dX12_refused_45 ⟨_, rfl, h⟩
theorem dX12_put_0 : dec cX12_put 0 1 1 (.aload_n 0) := ⟨by decide +kernel, rfl⟩
theorem dX12_put_1 : dec cX12_put 1 1 2 (.iload_n 1) := ⟨by decide +kernel, rfl⟩
theorem dX12_put_2 : dec cX12_put 2 1 3 (.iload_n 2) := ⟨by decide +kernel, rfl⟩
theorem dX12_put_3 : dec cX12_put 3 3 6 (.invokevirtual 336) := ⟨by decide +kernel, rfl⟩
theorem dX12_put_6 : dec cX12_put 6 2 8 (.istore 4) := ⟨by decide +kernel, rfl⟩
theorem dX12_put_8 : dec cX12_put 8 2 10 (.iload 4) := ⟨by decide +kernel, rfl⟩
theorem dX12_put_10 : dec cX12_put 10 3 13 (.ifCond .le 10) := ⟨by decide +kernel, rfl⟩
theorem dX12_put_13 : dec cX12_put 13 1 14 (.aload_n 0) := ⟨by decide +kernel, rfl⟩
theorem dX12_put_14 : dec cX12_put 14 2 16 (.iload 4) := ⟨by decide +kernel, rfl⟩
theorem dX12_put_16 : dec cX12_put 16 3 19 (.invokevirtual 83) := ⟨by decide +kernel, rfl⟩
theorem dX12_put_19 : dec cX12_put 19 1 20 (.ireturn) := ⟨by decide +kernel, rfl⟩
theorem dX12_put_20 : dec cX12_put 20 2 22 (.bipush 32) := ⟨by decide +kernel, rfl⟩
theorem dX12_put_22 : dec cX12_put 22 1 23 (.aload_n 0) := ⟨by decide +kernel, rfl⟩
theorem dX12_put_23 : dec cX12_put 23 3 26 (.getfield 66) := ⟨by decide +kernel, rfl⟩
theorem dX12_put_26 : dec cX12_put 26 1 27 (.iload_n 1) := ⟨by decide +kernel, rfl⟩
theorem dX12_put_27 : dec cX12_put 27 1 28 (.iaload) := ⟨by decide +kernel, rfl⟩
theorem dX12_put_28 : dec cX12_put 28 1 29 (.isub) := ⟨by decide +kernel, rfl⟩
theorem dX12_put_29 : dec cX12_put 29 2 31 (.istore 5) := ⟨by decide +kernel, rfl⟩
theorem dX12_put_31 : dec cX12_put 31 1 32 (.aload_n 0) := ⟨by decide +kernel, rfl⟩
theorem dX12_put_32 : dec cX12_put 32 3 35 (.getfield 72) := ⟨by decide +kernel, rfl⟩
theorem dX12_put_35 : dec cX12_put 35 2 37 (.bipush 24) := ⟨by decide +kernel, rfl⟩
theorem dX12_put_37 : dec cX12_put 37 1 38 (.iload_n 1) := ⟨by decide +kernel, rfl⟩
theorem dX12_put_38 : dec cX12_put 38 1 39 (.imul) := ⟨by decide +kernel, rfl⟩
theorem dX12_put_39 : dec cX12_put 39 1 40 (.iload_n 2) := ⟨by decide +kernel, rfl⟩
theorem dX12_put_40 : dec cX12_put 40 1 41 (.iadd) := ⟨by decide +kernel, rfl⟩
theorem dX12_put_41 : dec cX12_put 41 1 42 (.iload_n 3) := ⟨by decide +kernel, rfl⟩
theorem dX12_put_42 : dec cX12_put 42 2 44 (.iload 5) := ⟨by decide +kernel, rfl⟩
theorem dX12_put_44 : dec cX12_put 44 1 45 (.ishl) := ⟨by decide +kernel, rfl⟩
theorem dX12_put_45 : dec cX12_put 45 2 47 (.iload 5) := ⟨by decide +kernel, rfl⟩
theorem dX12_put_47 : dec cX12_put 47 1 48 (.ishr) := ⟨by decide +kernel, rfl⟩
theorem dX12_put_48 : dec cX12_put 48 1 49 (.iastore) := ⟨by decide +kernel, rfl⟩
theorem dX12_put_49 : dec cX12_put 49 1 50 (.iconst 1) := ⟨by decide +kernel, rfl⟩
theorem dX12_put_50 : dec cX12_put 50 1 51 (.ireturn) := ⟨by decide +kernel, rfl⟩
set_option maxHeartbeats 4000000 in
set_option maxRecDepth 100000 in
theorem mX12_put (Y : Yx) (hF : Y.2.2.2.2 = true) (l : Launch) (a0 : Nat) (x1 : Int) (x2 : Int) (x3 : Int) (M0 : Mem) (Q : Int → Mem → Prop) (qa0 : 0 < a0 ∧ M0 0 a0 = kO 12) (h : wX12_put a0 x1 x2 x3 M0 Q) : CT Y l yX12_put cX12_put 6 (some .int) rmX12_put [vR Y.1 a0, vI x1, vI x2, vI x3] M0 (QI Q) := by
  unfold wX12_put at h
  refine ct_intro (by decide) (Nat.le_of_ble_eq_true rfl) ?_
  intro X hXl hC hL0
  have hL := hL0 hF
  change OKX X Y RX12 cX12_put 6 (some .int) rmX12_put at hC
  change WW X Y 6 rmX12_put (QI Q) M0 0 0 0 [(0, vR Y.1 a0), (1, vI x1), (2, vI x2), (3, vI x3)] [] M0
  refine r_aload_n hC 0 dX12_put_0 rfl rfl ?_
  refine r_iload_n hC 1 dX12_put_1 rfl rfl ?_
  refine r_iload_n hC 2 dX12_put_2 rfl rfl ?_
  refine r_callV (As := [vI x1, vI x2]) (st := []) hC cw_X12_336 rfl qa0.1 qa0.2 rfl rfl (Nat.le_of_ble_eq_true rfl) ⟨Nat.le_of_ble_eq_true rfl, Nat.le_of_ble_eq_true rfl⟩ ⟨Nat.le_of_ble_eq_true rfl, Nat.le_of_ble_eq_true rfl⟩ dX12_put_3 (fun hk => mX12_refused Y hF _ _ _ _ _ _ (kqO hk qa0) h) (fun v M_1 h => ?_)
  obtain ⟨r_2, rfl, h⟩ := h
  refine r_istore (lv' := [(4, vI r_2), (0, vR Y.1 a0), (1, vI x1), (2, vI x2), (3, vI x3)]) hC dX12_put_6 (by decide) rfl ?_
  refine r_iload hC 0 dX12_put_8 rfl ?_
  refine r_if_le hC 20 rfl dX12_put_10 (by decide) (fun cq => ?_) (fun cq => ?_)
  · replace h := h.1 cq
    refine r_bipush hC (by decide +kernel) dX12_put_20 ?_
    refine r_aload_n hC 1 dX12_put_22 rfl rfl ?_
    have q_3 : 0 < a0 + 19 ∧ M0 0 (a0 + 19) = kA 0 4 := lay_f0 (a := a0) hL qa0 fm_12_36
    refine r_getR0 (a' := a0 + 19) hC fg_X12_66 rfl hF fm_12_36 qa0.1 qa0.2 rfl dX12_put_23 ?_
    refine r_iload_n hC 2 dX12_put_26 rfl rfl ?_
    obtain ⟨i_4, h⟩ := h
    refine r_iald hC i_4 q_3.1 q_3.2 (by decide) dX12_put_27 ?_
    refine r_isub hC dX12_put_28 ?_
    refine r_nameI h (fun x5_5 h => ?_)
    refine r_istore (lv' := [(5, vI x5_5), (4, vI r_2), (0, vR Y.1 a0), (1, vI x1), (2, vI x2), (3, vI x3)]) hC dX12_put_29 (by decide) rfl ?_
    refine r_aload_n hC 2 dX12_put_31 rfl rfl ?_
    have q_6 : 0 < a0 + 21 ∧ M0 0 (a0 + 21) = kA 0 96 := lay_f0 (a := a0) hL qa0 fm_12_38
    refine r_getR0 (a' := a0 + 21) hC fg_X12_72 rfl hF fm_12_38 qa0.1 qa0.2 rfl dX12_put_32 ?_
    refine r_bipush hC (by decide +kernel) dX12_put_35 ?_
    refine r_iload_n hC 3 dX12_put_37 rfl rfl ?_
    refine r_imul hC dX12_put_38 ?_
    refine r_iload_n hC 4 dX12_put_39 rfl rfl ?_
    refine r_iadd hC dX12_put_40 ?_
    refine r_iload_n hC 5 dX12_put_41 rfl rfl ?_
    refine r_iload hC 0 dX12_put_42 rfl ?_
    refine r_ishl hC dX12_put_44 ?_
    refine r_iload hC 0 dX12_put_45 rfl ?_
    refine r_ishr hC dX12_put_47 ?_
    obtain ⟨i_7, h⟩ := h
    refine r_iast hC i_7 q_6.1 q_6.2 (by decide) dX12_put_48 ?_
    refine r_nameM h (fun M_8 h => ?_)
    refine r_iconst hC dX12_put_49 ?_
    exact r_iret hC (Nat.zero_le _) (Nat.zero_le _) dX12_put_50 ⟨_, rfl, h⟩
  · replace h := h.2 cq
    refine r_aload_n hC 1 dX12_put_13 rfl rfl ?_
    refine r_iload hC 0 dX12_put_14 rfl ?_
    refine r_callV (As := [vI r_2]) (st := []) hC cw_X12_83 rfl qa0.1 qa0.2 rfl rfl (Nat.le_of_ble_eq_true rfl) ⟨Nat.le_of_ble_eq_true rfl, Nat.le_of_ble_eq_true rfl⟩ ⟨Nat.le_of_ble_eq_true rfl, Nat.le_of_ble_eq_true rfl⟩ dX12_put_16 (fun hk => mX12_error Y hF _ _ _ _ _ (kqO hk qa0) h) (fun v M_9 h => ?_)
    obtain ⟨r_10, rfl, h⟩ := h
    exact r_iret hC (Nat.zero_le _) (Nat.zero_le _) dX12_put_19 ⟨_, rfl, h⟩
theorem dX12_get_0 : dec cX12_get 0 1 1 (.aload_n 0) := ⟨by decide +kernel, rfl⟩
theorem dX12_get_1 : dec cX12_get 1 1 2 (.iload_n 1) := ⟨by decide +kernel, rfl⟩
theorem dX12_get_2 : dec cX12_get 2 1 3 (.iload_n 2) := ⟨by decide +kernel, rfl⟩
theorem dX12_get_3 : dec cX12_get 3 3 6 (.invokevirtual 336) := ⟨by decide +kernel, rfl⟩
theorem dX12_get_6 : dec cX12_get 6 1 7 (.istore_n 3) := ⟨by decide +kernel, rfl⟩
theorem dX12_get_7 : dec cX12_get 7 1 8 (.iload_n 3) := ⟨by decide +kernel, rfl⟩
theorem dX12_get_8 : dec cX12_get 8 3 11 (.ifCond .le 11) := ⟨by decide +kernel, rfl⟩
theorem dX12_get_11 : dec cX12_get 11 1 12 (.aload_n 0) := ⟨by decide +kernel, rfl⟩
theorem dX12_get_12 : dec cX12_get 12 1 13 (.iload_n 3) := ⟨by decide +kernel, rfl⟩
theorem dX12_get_13 : dec cX12_get 13 3 16 (.invokevirtual 83) := ⟨by decide +kernel, rfl⟩
theorem dX12_get_16 : dec cX12_get 16 3 19 (.goto 14) := ⟨by decide +kernel, rfl⟩
theorem dX12_get_19 : dec cX12_get 19 1 20 (.aload_n 0) := ⟨by decide +kernel, rfl⟩
theorem dX12_get_20 : dec cX12_get 20 3 23 (.getfield 72) := ⟨by decide +kernel, rfl⟩
theorem dX12_get_23 : dec cX12_get 23 2 25 (.bipush 24) := ⟨by decide +kernel, rfl⟩
theorem dX12_get_25 : dec cX12_get 25 1 26 (.iload_n 1) := ⟨by decide +kernel, rfl⟩
theorem dX12_get_26 : dec cX12_get 26 1 27 (.imul) := ⟨by decide +kernel, rfl⟩
theorem dX12_get_27 : dec cX12_get 27 1 28 (.iload_n 2) := ⟨by decide +kernel, rfl⟩
theorem dX12_get_28 : dec cX12_get 28 1 29 (.iadd) := ⟨by decide +kernel, rfl⟩
theorem dX12_get_29 : dec cX12_get 29 1 30 (.iaload) := ⟨by decide +kernel, rfl⟩
theorem dX12_get_30 : dec cX12_get 30 1 31 (.ireturn) := ⟨by decide +kernel, rfl⟩
set_option maxHeartbeats 4000000 in
set_option maxRecDepth 100000 in
theorem mX12_get (Y : Yx) (hF : Y.2.2.2.2 = true) (l : Launch) (a0 : Nat) (x1 : Int) (x2 : Int) (M0 : Mem) (Q : Int → Mem → Prop) (qa0 : 0 < a0 ∧ M0 0 a0 = kO 12) (h : wX12_get a0 x1 x2 M0 Q) : CT Y l yX12_get cX12_get 4 (some .int) rmX12_get [vR Y.1 a0, vI x1, vI x2] M0 (QI Q) := by
  unfold wX12_get at h
  refine ct_intro (by decide) (Nat.le_of_ble_eq_true rfl) ?_
  intro X hXl hC hL0
  have hL := hL0 hF
  change OKX X Y RX12 cX12_get 4 (some .int) rmX12_get at hC
  change WW X Y 4 rmX12_get (QI Q) M0 0 0 0 [(0, vR Y.1 a0), (1, vI x1), (2, vI x2)] [] M0
  refine r_aload_n hC 0 dX12_get_0 rfl rfl ?_
  refine r_iload_n hC 1 dX12_get_1 rfl rfl ?_
  refine r_iload_n hC 2 dX12_get_2 rfl rfl ?_
  refine r_callV (As := [vI x1, vI x2]) (st := []) hC cw_X12_336 rfl qa0.1 qa0.2 rfl rfl (Nat.le_of_ble_eq_true rfl) ⟨Nat.le_of_ble_eq_true rfl, Nat.le_of_ble_eq_true rfl⟩ ⟨Nat.le_of_ble_eq_true rfl, Nat.le_of_ble_eq_true rfl⟩ dX12_get_3 (fun hk => mX12_refused Y hF _ _ _ _ _ _ (kqO hk qa0) h) (fun v M_1 h => ?_)
  obtain ⟨r_2, rfl, h⟩ := h
  refine r_istore_n (lv' := [(3, vI r_2), (0, vR Y.1 a0), (1, vI x1), (2, vI x2)]) hC dX12_get_6 rfl (by decide) rfl ?_
  refine r_iload_n hC 0 dX12_get_7 rfl rfl ?_
  refine r_if_le hC 19 rfl dX12_get_8 (by decide) (fun cq => ?_) (fun cq => ?_)
  · replace h := h.1 cq
    refine r_aload_n hC 1 dX12_get_19 rfl rfl ?_
    have q_3 : 0 < a0 + 21 ∧ M0 0 (a0 + 21) = kA 0 96 := lay_f0 (a := a0) hL qa0 fm_12_38
    refine r_getR0 (a' := a0 + 21) hC fg_X12_72 rfl hF fm_12_38 qa0.1 qa0.2 rfl dX12_get_20 ?_
    refine r_bipush hC (by decide +kernel) dX12_get_23 ?_
    refine r_iload_n hC 2 dX12_get_25 rfl rfl ?_
    refine r_imul hC dX12_get_26 ?_
    refine r_iload_n hC 3 dX12_get_27 rfl rfl ?_
    refine r_iadd hC dX12_get_28 ?_
    obtain ⟨i_4, h⟩ := h
    refine r_iald hC i_4 q_3.1 q_3.2 (by decide) dX12_get_29 ?_
    exact r_iret hC (Nat.zero_le _) (Nat.zero_le _) dX12_get_30 ⟨_, rfl, h⟩
  · replace h := h.2 cq
    refine r_aload_n hC 1 dX12_get_11 rfl rfl ?_
    refine r_iload_n hC 0 dX12_get_12 rfl rfl ?_
    refine r_callV (As := [vI r_2]) (st := []) hC cw_X12_83 rfl qa0.1 qa0.2 rfl rfl (Nat.le_of_ble_eq_true rfl) ⟨Nat.le_of_ble_eq_true rfl, Nat.le_of_ble_eq_true rfl⟩ ⟨Nat.le_of_ble_eq_true rfl, Nat.le_of_ble_eq_true rfl⟩ dX12_get_13 (fun hk => mX12_error Y hF _ _ _ _ _ (kqO hk qa0) h) (fun v M_5 h => ?_)
    obtain ⟨r_6, rfl, h⟩ := h
    refine r_goto hC 30 dX12_get_16 (by decide) ?_
    exact r_iret hC (Nat.zero_le _) (Nat.zero_le _) dX12_get_30 ⟨_, rfl, h⟩
