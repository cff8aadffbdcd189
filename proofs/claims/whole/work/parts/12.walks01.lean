theorem dX3_copyFrom_0 : dec cX3_copyFrom 0 1 1 (.aload_n 0) := ⟨by decide +kernel, rfl⟩
theorem dX3_copyFrom_1 : dec cX3_copyFrom 1 1 2 (.aload_n 1) := ⟨by decide +kernel, rfl⟩
theorem dX3_copyFrom_2 : dec cX3_copyFrom 2 3 5 (.getfield 7) := ⟨by decide +kernel, rfl⟩
theorem dX3_copyFrom_5 : dec cX3_copyFrom 5 3 8 (.putfield 7) := ⟨by decide +kernel, rfl⟩
theorem dX3_copyFrom_8 : dec cX3_copyFrom 8 1 9 (.aload_n 0) := ⟨by decide +kernel, rfl⟩
theorem dX3_copyFrom_9 : dec cX3_copyFrom 9 1 10 (.aload_n 1) := ⟨by decide +kernel, rfl⟩
theorem dX3_copyFrom_10 : dec cX3_copyFrom 10 3 13 (.getfield 13) := ⟨by decide +kernel, rfl⟩
theorem dX3_copyFrom_13 : dec cX3_copyFrom 13 3 16 (.putfield 13) := ⟨by decide +kernel, rfl⟩
theorem dX3_copyFrom_16 : dec cX3_copyFrom 16 1 17 (.aload_n 0) := ⟨by decide +kernel, rfl⟩
theorem dX3_copyFrom_17 : dec cX3_copyFrom 17 1 18 (.aload_n 1) := ⟨by decide +kernel, rfl⟩
theorem dX3_copyFrom_18 : dec cX3_copyFrom 18 3 21 (.getfield 16) := ⟨by decide +kernel, rfl⟩
theorem dX3_copyFrom_21 : dec cX3_copyFrom 21 3 24 (.putfield 16) := ⟨by decide +kernel, rfl⟩
theorem dX3_copyFrom_24 : dec cX3_copyFrom 24 1 25 (.aload_n 0) := ⟨by decide +kernel, rfl⟩
theorem dX3_copyFrom_25 : dec cX3_copyFrom 25 1 26 (.aload_n 1) := ⟨by decide +kernel, rfl⟩
theorem dX3_copyFrom_26 : dec cX3_copyFrom 26 3 29 (.getfield 19) := ⟨by decide +kernel, rfl⟩
theorem dX3_copyFrom_29 : dec cX3_copyFrom 29 3 32 (.putfield 19) := ⟨by decide +kernel, rfl⟩
theorem dX3_copyFrom_32 : dec cX3_copyFrom 32 1 33 (.aload_n 0) := ⟨by decide +kernel, rfl⟩
theorem dX3_copyFrom_33 : dec cX3_copyFrom 33 1 34 (.aload_n 1) := ⟨by decide +kernel, rfl⟩
theorem dX3_copyFrom_34 : dec cX3_copyFrom 34 3 37 (.getfield 22) := ⟨by decide +kernel, rfl⟩
theorem dX3_copyFrom_37 : dec cX3_copyFrom 37 3 40 (.putfield 22) := ⟨by decide +kernel, rfl⟩
theorem dX3_copyFrom_40 : dec cX3_copyFrom 40 1 41 (.aload_n 0) := ⟨by decide +kernel, rfl⟩
theorem dX3_copyFrom_41 : dec cX3_copyFrom 41 1 42 (.aload_n 1) := ⟨by decide +kernel, rfl⟩
theorem dX3_copyFrom_42 : dec cX3_copyFrom 42 3 45 (.getfield 25) := ⟨by decide +kernel, rfl⟩
theorem dX3_copyFrom_45 : dec cX3_copyFrom 45 3 48 (.putfield 25) := ⟨by decide +kernel, rfl⟩
theorem dX3_copyFrom_48 : dec cX3_copyFrom 48 1 49 (.return_) := ⟨by decide +kernel, rfl⟩
set_option maxHeartbeats 4000000 in
set_option maxRecDepth 100000 in
theorem mX3_copyFrom (Y : Yx) (hF : Y.2.2.2.2 = true) (l : Launch) (a0 : Nat) (a1 : Nat) (M0 : Mem) (Q : Mem → Prop) (qa0 : 0 < a0 ∧ M0 0 a0 = kO 3) (qa1 : 0 < a1 ∧ M0 0 a1 = kO 3) (h : wX3_copyFrom a0 a1 M0 Q) : CT Y l yX3_copyFrom cX3_copyFrom 2 none rmX3_copyFrom [vR Y.1 a0, vR Y.1 a1] M0 (QV Q) := by
  unfold wX3_copyFrom at h
  refine ct_intro (by decide) (Nat.le_of_ble_eq_true rfl) ?_
  intro X hXl hC hL0
  have hL := hL0 hF
  change OKX X Y RX3 cX3_copyFrom 2 none rmX3_copyFrom at hC
  change WW X Y 2 rmX3_copyFrom (QV Q) M0 0 0 0 [(0, vR Y.1 a0), (1, vR Y.1 a1)] [] M0
  refine r_aload_n hC 0 dX3_copyFrom_0 rfl rfl ?_
  refine r_aload_n hC 1 dX3_copyFrom_1 rfl rfl ?_
  refine r_getI hC fg_X3_7 rfl qa1.1 qa1.2 dX3_copyFrom_2 ?_
  refine r_putI hC fp_X3_7 rfl qa0.1 qa0.2 dX3_copyFrom_5 ?_
  refine r_nameM h (fun M_1 h => ?_)
  refine r_aload_n hC 0 dX3_copyFrom_8 rfl rfl ?_
  refine r_aload_n hC 1 dX3_copyFrom_9 rfl rfl ?_
  refine r_getI hC fg_X3_13 rfl qa1.1 qa1.2 dX3_copyFrom_10 ?_
  refine r_putI hC fp_X3_13 rfl qa0.1 qa0.2 dX3_copyFrom_13 ?_
  refine r_nameM h (fun M_2 h => ?_)
  refine r_aload_n hC 0 dX3_copyFrom_16 rfl rfl ?_
  refine r_aload_n hC 1 dX3_copyFrom_17 rfl rfl ?_
  refine r_getI hC fg_X3_16 rfl qa1.1 qa1.2 dX3_copyFrom_18 ?_
  refine r_putI hC fp_X3_16 rfl qa0.1 qa0.2 dX3_copyFrom_21 ?_
  refine r_nameM h (fun M_3 h => ?_)
  refine r_aload_n hC 0 dX3_copyFrom_24 rfl rfl ?_
  refine r_aload_n hC 1 dX3_copyFrom_25 rfl rfl ?_
  refine r_getI hC fg_X3_19 rfl qa1.1 qa1.2 dX3_copyFrom_26 ?_
  refine r_putI hC fp_X3_19 rfl qa0.1 qa0.2 dX3_copyFrom_29 ?_
  refine r_nameM h (fun M_4 h => ?_)
  refine r_aload_n hC 0 dX3_copyFrom_32 rfl rfl ?_
  refine r_aload_n hC 1 dX3_copyFrom_33 rfl rfl ?_
  refine r_getI hC fg_X3_22 rfl qa1.1 qa1.2 dX3_copyFrom_34 ?_
  refine r_putI hC fp_X3_22 rfl qa0.1 qa0.2 dX3_copyFrom_37 ?_
  refine r_nameM h (fun M_5 h => ?_)
  refine r_aload_n hC 0 dX3_copyFrom_40 rfl rfl ?_
  refine r_aload_n hC 1 dX3_copyFrom_41 rfl rfl ?_
  refine r_getI hC fg_X3_25 rfl qa1.1 qa1.2 dX3_copyFrom_42 ?_
  refine r_putI hC fp_X3_25 rfl qa0.1 qa0.2 dX3_copyFrom_45 ?_
  refine r_nameM h (fun M_6 h => ?_)
  exact r_vret hC (Nat.zero_le _) (Nat.zero_le _) dX3_copyFrom_48 ⟨rfl, h⟩
theorem dJ9_min_7cf53_0 : dec cJ9_min_7cf53 0 1 1 (.iload_n 0) := ⟨by decide +kernel, rfl⟩
theorem dJ9_min_7cf53_1 : dec cJ9_min_7cf53 1 1 2 (.iload_n 1) := ⟨by decide +kernel, rfl⟩
theorem dJ9_min_7cf53_2 : dec cJ9_min_7cf53 2 3 5 (.if_icmp .gt 7) := ⟨by decide +kernel, rfl⟩
theorem dJ9_min_7cf53_5 : dec cJ9_min_7cf53 5 1 6 (.iload_n 0) := ⟨by decide +kernel, rfl⟩
theorem dJ9_min_7cf53_6 : dec cJ9_min_7cf53 6 3 9 (.goto 4) := ⟨by decide +kernel, rfl⟩
theorem dJ9_min_7cf53_9 : dec cJ9_min_7cf53 9 1 10 (.iload_n 1) := ⟨by decide +kernel, rfl⟩
theorem dJ9_min_7cf53_10 : dec cJ9_min_7cf53 10 1 11 (.ireturn) := ⟨by decide +kernel, rfl⟩
set_option maxHeartbeats 4000000 in
set_option maxRecDepth 100000 in
theorem mJ9_min_7cf53 (Y : Yx) (hF : Y.2.2.2.2 = true) (l : Launch) (x0 : Int) (x1 : Int) (M0 : Mem) (Q : Int → Mem → Prop)  (h : wJ9_min_7cf53 x0 x1 M0 Q) : CT Y l yJ9_min_7cf53 cJ9_min_7cf53 2 (some .int) rmJ9_min_7cf53 [vI x0, vI x1] M0 (QI Q) := by
  unfold wJ9_min_7cf53 at h
  refine ct_intro (by decide) (Nat.le_of_ble_eq_true rfl) ?_
  intro X hXl hC hL0
  have hL := hL0 hF
  change OKX X Y RJ9 cJ9_min_7cf53 2 (some .int) rmJ9_min_7cf53 at hC
  change WW X Y 2 rmJ9_min_7cf53 (QI Q) M0 0 0 0 [(0, vI x0), (1, vI x1)] [] M0
  refine r_iload_n hC 0 dJ9_min_7cf53_0 rfl rfl ?_
  refine r_iload_n hC 1 dJ9_min_7cf53_1 rfl rfl ?_
  refine r_icmp_gt hC 9 rfl rfl dJ9_min_7cf53_2 (by decide) (fun c => ?_) (fun c => ?_)
  · replace h := h.1 c
    refine r_iload_n hC 1 dJ9_min_7cf53_9 rfl rfl ?_
    exact r_iret hC (Nat.zero_le _) (Nat.zero_le _) dJ9_min_7cf53_10 ⟨_, rfl, h⟩
  · replace h := h.2 c
    refine r_iload_n hC 0 dJ9_min_7cf53_5 rfl rfl ?_
    refine r_goto hC 10 dJ9_min_7cf53_6 (by decide) ?_
    exact r_iret hC (Nat.zero_le _) (Nat.zero_le _) dJ9_min_7cf53_10 ⟨_, rfl, h⟩
theorem dX1_takeText_0 : dec cX1_takeText 0 1 1 (.aload_n 0) := ⟨by decide +kernel, rfl⟩
theorem dX1_takeText_1 : dec cX1_takeText 1 1 2 (.iload_n 2) := ⟨by decide +kernel, rfl⟩
theorem dX1_takeText_2 : dec cX1_takeText 2 1 3 (.aload_n 0) := ⟨by decide +kernel, rfl⟩
theorem dX1_takeText_3 : dec cX1_takeText 3 3 6 (.getfield 15) := ⟨by decide +kernel, rfl⟩
theorem dX1_takeText_6 : dec cX1_takeText 6 1 7 (.arraylength) := ⟨by decide +kernel, rfl⟩
theorem dX1_takeText_7 : dec cX1_takeText 7 1 8 (.aload_n 1) := ⟨by decide +kernel, rfl⟩
theorem dX1_takeText_8 : dec cX1_takeText 8 1 9 (.arraylength) := ⟨by decide +kernel, rfl⟩
theorem dX1_takeText_9 : dec cX1_takeText 9 3 12 (.invokestatic 39) := ⟨by decide +kernel, rfl⟩
theorem dX1_takeText_12 : dec cX1_takeText 12 3 15 (.invokestatic 39) := ⟨by decide +kernel, rfl⟩
theorem dX1_takeText_15 : dec cX1_takeText 15 3 18 (.putfield 32) := ⟨by decide +kernel, rfl⟩
theorem dX1_takeText_18 : dec cX1_takeText 18 1 19 (.aload_n 1) := ⟨by decide +kernel, rfl⟩
theorem dX1_takeText_19 : dec cX1_takeText 19 1 20 (.iconst 0) := ⟨by decide +kernel, rfl⟩
theorem dX1_takeText_20 : dec cX1_takeText 20 1 21 (.aload_n 0) := ⟨by decide +kernel, rfl⟩
theorem dX1_takeText_21 : dec cX1_takeText 21 3 24 (.getfield 15) := ⟨by decide +kernel, rfl⟩
theorem dX1_takeText_24 : dec cX1_takeText 24 1 25 (.iconst 0) := ⟨by decide +kernel, rfl⟩
theorem dX1_takeText_25 : dec cX1_takeText 25 1 26 (.aload_n 0) := ⟨by decide +kernel, rfl⟩
theorem dX1_takeText_26 : dec cX1_takeText 26 3 29 (.getfield 32) := ⟨by decide +kernel, rfl⟩
theorem dX1_takeText_29 : dec cX1_takeText 29 3 32 (.invokestatic 45) := ⟨by decide +kernel, rfl⟩
theorem dX1_takeText_32 : dec cX1_takeText 32 1 33 (.return_) := ⟨by decide +kernel, rfl⟩
set_option maxHeartbeats 4000000 in
set_option maxRecDepth 100000 in
theorem mX1_takeText (Y : Yx) (hF : Y.2.2.2.2 = true) (l : Launch) (a0 : Nat) (a1 : Nat) (x2 : Int) (M0 : Mem) (Q : Mem → Prop) (qa0 : 0 < a0 ∧ M0 0 a0 = kO 1) (qa1 : 0 < a1 ∧ M0 0 a1 = kA 0 50) (h : wX1_takeText a0 a1 x2 M0 Q) : CT Y l yX1_takeText cX1_takeText 3 none rmX1_takeText [vR Y.1 a0, vR Y.1 a1, vI x2] M0 (QV Q) := by
  unfold wX1_takeText at h
  refine ct_intro (by decide) (Nat.le_of_ble_eq_true rfl) ?_
  intro X hXl hC hL0
  have hL := hL0 hF
  change OKX X Y RX1 cX1_takeText 3 none rmX1_takeText at hC
  change WW X Y 3 rmX1_takeText (QV Q) M0 0 0 0 [(0, vR Y.1 a0), (1, vR Y.1 a1), (2, vI x2)] [] M0
  refine r_aload_n hC 0 dX1_takeText_0 rfl rfl ?_
  refine r_iload_n hC 2 dX1_takeText_1 rfl rfl ?_
  refine r_aload_n hC 0 dX1_takeText_2 rfl rfl ?_
  have q_1 : 0 < a0 + 1 ∧ M0 0 (a0 + 1) = kA 0 50 := lay_f0 hL qa0 fm_1_6
  refine r_getR0 (a' := a0 + 1) hC fg_X1_15 rfl hF fm_1_6 qa0.1 qa0.2 rfl dX1_takeText_3 ?_
  refine r_alen hC (by decide) q_1.1 q_1.2 (by decide) dX1_takeText_6 ?_
  refine r_aload_n hC 1 dX1_takeText_7 rfl rfl ?_
  refine r_alen hC (by decide) qa1.1 qa1.2 (by decide) dX1_takeText_8 ?_
  refine r_callS (As := [vI 50, vI 50]) (st := [vI x2, vR Y.1 a0]) hC cw_X1_39 rfl rfl (Nat.le_of_ble_eq_true rfl) ⟨Nat.le_of_ble_eq_true rfl, Nat.le_of_ble_eq_true rfl⟩ ⟨Nat.le_of_ble_eq_true rfl, Nat.le_of_ble_eq_true rfl⟩ dX1_takeText_9 (fun hk => mJ9_min_7cf53 Y hF _ _ _ _ _  h) (fun v M_2 h => ?_)
  obtain ⟨r_3, rfl, h⟩ := h
  refine r_callS (As := [vI x2, vI r_3]) (st := [vR Y.1 a0]) hC cw_X1_39 rfl rfl (Nat.le_of_ble_eq_true rfl) ⟨Nat.le_of_ble_eq_true rfl, Nat.le_of_ble_eq_true rfl⟩ ⟨Nat.le_of_ble_eq_true rfl, Nat.le_of_ble_eq_true rfl⟩ dX1_takeText_12 (fun hk => mJ9_min_7cf53 Y hF _ _ _ _ _  h) (fun v M_4 h => ?_)
  obtain ⟨r_5, rfl, h⟩ := h
  refine r_putI hC fp_X1_32 rfl qa0.1 qa0.2 dX1_takeText_15 ?_
  refine r_nameM h (fun M_6 h => ?_)
  refine r_aload_n hC 1 dX1_takeText_18 rfl rfl ?_
  refine r_iconst hC dX1_takeText_19 ?_
  refine r_aload_n hC 0 dX1_takeText_20 rfl rfl ?_
  have q_7 : 0 < a0 + 1 ∧ M0 0 (a0 + 1) = kA 0 50 := lay_f0 hL qa0 fm_1_6
  refine r_getR0 (a' := a0 + 1) hC fg_X1_15 rfl hF fm_1_6 qa0.1 qa0.2 rfl dX1_takeText_21 ?_
  refine r_iconst hC dX1_takeText_24 ?_
  refine r_aload_n hC 0 dX1_takeText_25 rfl rfl ?_
  refine r_getI hC fg_X1_32 rfl qa0.1 qa0.2 dX1_takeText_26 ?_
  obtain ⟨i_8, h⟩ := h
  refine r_copy (t := 0) hC (by decide) cp_X1_45 (Nat.le_of_ble_eq_true rfl) (Nat.le_of_ble_eq_true rfl) (Nat.le_of_ble_eq_true rfl) i_8 (by intro q; cases q) qa1 q_7 (by decide) (by decide) dX1_takeText_29 ?_
  refine r_nameM h (fun M_10 h => ?_)
  exact r_vret hC (Nat.zero_le _) (Nat.zero_le _) dX1_takeText_32 ⟨rfl, h⟩
theorem dX1_copyFrom_0 : dec cX1_copyFrom 0 1 1 (.aload_n 0) := ⟨by decide +kernel, rfl⟩
theorem dX1_copyFrom_1 : dec cX1_copyFrom 1 1 2 (.aload_n 1) := ⟨by decide +kernel, rfl⟩
theorem dX1_copyFrom_2 : dec cX1_copyFrom 2 3 5 (.getfield 19) := ⟨by decide +kernel, rfl⟩
theorem dX1_copyFrom_5 : dec cX1_copyFrom 5 3 8 (.putfield 19) := ⟨by decide +kernel, rfl⟩
theorem dX1_copyFrom_8 : dec cX1_copyFrom 8 1 9 (.aload_n 0) := ⟨by decide +kernel, rfl⟩
theorem dX1_copyFrom_9 : dec cX1_copyFrom 9 1 10 (.aload_n 1) := ⟨by decide +kernel, rfl⟩
theorem dX1_copyFrom_10 : dec cX1_copyFrom 10 3 13 (.getfield 22) := ⟨by decide +kernel, rfl⟩
theorem dX1_copyFrom_13 : dec cX1_copyFrom 13 3 16 (.putfield 22) := ⟨by decide +kernel, rfl⟩
theorem dX1_copyFrom_16 : dec cX1_copyFrom 16 1 17 (.aload_n 0) := ⟨by decide +kernel, rfl⟩
theorem dX1_copyFrom_17 : dec cX1_copyFrom 17 1 18 (.aload_n 1) := ⟨by decide +kernel, rfl⟩
theorem dX1_copyFrom_18 : dec cX1_copyFrom 18 3 21 (.getfield 11) := ⟨by decide +kernel, rfl⟩
theorem dX1_copyFrom_21 : dec cX1_copyFrom 21 3 24 (.putfield 11) := ⟨by decide +kernel, rfl⟩
theorem dX1_copyFrom_24 : dec cX1_copyFrom 24 1 25 (.aload_n 0) := ⟨by decide +kernel, rfl⟩
theorem dX1_copyFrom_25 : dec cX1_copyFrom 25 1 26 (.aload_n 1) := ⟨by decide +kernel, rfl⟩
theorem dX1_copyFrom_26 : dec cX1_copyFrom 26 3 29 (.getfield 25) := ⟨by decide +kernel, rfl⟩
theorem dX1_copyFrom_29 : dec cX1_copyFrom 29 3 32 (.putfield 25) := ⟨by decide +kernel, rfl⟩
theorem dX1_copyFrom_32 : dec cX1_copyFrom 32 1 33 (.aload_n 0) := ⟨by decide +kernel, rfl⟩
theorem dX1_copyFrom_33 : dec cX1_copyFrom 33 1 34 (.aload_n 1) := ⟨by decide +kernel, rfl⟩
theorem dX1_copyFrom_34 : dec cX1_copyFrom 34 3 37 (.getfield 28) := ⟨by decide +kernel, rfl⟩
theorem dX1_copyFrom_37 : dec cX1_copyFrom 37 3 40 (.putfield 28) := ⟨by decide +kernel, rfl⟩
theorem dX1_copyFrom_40 : dec cX1_copyFrom 40 1 41 (.aload_n 0) := ⟨by decide +kernel, rfl⟩
theorem dX1_copyFrom_41 : dec cX1_copyFrom 41 1 42 (.aload_n 1) := ⟨by decide +kernel, rfl⟩
theorem dX1_copyFrom_42 : dec cX1_copyFrom 42 3 45 (.getfield 15) := ⟨by decide +kernel, rfl⟩
theorem dX1_copyFrom_45 : dec cX1_copyFrom 45 1 46 (.aload_n 1) := ⟨by decide +kernel, rfl⟩
theorem dX1_copyFrom_46 : dec cX1_copyFrom 46 3 49 (.getfield 32) := ⟨by decide +kernel, rfl⟩
theorem dX1_copyFrom_49 : dec cX1_copyFrom 49 3 52 (.invokevirtual 35) := ⟨by decide +kernel, rfl⟩
theorem dX1_copyFrom_52 : dec cX1_copyFrom 52 1 53 (.return_) := ⟨by decide +kernel, rfl⟩
set_option maxHeartbeats 4000000 in
set_option maxRecDepth 100000 in
theorem mX1_copyFrom (Y : Yx) (hF : Y.2.2.2.2 = true) (l : Launch) (a0 : Nat) (a1 : Nat) (M0 : Mem) (Q : Mem → Prop) (qa0 : 0 < a0 ∧ M0 0 a0 = kO 1) (qa1 : 0 < a1 ∧ M0 0 a1 = kO 1) (h : wX1_copyFrom a0 a1 M0 Q) : CT Y l yX1_copyFrom cX1_copyFrom 2 none rmX1_copyFrom [vR Y.1 a0, vR Y.1 a1] M0 (QV Q) := by
  unfold wX1_copyFrom at h
  refine ct_intro (by decide) (Nat.le_of_ble_eq_true rfl) ?_
  intro X hXl hC hL0
  have hL := hL0 hF
  change OKX X Y RX1 cX1_copyFrom 2 none rmX1_copyFrom at hC
  change WW X Y 2 rmX1_copyFrom (QV Q) M0 0 0 0 [(0, vR Y.1 a0), (1, vR Y.1 a1)] [] M0
  refine r_aload_n hC 0 dX1_copyFrom_0 rfl rfl ?_
  refine r_aload_n hC 1 dX1_copyFrom_1 rfl rfl ?_
  refine r_getI hC fg_X1_19 rfl qa1.1 qa1.2 dX1_copyFrom_2 ?_
  refine r_putI hC fp_X1_19 rfl qa0.1 qa0.2 dX1_copyFrom_5 ?_
  refine r_nameM h (fun M_1 h => ?_)
  refine r_aload_n hC 0 dX1_copyFrom_8 rfl rfl ?_
  refine r_aload_n hC 1 dX1_copyFrom_9 rfl rfl ?_
  refine r_getI hC fg_X1_22 rfl qa1.1 qa1.2 dX1_copyFrom_10 ?_
  refine r_putI hC fp_X1_22 rfl qa0.1 qa0.2 dX1_copyFrom_13 ?_
  refine r_nameM h (fun M_2 h => ?_)
  refine r_aload_n hC 0 dX1_copyFrom_16 rfl rfl ?_
  refine r_aload_n hC 1 dX1_copyFrom_17 rfl rfl ?_
  refine r_getI hC fg_X1_11 rfl qa1.1 qa1.2 dX1_copyFrom_18 ?_
  refine r_putI hC fp_X1_11 rfl qa0.1 qa0.2 dX1_copyFrom_21 ?_
  refine r_nameM h (fun M_3 h => ?_)
  refine r_aload_n hC 0 dX1_copyFrom_24 rfl rfl ?_
  refine r_aload_n hC 1 dX1_copyFrom_25 rfl rfl ?_
  refine r_getI hC fg_X1_25 rfl qa1.1 qa1.2 dX1_copyFrom_26 ?_
  refine r_putI hC fp_X1_25 rfl qa0.1 qa0.2 dX1_copyFrom_29 ?_
  refine r_nameM h (fun M_4 h => ?_)
  refine r_aload_n hC 0 dX1_copyFrom_32 rfl rfl ?_
  refine r_aload_n hC 1 dX1_copyFrom_33 rfl rfl ?_
  refine r_getI hC fg_X1_28 rfl qa1.1 qa1.2 dX1_copyFrom_34 ?_
  obtain ⟨z_6, h⟩ := h
  refine r_putZ hC z_6 fp_X1_28 rfl qa0.1 qa0.2 dX1_copyFrom_37 ?_
  refine r_nameM h (fun M_5 h => ?_)
  refine r_aload_n hC 0 dX1_copyFrom_40 rfl rfl ?_
  refine r_aload_n hC 1 dX1_copyFrom_41 rfl rfl ?_
  have q_7 : 0 < a1 + 1 ∧ M0 0 (a1 + 1) = kA 0 50 := lay_f0 hL qa1 fm_1_6
  refine r_getR0 (a' := a1 + 1) hC fg_X1_15 rfl hF fm_1_6 qa1.1 qa1.2 rfl dX1_copyFrom_42 ?_
  refine r_aload_n hC 1 dX1_copyFrom_45 rfl rfl ?_
  refine r_getI hC fg_X1_32 rfl qa1.1 qa1.2 dX1_copyFrom_46 ?_
  refine r_callV (As := [vR Y.1 (a1 + 1), vI (M_5 a1 5)]) (st := []) hC cw_X1_35 rfl qa0.1 qa0.2 rfl rfl (Nat.le_of_ble_eq_true rfl) ⟨Nat.le_of_ble_eq_true rfl, Nat.le_of_ble_eq_true rfl⟩ ⟨Nat.le_of_ble_eq_true rfl, Nat.le_of_ble_eq_true rfl⟩ dX1_copyFrom_49 (fun hk => mX1_takeText Y hF _ _ _ _ _ _ (kqO hk qa0) (kqA hk q_7) h) (fun v M_8 h => ?_)
  obtain ⟨rfl, h⟩ := h
  exact r_vret hC (Nat.zero_le _) (Nat.zero_le _) dX1_copyFrom_52 ⟨rfl, h⟩
theorem dX2_copyFrom_0 : dec cX2_copyFrom 0 1 1 (.aload_n 0) := ⟨by decide +kernel, rfl⟩
theorem dX2_copyFrom_1 : dec cX2_copyFrom 1 1 2 (.aload_n 1) := ⟨by decide +kernel, rfl⟩
theorem dX2_copyFrom_2 : dec cX2_copyFrom 2 3 5 (.getfield 7) := ⟨by decide +kernel, rfl⟩
theorem dX2_copyFrom_5 : dec cX2_copyFrom 5 3 8 (.putfield 7) := ⟨by decide +kernel, rfl⟩
theorem dX2_copyFrom_8 : dec cX2_copyFrom 8 1 9 (.aload_n 0) := ⟨by decide +kernel, rfl⟩
theorem dX2_copyFrom_9 : dec cX2_copyFrom 9 1 10 (.aload_n 1) := ⟨by decide +kernel, rfl⟩
theorem dX2_copyFrom_10 : dec cX2_copyFrom 10 3 13 (.getfield 13) := ⟨by decide +kernel, rfl⟩
theorem dX2_copyFrom_13 : dec cX2_copyFrom 13 3 16 (.putfield 13) := ⟨by decide +kernel, rfl⟩
theorem dX2_copyFrom_16 : dec cX2_copyFrom 16 1 17 (.aload_n 0) := ⟨by decide +kernel, rfl⟩
theorem dX2_copyFrom_17 : dec cX2_copyFrom 17 1 18 (.aload_n 1) := ⟨by decide +kernel, rfl⟩
theorem dX2_copyFrom_18 : dec cX2_copyFrom 18 3 21 (.getfield 16) := ⟨by decide +kernel, rfl⟩
theorem dX2_copyFrom_21 : dec cX2_copyFrom 21 3 24 (.putfield 16) := ⟨by decide +kernel, rfl⟩
theorem dX2_copyFrom_24 : dec cX2_copyFrom 24 1 25 (.aload_n 0) := ⟨by decide +kernel, rfl⟩
theorem dX2_copyFrom_25 : dec cX2_copyFrom 25 1 26 (.aload_n 1) := ⟨by decide +kernel, rfl⟩
theorem dX2_copyFrom_26 : dec cX2_copyFrom 26 3 29 (.getfield 19) := ⟨by decide +kernel, rfl⟩
theorem dX2_copyFrom_29 : dec cX2_copyFrom 29 3 32 (.putfield 19) := ⟨by decide +kernel, rfl⟩
theorem dX2_copyFrom_32 : dec cX2_copyFrom 32 1 33 (.return_) := ⟨by decide +kernel, rfl⟩
set_option maxHeartbeats 4000000 in
set_option maxRecDepth 100000 in
theorem mX2_copyFrom (Y : Yx) (hF : Y.2.2.2.2 = true) (l : Launch) (a0 : Nat) (a1 : Nat) (M0 : Mem) (Q : Mem → Prop) (qa0 : 0 < a0 ∧ M0 0 a0 = kO 2) (qa1 : 0 < a1 ∧ M0 0 a1 = kO 2) (h : wX2_copyFrom a0 a1 M0 Q) : CT Y l yX2_copyFrom cX2_copyFrom 2 none rmX2_copyFrom [vR Y.1 a0, vR Y.1 a1] M0 (QV Q) := by
  unfold wX2_copyFrom at h
  refine ct_intro (by decide) (Nat.le_of_ble_eq_true rfl) ?_
  intro X hXl hC hL0
  have hL := hL0 hF
  change OKX X Y RX2 cX2_copyFrom 2 none rmX2_copyFrom at hC
  change WW X Y 2 rmX2_copyFrom (QV Q) M0 0 0 0 [(0, vR Y.1 a0), (1, vR Y.1 a1)] [] M0
  refine r_aload_n hC 0 dX2_copyFrom_0 rfl rfl ?_
  refine r_aload_n hC 1 dX2_copyFrom_1 rfl rfl ?_
  refine r_getI hC fg_X2_7 rfl qa1.1 qa1.2 dX2_copyFrom_2 ?_
  refine r_putI hC fp_X2_7 rfl qa0.1 qa0.2 dX2_copyFrom_5 ?_
  refine r_nameM h (fun M_1 h => ?_)
  refine r_aload_n hC 0 dX2_copyFrom_8 rfl rfl ?_
  refine r_aload_n hC 1 dX2_copyFrom_9 rfl rfl ?_
  refine r_getI hC fg_X2_13 rfl qa1.1 qa1.2 dX2_copyFrom_10 ?_
  refine r_putI hC fp_X2_13 rfl qa0.1 qa0.2 dX2_copyFrom_13 ?_
  refine r_nameM h (fun M_2 h => ?_)
  refine r_aload_n hC 0 dX2_copyFrom_16 rfl rfl ?_
  refine r_aload_n hC 1 dX2_copyFrom_17 rfl rfl ?_
  refine r_getI hC fg_X2_16 rfl qa1.1 qa1.2 dX2_copyFrom_18 ?_
  refine r_putI hC fp_X2_16 rfl qa0.1 qa0.2 dX2_copyFrom_21 ?_
  refine r_nameM h (fun M_3 h => ?_)
  refine r_aload_n hC 0 dX2_copyFrom_24 rfl rfl ?_
  refine r_aload_n hC 1 dX2_copyFrom_25 rfl rfl ?_
  refine r_getI hC fg_X2_19 rfl qa1.1 qa1.2 dX2_copyFrom_26 ?_
  refine r_putI hC fp_X2_19 rfl qa0.1 qa0.2 dX2_copyFrom_29 ?_
  refine r_nameM h (fun M_4 h => ?_)
  exact r_vret hC (Nat.zero_le _) (Nat.zero_le _) dX2_copyFrom_32 ⟨rfl, h⟩
theorem dX5_copyFrom_0 : dec cX5_copyFrom 0 1 1 (.aload_n 0) := ⟨by decide +kernel, rfl⟩
theorem dX5_copyFrom_1 : dec cX5_copyFrom 1 1 2 (.aload_n 1) := ⟨by decide +kernel, rfl⟩
theorem dX5_copyFrom_2 : dec cX5_copyFrom 2 3 5 (.getfield 15) := ⟨by decide +kernel, rfl⟩
theorem dX5_copyFrom_5 : dec cX5_copyFrom 5 3 8 (.putfield 15) := ⟨by decide +kernel, rfl⟩
theorem dX5_copyFrom_8 : dec cX5_copyFrom 8 1 9 (.aload_n 0) := ⟨by decide +kernel, rfl⟩
theorem dX5_copyFrom_9 : dec cX5_copyFrom 9 1 10 (.aload_n 1) := ⟨by decide +kernel, rfl⟩
theorem dX5_copyFrom_10 : dec cX5_copyFrom 10 3 13 (.getfield 19) := ⟨by decide +kernel, rfl⟩
theorem dX5_copyFrom_13 : dec cX5_copyFrom 13 3 16 (.putfield 19) := ⟨by decide +kernel, rfl⟩
theorem dX5_copyFrom_16 : dec cX5_copyFrom 16 1 17 (.aload_n 1) := ⟨by decide +kernel, rfl⟩
theorem dX5_copyFrom_17 : dec cX5_copyFrom 17 3 20 (.getfield 9) := ⟨by decide +kernel, rfl⟩
theorem dX5_copyFrom_20 : dec cX5_copyFrom 20 1 21 (.iconst 0) := ⟨by decide +kernel, rfl⟩
theorem dX5_copyFrom_21 : dec cX5_copyFrom 21 1 22 (.aload_n 0) := ⟨by decide +kernel, rfl⟩
theorem dX5_copyFrom_22 : dec cX5_copyFrom 22 3 25 (.getfield 9) := ⟨by decide +kernel, rfl⟩
theorem dX5_copyFrom_25 : dec cX5_copyFrom 25 1 26 (.iconst 0) := ⟨by decide +kernel, rfl⟩
theorem dX5_copyFrom_26 : dec cX5_copyFrom 26 2 28 (.bipush 12) := ⟨by decide +kernel, rfl⟩
theorem dX5_copyFrom_28 : dec cX5_copyFrom 28 3 31 (.invokestatic 22) := ⟨by decide +kernel, rfl⟩
theorem dX5_copyFrom_31 : dec cX5_copyFrom 31 1 32 (.return_) := ⟨by decide +kernel, rfl⟩
set_option maxHeartbeats 4000000 in
set_option maxRecDepth 100000 in
theorem mX5_copyFrom (Y : Yx) (hF : Y.2.2.2.2 = true) (l : Launch) (a0 : Nat) (a1 : Nat) (M0 : Mem) (Q : Mem → Prop) (qa0 : 0 < a0 ∧ M0 0 a0 = kO 5) (qa1 : 0 < a1 ∧ M0 0 a1 = kO 5) (h : wX5_copyFrom a0 a1 M0 Q) : CT Y l yX5_copyFrom cX5_copyFrom 2 none rmX5_copyFrom [vR Y.1 a0, vR Y.1 a1] M0 (QV Q) := by
  unfold wX5_copyFrom at h
  refine ct_intro (by decide) (Nat.le_of_ble_eq_true rfl) ?_
  intro X hXl hC hL0
  have hL := hL0 hF
  change OKX X Y RX5 cX5_copyFrom 2 none rmX5_copyFrom at hC
  change WW X Y 2 rmX5_copyFrom (QV Q) M0 0 0 0 [(0, vR Y.1 a0), (1, vR Y.1 a1)] [] M0
  refine r_aload_n hC 0 dX5_copyFrom_0 rfl rfl ?_
  refine r_aload_n hC 1 dX5_copyFrom_1 rfl rfl ?_
  refine r_getI hC fg_X5_15 rfl qa1.1 qa1.2 dX5_copyFrom_2 ?_
  refine r_putI hC fp_X5_15 rfl qa0.1 qa0.2 dX5_copyFrom_5 ?_
  refine r_nameM h (fun M_1 h => ?_)
  refine r_aload_n hC 0 dX5_copyFrom_8 rfl rfl ?_
  refine r_aload_n hC 1 dX5_copyFrom_9 rfl rfl ?_
  refine r_getI hC fg_X5_19 rfl qa1.1 qa1.2 dX5_copyFrom_10 ?_
  refine r_putI hC fp_X5_19 rfl qa0.1 qa0.2 dX5_copyFrom_13 ?_
  refine r_nameM h (fun M_2 h => ?_)
  refine r_aload_n hC 1 dX5_copyFrom_16 rfl rfl ?_
  have q_3 : 0 < a1 + 1 ∧ M0 0 (a1 + 1) = kA 0 12 := lay_f0 hL qa1 fm_5_0
  refine r_getR0 (a' := a1 + 1) hC fg_X5_9 rfl hF fm_5_0 qa1.1 qa1.2 rfl dX5_copyFrom_17 ?_
  refine r_iconst hC dX5_copyFrom_20 ?_
  refine r_aload_n hC 0 dX5_copyFrom_21 rfl rfl ?_
  have q_4 : 0 < a0 + 1 ∧ M0 0 (a0 + 1) = kA 0 12 := lay_f0 hL qa0 fm_5_0
  refine r_getR0 (a' := a0 + 1) hC fg_X5_9 rfl hF fm_5_0 qa0.1 qa0.2 rfl dX5_copyFrom_22 ?_
  refine r_iconst hC dX5_copyFrom_25 ?_
  refine r_bipush hC (by decide +kernel) dX5_copyFrom_26 ?_
  obtain ⟨i_5, h⟩ := h
  refine r_copy (t := 0) hC (by decide) cp_X5_22 (Nat.le_of_ble_eq_true rfl) (Nat.le_of_ble_eq_true rfl) (Nat.le_of_ble_eq_true rfl) i_5 (by intro q; cases q) q_3 q_4 (by decide) (by decide) dX5_copyFrom_28 ?_
  refine r_nameM h (fun M_7 h => ?_)
  exact r_vret hC (Nat.zero_le _) (Nat.zero_le _) dX5_copyFrom_31 ⟨rfl, h⟩
theorem dX0_copyFrom_0 : dec cX0_copyFrom 0 1 1 (.aload_n 0) := ⟨by decide +kernel, rfl⟩
theorem dX0_copyFrom_1 : dec cX0_copyFrom 1 1 2 (.aload_n 1) := ⟨by decide +kernel, rfl⟩
theorem dX0_copyFrom_2 : dec cX0_copyFrom 2 3 5 (.getfield 53) := ⟨by decide +kernel, rfl⟩
theorem dX0_copyFrom_5 : dec cX0_copyFrom 5 3 8 (.putfield 53) := ⟨by decide +kernel, rfl⟩
theorem dX0_copyFrom_8 : dec cX0_copyFrom 8 1 9 (.iconst 0) := ⟨by decide +kernel, rfl⟩
theorem dX0_copyFrom_9 : dec cX0_copyFrom 9 1 10 (.istore_n 2) := ⟨by decide +kernel, rfl⟩
theorem dX0_copyFrom_10 : dec cX0_copyFrom 10 1 11 (.iload_n 2) := ⟨by decide +kernel, rfl⟩
theorem dX0_copyFrom_11 : dec cX0_copyFrom 11 1 12 (.aload_n 0) := ⟨by decide +kernel, rfl⟩
theorem dX0_copyFrom_12 : dec cX0_copyFrom 12 3 15 (.getfield 53) := ⟨by decide +kernel, rfl⟩
theorem dX0_copyFrom_15 : dec cX0_copyFrom 15 3 18 (.if_icmp .ge 24) := ⟨by decide +kernel, rfl⟩
theorem dX0_copyFrom_18 : dec cX0_copyFrom 18 1 19 (.aload_n 0) := ⟨by decide +kernel, rfl⟩
theorem dX0_copyFrom_19 : dec cX0_copyFrom 19 3 22 (.getfield 11) := ⟨by decide +kernel, rfl⟩
theorem dX0_copyFrom_22 : dec cX0_copyFrom 22 1 23 (.iload_n 2) := ⟨by decide +kernel, rfl⟩
theorem dX0_copyFrom_23 : dec cX0_copyFrom 23 1 24 (.aaload) := ⟨by decide +kernel, rfl⟩
theorem dX0_copyFrom_24 : dec cX0_copyFrom 24 1 25 (.aload_n 1) := ⟨by decide +kernel, rfl⟩
theorem dX0_copyFrom_25 : dec cX0_copyFrom 25 3 28 (.getfield 11) := ⟨by decide +kernel, rfl⟩
theorem dX0_copyFrom_28 : dec cX0_copyFrom 28 1 29 (.iload_n 2) := ⟨by decide +kernel, rfl⟩
theorem dX0_copyFrom_29 : dec cX0_copyFrom 29 1 30 (.aaload) := ⟨by decide +kernel, rfl⟩
theorem dX0_copyFrom_30 : dec cX0_copyFrom 30 3 33 (.invokevirtual 57) := ⟨by decide +kernel, rfl⟩
theorem dX0_copyFrom_33 : dec cX0_copyFrom 33 3 36 (.iinc 2 1) := ⟨by decide +kernel, rfl⟩
theorem dX0_copyFrom_36 : dec cX0_copyFrom 36 3 39 (.goto (-26)) := ⟨by decide +kernel, rfl⟩
theorem dX0_copyFrom_39 : dec cX0_copyFrom 39 1 40 (.aload_n 0) := ⟨by decide +kernel, rfl⟩
theorem dX0_copyFrom_40 : dec cX0_copyFrom 40 1 41 (.aload_n 1) := ⟨by decide +kernel, rfl⟩
theorem dX0_copyFrom_41 : dec cX0_copyFrom 41 3 44 (.getfield 61) := ⟨by decide +kernel, rfl⟩
theorem dX0_copyFrom_44 : dec cX0_copyFrom 44 3 47 (.putfield 61) := ⟨by decide +kernel, rfl⟩
theorem dX0_copyFrom_47 : dec cX0_copyFrom 47 1 48 (.iconst 0) := ⟨by decide +kernel, rfl⟩
theorem dX0_copyFrom_48 : dec cX0_copyFrom 48 1 49 (.istore_n 2) := ⟨by decide +kernel, rfl⟩
theorem dX0_copyFrom_49 : dec cX0_copyFrom 49 1 50 (.iload_n 2) := ⟨by decide +kernel, rfl⟩
theorem dX0_copyFrom_50 : dec cX0_copyFrom 50 1 51 (.aload_n 0) := ⟨by decide +kernel, rfl⟩
theorem dX0_copyFrom_51 : dec cX0_copyFrom 51 3 54 (.getfield 61) := ⟨by decide +kernel, rfl⟩
theorem dX0_copyFrom_54 : dec cX0_copyFrom 54 3 57 (.if_icmp .ge 24) := ⟨by decide +kernel, rfl⟩
theorem dX0_copyFrom_57 : dec cX0_copyFrom 57 1 58 (.aload_n 0) := ⟨by decide +kernel, rfl⟩
theorem dX0_copyFrom_58 : dec cX0_copyFrom 58 3 61 (.getfield 23) := ⟨by decide +kernel, rfl⟩
theorem dX0_copyFrom_61 : dec cX0_copyFrom 61 1 62 (.iload_n 2) := ⟨by decide +kernel, rfl⟩
theorem dX0_copyFrom_62 : dec cX0_copyFrom 62 1 63 (.aaload) := ⟨by decide +kernel, rfl⟩
theorem dX0_copyFrom_63 : dec cX0_copyFrom 63 1 64 (.aload_n 1) := ⟨by decide +kernel, rfl⟩
theorem dX0_copyFrom_64 : dec cX0_copyFrom 64 3 67 (.getfield 23) := ⟨by decide +kernel, rfl⟩
theorem dX0_copyFrom_67 : dec cX0_copyFrom 67 1 68 (.iload_n 2) := ⟨by decide +kernel, rfl⟩
theorem dX0_copyFrom_68 : dec cX0_copyFrom 68 1 69 (.aaload) := ⟨by decide +kernel, rfl⟩
theorem dX0_copyFrom_69 : dec cX0_copyFrom 69 3 72 (.invokevirtual 64) := ⟨by decide +kernel, rfl⟩
theorem dX0_copyFrom_72 : dec cX0_copyFrom 72 3 75 (.iinc 2 1) := ⟨by decide +kernel, rfl⟩
theorem dX0_copyFrom_75 : dec cX0_copyFrom 75 3 78 (.goto (-26)) := ⟨by decide +kernel, rfl⟩
theorem dX0_copyFrom_78 : dec cX0_copyFrom 78 1 79 (.aload_n 0) := ⟨by decide +kernel, rfl⟩
theorem dX0_copyFrom_79 : dec cX0_copyFrom 79 1 80 (.aload_n 1) := ⟨by decide +kernel, rfl⟩
theorem dX0_copyFrom_80 : dec cX0_copyFrom 80 3 83 (.getfield 67) := ⟨by decide +kernel, rfl⟩
theorem dX0_copyFrom_83 : dec cX0_copyFrom 83 3 86 (.putfield 67) := ⟨by decide +kernel, rfl⟩
theorem dX0_copyFrom_86 : dec cX0_copyFrom 86 1 87 (.iconst 0) := ⟨by decide +kernel, rfl⟩
theorem dX0_copyFrom_87 : dec cX0_copyFrom 87 1 88 (.istore_n 2) := ⟨by decide +kernel, rfl⟩
theorem dX0_copyFrom_88 : dec cX0_copyFrom 88 1 89 (.iload_n 2) := ⟨by decide +kernel, rfl⟩
theorem dX0_copyFrom_89 : dec cX0_copyFrom 89 1 90 (.aload_n 0) := ⟨by decide +kernel, rfl⟩
theorem dX0_copyFrom_90 : dec cX0_copyFrom 90 3 93 (.getfield 67) := ⟨by decide +kernel, rfl⟩
theorem dX0_copyFrom_93 : dec cX0_copyFrom 93 3 96 (.if_icmp .ge 24) := ⟨by decide +kernel, rfl⟩
theorem dX0_copyFrom_96 : dec cX0_copyFrom 96 1 97 (.aload_n 0) := ⟨by decide +kernel, rfl⟩
theorem dX0_copyFrom_97 : dec cX0_copyFrom 97 3 100 (.getfield 29) := ⟨by decide +kernel, rfl⟩
theorem dX0_copyFrom_100 : dec cX0_copyFrom 100 1 101 (.iload_n 2) := ⟨by decide +kernel, rfl⟩
theorem dX0_copyFrom_101 : dec cX0_copyFrom 101 1 102 (.aaload) := ⟨by decide +kernel, rfl⟩
theorem dX0_copyFrom_102 : dec cX0_copyFrom 102 1 103 (.aload_n 1) := ⟨by decide +kernel, rfl⟩
theorem dX0_copyFrom_103 : dec cX0_copyFrom 103 3 106 (.getfield 29) := ⟨by decide +kernel, rfl⟩
theorem dX0_copyFrom_106 : dec cX0_copyFrom 106 1 107 (.iload_n 2) := ⟨by decide +kernel, rfl⟩
theorem dX0_copyFrom_107 : dec cX0_copyFrom 107 1 108 (.aaload) := ⟨by decide +kernel, rfl⟩
theorem dX0_copyFrom_108 : dec cX0_copyFrom 108 3 111 (.invokevirtual 70) := ⟨by decide +kernel, rfl⟩
theorem dX0_copyFrom_111 : dec cX0_copyFrom 111 3 114 (.iinc 2 1) := ⟨by decide +kernel, rfl⟩
theorem dX0_copyFrom_114 : dec cX0_copyFrom 114 3 117 (.goto (-26)) := ⟨by decide +kernel, rfl⟩
theorem dX0_copyFrom_117 : dec cX0_copyFrom 117 1 118 (.aload_n 0) := ⟨by decide +kernel, rfl⟩
theorem dX0_copyFrom_118 : dec cX0_copyFrom 118 1 119 (.aload_n 1) := ⟨by decide +kernel, rfl⟩
theorem dX0_copyFrom_119 : dec cX0_copyFrom 119 3 122 (.getfield 73) := ⟨by decide +kernel, rfl⟩
theorem dX0_copyFrom_122 : dec cX0_copyFrom 122 3 125 (.putfield 73) := ⟨by decide +kernel, rfl⟩
theorem dX0_copyFrom_125 : dec cX0_copyFrom 125 1 126 (.iconst 0) := ⟨by decide +kernel, rfl⟩
theorem dX0_copyFrom_126 : dec cX0_copyFrom 126 1 127 (.istore_n 2) := ⟨by decide +kernel, rfl⟩
theorem dX0_copyFrom_127 : dec cX0_copyFrom 127 1 128 (.iload_n 2) := ⟨by decide +kernel, rfl⟩
theorem dX0_copyFrom_128 : dec cX0_copyFrom 128 1 129 (.aload_n 0) := ⟨by decide +kernel, rfl⟩
theorem dX0_copyFrom_129 : dec cX0_copyFrom 129 3 132 (.getfield 73) := ⟨by decide +kernel, rfl⟩
theorem dX0_copyFrom_132 : dec cX0_copyFrom 132 3 135 (.if_icmp .ge 39) := ⟨by decide +kernel, rfl⟩
theorem dX0_copyFrom_135 : dec cX0_copyFrom 135 1 136 (.aload_n 0) := ⟨by decide +kernel, rfl⟩
theorem dX0_copyFrom_136 : dec cX0_copyFrom 136 3 139 (.getfield 39) := ⟨by decide +kernel, rfl⟩
theorem dX0_copyFrom_139 : dec cX0_copyFrom 139 1 140 (.iload_n 2) := ⟨by decide +kernel, rfl⟩
theorem dX0_copyFrom_140 : dec cX0_copyFrom 140 1 141 (.aaload) := ⟨by decide +kernel, rfl⟩
theorem dX0_copyFrom_141 : dec cX0_copyFrom 141 1 142 (.aload_n 1) := ⟨by decide +kernel, rfl⟩
theorem dX0_copyFrom_142 : dec cX0_copyFrom 142 3 145 (.getfield 39) := ⟨by decide +kernel, rfl⟩
theorem dX0_copyFrom_145 : dec cX0_copyFrom 145 1 146 (.iload_n 2) := ⟨by decide +kernel, rfl⟩
theorem dX0_copyFrom_146 : dec cX0_copyFrom 146 1 147 (.aaload) := ⟨by decide +kernel, rfl⟩
theorem dX0_copyFrom_147 : dec cX0_copyFrom 147 3 150 (.invokevirtual 76) := ⟨by decide +kernel, rfl⟩
theorem dX0_copyFrom_150 : dec cX0_copyFrom 150 1 151 (.aload_n 0) := ⟨by decide +kernel, rfl⟩
theorem dX0_copyFrom_151 : dec cX0_copyFrom 151 3 154 (.getfield 43) := ⟨by decide +kernel, rfl⟩
theorem dX0_copyFrom_154 : dec cX0_copyFrom 154 1 155 (.iload_n 2) := ⟨by decide +kernel, rfl⟩
theorem dX0_copyFrom_155 : dec cX0_copyFrom 155 1 156 (.aaload) := ⟨by decide +kernel, rfl⟩
theorem dX0_copyFrom_156 : dec cX0_copyFrom 156 1 157 (.aload_n 1) := ⟨by decide +kernel, rfl⟩
theorem dX0_copyFrom_157 : dec cX0_copyFrom 157 3 160 (.getfield 43) := ⟨by decide +kernel, rfl⟩
theorem dX0_copyFrom_160 : dec cX0_copyFrom 160 1 161 (.iload_n 2) := ⟨by decide +kernel, rfl⟩
theorem dX0_copyFrom_161 : dec cX0_copyFrom 161 1 162 (.aaload) := ⟨by decide +kernel, rfl⟩
theorem dX0_copyFrom_162 : dec cX0_copyFrom 162 3 165 (.invokevirtual 76) := ⟨by decide +kernel, rfl⟩
theorem dX0_copyFrom_165 : dec cX0_copyFrom 165 3 168 (.iinc 2 1) := ⟨by decide +kernel, rfl⟩
theorem dX0_copyFrom_168 : dec cX0_copyFrom 168 3 171 (.goto (-41)) := ⟨by decide +kernel, rfl⟩
theorem dX0_copyFrom_171 : dec cX0_copyFrom 171 1 172 (.aload_n 0) := ⟨by decide +kernel, rfl⟩
theorem dX0_copyFrom_172 : dec cX0_copyFrom 172 1 173 (.aload_n 1) := ⟨by decide +kernel, rfl⟩
theorem dX0_copyFrom_173 : dec cX0_copyFrom 173 3 176 (.getfield 79) := ⟨by decide +kernel, rfl⟩
theorem dX0_copyFrom_176 : dec cX0_copyFrom 176 3 179 (.putfield 79) := ⟨by decide +kernel, rfl⟩
theorem dX0_copyFrom_179 : dec cX0_copyFrom 179 1 180 (.aload_n 1) := ⟨by decide +kernel, rfl⟩
theorem dX0_copyFrom_180 : dec cX0_copyFrom 180 3 183 (.getfield 33) := ⟨by decide +kernel, rfl⟩
theorem dX0_copyFrom_183 : dec cX0_copyFrom 183 1 184 (.iconst 0) := ⟨by decide +kernel, rfl⟩
theorem dX0_copyFrom_184 : dec cX0_copyFrom 184 1 185 (.aload_n 0) := ⟨by decide +kernel, rfl⟩
theorem dX0_copyFrom_185 : dec cX0_copyFrom 185 3 188 (.getfield 33) := ⟨by decide +kernel, rfl⟩
theorem dX0_copyFrom_188 : dec cX0_copyFrom 188 1 189 (.iconst 0) := ⟨by decide +kernel, rfl⟩
theorem dX0_copyFrom_189 : dec cX0_copyFrom 189 2 191 (.bipush 50) := ⟨by decide +kernel, rfl⟩
theorem dX0_copyFrom_191 : dec cX0_copyFrom 191 3 194 (.invokestatic 82) := ⟨by decide +kernel, rfl⟩
theorem dX0_copyFrom_194 : dec cX0_copyFrom 194 1 195 (.aload_n 0) := ⟨by decide +kernel, rfl⟩
theorem dX0_copyFrom_195 : dec cX0_copyFrom 195 1 196 (.aload_n 1) := ⟨by decide +kernel, rfl⟩
theorem dX0_copyFrom_196 : dec cX0_copyFrom 196 3 199 (.getfield 88) := ⟨by decide +kernel, rfl⟩
theorem dX0_copyFrom_199 : dec cX0_copyFrom 199 3 202 (.putfield 88) := ⟨by decide +kernel, rfl⟩
theorem dX0_copyFrom_202 : dec cX0_copyFrom 202 1 203 (.aload_n 1) := ⟨by decide +kernel, rfl⟩
theorem dX0_copyFrom_203 : dec cX0_copyFrom 203 3 206 (.getfield 46) := ⟨by decide +kernel, rfl⟩
theorem dX0_copyFrom_206 : dec cX0_copyFrom 206 1 207 (.iconst 0) := ⟨by decide +kernel, rfl⟩
theorem dX0_copyFrom_207 : dec cX0_copyFrom 207 1 208 (.aload_n 0) := ⟨by decide +kernel, rfl⟩
theorem dX0_copyFrom_208 : dec cX0_copyFrom 208 3 211 (.getfield 46) := ⟨by decide +kernel, rfl⟩
theorem dX0_copyFrom_211 : dec cX0_copyFrom 211 1 212 (.iconst 0) := ⟨by decide +kernel, rfl⟩
theorem dX0_copyFrom_212 : dec cX0_copyFrom 212 2 214 (.bipush 12) := ⟨by decide +kernel, rfl⟩
theorem dX0_copyFrom_214 : dec cX0_copyFrom 214 3 217 (.invokestatic 82) := ⟨by decide +kernel, rfl⟩
theorem dX0_copyFrom_217 : dec cX0_copyFrom 217 1 218 (.aload_n 1) := ⟨by decide +kernel, rfl⟩
theorem dX0_copyFrom_218 : dec cX0_copyFrom 218 3 221 (.getfield 17) := ⟨by decide +kernel, rfl⟩
theorem dX0_copyFrom_221 : dec cX0_copyFrom 221 1 222 (.iconst 0) := ⟨by decide +kernel, rfl⟩
theorem dX0_copyFrom_222 : dec cX0_copyFrom 222 1 223 (.aload_n 0) := ⟨by decide +kernel, rfl⟩
theorem dX0_copyFrom_223 : dec cX0_copyFrom 223 3 226 (.getfield 17) := ⟨by decide +kernel, rfl⟩
theorem dX0_copyFrom_226 : dec cX0_copyFrom 226 1 227 (.iconst 0) := ⟨by decide +kernel, rfl⟩
theorem dX0_copyFrom_227 : dec cX0_copyFrom 227 1 228 (.iconst 4) := ⟨by decide +kernel, rfl⟩
theorem dX0_copyFrom_228 : dec cX0_copyFrom 228 3 231 (.invokestatic 82) := ⟨by decide +kernel, rfl⟩
theorem dX0_copyFrom_231 : dec cX0_copyFrom 231 1 232 (.return_) := ⟨by decide +kernel, rfl⟩
set_option maxHeartbeats 4000000 in
set_option maxRecDepth 100000 in
theorem tX0_copyFrom_L10 {X : Cx} {Y : Yx} {M0 : Mem} (hC : OKX X Y RX0 cX0_copyFrom 3 none rmX0_copyFrom) (hF : Y.2.2.2.2 = true) (hL : Lay M0) (Q : Mem → Prop) (E39 : Mem → Prop) (a0 : Nat) (a1 : Nat) (qa0 : 0 < a0 ∧ M0 0 a0 = kO 0) (qa1 : 0 < a1 ∧ M0 0 a1 = kO 0) (hE39 : ∀  (M : Mem), E39  M → WW X Y 3 rmX0_copyFrom (QV Q) M0 0 0 39 [(0, vR Y.1 a0), (1, vR Y.1 a1)] [] M) : ∀ (N : Nat) (x2 : Int) (M : Mem) (_ : wX0_copyFrom_L10 Q E39 a0 a1 N x2 M), WW X Y 3 rmX0_copyFrom (QV Q) M0 0 0 10 [(0, vR Y.1 a0), (1, vR Y.1 a1), (2, vI x2)] [] M := by
  intro N
  induction N with
  | zero =>
    intro x2 M h
    exact h.elim
  | succ N ih =>
    intro x2 M h
    unfold wX0_copyFrom_L10 at h
    refine r_iload_n hC 2 dX0_copyFrom_10 rfl rfl ?_
    refine r_aload_n hC 0 dX0_copyFrom_11 rfl rfl ?_
    refine r_getI hC fg_X0_53 rfl qa0.1 qa0.2 dX0_copyFrom_12 ?_
    refine r_icmp_ge hC 39 rfl rfl dX0_copyFrom_15 (by decide) (fun c => ?_) (fun c => ?_)
    · replace h := h.1 c
      refine r_sub [0, 1] rfl ?_
      exact hE39  _ h
    · replace h := h.2 c
      refine r_aload_n hC 0 dX0_copyFrom_18 rfl rfl ?_
      have q_2 : 0 < a0 + 1 ∧ M0 0 (a0 + 1) = kA 4 12 := lay_f0 hL qa0 fm_0_0
      refine r_getR0 (a' := a0 + 1) hC fg_X0_11 rfl hF fm_0_0 qa0.1 qa0.2 rfl dX0_copyFrom_19 ?_
      refine r_iload_n hC 2 dX0_copyFrom_22 rfl rfl ?_
      obtain ⟨i_3, h⟩ := h
      have q_4 : 0 < a0 + 9 + (bm x2).toNat ∧ M0 0 (a0 + 9 + (bm x2).toNat) = kO 3 := lay_a4 hL q_2 (inb_nat i_3)
      refine r_aald4 hC hF i_3 q_2.1 q_2.2 dX0_copyFrom_23 ?_
      refine r_aload_n hC 1 dX0_copyFrom_24 rfl rfl ?_
      have q_5 : 0 < a1 + 1 ∧ M0 0 (a1 + 1) = kA 4 12 := lay_f0 hL qa1 fm_0_0
      refine r_getR0 (a' := a1 + 1) hC fg_X0_11 rfl hF fm_0_0 qa1.1 qa1.2 rfl dX0_copyFrom_25 ?_
      refine r_iload_n hC 2 dX0_copyFrom_28 rfl rfl ?_
      obtain ⟨i_6, h⟩ := h
      have q_7 : 0 < a1 + 9 + (bm x2).toNat ∧ M0 0 (a1 + 9 + (bm x2).toNat) = kO 3 := lay_a4 hL q_5 (inb_nat i_6)
      refine r_aald4 hC hF i_6 q_5.1 q_5.2 dX0_copyFrom_29 ?_
      refine r_callV (As := [vR Y.1 (a1 + 9 + (bm x2).toNat)]) (st := []) hC cw_X0_57 rfl q_4.1 q_4.2 rfl rfl (Nat.le_of_ble_eq_true rfl) ⟨Nat.le_of_ble_eq_true rfl, Nat.le_of_ble_eq_true rfl⟩ ⟨Nat.le_of_ble_eq_true rfl, Nat.le_of_ble_eq_true rfl⟩ dX0_copyFrom_30 (fun hk => mX3_copyFrom Y hF _ _ _ _ _ (kqO hk q_4) (kqO hk q_7) h) (fun v M_8 h => ?_)
      obtain ⟨rfl, h⟩ := h
      refine let_elim h (fun x2_9 e_10 h => ?_)
      refine r_iinc (lv' := [(2, vI x2_9), (0, vR Y.1 a0), (1, vR Y.1 a1)]) hC 2 dX0_copyFrom_33 rfl (by decide) e_10 rfl ?_
      refine r_goto hC 10 dX0_copyFrom_36 (by decide) ?_
      refine r_sub [1, 2, 0] rfl ?_
      exact ih _ _ h
set_option maxHeartbeats 4000000 in
set_option maxRecDepth 100000 in
theorem tX0_copyFrom_L49 {X : Cx} {Y : Yx} {M0 : Mem} (hC : OKX X Y RX0 cX0_copyFrom 3 none rmX0_copyFrom) (hF : Y.2.2.2.2 = true) (hL : Lay M0) (Q : Mem → Prop) (E78 : Mem → Prop) (a0 : Nat) (a1 : Nat) (qa0 : 0 < a0 ∧ M0 0 a0 = kO 0) (qa1 : 0 < a1 ∧ M0 0 a1 = kO 0) (hE78 : ∀  (M : Mem), E78  M → WW X Y 3 rmX0_copyFrom (QV Q) M0 0 0 78 [(0, vR Y.1 a0), (1, vR Y.1 a1)] [] M) : ∀ (N : Nat) (x2 : Int) (M : Mem) (_ : wX0_copyFrom_L49 Q E78 a0 a1 N x2 M), WW X Y 3 rmX0_copyFrom (QV Q) M0 0 0 49 [(0, vR Y.1 a0), (1, vR Y.1 a1), (2, vI x2)] [] M := by
  intro N
  induction N with
  | zero =>
    intro x2 M h
    exact h.elim
  | succ N ih =>
    intro x2 M h
    unfold wX0_copyFrom_L49 at h
    refine r_iload_n hC 2 dX0_copyFrom_49 rfl rfl ?_
    refine r_aload_n hC 0 dX0_copyFrom_50 rfl rfl ?_
    refine r_getI hC fg_X0_61 rfl qa0.1 qa0.2 dX0_copyFrom_51 ?_
    refine r_icmp_ge hC 78 rfl rfl dX0_copyFrom_54 (by decide) (fun c => ?_) (fun c => ?_)
    · replace h := h.1 c
      refine r_sub [0, 1] rfl ?_
      exact hE78  _ h
    · replace h := h.2 c
      refine r_aload_n hC 0 dX0_copyFrom_57 rfl rfl ?_
      have q_13 : 0 < a0 + 3 ∧ M0 0 (a0 + 3) = kA 5 10 := lay_f0 hL qa0 fm_0_3
      refine r_getR0 (a' := a0 + 3) hC fg_X0_23 rfl hF fm_0_3 qa0.1 qa0.2 rfl dX0_copyFrom_58 ?_
      refine r_iload_n hC 2 dX0_copyFrom_61 rfl rfl ?_
      obtain ⟨i_14, h⟩ := h
      have q_15 : 0 < a0 + 21 + 2 * (bm x2).toNat ∧ M0 0 (a0 + 21 + 2 * (bm x2).toNat) = kO 1 := lay_a5 hL q_13 (inb_nat i_14)
      refine r_aald5 hC hF i_14 q_13.1 q_13.2 dX0_copyFrom_62 ?_
      refine r_aload_n hC 1 dX0_copyFrom_63 rfl rfl ?_
      have q_16 : 0 < a1 + 3 ∧ M0 0 (a1 + 3) = kA 5 10 := lay_f0 hL qa1 fm_0_3
      refine r_getR0 (a' := a1 + 3) hC fg_X0_23 rfl hF fm_0_3 qa1.1 qa1.2 rfl dX0_copyFrom_64 ?_
      refine r_iload_n hC 2 dX0_copyFrom_67 rfl rfl ?_
      obtain ⟨i_17, h⟩ := h
      have q_18 : 0 < a1 + 21 + 2 * (bm x2).toNat ∧ M0 0 (a1 + 21 + 2 * (bm x2).toNat) = kO 1 := lay_a5 hL q_16 (inb_nat i_17)
      refine r_aald5 hC hF i_17 q_16.1 q_16.2 dX0_copyFrom_68 ?_
      refine r_callV (As := [vR Y.1 (a1 + 21 + 2 * (bm x2).toNat)]) (st := []) hC cw_X0_64 rfl q_15.1 q_15.2 rfl rfl (Nat.le_of_ble_eq_true rfl) ⟨Nat.le_of_ble_eq_true rfl, Nat.le_of_ble_eq_true rfl⟩ ⟨Nat.le_of_ble_eq_true rfl, Nat.le_of_ble_eq_true rfl⟩ dX0_copyFrom_69 (fun hk => mX1_copyFrom Y hF _ _ _ _ _ (kqO hk q_15) (kqO hk q_18) h) (fun v M_19 h => ?_)
      obtain ⟨rfl, h⟩ := h
      refine let_elim h (fun x2_20 e_21 h => ?_)
      refine r_iinc (lv' := [(2, vI x2_20), (0, vR Y.1 a0), (1, vR Y.1 a1)]) hC 2 dX0_copyFrom_72 rfl (by decide) e_21 rfl ?_
      refine r_goto hC 49 dX0_copyFrom_75 (by decide) ?_
      refine r_sub [1, 2, 0] rfl ?_
      exact ih _ _ h
set_option maxHeartbeats 4000000 in
set_option maxRecDepth 100000 in
theorem tX0_copyFrom_L88 {X : Cx} {Y : Yx} {M0 : Mem} (hC : OKX X Y RX0 cX0_copyFrom 3 none rmX0_copyFrom) (hF : Y.2.2.2.2 = true) (hL : Lay M0) (Q : Mem → Prop) (E117 : Mem → Prop) (a0 : Nat) (a1 : Nat) (qa0 : 0 < a0 ∧ M0 0 a0 = kO 0) (qa1 : 0 < a1 ∧ M0 0 a1 = kO 0) (hE117 : ∀  (M : Mem), E117  M → WW X Y 3 rmX0_copyFrom (QV Q) M0 0 0 117 [(0, vR Y.1 a0), (1, vR Y.1 a1)] [] M) : ∀ (N : Nat) (x2 : Int) (M : Mem) (_ : wX0_copyFrom_L88 Q E117 a0 a1 N x2 M), WW X Y 3 rmX0_copyFrom (QV Q) M0 0 0 88 [(0, vR Y.1 a0), (1, vR Y.1 a1), (2, vI x2)] [] M := by
  intro N
  induction N with
  | zero =>
    intro x2 M h
    exact h.elim
  | succ N ih =>
    intro x2 M h
    unfold wX0_copyFrom_L88 at h
    refine r_iload_n hC 2 dX0_copyFrom_88 rfl rfl ?_
    refine r_aload_n hC 0 dX0_copyFrom_89 rfl rfl ?_
    refine r_getI hC fg_X0_67 rfl qa0.1 qa0.2 dX0_copyFrom_90 ?_
    refine r_icmp_ge hC 117 rfl rfl dX0_copyFrom_93 (by decide) (fun c => ?_) (fun c => ?_)
    · replace h := h.1 c
      refine r_sub [0, 1] rfl ?_
      exact hE117  _ h
    · replace h := h.2 c
      refine r_aload_n hC 0 dX0_copyFrom_96 rfl rfl ?_
      have q_24 : 0 < a0 + 4 ∧ M0 0 (a0 + 4) = kA 6 10 := lay_f0 hL qa0 fm_0_5
      refine r_getR0 (a' := a0 + 4) hC fg_X0_29 rfl hF fm_0_5 qa0.1 qa0.2 rfl dX0_copyFrom_97 ?_
      refine r_iload_n hC 2 dX0_copyFrom_100 rfl rfl ?_
      obtain ⟨i_25, h⟩ := h
      have q_26 : 0 < a0 + 41 + (bm x2).toNat ∧ M0 0 (a0 + 41 + (bm x2).toNat) = kO 2 := lay_a6 hL q_24 (inb_nat i_25)
      refine r_aald6 hC hF i_25 q_24.1 q_24.2 dX0_copyFrom_101 ?_
      refine r_aload_n hC 1 dX0_copyFrom_102 rfl rfl ?_
      have q_27 : 0 < a1 + 4 ∧ M0 0 (a1 + 4) = kA 6 10 := lay_f0 hL qa1 fm_0_5
      refine r_getR0 (a' := a1 + 4) hC fg_X0_29 rfl hF fm_0_5 qa1.1 qa1.2 rfl dX0_copyFrom_103 ?_
      refine r_iload_n hC 2 dX0_copyFrom_106 rfl rfl ?_
      obtain ⟨i_28, h⟩ := h
      have q_29 : 0 < a1 + 41 + (bm x2).toNat ∧ M0 0 (a1 + 41 + (bm x2).toNat) = kO 2 := lay_a6 hL q_27 (inb_nat i_28)
      refine r_aald6 hC hF i_28 q_27.1 q_27.2 dX0_copyFrom_107 ?_
      refine r_callV (As := [vR Y.1 (a1 + 41 + (bm x2).toNat)]) (st := []) hC cw_X0_70 rfl q_26.1 q_26.2 rfl rfl (Nat.le_of_ble_eq_true rfl) ⟨Nat.le_of_ble_eq_true rfl, Nat.le_of_ble_eq_true rfl⟩ ⟨Nat.le_of_ble_eq_true rfl, Nat.le_of_ble_eq_true rfl⟩ dX0_copyFrom_108 (fun hk => mX2_copyFrom Y hF _ _ _ _ _ (kqO hk q_26) (kqO hk q_29) h) (fun v M_30 h => ?_)
      obtain ⟨rfl, h⟩ := h
      refine let_elim h (fun x2_31 e_32 h => ?_)
      refine r_iinc (lv' := [(2, vI x2_31), (0, vR Y.1 a0), (1, vR Y.1 a1)]) hC 2 dX0_copyFrom_111 rfl (by decide) e_32 rfl ?_
      refine r_goto hC 88 dX0_copyFrom_114 (by decide) ?_
      refine r_sub [1, 2, 0] rfl ?_
      exact ih _ _ h
set_option maxHeartbeats 4000000 in
set_option maxRecDepth 100000 in
theorem tX0_copyFrom_L127 {X : Cx} {Y : Yx} {M0 : Mem} (hC : OKX X Y RX0 cX0_copyFrom 3 none rmX0_copyFrom) (hF : Y.2.2.2.2 = true) (hL : Lay M0) (Q : Mem → Prop) (E171 : Mem → Prop) (a0 : Nat) (a1 : Nat) (qa0 : 0 < a0 ∧ M0 0 a0 = kO 0) (qa1 : 0 < a1 ∧ M0 0 a1 = kO 0) (hE171 : ∀  (M : Mem), E171  M → WW X Y 3 rmX0_copyFrom (QV Q) M0 0 0 171 [(0, vR Y.1 a0), (1, vR Y.1 a1)] [] M) : ∀ (N : Nat) (x2 : Int) (M : Mem) (_ : wX0_copyFrom_L127 Q E171 a0 a1 N x2 M), WW X Y 3 rmX0_copyFrom (QV Q) M0 0 0 127 [(0, vR Y.1 a0), (1, vR Y.1 a1), (2, vI x2)] [] M := by
  intro N
  induction N with
  | zero =>
    intro x2 M h
    exact h.elim
  | succ N ih =>
    intro x2 M h
    unfold wX0_copyFrom_L127 at h
    refine r_iload_n hC 2 dX0_copyFrom_127 rfl rfl ?_
    refine r_aload_n hC 0 dX0_copyFrom_128 rfl rfl ?_
    refine r_getI hC fg_X0_73 rfl qa0.1 qa0.2 dX0_copyFrom_129 ?_
    refine r_icmp_ge hC 171 rfl rfl dX0_copyFrom_132 (by decide) (fun c => ?_) (fun c => ?_)
    · replace h := h.1 c
      refine r_sub [0, 1] rfl ?_
      exact hE171  _ h
    · replace h := h.2 c
      refine r_aload_n hC 0 dX0_copyFrom_135 rfl rfl ?_
      have q_35 : 0 < a0 + 6 ∧ M0 0 (a0 + 6) = kA 7 8 := lay_f0 hL qa0 fm_0_9
      refine r_getR0 (a' := a0 + 6) hC fg_X0_39 rfl hF fm_0_9 qa0.1 qa0.2 rfl dX0_copyFrom_136 ?_
      refine r_iload_n hC 2 dX0_copyFrom_139 rfl rfl ?_
      obtain ⟨i_36, h⟩ := h
      have q_37 : 0 < a0 + 51 + 4 * (bm x2).toNat ∧ M0 0 (a0 + 51 + 4 * (bm x2).toNat) = kO 5 := lay_a7 hL q_35 (inb_nat i_36)
      refine r_aald7 hC hF i_36 q_35.1 q_35.2 dX0_copyFrom_140 ?_
      refine r_aload_n hC 1 dX0_copyFrom_141 rfl rfl ?_
      have q_38 : 0 < a1 + 6 ∧ M0 0 (a1 + 6) = kA 7 8 := lay_f0 hL qa1 fm_0_9
      refine r_getR0 (a' := a1 + 6) hC fg_X0_39 rfl hF fm_0_9 qa1.1 qa1.2 rfl dX0_copyFrom_142 ?_
      refine r_iload_n hC 2 dX0_copyFrom_145 rfl rfl ?_
      obtain ⟨i_39, h⟩ := h
      have q_40 : 0 < a1 + 51 + 4 * (bm x2).toNat ∧ M0 0 (a1 + 51 + 4 * (bm x2).toNat) = kO 5 := lay_a7 hL q_38 (inb_nat i_39)
      refine r_aald7 hC hF i_39 q_38.1 q_38.2 dX0_copyFrom_146 ?_
      refine r_callV (As := [vR Y.1 (a1 + 51 + 4 * (bm x2).toNat)]) (st := []) hC cw_X0_76 rfl q_37.1 q_37.2 rfl rfl (Nat.le_of_ble_eq_true rfl) ⟨Nat.le_of_ble_eq_true rfl, Nat.le_of_ble_eq_true rfl⟩ ⟨Nat.le_of_ble_eq_true rfl, Nat.le_of_ble_eq_true rfl⟩ dX0_copyFrom_147 (fun hk => mX5_copyFrom Y hF _ _ _ _ _ (kqO hk q_37) (kqO hk q_40) h) (fun v M_41 h => ?_)
      obtain ⟨rfl, h⟩ := h
      refine r_aload_n hC 0 dX0_copyFrom_150 rfl rfl ?_
      have q_42 : 0 < a0 + 7 ∧ M0 0 (a0 + 7) = kA 8 8 := lay_f0 hL qa0 fm_0_10
      refine r_getR0 (a' := a0 + 7) hC fg_X0_43 rfl hF fm_0_10 qa0.1 qa0.2 rfl dX0_copyFrom_151 ?_
      refine r_iload_n hC 2 dX0_copyFrom_154 rfl rfl ?_
      obtain ⟨i_43, h⟩ := h
      have q_44 : 0 < a0 + 53 + 4 * (bm x2).toNat ∧ M0 0 (a0 + 53 + 4 * (bm x2).toNat) = kO 5 := lay_a8 hL q_42 (inb_nat i_43)
      refine r_aald8 hC hF i_43 q_42.1 q_42.2 dX0_copyFrom_155 ?_
      refine r_aload_n hC 1 dX0_copyFrom_156 rfl rfl ?_
      have q_45 : 0 < a1 + 7 ∧ M0 0 (a1 + 7) = kA 8 8 := lay_f0 hL qa1 fm_0_10
      refine r_getR0 (a' := a1 + 7) hC fg_X0_43 rfl hF fm_0_10 qa1.1 qa1.2 rfl dX0_copyFrom_157 ?_
      refine r_iload_n hC 2 dX0_copyFrom_160 rfl rfl ?_
      obtain ⟨i_46, h⟩ := h
      have q_47 : 0 < a1 + 53 + 4 * (bm x2).toNat ∧ M0 0 (a1 + 53 + 4 * (bm x2).toNat) = kO 5 := lay_a8 hL q_45 (inb_nat i_46)
      refine r_aald8 hC hF i_46 q_45.1 q_45.2 dX0_copyFrom_161 ?_
      refine r_callV (As := [vR Y.1 (a1 + 53 + 4 * (bm x2).toNat)]) (st := []) hC cw_X0_76 rfl q_44.1 q_44.2 rfl rfl (Nat.le_of_ble_eq_true rfl) ⟨Nat.le_of_ble_eq_true rfl, Nat.le_of_ble_eq_true rfl⟩ ⟨Nat.le_of_ble_eq_true rfl, Nat.le_of_ble_eq_true rfl⟩ dX0_copyFrom_162 (fun hk => mX5_copyFrom Y hF _ _ _ _ _ (kqO hk q_44) (kqO hk q_47) h) (fun v M_48 h => ?_)
      obtain ⟨rfl, h⟩ := h
      refine let_elim h (fun x2_49 e_50 h => ?_)
      refine r_iinc (lv' := [(2, vI x2_49), (0, vR Y.1 a0), (1, vR Y.1 a1)]) hC 2 dX0_copyFrom_165 rfl (by decide) e_50 rfl ?_
      refine r_goto hC 127 dX0_copyFrom_168 (by decide) ?_
      refine r_sub [1, 2, 0] rfl ?_
      exact ih _ _ h
set_option maxHeartbeats 4000000 in
set_option maxRecDepth 100000 in
theorem mX0_copyFrom (Y : Yx) (hF : Y.2.2.2.2 = true) (l : Launch) (a0 : Nat) (a1 : Nat) (M0 : Mem) (Q : Mem → Prop) (qa0 : 0 < a0 ∧ M0 0 a0 = kO 0) (qa1 : 0 < a1 ∧ M0 0 a1 = kO 0) (h : wX0_copyFrom a0 a1 M0 Q) : CT Y l yX0_copyFrom cX0_copyFrom 3 none rmX0_copyFrom [vR Y.1 a0, vR Y.1 a1] M0 (QV Q) := by
  unfold wX0_copyFrom at h
  refine ct_intro (by decide) (Nat.le_of_ble_eq_true rfl) ?_
  intro X hXl hC hL0
  have hL := hL0 hF
  change OKX X Y RX0 cX0_copyFrom 3 none rmX0_copyFrom at hC
  change WW X Y 3 rmX0_copyFrom (QV Q) M0 0 0 0 [(0, vR Y.1 a0), (1, vR Y.1 a1)] [] M0
  refine r_aload_n hC 0 dX0_copyFrom_0 rfl rfl ?_
  refine r_aload_n hC 1 dX0_copyFrom_1 rfl rfl ?_
  refine r_getI hC fg_X0_53 rfl qa1.1 qa1.2 dX0_copyFrom_2 ?_
  refine r_putI hC fp_X0_53 rfl qa0.1 qa0.2 dX0_copyFrom_5 ?_
  refine r_nameM h (fun M_1 h => ?_)
  refine r_iconst hC dX0_copyFrom_8 ?_
  refine r_istore_n (lv' := [(2, vI 0), (0, vR Y.1 a0), (1, vR Y.1 a1)]) hC dX0_copyFrom_9 rfl (by decide) rfl ?_
  refine r_sub [1, 2, 0] rfl ?_
  obtain ⟨N_72, h⟩ := h
  refine tX0_copyFrom_L10 hC hF hL Q _ _ _ qa0 qa1 ?_ N_72 _ _ h
  · intro M_11 h
    refine r_aload_n hC 0 dX0_copyFrom_39 rfl rfl ?_
    refine r_aload_n hC 1 dX0_copyFrom_40 rfl rfl ?_
    refine r_getI hC fg_X0_61 rfl qa1.1 qa1.2 dX0_copyFrom_41 ?_
    refine r_putI hC fp_X0_61 rfl qa0.1 qa0.2 dX0_copyFrom_44 ?_
    refine r_nameM h (fun M_12 h => ?_)
    refine r_iconst hC dX0_copyFrom_47 ?_
    refine r_istore_n (lv' := [(2, vI 0), (0, vR Y.1 a0), (1, vR Y.1 a1)]) hC dX0_copyFrom_48 rfl (by decide) rfl ?_
    refine r_sub [1, 2, 0] rfl ?_
    obtain ⟨N_71, h⟩ := h
    refine tX0_copyFrom_L49 hC hF hL Q _ _ _ qa0 qa1 ?_ N_71 _ _ h
    · intro M_22 h
      refine r_aload_n hC 0 dX0_copyFrom_78 rfl rfl ?_
      refine r_aload_n hC 1 dX0_copyFrom_79 rfl rfl ?_
      refine r_getI hC fg_X0_67 rfl qa1.1 qa1.2 dX0_copyFrom_80 ?_
      refine r_putI hC fp_X0_67 rfl qa0.1 qa0.2 dX0_copyFrom_83 ?_
      refine r_nameM h (fun M_23 h => ?_)
      refine r_iconst hC dX0_copyFrom_86 ?_
      refine r_istore_n (lv' := [(2, vI 0), (0, vR Y.1 a0), (1, vR Y.1 a1)]) hC dX0_copyFrom_87 rfl (by decide) rfl ?_
      refine r_sub [1, 2, 0] rfl ?_
      obtain ⟨N_70, h⟩ := h
      refine tX0_copyFrom_L88 hC hF hL Q _ _ _ qa0 qa1 ?_ N_70 _ _ h
      · intro M_33 h
        refine r_aload_n hC 0 dX0_copyFrom_117 rfl rfl ?_
        refine r_aload_n hC 1 dX0_copyFrom_118 rfl rfl ?_
        refine r_getI hC fg_X0_73 rfl qa1.1 qa1.2 dX0_copyFrom_119 ?_
        refine r_putI hC fp_X0_73 rfl qa0.1 qa0.2 dX0_copyFrom_122 ?_
        refine r_nameM h (fun M_34 h => ?_)
        refine r_iconst hC dX0_copyFrom_125 ?_
        refine r_istore_n (lv' := [(2, vI 0), (0, vR Y.1 a0), (1, vR Y.1 a1)]) hC dX0_copyFrom_126 rfl (by decide) rfl ?_
        refine r_sub [1, 2, 0] rfl ?_
        obtain ⟨N_69, h⟩ := h
        refine tX0_copyFrom_L127 hC hF hL Q _ _ _ qa0 qa1 ?_ N_69 _ _ h
        · intro M_51 h
          refine r_aload_n hC 0 dX0_copyFrom_171 rfl rfl ?_
          refine r_aload_n hC 1 dX0_copyFrom_172 rfl rfl ?_
          refine r_getI hC fg_X0_79 rfl qa1.1 qa1.2 dX0_copyFrom_173 ?_
          refine r_putI hC fp_X0_79 rfl qa0.1 qa0.2 dX0_copyFrom_176 ?_
          refine r_nameM h (fun M_52 h => ?_)
          refine r_aload_n hC 1 dX0_copyFrom_179 rfl rfl ?_
          have q_53 : 0 < a1 + 5 ∧ M0 0 (a1 + 5) = kA 1 50 := lay_f0 hL qa1 fm_0_7
          refine r_getR0 (a' := a1 + 5) hC fg_X0_33 rfl hF fm_0_7 qa1.1 qa1.2 rfl dX0_copyFrom_180 ?_
          refine r_iconst hC dX0_copyFrom_183 ?_
          refine r_aload_n hC 0 dX0_copyFrom_184 rfl rfl ?_
          have q_54 : 0 < a0 + 5 ∧ M0 0 (a0 + 5) = kA 1 50 := lay_f0 hL qa0 fm_0_7
          refine r_getR0 (a' := a0 + 5) hC fg_X0_33 rfl hF fm_0_7 qa0.1 qa0.2 rfl dX0_copyFrom_185 ?_
          refine r_iconst hC dX0_copyFrom_188 ?_
          refine r_bipush hC (by decide +kernel) dX0_copyFrom_189 ?_
          obtain ⟨i_55, h⟩ := h
          obtain ⟨b_56, h⟩ := h
          refine r_copy (t := 1) hC (by decide) cp_X0_82 (Nat.le_of_ble_eq_true rfl) (Nat.le_of_ble_eq_true rfl) (Nat.le_of_ble_eq_true rfl) i_55 (fun _ => b_56) q_53 q_54 (by decide) (by decide) dX0_copyFrom_191 ?_
          refine r_nameM h (fun M_57 h => ?_)
          refine r_aload_n hC 0 dX0_copyFrom_194 rfl rfl ?_
          refine r_aload_n hC 1 dX0_copyFrom_195 rfl rfl ?_
          refine r_getI hC fg_X0_88 rfl qa1.1 qa1.2 dX0_copyFrom_196 ?_
          refine r_putI hC fp_X0_88 rfl qa0.1 qa0.2 dX0_copyFrom_199 ?_
          refine r_nameM h (fun M_58 h => ?_)
          refine r_aload_n hC 1 dX0_copyFrom_202 rfl rfl ?_
          have q_59 : 0 < a1 + 8 ∧ M0 0 (a1 + 8) = kA 0 12 := lay_f0 hL qa1 fm_0_12
          refine r_getR0 (a' := a1 + 8) hC fg_X0_46 rfl hF fm_0_12 qa1.1 qa1.2 rfl dX0_copyFrom_203 ?_
          refine r_iconst hC dX0_copyFrom_206 ?_
          refine r_aload_n hC 0 dX0_copyFrom_207 rfl rfl ?_
          have q_60 : 0 < a0 + 8 ∧ M0 0 (a0 + 8) = kA 0 12 := lay_f0 hL qa0 fm_0_12
          refine r_getR0 (a' := a0 + 8) hC fg_X0_46 rfl hF fm_0_12 qa0.1 qa0.2 rfl dX0_copyFrom_208 ?_
          refine r_iconst hC dX0_copyFrom_211 ?_
          refine r_bipush hC (by decide +kernel) dX0_copyFrom_212 ?_
          obtain ⟨i_61, h⟩ := h
          refine r_copy (t := 0) hC (by decide) cp_X0_82 (Nat.le_of_ble_eq_true rfl) (Nat.le_of_ble_eq_true rfl) (Nat.le_of_ble_eq_true rfl) i_61 (by intro q; cases q) q_59 q_60 (by decide) (by decide) dX0_copyFrom_214 ?_
          refine r_nameM h (fun M_63 h => ?_)
          refine r_aload_n hC 1 dX0_copyFrom_217 rfl rfl ?_
          have q_64 : 0 < a1 + 2 ∧ M0 0 (a1 + 2) = kA 0 4 := lay_f0 hL qa1 fm_0_2
          refine r_getR0 (a' := a1 + 2) hC fg_X0_17 rfl hF fm_0_2 qa1.1 qa1.2 rfl dX0_copyFrom_218 ?_
          refine r_iconst hC dX0_copyFrom_221 ?_
          refine r_aload_n hC 0 dX0_copyFrom_222 rfl rfl ?_
          have q_65 : 0 < a0 + 2 ∧ M0 0 (a0 + 2) = kA 0 4 := lay_f0 hL qa0 fm_0_2
          refine r_getR0 (a' := a0 + 2) hC fg_X0_17 rfl hF fm_0_2 qa0.1 qa0.2 rfl dX0_copyFrom_223 ?_
          refine r_iconst hC dX0_copyFrom_226 ?_
          refine r_iconst hC dX0_copyFrom_227 ?_
          obtain ⟨i_66, h⟩ := h
          refine r_copy (t := 0) hC (by decide) cp_X0_82 (Nat.le_of_ble_eq_true rfl) (Nat.le_of_ble_eq_true rfl) (Nat.le_of_ble_eq_true rfl) i_66 (by intro q; cases q) q_64 q_65 (by decide) (by decide) dX0_copyFrom_228 ?_
          refine r_nameM h (fun M_68 h => ?_)
          exact r_vret hC (Nat.zero_le _) (Nat.zero_le _) dX0_copyFrom_231 ⟨rfl, h⟩
theorem dX0_likingsOn_0 : dec cX0_likingsOn 0 1 1 (.iconst 0) := ⟨by decide +kernel, rfl⟩
theorem dX0_likingsOn_1 : dec cX0_likingsOn 1 1 2 (.istore_n 1) := ⟨by decide +kernel, rfl⟩
theorem dX0_likingsOn_2 : dec cX0_likingsOn 2 1 3 (.iconst 0) := ⟨by decide +kernel, rfl⟩
theorem dX0_likingsOn_3 : dec cX0_likingsOn 3 1 4 (.istore_n 2) := ⟨by decide +kernel, rfl⟩
theorem dX0_likingsOn_4 : dec cX0_likingsOn 4 1 5 (.iload_n 2) := ⟨by decide +kernel, rfl⟩
theorem dX0_likingsOn_5 : dec cX0_likingsOn 5 1 6 (.aload_n 0) := ⟨by decide +kernel, rfl⟩
theorem dX0_likingsOn_6 : dec cX0_likingsOn 6 3 9 (.getfield 61) := ⟨by decide +kernel, rfl⟩
theorem dX0_likingsOn_9 : dec cX0_likingsOn 9 3 12 (.if_icmp .ge 27) := ⟨by decide +kernel, rfl⟩
theorem dX0_likingsOn_12 : dec cX0_likingsOn 12 1 13 (.aload_n 0) := ⟨by decide +kernel, rfl⟩
theorem dX0_likingsOn_13 : dec cX0_likingsOn 13 3 16 (.getfield 23) := ⟨by decide +kernel, rfl⟩
theorem dX0_likingsOn_16 : dec cX0_likingsOn 16 1 17 (.iload_n 2) := ⟨by decide +kernel, rfl⟩
theorem dX0_likingsOn_17 : dec cX0_likingsOn 17 1 18 (.aaload) := ⟨by decide +kernel, rfl⟩
theorem dX0_likingsOn_18 : dec cX0_likingsOn 18 3 21 (.getfield 91) := ⟨by decide +kernel, rfl⟩
theorem dX0_likingsOn_21 : dec cX0_likingsOn 21 3 24 (.ifCond .eq 9) := ⟨by decide +kernel, rfl⟩
theorem dX0_likingsOn_24 : dec cX0_likingsOn 24 1 25 (.iload_n 1) := ⟨by decide +kernel, rfl⟩
theorem dX0_likingsOn_25 : dec cX0_likingsOn 25 1 26 (.iconst 1) := ⟨by decide +kernel, rfl⟩
theorem dX0_likingsOn_26 : dec cX0_likingsOn 26 1 27 (.iload_n 2) := ⟨by decide +kernel, rfl⟩
theorem dX0_likingsOn_27 : dec cX0_likingsOn 27 1 28 (.ishl) := ⟨by decide +kernel, rfl⟩
theorem dX0_likingsOn_28 : dec cX0_likingsOn 28 1 29 (.ior) := ⟨by decide +kernel, rfl⟩
theorem dX0_likingsOn_29 : dec cX0_likingsOn 29 1 30 (.istore_n 1) := ⟨by decide +kernel, rfl⟩
theorem dX0_likingsOn_30 : dec cX0_likingsOn 30 3 33 (.iinc 2 1) := ⟨by decide +kernel, rfl⟩
theorem dX0_likingsOn_33 : dec cX0_likingsOn 33 3 36 (.goto (-29)) := ⟨by decide +kernel, rfl⟩
theorem dX0_likingsOn_36 : dec cX0_likingsOn 36 1 37 (.iload_n 1) := ⟨by decide +kernel, rfl⟩
theorem dX0_likingsOn_37 : dec cX0_likingsOn 37 1 38 (.ireturn) := ⟨by decide +kernel, rfl⟩
set_option maxHeartbeats 4000000 in
set_option maxRecDepth 100000 in
theorem tX0_likingsOn_L4 {X : Cx} {Y : Yx} {M0 : Mem} (hC : OKX X Y RX0 cX0_likingsOn 3 (some .int) rmX0_likingsOn) (hF : Y.2.2.2.2 = true) (hL : Lay M0) (Q : Int → Mem → Prop)  (a0 : Nat) (qa0 : 0 < a0 ∧ M0 0 a0 = kO 0)  : ∀ (N : Nat) (x1 : Int) (x2 : Int) (M : Mem) (_ : wX0_likingsOn_L4 Q  a0 N x1 x2 M), WW X Y 3 rmX0_likingsOn (QI Q) M0 0 0 4 [(0, vR Y.1 a0), (1, vI x1), (2, vI x2)] [] M := by
  intro N
  induction N with
  | zero =>
    intro x1 x2 M h
    exact h.elim
  | succ N ih =>
    intro x1 x2 M h
    unfold wX0_likingsOn_L4 at h
    refine r_iload_n hC 2 dX0_likingsOn_4 rfl rfl ?_
    refine r_aload_n hC 0 dX0_likingsOn_5 rfl rfl ?_
    refine r_getI hC fg_X0_61 rfl qa0.1 qa0.2 dX0_likingsOn_6 ?_
    refine r_icmp_ge hC 36 rfl rfl dX0_likingsOn_9 (by decide) (fun c => ?_) (fun c => ?_)
    · replace h := h.1 c
      refine r_iload_n hC 1 dX0_likingsOn_36 rfl rfl ?_
      exact r_iret hC (Nat.zero_le _) (Nat.zero_le _) dX0_likingsOn_37 ⟨_, rfl, h⟩
    · replace h := h.2 c
      refine r_aload_n hC 0 dX0_likingsOn_12 rfl rfl ?_
      have q_1 : 0 < a0 + 3 ∧ M0 0 (a0 + 3) = kA 5 10 := lay_f0 hL qa0 fm_0_3
      refine r_getR0 (a' := a0 + 3) hC fg_X0_23 rfl hF fm_0_3 qa0.1 qa0.2 rfl dX0_likingsOn_13 ?_
      refine r_iload_n hC 2 dX0_likingsOn_16 rfl rfl ?_
      obtain ⟨i_2, h⟩ := h
      have q_3 : 0 < a0 + 21 + 2 * (bm x2).toNat ∧ M0 0 (a0 + 21 + 2 * (bm x2).toNat) = kO 1 := lay_a5 hL q_1 (inb_nat i_2)
      refine r_aald5 hC hF i_2 q_1.1 q_1.2 dX0_likingsOn_17 ?_
      refine r_getI hC fg_X0_91 rfl q_3.1 q_3.2 dX0_likingsOn_18 ?_
      refine r_if_eq hC 30 rfl dX0_likingsOn_21 (by decide) (fun c => ?_) (fun c => ?_)
      · replace h := h.1 c
        refine let_elim h (fun x2_4 e_5 h => ?_)
        refine r_iinc (lv' := [(2, vI x2_4), (0, vR Y.1 a0), (1, vI x1)]) hC 2 dX0_likingsOn_30 rfl (by decide) e_5 rfl ?_
        refine r_goto hC 4 dX0_likingsOn_33 (by decide) ?_
        refine r_sub [1, 2, 0] rfl ?_
        exact ih _ _ _ h
      · replace h := h.2 c
        refine r_iload_n hC 1 dX0_likingsOn_24 rfl rfl ?_
        refine r_iconst hC dX0_likingsOn_25 ?_
        refine r_iload_n hC 2 dX0_likingsOn_26 rfl rfl ?_
        refine r_ishl hC dX0_likingsOn_27 ?_
        refine r_ior hC dX0_likingsOn_28 ?_
        refine r_nameI h (fun x1_6 h => ?_)
        refine r_istore_n (lv' := [(1, vI x1_6), (0, vR Y.1 a0), (2, vI x2)]) hC dX0_likingsOn_29 rfl (by decide) rfl ?_
        refine let_elim h (fun x2_7 e_8 h => ?_)
        refine r_iinc (lv' := [(2, vI x2_7), (1, vI x1_6), (0, vR Y.1 a0)]) hC 2 dX0_likingsOn_30 rfl (by decide) e_8 rfl ?_
        refine r_goto hC 4 dX0_likingsOn_33 (by decide) ?_
        refine r_sub [2, 1, 0] rfl ?_
        exact ih _ _ _ h
set_option maxHeartbeats 4000000 in
set_option maxRecDepth 100000 in
theorem mX0_likingsOn (Y : Yx) (hF : Y.2.2.2.2 = true) (l : Launch) (a0 : Nat) (M0 : Mem) (Q : Int → Mem → Prop) (qa0 : 0 < a0 ∧ M0 0 a0 = kO 0) (h : wX0_likingsOn a0 M0 Q) : CT Y l yX0_likingsOn cX0_likingsOn 3 (some .int) rmX0_likingsOn [vR Y.1 a0] M0 (QI Q) := by
  unfold wX0_likingsOn at h
  refine ct_intro (by decide) (Nat.le_of_ble_eq_true rfl) ?_
  intro X hXl hC hL0
  have hL := hL0 hF
  change OKX X Y RX0 cX0_likingsOn 3 (some .int) rmX0_likingsOn at hC
  change WW X Y 3 rmX0_likingsOn (QI Q) M0 0 0 0 [(0, vR Y.1 a0)] [] M0
  refine r_iconst hC dX0_likingsOn_0 ?_
  refine r_istore_n (lv' := [(1, vI 0), (0, vR Y.1 a0)]) hC dX0_likingsOn_1 rfl (by decide) rfl ?_
  refine r_iconst hC dX0_likingsOn_2 ?_
  refine r_istore_n (lv' := [(2, vI 0), (1, vI 0), (0, vR Y.1 a0)]) hC dX0_likingsOn_3 rfl (by decide) rfl ?_
  refine r_sub [2, 1, 0] rfl ?_
  obtain ⟨N_9, h⟩ := h
  refine tX0_likingsOn_L4 hC hF hL Q  _ qa0  N_9 _ _ _ h
theorem dX1_become_0 : dec cX1_become 0 1 1 (.aload_n 0) := ⟨by decide +kernel, rfl⟩
theorem dX1_become_1 : dec cX1_become 1 1 2 (.iload_n 1) := ⟨by decide +kernel, rfl⟩
theorem dX1_become_2 : dec cX1_become 2 3 5 (.putfield 19) := ⟨by decide +kernel, rfl⟩
theorem dX1_become_5 : dec cX1_become 5 1 6 (.aload_n 0) := ⟨by decide +kernel, rfl⟩
theorem dX1_become_6 : dec cX1_become 6 1 7 (.iload_n 2) := ⟨by decide +kernel, rfl⟩
theorem dX1_become_7 : dec cX1_become 7 3 10 (.putfield 22) := ⟨by decide +kernel, rfl⟩
theorem dX1_become_10 : dec cX1_become 10 1 11 (.aload_n 0) := ⟨by decide +kernel, rfl⟩
theorem dX1_become_11 : dec cX1_become 11 1 12 (.iload_n 3) := ⟨by decide +kernel, rfl⟩
theorem dX1_become_12 : dec cX1_become 12 3 15 (.putfield 11) := ⟨by decide +kernel, rfl⟩
theorem dX1_become_15 : dec cX1_become 15 1 16 (.aload_n 0) := ⟨by decide +kernel, rfl⟩
theorem dX1_become_16 : dec cX1_become 16 1 17 (.iload_n 3) := ⟨by decide +kernel, rfl⟩
theorem dX1_become_17 : dec cX1_become 17 3 20 (.ifCond .ne 7) := ⟨by decide +kernel, rfl⟩
theorem dX1_become_20 : dec cX1_become 20 1 21 (.iconst 0) := ⟨by decide +kernel, rfl⟩
theorem dX1_become_21 : dec cX1_become 21 3 24 (.goto 10) := ⟨by decide +kernel, rfl⟩
theorem dX1_become_24 : dec cX1_become 24 1 25 (.iload_n 2) := ⟨by decide +kernel, rfl⟩
theorem dX1_become_25 : dec cX1_become 25 3 28 (.sipush 2520) := ⟨by decide +kernel, rfl⟩
theorem dX1_become_28 : dec cX1_become 28 1 29 (.iload_n 3) := ⟨by decide +kernel, rfl⟩
theorem dX1_become_29 : dec cX1_become 29 1 30 (.idiv) := ⟨by decide +kernel, rfl⟩
theorem dX1_become_30 : dec cX1_become 30 1 31 (.imul) := ⟨by decide +kernel, rfl⟩
theorem dX1_become_31 : dec cX1_become 31 3 34 (.putfield 25) := ⟨by decide +kernel, rfl⟩
theorem dX1_become_34 : dec cX1_become 34 1 35 (.aload_n 0) := ⟨by decide +kernel, rfl⟩
theorem dX1_become_35 : dec cX1_become 35 1 36 (.iconst 1) := ⟨by decide +kernel, rfl⟩
theorem dX1_become_36 : dec cX1_become 36 3 39 (.putfield 28) := ⟨by decide +kernel, rfl⟩
theorem dX1_become_39 : dec cX1_become 39 1 40 (.aload_n 0) := ⟨by decide +kernel, rfl⟩
theorem dX1_become_40 : dec cX1_become 40 1 41 (.iconst 0) := ⟨by decide +kernel, rfl⟩
theorem dX1_become_41 : dec cX1_become 41 3 44 (.putfield 32) := ⟨by decide +kernel, rfl⟩
theorem dX1_become_44 : dec cX1_become 44 1 45 (.return_) := ⟨by decide +kernel, rfl⟩
set_option maxHeartbeats 4000000 in
set_option maxRecDepth 100000 in
theorem tX1_become_J31 {X : Cx} {Y : Yx} {M0 : Mem} (hC : OKX X Y RX1 cX1_become 4 none rmX1_become) (hF : Y.2.2.2.2 = true) (hL : Lay M0) (Q : Mem → Prop)   (a0 : Nat) (xs0 : Int) (as1 : Nat) (qa0 : 0 < a0 ∧ M0 0 a0 = kO 1) (qas1 : 0 < as1 ∧ M0 0 as1 = kO 1)  (M : Mem) (h : wX1_become_J31 Q  a0 xs0 as1 M) : WW X Y 4 rmX1_become (QV Q) M0 0 0 31 [(0, vR Y.1 a0)] [vI xs0, vR Y.1 as1] M := by
  unfold wX1_become_J31 at h
  refine r_putI hC fp_X1_25 rfl qas1.1 qas1.2 dX1_become_31 ?_
  refine r_nameM h (fun M_5 h => ?_)
  refine r_aload_n hC 0 dX1_become_34 rfl rfl ?_
  refine r_iconst hC dX1_become_35 ?_
  refine r_putZ hC (Or.inr rfl) fp_X1_28 rfl qa0.1 qa0.2 dX1_become_36 ?_
  refine r_nameM h (fun M_6 h => ?_)
  refine r_aload_n hC 0 dX1_become_39 rfl rfl ?_
  refine r_iconst hC dX1_become_40 ?_
  refine r_putI hC fp_X1_32 rfl qa0.1 qa0.2 dX1_become_41 ?_
  refine r_nameM h (fun M_7 h => ?_)
  exact r_vret hC (Nat.zero_le _) (Nat.zero_le _) dX1_become_44 ⟨rfl, h⟩
set_option maxHeartbeats 4000000 in
set_option maxRecDepth 100000 in
theorem mX1_become (Y : Yx) (hF : Y.2.2.2.2 = true) (l : Launch) (a0 : Nat) (x1 : Int) (x2 : Int) (x3 : Int) (M0 : Mem) (Q : Mem → Prop) (qa0 : 0 < a0 ∧ M0 0 a0 = kO 1) (h : wX1_become a0 x1 x2 x3 M0 Q) : CT Y l yX1_become cX1_become 4 none rmX1_become [vR Y.1 a0, vI x1, vI x2, vI x3] M0 (QV Q) := by
  unfold wX1_become at h
  refine ct_intro (by decide) (Nat.le_of_ble_eq_true rfl) ?_
  intro X hXl hC hL0
  have hL := hL0 hF
  change OKX X Y RX1 cX1_become 4 none rmX1_become at hC
  change WW X Y 4 rmX1_become (QV Q) M0 0 0 0 [(0, vR Y.1 a0), (1, vI x1), (2, vI x2), (3, vI x3)] [] M0
  refine r_aload_n hC 0 dX1_become_0 rfl rfl ?_
  refine r_iload_n hC 1 dX1_become_1 rfl rfl ?_
  refine r_putI hC fp_X1_19 rfl qa0.1 qa0.2 dX1_become_2 ?_
  refine r_nameM h (fun M_1 h => ?_)
  refine r_aload_n hC 0 dX1_become_5 rfl rfl ?_
  refine r_iload_n hC 2 dX1_become_6 rfl rfl ?_
  refine r_putI hC fp_X1_22 rfl qa0.1 qa0.2 dX1_become_7 ?_
  refine r_nameM h (fun M_2 h => ?_)
  refine r_aload_n hC 0 dX1_become_10 rfl rfl ?_
  refine r_iload_n hC 3 dX1_become_11 rfl rfl ?_
  refine r_putI hC fp_X1_11 rfl qa0.1 qa0.2 dX1_become_12 ?_
  refine r_nameM h (fun M_3 h => ?_)
  refine r_aload_n hC 0 dX1_become_15 rfl rfl ?_
  refine r_iload_n hC 3 dX1_become_16 rfl rfl ?_
  refine r_if_ne hC 24 rfl dX1_become_17 (by decide) (fun c => ?_) (fun c => ?_)
  · replace h := h.2 c
    refine r_iload_n hC 2 dX1_become_24 rfl rfl ?_
    refine r_sipush hC (by decide +kernel) dX1_become_25 ?_
    refine r_iload_n hC 3 dX1_become_28 rfl rfl ?_
    obtain ⟨z_4, h⟩ := h
    refine r_idiv hC z_4 dX1_become_29 ?_
    refine r_imul hC dX1_become_30 ?_
    refine r_sub [0] rfl ?_
    exact tX1_become_J31 hC hF hL Q   _ _ _ qa0 qa0  _ h
  · replace h := h.1 c
    refine r_iconst hC dX1_become_20 ?_
    refine r_goto hC 31 dX1_become_21 (by decide) ?_
    refine r_sub [0] rfl ?_
    exact tX1_become_J31 hC hF hL Q   _ _ _ qa0 qa0  _ h
theorem dX1_hasText_0 : dec cX1_hasText 0 1 1 (.aload_n 0) := ⟨by decide +kernel, rfl⟩
theorem dX1_hasText_1 : dec cX1_hasText 1 3 4 (.getfield 32) := ⟨by decide +kernel, rfl⟩
theorem dX1_hasText_4 : dec cX1_hasText 4 3 7 (.ifCond .le 7) := ⟨by decide +kernel, rfl⟩
theorem dX1_hasText_7 : dec cX1_hasText 7 1 8 (.iconst 1) := ⟨by decide +kernel, rfl⟩
theorem dX1_hasText_8 : dec cX1_hasText 8 3 11 (.goto 4) := ⟨by decide +kernel, rfl⟩
theorem dX1_hasText_11 : dec cX1_hasText 11 1 12 (.iconst 0) := ⟨by decide +kernel, rfl⟩
theorem dX1_hasText_12 : dec cX1_hasText 12 1 13 (.ireturn) := ⟨by decide +kernel, rfl⟩
set_option maxHeartbeats 4000000 in
set_option maxRecDepth 100000 in
theorem mX1_hasText (Y : Yx) (hF : Y.2.2.2.2 = true) (l : Launch) (a0 : Nat) (M0 : Mem) (Q : Int → Mem → Prop) (qa0 : 0 < a0 ∧ M0 0 a0 = kO 1) (h : wX1_hasText a0 M0 Q) : CT Y l yX1_hasText cX1_hasText 1 (some .boolean) rmX1_hasText [vR Y.1 a0] M0 (QI Q) := by
  unfold wX1_hasText at h
  refine ct_intro (by decide) (Nat.le_of_ble_eq_true rfl) ?_
  intro X hXl hC hL0
  have hL := hL0 hF
  change OKX X Y RX1 cX1_hasText 1 (some .boolean) rmX1_hasText at hC
  change WW X Y 1 rmX1_hasText (QI Q) M0 0 0 0 [(0, vR Y.1 a0)] [] M0
  refine r_aload_n hC 0 dX1_hasText_0 rfl rfl ?_
  refine r_getI hC fg_X1_32 rfl qa0.1 qa0.2 dX1_hasText_1 ?_
  refine r_if_le hC 11 rfl dX1_hasText_4 (by decide) (fun c => ?_) (fun c => ?_)
  · replace h := h.1 c
    refine r_iconst hC dX1_hasText_11 ?_
    exact r_zret hC (Or.inl rfl) (Nat.zero_le _) (Nat.zero_le _) dX1_hasText_12 ⟨_, rfl, h⟩
  · replace h := h.2 c
    refine r_iconst hC dX1_hasText_7 ?_
    refine r_goto hC 12 dX1_hasText_8 (by decide) ?_
    exact r_zret hC (Or.inr rfl) (Nat.zero_le _) (Nat.zero_le _) dX1_hasText_12 ⟨_, rfl, h⟩
theorem dX1_isOf_0 : dec cX1_isOf 0 1 1 (.aload_n 0) := ⟨by decide +kernel, rfl⟩
theorem dX1_isOf_1 : dec cX1_isOf 1 3 4 (.getfield 19) := ⟨by decide +kernel, rfl⟩
theorem dX1_isOf_4 : dec cX1_isOf 4 1 5 (.istore_n 2) := ⟨by decide +kernel, rfl⟩
theorem dX1_isOf_5 : dec cX1_isOf 5 1 6 (.iconst 0) := ⟨by decide +kernel, rfl⟩
theorem dX1_isOf_6 : dec cX1_isOf 6 1 7 (.istore_n 3) := ⟨by decide +kernel, rfl⟩
theorem dX1_isOf_7 : dec cX1_isOf 7 1 8 (.iload_n 3) := ⟨by decide +kernel, rfl⟩
theorem dX1_isOf_8 : dec cX1_isOf 8 3 11 (.getstatic 51) := ⟨by decide +kernel, rfl⟩
theorem dX1_isOf_11 : dec cX1_isOf 11 1 12 (.arraylength) := ⟨by decide +kernel, rfl⟩
theorem dX1_isOf_12 : dec cX1_isOf 12 3 15 (.if_icmp .ge 26) := ⟨by decide +kernel, rfl⟩
theorem dX1_isOf_15 : dec cX1_isOf 15 1 16 (.iload_n 2) := ⟨by decide +kernel, rfl⟩
theorem dX1_isOf_16 : dec cX1_isOf 16 3 19 (.ifCond .lt 22) := ⟨by decide +kernel, rfl⟩
theorem dX1_isOf_19 : dec cX1_isOf 19 1 20 (.iload_n 2) := ⟨by decide +kernel, rfl⟩
theorem dX1_isOf_20 : dec cX1_isOf 20 1 21 (.iload_n 1) := ⟨by decide +kernel, rfl⟩
theorem dX1_isOf_21 : dec cX1_isOf 21 3 24 (.if_icmp .ne 5) := ⟨by decide +kernel, rfl⟩
theorem dX1_isOf_24 : dec cX1_isOf 24 1 25 (.iconst 1) := ⟨by decide +kernel, rfl⟩
theorem dX1_isOf_25 : dec cX1_isOf 25 1 26 (.ireturn) := ⟨by decide +kernel, rfl⟩
theorem dX1_isOf_26 : dec cX1_isOf 26 3 29 (.getstatic 51) := ⟨by decide +kernel, rfl⟩
theorem dX1_isOf_29 : dec cX1_isOf 29 1 30 (.iload_n 2) := ⟨by decide +kernel, rfl⟩
theorem dX1_isOf_30 : dec cX1_isOf 30 1 31 (.iaload) := ⟨by decide +kernel, rfl⟩
theorem dX1_isOf_31 : dec cX1_isOf 31 1 32 (.istore_n 2) := ⟨by decide +kernel, rfl⟩
theorem dX1_isOf_32 : dec cX1_isOf 32 3 35 (.iinc 3 1) := ⟨by decide +kernel, rfl⟩
theorem dX1_isOf_35 : dec cX1_isOf 35 3 38 (.goto (-28)) := ⟨by decide +kernel, rfl⟩
theorem dX1_isOf_38 : dec cX1_isOf 38 1 39 (.iconst 0) := ⟨by decide +kernel, rfl⟩
theorem dX1_isOf_39 : dec cX1_isOf 39 1 40 (.ireturn) := ⟨by decide +kernel, rfl⟩
set_option maxHeartbeats 4000000 in
set_option maxRecDepth 100000 in
theorem tX1_isOf_L7 {X : Cx} {Y : Yx} {M0 : Mem} (hC : OKX X Y RX1 cX1_isOf 4 (some .boolean) rmX1_isOf) (hF : Y.2.2.2.2 = true) (hL : Lay M0) (Q : Int → Mem → Prop)  (x1 : Int)   : ∀ (N : Nat) (x2 : Int) (x3 : Int) (M : Mem) (_ : wX1_isOf_L7 Q  x1 N x2 x3 M), WW X Y 4 rmX1_isOf (QI Q) M0 0 0 7 [(1, vI x1), (2, vI x2), (3, vI x3)] [] M := by
  intro N
  induction N with
  | zero =>
    intro x2 x3 M h
    exact h.elim
  | succ N ih =>
    intro x2 x3 M h
    unfold wX1_isOf_L7 at h
    refine r_iload_n hC 2 dX1_isOf_7 rfl rfl ?_
    refine r_tabN (i := 1) hC (by decide) tn_X1_51 dX1_isOf_8 ?_
    refine r_tablen hC (by decide) dX1_isOf_11 ?_
    refine r_icmp_ge hC 38 rfl bmL_7 dX1_isOf_12 (by decide) (fun c => ?_) (fun c => ?_)
    · replace h := h.1 c
      refine r_iconst hC dX1_isOf_38 ?_
      exact r_zret hC (Or.inl rfl) (Nat.zero_le _) (Nat.zero_le _) dX1_isOf_39 ⟨_, rfl, h⟩
    · replace h := h.2 c
      refine r_iload_n hC 1 dX1_isOf_15 rfl rfl ?_
      refine r_if_lt hC 38 rfl dX1_isOf_16 (by decide) (fun c => ?_) (fun c => ?_)
      · replace h := h.1 c
        refine r_iconst hC dX1_isOf_38 ?_
        exact r_zret hC (Or.inl rfl) (Nat.zero_le _) (Nat.zero_le _) dX1_isOf_39 ⟨_, rfl, h⟩
      · replace h := h.2 c
        refine r_iload_n hC 1 dX1_isOf_19 rfl rfl ?_
        refine r_iload_n hC 0 dX1_isOf_20 rfl rfl ?_
        refine r_icmp_ne hC 26 rfl rfl dX1_isOf_21 (by decide) (fun c => ?_) (fun c => ?_)
        · replace h := h.2 c
          refine r_tabN (i := 1) hC (by decide) tn_X1_51 dX1_isOf_26 ?_
          refine r_iload_n hC 1 dX1_isOf_29 rfl rfl ?_
          obtain ⟨i_2, h⟩ := h
          refine r_tabld hC (by decide) i_2 dX1_isOf_30 ?_
          refine r_nameI h (fun x2_3 h => ?_)
          refine r_istore_n (lv' := [(2, vI x2_3), (1, vI x1), (3, vI x3)]) hC dX1_isOf_31 rfl (by decide) rfl ?_
          refine let_elim h (fun x3_4 e_5 h => ?_)
          refine r_iinc (lv' := [(3, vI x3_4), (2, vI x2_3), (1, vI x1)]) hC 2 dX1_isOf_32 rfl (by decide) e_5 rfl ?_
          refine r_goto hC 7 dX1_isOf_35 (by decide) ?_
          refine r_sub [2, 1, 0] rfl ?_
          exact ih _ _ _ h
        · replace h := h.1 c
          refine r_iconst hC dX1_isOf_24 ?_
          exact r_zret hC (Or.inr rfl) (Nat.zero_le _) (Nat.zero_le _) dX1_isOf_25 ⟨_, rfl, h⟩
set_option maxHeartbeats 4000000 in
set_option maxRecDepth 100000 in
theorem mX1_isOf (Y : Yx) (hF : Y.2.2.2.2 = true) (l : Launch) (a0 : Nat) (x1 : Int) (M0 : Mem) (Q : Int → Mem → Prop) (qa0 : 0 < a0 ∧ M0 0 a0 = kO 1) (h : wX1_isOf a0 x1 M0 Q) : CT Y l yX1_isOf cX1_isOf 4 (some .boolean) rmX1_isOf [vR Y.1 a0, vI x1] M0 (QI Q) := by
  unfold wX1_isOf at h
  refine ct_intro (by decide) (Nat.le_of_ble_eq_true rfl) ?_
  intro X hXl hC hL0
  have hL := hL0 hF
  change OKX X Y RX1 cX1_isOf 4 (some .boolean) rmX1_isOf at hC
  change WW X Y 4 rmX1_isOf (QI Q) M0 0 0 0 [(0, vR Y.1 a0), (1, vI x1)] [] M0
  refine r_aload_n hC 0 dX1_isOf_0 rfl rfl ?_
  refine r_getI hC fg_X1_19 rfl qa0.1 qa0.2 dX1_isOf_1 ?_
  refine r_nameI h (fun x2_1 h => ?_)
  refine r_istore_n (lv' := [(2, vI x2_1), (0, vR Y.1 a0), (1, vI x1)]) hC dX1_isOf_4 rfl (by decide) rfl ?_
  refine r_iconst hC dX1_isOf_5 ?_
  refine r_istore_n (lv' := [(3, vI 0), (2, vI x2_1), (0, vR Y.1 a0), (1, vI x1)]) hC dX1_isOf_6 rfl (by decide) rfl ?_
  refine r_sub [3, 1, 0] rfl ?_
  obtain ⟨N_6, h⟩ := h
  refine tX1_isOf_L7 hC hF hL Q  _   N_6 _ _ _ h
theorem dX1_names_0 : dec cX1_names 0 1 1 (.aload_n 0) := ⟨by decide +kernel, rfl⟩
theorem dX1_names_1 : dec cX1_names 1 3 4 (.getfield 19) := ⟨by decide +kernel, rfl⟩
theorem dX1_names_4 : dec cX1_names 4 36 40 (.tableswitch 48 1 5 #[36, 39, 42, 45, 36]) := ⟨by decide +kernel, rfl⟩
theorem dX1_names_40 : dec cX1_names 40 2 42 (.ldc 54) := ⟨by decide +kernel, rfl⟩
theorem dX1_names_42 : dec cX1_names 42 1 43 (.areturn) := ⟨by decide +kernel, rfl⟩
theorem dX1_names_43 : dec cX1_names 43 2 45 (.ldc 56) := ⟨by decide +kernel, rfl⟩
theorem dX1_names_45 : dec cX1_names 45 1 46 (.areturn) := ⟨by decide +kernel, rfl⟩
theorem dX1_names_46 : dec cX1_names 46 2 48 (.ldc 58) := ⟨by decide +kernel, rfl⟩
theorem dX1_names_48 : dec cX1_names 48 1 49 (.areturn) := ⟨by decide +kernel, rfl⟩
theorem dX1_names_49 : dec cX1_names 49 2 51 (.ldc 60) := ⟨by decide +kernel, rfl⟩
theorem dX1_names_51 : dec cX1_names 51 1 52 (.areturn) := ⟨by decide +kernel, rfl⟩
theorem dX1_names_52 : dec cX1_names 52 2 54 (.ldc 62) := ⟨by decide +kernel, rfl⟩
theorem dX1_names_54 : dec cX1_names 54 1 55 (.areturn) := ⟨by decide +kernel, rfl⟩
set_option maxHeartbeats 4000000 in
set_option maxRecDepth 100000 in
theorem mX1_names (Y : Yx) (hF : Y.2.2.2.2 = true) (l : Launch) (a0 : Nat) (M0 : Mem) (Q : Int → Mem → Prop) (qa0 : 0 < a0 ∧ M0 0 a0 = kO 1) (h : wX1_names a0 M0 Q) : CT Y l yX1_names cX1_names 1 (some (.object "java/lang/String")) rmX1_names [vR Y.1 a0] M0 (QT Y.2.2.1 Q) := by
  unfold wX1_names at h
  refine ct_intro (by decide) (Nat.le_of_ble_eq_true rfl) ?_
  intro X hXl hC hL0
  have hL := hL0 hF
  change OKX X Y RX1 cX1_names 1 (some (.object "java/lang/String")) rmX1_names at hC
  change WW X Y 1 rmX1_names (QT Y.2.2.1 Q) M0 0 0 0 [(0, vR Y.1 a0)] [] M0
  refine r_aload_n hC 0 dX1_names_0 rfl rfl ?_
  refine r_getI hC fg_X1_19 rfl qa0.1 qa0.2 dX1_names_1 ?_
  by_cases c0 : bm (M a0 0) = 1
  · replace h := h.1 c0
    refine r_tabIn hC 40 1 dX1_names_4 c0 (by decide) (by decide) rfl (by decide) ?_
    refine r_ldcS (i := 1) (tx := "abks") hC (by decide +kernel) (by decide) dX1_names_40 ?_
    exact r_sret hC ⟨by decide, by decide⟩ (Nat.zero_le _) (Nat.zero_le _) dX1_names_42 ⟨_, ⟨by decide, by decide⟩, rfl, h⟩
  · replace h := h.2 c0
    by_cases c1 : bm (M a0 0) = 2
    · replace h := h.1 c1
      refine r_tabIn hC 43 2 dX1_names_4 c1 (by decide) (by decide) rfl (by decide) ?_
      refine r_ldcS (i := 2) (tx := "m") hC (by decide +kernel) (by decide) dX1_names_43 ?_
      exact r_sret hC ⟨by decide, by decide⟩ (Nat.zero_le _) (Nat.zero_le _) dX1_names_45 ⟨_, ⟨by decide, by decide⟩, rfl, h⟩
    · replace h := h.2 c1
      by_cases c2 : bm (M a0 0) = 3
      · replace h := h.1 c2
        refine r_tabIn hC 46 3 dX1_names_4 c2 (by decide) (by decide) rfl (by decide) ?_
        refine r_ldcS (i := 3) (tx := "pnlij") hC (by decide +kernel) (by decide) dX1_names_46 ?_
        exact r_sret hC ⟨by decide, by decide⟩ (Nat.zero_le _) (Nat.zero_le _) dX1_names_48 ⟨_, ⟨by decide, by decide⟩, rfl, h⟩
      · replace h := h.2 c2
        by_cases c3 : bm (M a0 0) = 4
        · replace h := h.1 c3
          refine r_tabIn hC 49 4 dX1_names_4 c3 (by decide) (by decide) rfl (by decide) ?_
          refine r_ldcS (i := 4) (tx := "t") hC (by decide +kernel) (by decide) dX1_names_49 ?_
          exact r_sret hC ⟨by decide, by decide⟩ (Nat.zero_le _) (Nat.zero_le _) dX1_names_51 ⟨_, ⟨by decide, by decide⟩, rfl, h⟩
        · replace h := h.2 c3
          by_cases c4 : bm (M a0 0) = 5
          · replace h := h.1 c4
            refine r_tabIn hC 40 5 dX1_names_4 c4 (by decide) (by decide) rfl (by decide) ?_
            refine r_ldcS (i := 1) (tx := "abks") hC (by decide +kernel) (by decide) dX1_names_40 ?_
            exact r_sret hC ⟨by decide, by decide⟩ (Nat.zero_le _) (Nat.zero_le _) dX1_names_42 ⟨_, ⟨by decide, by decide⟩, rfl, h⟩
          · replace h := h.2 c4
            refine r_tabOut hC 52 dX1_names_4 (by omega) (by decide) ?_
            refine r_ldcS (i := 5) (tx := "") hC (by decide +kernel) (by decide) dX1_names_52 ?_
            exact r_sret hC ⟨by decide, by decide⟩ (Nat.zero_le _) (Nat.zero_le _) dX1_names_54 ⟨_, ⟨by decide, by decide⟩, rfl, h⟩
theorem dX1_joined_0 : dec cX1_joined 0 1 1 (.iload_n 0) := ⟨by decide +kernel, rfl⟩
theorem dX1_joined_1 : dec cX1_joined 1 51 52 (.lookupswitch 86 #[(42, 59), (43, 51), (45, 55), (47, 63), (60, 75)]) := ⟨by decide +kernel, rfl⟩
theorem dX1_joined_52 : dec cX1_joined 52 1 53 (.iload_n 1) := ⟨by decide +kernel, rfl⟩
theorem dX1_joined_53 : dec cX1_joined 53 1 54 (.iload_n 2) := ⟨by decide +kernel, rfl⟩
theorem dX1_joined_54 : dec cX1_joined 54 1 55 (.iadd) := ⟨by decide +kernel, rfl⟩
theorem dX1_joined_55 : dec cX1_joined 55 1 56 (.ireturn) := ⟨by decide +kernel, rfl⟩
theorem dX1_joined_56 : dec cX1_joined 56 1 57 (.iload_n 1) := ⟨by decide +kernel, rfl⟩
theorem dX1_joined_57 : dec cX1_joined 57 1 58 (.iload_n 2) := ⟨by decide +kernel, rfl⟩
theorem dX1_joined_58 : dec cX1_joined 58 1 59 (.isub) := ⟨by decide +kernel, rfl⟩
theorem dX1_joined_59 : dec cX1_joined 59 1 60 (.ireturn) := ⟨by decide +kernel, rfl⟩
theorem dX1_joined_60 : dec cX1_joined 60 1 61 (.iload_n 1) := ⟨by decide +kernel, rfl⟩
theorem dX1_joined_61 : dec cX1_joined 61 1 62 (.iload_n 2) := ⟨by decide +kernel, rfl⟩
theorem dX1_joined_62 : dec cX1_joined 62 1 63 (.imul) := ⟨by decide +kernel, rfl⟩
theorem dX1_joined_63 : dec cX1_joined 63 1 64 (.ireturn) := ⟨by decide +kernel, rfl⟩
theorem dX1_joined_64 : dec cX1_joined 64 1 65 (.iload_n 2) := ⟨by decide +kernel, rfl⟩
theorem dX1_joined_65 : dec cX1_joined 65 3 68 (.ifCond .ne 7) := ⟨by decide +kernel, rfl⟩
theorem dX1_joined_68 : dec cX1_joined 68 1 69 (.iconst 0) := ⟨by decide +kernel, rfl⟩
theorem dX1_joined_69 : dec cX1_joined 69 3 72 (.goto 6) := ⟨by decide +kernel, rfl⟩
theorem dX1_joined_72 : dec cX1_joined 72 1 73 (.iload_n 1) := ⟨by decide +kernel, rfl⟩
theorem dX1_joined_73 : dec cX1_joined 73 1 74 (.iload_n 2) := ⟨by decide +kernel, rfl⟩
theorem dX1_joined_74 : dec cX1_joined 74 1 75 (.idiv) := ⟨by decide +kernel, rfl⟩
theorem dX1_joined_75 : dec cX1_joined 75 1 76 (.ireturn) := ⟨by decide +kernel, rfl⟩
theorem dX1_joined_76 : dec cX1_joined 76 1 77 (.iload_n 1) := ⟨by decide +kernel, rfl⟩
theorem dX1_joined_77 : dec cX1_joined 77 1 78 (.iload_n 2) := ⟨by decide +kernel, rfl⟩
theorem dX1_joined_78 : dec cX1_joined 78 3 81 (.if_icmp .ge 7) := ⟨by decide +kernel, rfl⟩
theorem dX1_joined_81 : dec cX1_joined 81 1 82 (.iconst 1) := ⟨by decide +kernel, rfl⟩
theorem dX1_joined_82 : dec cX1_joined 82 3 85 (.goto 4) := ⟨by decide +kernel, rfl⟩
theorem dX1_joined_85 : dec cX1_joined 85 1 86 (.iconst 0) := ⟨by decide +kernel, rfl⟩
theorem dX1_joined_86 : dec cX1_joined 86 1 87 (.ireturn) := ⟨by decide +kernel, rfl⟩
theorem dX1_joined_87 : dec cX1_joined 87 1 88 (.iload_n 1) := ⟨by decide +kernel, rfl⟩
theorem dX1_joined_88 : dec cX1_joined 88 1 89 (.iload_n 2) := ⟨by decide +kernel, rfl⟩
theorem dX1_joined_89 : dec cX1_joined 89 3 92 (.if_icmp .ne 7) := ⟨by decide +kernel, rfl⟩
theorem dX1_joined_92 : dec cX1_joined 92 1 93 (.iconst 1) := ⟨by decide +kernel, rfl⟩
theorem dX1_joined_93 : dec cX1_joined 93 3 96 (.goto 4) := ⟨by decide +kernel, rfl⟩
theorem dX1_joined_96 : dec cX1_joined 96 1 97 (.iconst 0) := ⟨by decide +kernel, rfl⟩
theorem dX1_joined_97 : dec cX1_joined 97 1 98 (.ireturn) := ⟨by decide +kernel, rfl⟩
set_option maxHeartbeats 4000000 in
set_option maxRecDepth 100000 in
theorem mX1_joined (Y : Yx) (hF : Y.2.2.2.2 = true) (l : Launch) (x0 : Int) (x1 : Int) (x2 : Int) (M0 : Mem) (Q : Int → Mem → Prop)  (h : wX1_joined x0 x1 x2 M0 Q) : CT Y l yX1_joined cX1_joined 3 (some .int) rmX1_joined [vI x0, vI x1, vI x2] M0 (QI Q) := by
  unfold wX1_joined at h
  refine ct_intro (by decide) (Nat.le_of_ble_eq_true rfl) ?_
  intro X hXl hC hL0
  have hL := hL0 hF
  change OKX X Y RX1 cX1_joined 3 (some .int) rmX1_joined at hC
  change WW X Y 3 rmX1_joined (QI Q) M0 0 0 0 [(0, vI x0), (1, vI x1), (2, vI x2)] [] M0
  refine r_iload_n hC 0 dX1_joined_0 rfl rfl ?_
  by_cases c0 : bm x0 = 42
  · replace h := h.1 c0
    refine r_lookup hC 60 dX1_joined_1 (by decide +kernel) (off := 59) (by rw [c0]; rfl) (by decide) ?_
    refine r_iload_n hC 1 dX1_joined_60 rfl rfl ?_
    refine r_iload_n hC 2 dX1_joined_61 rfl rfl ?_
    refine r_imul hC dX1_joined_62 ?_
    exact r_iret hC (Nat.zero_le _) (Nat.zero_le _) dX1_joined_63 ⟨_, rfl, h⟩
  · replace h := h.2 c0
    by_cases c1 : bm x0 = 43
    · replace h := h.1 c1
      refine r_lookup hC 52 dX1_joined_1 (by decide +kernel) (off := 51) (by rw [c1]; rfl) (by decide) ?_
      refine r_iload_n hC 1 dX1_joined_52 rfl rfl ?_
      refine r_iload_n hC 2 dX1_joined_53 rfl rfl ?_
      refine r_iadd hC dX1_joined_54 ?_
      exact r_iret hC (Nat.zero_le _) (Nat.zero_le _) dX1_joined_55 ⟨_, rfl, h⟩
    · replace h := h.2 c1
      by_cases c2 : bm x0 = 45
      · replace h := h.1 c2
        refine r_lookup hC 56 dX1_joined_1 (by decide +kernel) (off := 55) (by rw [c2]; rfl) (by decide) ?_
        refine r_iload_n hC 1 dX1_joined_56 rfl rfl ?_
        refine r_iload_n hC 2 dX1_joined_57 rfl rfl ?_
        refine r_isub hC dX1_joined_58 ?_
        exact r_iret hC (Nat.zero_le _) (Nat.zero_le _) dX1_joined_59 ⟨_, rfl, h⟩
      · replace h := h.2 c2
        by_cases c3 : bm x0 = 47
        · replace h := h.1 c3
          refine r_lookup hC 64 dX1_joined_1 (by decide +kernel) (off := 63) (by rw [c3]; rfl) (by decide) ?_
          refine r_iload_n hC 2 dX1_joined_64 rfl rfl ?_
          refine r_if_ne hC 72 rfl dX1_joined_65 (by decide) (fun c => ?_) (fun c => ?_)
          · replace h := h.2 c
            refine r_iload_n hC 1 dX1_joined_72 rfl rfl ?_
            refine r_iload_n hC 2 dX1_joined_73 rfl rfl ?_
            obtain ⟨z_1, h⟩ := h
            refine r_idiv hC z_1 dX1_joined_74 ?_
            exact r_iret hC (Nat.zero_le _) (Nat.zero_le _) dX1_joined_75 ⟨_, rfl, h⟩
          · replace h := h.1 c
            refine r_iconst hC dX1_joined_68 ?_
            refine r_goto hC 75 dX1_joined_69 (by decide) ?_
            exact r_iret hC (Nat.zero_le _) (Nat.zero_le _) dX1_joined_75 ⟨_, rfl, h⟩
        · replace h := h.2 c3
          by_cases c4 : bm x0 = 60
          · replace h := h.1 c4
            refine r_lookup hC 76 dX1_joined_1 (by decide +kernel) (off := 75) (by rw [c4]; rfl) (by decide) ?_
            refine r_iload_n hC 1 dX1_joined_76 rfl rfl ?_
            refine r_iload_n hC 2 dX1_joined_77 rfl rfl ?_
            refine r_icmp_ge hC 85 rfl rfl dX1_joined_78 (by decide) (fun c => ?_) (fun c => ?_)
            · replace h := h.1 c
              refine r_iconst hC dX1_joined_85 ?_
              exact r_iret hC (Nat.zero_le _) (Nat.zero_le _) dX1_joined_86 ⟨_, rfl, h⟩
            · replace h := h.2 c
              refine r_iconst hC dX1_joined_81 ?_
              refine r_goto hC 86 dX1_joined_82 (by decide) ?_
              exact r_iret hC (Nat.zero_le _) (Nat.zero_le _) dX1_joined_86 ⟨_, rfl, h⟩
          · replace h := h.2 c4
            refine r_lookup hC 87 dX1_joined_1 (by decide +kernel) (off := 86) (by simp [Op.lookupswitch.offset, c0, c1, c2, c3, c4]) (by decide) ?_
            refine r_iload_n hC 1 dX1_joined_87 rfl rfl ?_
            refine r_iload_n hC 2 dX1_joined_88 rfl rfl ?_
            refine r_icmp_ne hC 96 rfl rfl dX1_joined_89 (by decide) (fun c => ?_) (fun c => ?_)
            · replace h := h.2 c
              refine r_iconst hC dX1_joined_96 ?_
              exact r_iret hC (Nat.zero_le _) (Nat.zero_le _) dX1_joined_97 ⟨_, rfl, h⟩
            · replace h := h.1 c
              refine r_iconst hC dX1_joined_92 ?_
              refine r_goto hC 97 dX1_joined_93 (by decide) ?_
              exact r_iret hC (Nat.zero_le _) (Nat.zero_le _) dX1_joined_97 ⟨_, rfl, h⟩
