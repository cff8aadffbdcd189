theorem dX12_partOf_0 : dec cX12_partOf 0 1 1 (.lload_n 0) := ⟨by decide +kernel, rfl⟩
theorem dX12_partOf_1 : dec cX12_partOf 1 1 2 (.lconst 0) := ⟨by decide +kernel, rfl⟩
theorem dX12_partOf_2 : dec cX12_partOf 2 1 3 (.lcmp) := ⟨by decide +kernel, rfl⟩
theorem dX12_partOf_3 : dec cX12_partOf 3 3 6 (.ifCond .ge 8) := ⟨by decide +kernel, rfl⟩
theorem dX12_partOf_6 : dec cX12_partOf 6 1 7 (.lload_n 0) := ⟨by decide +kernel, rfl⟩
theorem dX12_partOf_7 : dec cX12_partOf 7 1 8 (.lneg) := ⟨by decide +kernel, rfl⟩
theorem dX12_partOf_8 : dec cX12_partOf 8 3 11 (.goto 4) := ⟨by decide +kernel, rfl⟩
theorem dX12_partOf_11 : dec cX12_partOf 11 1 12 (.lload_n 0) := ⟨by decide +kernel, rfl⟩
theorem dX12_partOf_12 : dec cX12_partOf 12 1 13 (.lstore_n 3) := ⟨by decide +kernel, rfl⟩
theorem dX12_partOf_13 : dec cX12_partOf 13 3 16 (.ldc2_w 209) := ⟨by decide +kernel, rfl⟩
theorem dX12_partOf_16 : dec cX12_partOf 16 2 18 (.lstore 5) := ⟨by decide +kernel, rfl⟩
theorem dX12_partOf_18 : dec cX12_partOf 18 2 20 (.lload 5) := ⟨by decide +kernel, rfl⟩
theorem dX12_partOf_20 : dec cX12_partOf 20 1 21 (.lconst 0) := ⟨by decide +kernel, rfl⟩
theorem dX12_partOf_21 : dec cX12_partOf 21 1 22 (.lcmp) := ⟨by decide +kernel, rfl⟩
theorem dX12_partOf_22 : dec cX12_partOf 22 3 25 (.ifCond .eq 19) := ⟨by decide +kernel, rfl⟩
theorem dX12_partOf_25 : dec cX12_partOf 25 1 26 (.lload_n 3) := ⟨by decide +kernel, rfl⟩
theorem dX12_partOf_26 : dec cX12_partOf 26 2 28 (.lload 5) := ⟨by decide +kernel, rfl⟩
theorem dX12_partOf_28 : dec cX12_partOf 28 1 29 (.lrem) := ⟨by decide +kernel, rfl⟩
theorem dX12_partOf_29 : dec cX12_partOf 29 2 31 (.lstore 7) := ⟨by decide +kernel, rfl⟩
theorem dX12_partOf_31 : dec cX12_partOf 31 2 33 (.lload 5) := ⟨by decide +kernel, rfl⟩
theorem dX12_partOf_33 : dec cX12_partOf 33 1 34 (.lstore_n 3) := ⟨by decide +kernel, rfl⟩
theorem dX12_partOf_34 : dec cX12_partOf 34 2 36 (.lload 7) := ⟨by decide +kernel, rfl⟩
theorem dX12_partOf_36 : dec cX12_partOf 36 2 38 (.lstore 5) := ⟨by decide +kernel, rfl⟩
theorem dX12_partOf_38 : dec cX12_partOf 38 3 41 (.goto (-20)) := ⟨by decide +kernel, rfl⟩
theorem dX12_partOf_41 : dec cX12_partOf 41 1 42 (.iload_n 2) := ⟨by decide +kernel, rfl⟩
theorem dX12_partOf_42 : dec cX12_partOf 42 3 45 (.ifCond .ne 9) := ⟨by decide +kernel, rfl⟩
theorem dX12_partOf_45 : dec cX12_partOf 45 1 46 (.lload_n 0) := ⟨by decide +kernel, rfl⟩
theorem dX12_partOf_46 : dec cX12_partOf 46 1 47 (.lload_n 3) := ⟨by decide +kernel, rfl⟩
theorem dX12_partOf_47 : dec cX12_partOf 47 1 48 (.ldiv) := ⟨by decide +kernel, rfl⟩
theorem dX12_partOf_48 : dec cX12_partOf 48 3 51 (.goto 8) := ⟨by decide +kernel, rfl⟩
theorem dX12_partOf_51 : dec cX12_partOf 51 3 54 (.ldc2_w 209) := ⟨by decide +kernel, rfl⟩
theorem dX12_partOf_54 : dec cX12_partOf 54 1 55 (.lload_n 3) := ⟨by decide +kernel, rfl⟩
theorem dX12_partOf_55 : dec cX12_partOf 55 1 56 (.ldiv) := ⟨by decide +kernel, rfl⟩
theorem dX12_partOf_56 : dec cX12_partOf 56 1 57 (.lreturn) := ⟨by decide +kernel, rfl⟩
set_option maxHeartbeats 4000000 in
set_option maxRecDepth 100000 in
theorem tX12_partOf_L18 {X : Cx} {Y : Yx} {M0 : Mem} (hC : OKX X Y RX12 cX12_partOf 9 (some .long) rmX12_partOf) (hF : Y.2.2.2.2 = true) (hL : Lay M0) (Q : Int → Mem → Prop) (E41 : Int → Mem → Prop) (l0 : Int) (x2 : Int)  (hE41 : ∀ (l3 : Int) (M : Mem), E41 l3 M → WW X Y 9 rmX12_partOf (QL Q) M0 0 0 41 [(0, vL l0), (2, vI x2), (3, vL l3)] [] M) : ∀ (N : Nat) (l3 : Int) (l5 : Int) (M : Mem) (_ : wX12_partOf_L18 Q E41 l0 x2 N l3 l5 M), WW X Y 9 rmX12_partOf (QL Q) M0 0 0 18 [(0, vL l0), (2, vI x2), (3, vL l3), (5, vL l5)] [] M := by
  intro N
  induction N with
  | zero =>
    intro l3 l5 M h
    exact h.elim
  | succ N ih =>
    intro l3 l5 M h
    unfold wX12_partOf_L18 at h
    refine r_lload hC 3 dX12_partOf_18 rfl ?_
    refine r_lconst (a := 0) hC (by decide +kernel) dX12_partOf_20 ?_
    refine r_lcmp hC dX12_partOf_21 ?_
    refine r_if_eq hC 41 rfl dX12_partOf_22 (by decide) (fun cq => ?_) (fun cq => ?_)
    · replace h := h.1 cq
      refine r_sub [0, 1, 2] rfl ?_
      exact hE41 _ _ h
    · replace h := h.2 cq
      refine r_lload_n hC 2 dX12_partOf_25 rfl rfl ?_
      refine r_lload hC 3 dX12_partOf_26 rfl ?_
      obtain ⟨z_1, h⟩ := h
      refine r_lrem hC z_1 dX12_partOf_28 ?_
      refine r_nameL h (fun x7_2 h => ?_)
      refine r_lstore (lv' := [(7, vL x7_2), (0, vL l0), (2, vI x2), (3, vL l3), (5, vL l5)]) hC dX12_partOf_29 (by decide) rfl ?_
      refine r_lload hC 4 dX12_partOf_31 rfl ?_
      refine r_lstore_n (lv' := [(3, vL l5), (7, vL x7_2), (0, vL l0), (2, vI x2), (5, vL l5)]) hC dX12_partOf_33 rfl (by decide) rfl ?_
      refine r_lload hC 1 dX12_partOf_34 rfl ?_
      refine r_lstore (lv' := [(5, vL x7_2), (3, vL l5), (7, vL x7_2), (0, vL l0), (2, vI x2)]) hC dX12_partOf_36 (by decide) rfl ?_
      refine r_goto hC 18 dX12_partOf_38 (by decide) ?_
      refine r_sub [3, 4, 1, 0] rfl ?_
      exact ih _ _ _ h
set_option maxHeartbeats 4000000 in
set_option maxRecDepth 100000 in
theorem tX12_partOf_J12 {X : Cx} {Y : Yx} {M0 : Mem} (hC : OKX X Y RX12 cX12_partOf 9 (some .long) rmX12_partOf) (hF : Y.2.2.2.2 = true) (hL : Lay M0) (Q : Int → Mem → Prop)   (l0 : Int) (x2 : Int) (ls0 : Int)   (M : Mem) (h : wX12_partOf_J12 Q  l0 x2 ls0 M) : WW X Y 9 rmX12_partOf (QL Q) M0 0 0 12 [(0, vL l0), (2, vI x2)] [vL ls0] M := by
  unfold wX12_partOf_J12 at h
  refine r_lstore_n (lv' := [(3, vL ls0), (0, vL l0), (2, vI x2)]) hC dX12_partOf_12 rfl (by decide) rfl ?_
  refine r_ldc2 hC kl_X12_209 dX12_partOf_13 ?_
  refine r_lstore (lv' := [(5, vL 2520), (3, vL ls0), (0, vL l0), (2, vI x2)]) hC dX12_partOf_16 (by decide) rfl ?_
  refine r_sub [2, 3, 1, 0] rfl ?_
  obtain ⟨N_7, h⟩ := h
  refine tX12_partOf_L18 hC hF hL Q _ _ _  ?_ N_7 _ _ _ h
  · intro l3_3 M_4 h
    refine r_iload_n hC 1 dX12_partOf_41 rfl rfl ?_
    refine r_if_ne hC 51 rfl dX12_partOf_42 (by decide) (fun cq => ?_) (fun cq => ?_)
    · replace h := h.2 cq
      refine r_ldc2 hC kl_X12_209 dX12_partOf_51 ?_
      refine r_lload_n hC 2 dX12_partOf_54 rfl rfl ?_
      obtain ⟨z_5, h⟩ := h
      refine r_ldiv hC z_5 dX12_partOf_55 ?_
      exact r_lret hC (Nat.zero_le _) (Nat.zero_le _) dX12_partOf_56 ⟨_, rfl, h⟩
    · replace h := h.1 cq
      refine r_lload_n hC 0 dX12_partOf_45 rfl rfl ?_
      refine r_lload_n hC 2 dX12_partOf_46 rfl rfl ?_
      obtain ⟨z_6, h⟩ := h
      refine r_ldiv hC z_6 dX12_partOf_47 ?_
      refine r_goto hC 56 dX12_partOf_48 (by decide) ?_
      exact r_lret hC (Nat.zero_le _) (Nat.zero_le _) dX12_partOf_56 ⟨_, rfl, h⟩
set_option maxHeartbeats 4000000 in
set_option maxRecDepth 100000 in
theorem mX12_partOf (Y : Yx) (hF : Y.2.2.2.2 = true) (l : Launch) (l0 : Int) (x2 : Int) (M0 : Mem) (Q : Int → Mem → Prop)  (h : wX12_partOf l0 x2 M0 Q) : CT Y l yX12_partOf cX12_partOf 9 (some .long) rmX12_partOf [vL l0, vI x2] M0 (QL Q) := by
  unfold wX12_partOf at h
  refine ct_intro (by decide) (Nat.le_of_ble_eq_true rfl) ?_
  intro X hXl hC hL0
  have hL := hL0 hF
  change OKX X Y RX12 cX12_partOf 9 (some .long) rmX12_partOf at hC
  change WW X Y 9 rmX12_partOf (QL Q) M0 0 0 0 [(0, vL l0), (2, vI x2)] [] M0
  refine r_lload_n hC 0 dX12_partOf_0 rfl rfl ?_
  refine r_lconst (a := 0) hC (by decide +kernel) dX12_partOf_1 ?_
  refine r_lcmp hC dX12_partOf_2 ?_
  refine r_if_ge hC 11 rfl dX12_partOf_3 (by decide) (fun cq => ?_) (fun cq => ?_)
  · replace h := h.1 cq
    refine r_lload_n hC 0 dX12_partOf_11 rfl rfl ?_
    refine r_sub [0, 1] rfl ?_
    exact tX12_partOf_J12 hC hF hL Q   _ _ _   _ h
  · replace h := h.2 cq
    refine r_lload_n hC 0 dX12_partOf_6 rfl rfl ?_
    refine r_lneg hC dX12_partOf_7 ?_
    refine r_goto hC 12 dX12_partOf_8 (by decide) ?_
    refine r_sub [0, 1] rfl ?_
    exact tX12_partOf_J12 hC hF hL Q   _ _ _   _ h
theorem dX12_take_0 : dec cX12_take 0 1 1 (.aload_n 0) := ⟨by decide +kernel, rfl⟩
theorem dX12_take_1 : dec cX12_take 1 3 4 (.getfield 66) := ⟨by decide +kernel, rfl⟩
theorem dX12_take_4 : dec cX12_take 4 1 5 (.iload_n 1) := ⟨by decide +kernel, rfl⟩
theorem dX12_take_5 : dec cX12_take 5 1 6 (.iaload) := ⟨by decide +kernel, rfl⟩
theorem dX12_take_6 : dec cX12_take 6 3 9 (.ifCond .ne 5) := ⟨by decide +kernel, rfl⟩
theorem dX12_take_9 : dec cX12_take 9 1 10 (.iconst 2) := ⟨by decide +kernel, rfl⟩
theorem dX12_take_10 : dec cX12_take 10 1 11 (.ireturn) := ⟨by decide +kernel, rfl⟩
theorem dX12_take_11 : dec cX12_take 11 1 12 (.aload_n 0) := ⟨by decide +kernel, rfl⟩
theorem dX12_take_12 : dec cX12_take 12 1 13 (.aload_n 0) := ⟨by decide +kernel, rfl⟩
theorem dX12_take_13 : dec cX12_take 13 3 16 (.getfield 69) := ⟨by decide +kernel, rfl⟩
theorem dX12_take_16 : dec cX12_take 16 1 17 (.iload_n 1) := ⟨by decide +kernel, rfl⟩
theorem dX12_take_17 : dec cX12_take 17 1 18 (.iaload) := ⟨by decide +kernel, rfl⟩
theorem dX12_take_18 : dec cX12_take 18 3 21 (.putfield 162) := ⟨by decide +kernel, rfl⟩
theorem dX12_take_21 : dec cX12_take 21 1 22 (.aload_n 0) := ⟨by decide +kernel, rfl⟩
theorem dX12_take_22 : dec cX12_take 22 1 23 (.iload_n 2) := ⟨by decide +kernel, rfl⟩
theorem dX12_take_23 : dec cX12_take 23 3 26 (.putfield 159) := ⟨by decide +kernel, rfl⟩
theorem dX12_take_26 : dec cX12_take 26 1 27 (.aload_n 0) := ⟨by decide +kernel, rfl⟩
theorem dX12_take_27 : dec cX12_take 27 3 30 (.getfield 162) := ⟨by decide +kernel, rfl⟩
theorem dX12_take_30 : dec cX12_take 30 3 33 (.ifCond .eq 26) := ⟨by decide +kernel, rfl⟩
theorem dX12_take_33 : dec cX12_take 33 1 34 (.aload_n 0) := ⟨by decide +kernel, rfl⟩
theorem dX12_take_34 : dec cX12_take 34 3 37 (.getfield 162) := ⟨by decide +kernel, rfl⟩
theorem dX12_take_37 : dec cX12_take 37 2 39 (.bipush 12) := ⟨by decide +kernel, rfl⟩
theorem dX12_take_39 : dec cX12_take 39 3 42 (.if_icmp .gt 17) := ⟨by decide +kernel, rfl⟩
theorem dX12_take_42 : dec cX12_take 42 1 43 (.iload_n 2) := ⟨by decide +kernel, rfl⟩
theorem dX12_take_43 : dec cX12_take 43 1 44 (.iconst 0) := ⟨by decide +kernel, rfl⟩
theorem dX12_take_44 : dec cX12_take 44 1 45 (.aload_n 0) := ⟨by decide +kernel, rfl⟩
theorem dX12_take_45 : dec cX12_take 45 3 48 (.getfield 162) := ⟨by decide +kernel, rfl⟩
theorem dX12_take_48 : dec cX12_take 48 1 49 (.iconst 1) := ⟨by decide +kernel, rfl⟩
theorem dX12_take_49 : dec cX12_take 49 1 50 (.isub) := ⟨by decide +kernel, rfl⟩
theorem dX12_take_50 : dec cX12_take 50 3 53 (.invokestatic 79) := ⟨by decide +kernel, rfl⟩
theorem dX12_take_53 : dec cX12_take 53 3 56 (.ifCond .ne 5) := ⟨by decide +kernel, rfl⟩
theorem dX12_take_56 : dec cX12_take 56 1 57 (.iconst 5) := ⟨by decide +kernel, rfl⟩
theorem dX12_take_57 : dec cX12_take 57 1 58 (.ireturn) := ⟨by decide +kernel, rfl⟩
theorem dX12_take_58 : dec cX12_take 58 1 59 (.iconst 0) := ⟨by decide +kernel, rfl⟩
theorem dX12_take_59 : dec cX12_take 59 1 60 (.istore_n 3) := ⟨by decide +kernel, rfl⟩
theorem dX12_take_60 : dec cX12_take 60 1 61 (.iconst 0) := ⟨by decide +kernel, rfl⟩
theorem dX12_take_61 : dec cX12_take 61 2 63 (.istore 4) := ⟨by decide +kernel, rfl⟩
theorem dX12_take_63 : dec cX12_take 63 2 65 (.iload 4) := ⟨by decide +kernel, rfl⟩
theorem dX12_take_65 : dec cX12_take 65 1 66 (.aload_n 0) := ⟨by decide +kernel, rfl⟩
theorem dX12_take_66 : dec cX12_take 66 3 69 (.getfield 162) := ⟨by decide +kernel, rfl⟩
theorem dX12_take_69 : dec cX12_take 69 3 72 (.if_icmp .ge 71) := ⟨by decide +kernel, rfl⟩
theorem dX12_take_72 : dec cX12_take 72 1 73 (.aload_n 0) := ⟨by decide +kernel, rfl⟩
theorem dX12_take_73 : dec cX12_take 73 3 76 (.getfield 28) := ⟨by decide +kernel, rfl⟩
theorem dX12_take_76 : dec cX12_take 76 2 78 (.iload 4) := ⟨by decide +kernel, rfl⟩
theorem dX12_take_78 : dec cX12_take 78 1 79 (.aload_n 0) := ⟨by decide +kernel, rfl⟩
theorem dX12_take_79 : dec cX12_take 79 3 82 (.getfield 72) := ⟨by decide +kernel, rfl⟩
theorem dX12_take_82 : dec cX12_take 82 2 84 (.bipush 24) := ⟨by decide +kernel, rfl⟩
theorem dX12_take_84 : dec cX12_take 84 1 85 (.iload_n 1) := ⟨by decide +kernel, rfl⟩
theorem dX12_take_85 : dec cX12_take 85 1 86 (.imul) := ⟨by decide +kernel, rfl⟩
theorem dX12_take_86 : dec cX12_take 86 2 88 (.iload 4) := ⟨by decide +kernel, rfl⟩
theorem dX12_take_88 : dec cX12_take 88 1 89 (.iadd) := ⟨by decide +kernel, rfl⟩
theorem dX12_take_89 : dec cX12_take 89 1 90 (.iaload) := ⟨by decide +kernel, rfl⟩
theorem dX12_take_90 : dec cX12_take 90 1 91 (.iastore) := ⟨by decide +kernel, rfl⟩
theorem dX12_take_91 : dec cX12_take 91 1 92 (.aload_n 0) := ⟨by decide +kernel, rfl⟩
theorem dX12_take_92 : dec cX12_take 92 1 93 (.aload_n 0) := ⟨by decide +kernel, rfl⟩
theorem dX12_take_93 : dec cX12_take 93 3 96 (.getfield 28) := ⟨by decide +kernel, rfl⟩
theorem dX12_take_96 : dec cX12_take 96 2 98 (.iload 4) := ⟨by decide +kernel, rfl⟩
theorem dX12_take_98 : dec cX12_take 98 1 99 (.iaload) := ⟨by decide +kernel, rfl⟩
theorem dX12_take_99 : dec cX12_take 99 3 102 (.invokevirtual 87) := ⟨by decide +kernel, rfl⟩
theorem dX12_take_102 : dec cX12_take 102 3 105 (.ifCond .eq 18) := ⟨by decide +kernel, rfl⟩
theorem dX12_take_105 : dec cX12_take 105 1 106 (.iload_n 3) := ⟨by decide +kernel, rfl⟩
theorem dX12_take_106 : dec cX12_take 106 1 107 (.aload_n 0) := ⟨by decide +kernel, rfl⟩
theorem dX12_take_107 : dec cX12_take 107 3 110 (.getfield 28) := ⟨by decide +kernel, rfl⟩
theorem dX12_take_110 : dec cX12_take 110 2 112 (.iload 4) := ⟨by decide +kernel, rfl⟩
theorem dX12_take_112 : dec cX12_take 112 1 113 (.iaload) := ⟨by decide +kernel, rfl⟩
theorem dX12_take_113 : dec cX12_take 113 1 114 (.ishr) := ⟨by decide +kernel, rfl⟩
theorem dX12_take_114 : dec cX12_take 114 1 115 (.iconst 1) := ⟨by decide +kernel, rfl⟩
theorem dX12_take_115 : dec cX12_take 115 1 116 (.iand) := ⟨by decide +kernel, rfl⟩
theorem dX12_take_116 : dec cX12_take 116 1 117 (.iconst 1) := ⟨by decide +kernel, rfl⟩
theorem dX12_take_117 : dec cX12_take 117 3 120 (.if_icmp .ne 5) := ⟨by decide +kernel, rfl⟩
theorem dX12_take_120 : dec cX12_take 120 1 121 (.iconst 5) := ⟨by decide +kernel, rfl⟩
theorem dX12_take_121 : dec cX12_take 121 1 122 (.ireturn) := ⟨by decide +kernel, rfl⟩
theorem dX12_take_122 : dec cX12_take 122 1 123 (.iload_n 3) := ⟨by decide +kernel, rfl⟩
theorem dX12_take_123 : dec cX12_take 123 1 124 (.iconst 1) := ⟨by decide +kernel, rfl⟩
theorem dX12_take_124 : dec cX12_take 124 1 125 (.aload_n 0) := ⟨by decide +kernel, rfl⟩
theorem dX12_take_125 : dec cX12_take 125 3 128 (.getfield 28) := ⟨by decide +kernel, rfl⟩
theorem dX12_take_128 : dec cX12_take 128 2 130 (.iload 4) := ⟨by decide +kernel, rfl⟩
theorem dX12_take_130 : dec cX12_take 130 1 131 (.iaload) := ⟨by decide +kernel, rfl⟩
theorem dX12_take_131 : dec cX12_take 131 1 132 (.ishl) := ⟨by decide +kernel, rfl⟩
theorem dX12_take_132 : dec cX12_take 132 1 133 (.ior) := ⟨by decide +kernel, rfl⟩
theorem dX12_take_133 : dec cX12_take 133 1 134 (.istore_n 3) := ⟨by decide +kernel, rfl⟩
theorem dX12_take_134 : dec cX12_take 134 3 137 (.iinc 4 1) := ⟨by decide +kernel, rfl⟩
theorem dX12_take_137 : dec cX12_take 137 3 140 (.goto (-74)) := ⟨by decide +kernel, rfl⟩
theorem dX12_take_140 : dec cX12_take 140 1 141 (.aload_n 0) := ⟨by decide +kernel, rfl⟩
theorem dX12_take_141 : dec cX12_take 141 3 144 (.invokevirtual 211) := ⟨by decide +kernel, rfl⟩
theorem dX12_take_144 : dec cX12_take 144 1 145 (.iconst 0) := ⟨by decide +kernel, rfl⟩
theorem dX12_take_145 : dec cX12_take 145 1 146 (.ireturn) := ⟨by decide +kernel, rfl⟩
set_option maxHeartbeats 4000000 in
set_option maxRecDepth 100000 in
theorem tX12_take_L63 {X : Cx} {Y : Yx} {M0 : Mem} (hC : OKX X Y RX12 cX12_take 5 (some .int) rmX12_take) (hF : Y.2.2.2.2 = true) (hL : Lay M0) (Q : Int → Mem → Prop) (E140 : Mem → Prop) (a0 : Nat) (x1 : Int) (qa0 : 0 < a0 ∧ M0 0 a0 = kO 12) (hE140 : ∀  (M : Mem), E140  M → WW X Y 5 rmX12_take (QI Q) M0 0 0 140 [(0, vR Y.1 a0)] [] M) : ∀ (N : Nat) (x3 : Int) (x4 : Int) (M : Mem) (_ : wX12_take_L63 Q E140 a0 x1 N x3 x4 M), WW X Y 5 rmX12_take (QI Q) M0 0 0 63 [(0, vR Y.1 a0), (1, vI x1), (3, vI x3), (4, vI x4)] [] M := by
  intro N
  induction N with
  | zero =>
    intro x3 x4 M h
    exact h.elim
  | succ N ih =>
    intro x3 x4 M h
    unfold wX12_take_L63 at h
    refine r_iload hC 3 dX12_take_63 rfl ?_
    refine r_aload_n hC 0 dX12_take_65 rfl rfl ?_
    refine r_getI hC fg_X12_162 rfl qa0.1 qa0.2 dX12_take_66 ?_
    refine r_icmp_ge hC 140 rfl rfl dX12_take_69 (by decide) (fun cq => ?_) (fun cq => ?_)
    · replace h := h.1 cq
      refine r_sub [0] rfl ?_
      exact hE140  _ h
    · replace h := h.2 cq
      refine r_aload_n hC 0 dX12_take_72 rfl rfl ?_
      have q_9 : 0 < a0 + 7 ∧ M0 0 (a0 + 7) = kA 0 12 := lay_f0 (a := a0) hL qa0 fm_12_12
      refine r_getR0 (a' := a0 + 7) hC fg_X12_28 rfl hF fm_12_12 qa0.1 qa0.2 rfl dX12_take_73 ?_
      refine r_iload hC 3 dX12_take_76 rfl ?_
      refine r_aload_n hC 0 dX12_take_78 rfl rfl ?_
      have q_10 : 0 < a0 + 21 ∧ M0 0 (a0 + 21) = kA 0 96 := lay_f0 (a := a0) hL qa0 fm_12_38
      refine r_getR0 (a' := a0 + 21) hC fg_X12_72 rfl hF fm_12_38 qa0.1 qa0.2 rfl dX12_take_79 ?_
      refine r_bipush hC (by decide +kernel) dX12_take_82 ?_
      refine r_iload_n hC 1 dX12_take_84 rfl rfl ?_
      refine r_imul hC dX12_take_85 ?_
      refine r_iload hC 3 dX12_take_86 rfl ?_
      refine r_iadd hC dX12_take_88 ?_
      obtain ⟨i_11, h⟩ := h
      refine r_iald hC i_11 q_10.1 q_10.2 (by decide) dX12_take_89 ?_
      obtain ⟨i_12, h⟩ := h
      refine r_iast hC i_12 q_9.1 q_9.2 (by decide) dX12_take_90 ?_
      refine r_nameM h (fun M_13 h => ?_)
      refine r_aload_n hC 0 dX12_take_91 rfl rfl ?_
      refine r_aload_n hC 0 dX12_take_92 rfl rfl ?_
      have q_14 : 0 < a0 + 7 ∧ M0 0 (a0 + 7) = kA 0 12 := lay_f0 (a := a0) hL qa0 fm_12_12
      refine r_getR0 (a' := a0 + 7) hC fg_X12_28 rfl hF fm_12_12 qa0.1 qa0.2 rfl dX12_take_93 ?_
      refine r_iload hC 3 dX12_take_96 rfl ?_
      obtain ⟨i_15, h⟩ := h
      refine r_iald hC i_15 q_14.1 q_14.2 (by decide) dX12_take_98 ?_
      refine r_callV (As := [vI (rd M_13 (a0 + 7) x4)]) (st := []) hC cw_X12_87 rfl qa0.1 qa0.2 rfl rfl (Nat.le_of_ble_eq_true rfl) ⟨Nat.le_of_ble_eq_true rfl, Nat.le_of_ble_eq_true rfl⟩ ⟨Nat.le_of_ble_eq_true rfl, Nat.le_of_ble_eq_true rfl⟩ dX12_take_99 (fun hk => mX12_isPiece Y hF _ _ _ _ _ (kqO hk qa0) h) (fun v M_16 h => ?_)
      obtain ⟨r_17, rfl, h⟩ := h
      refine r_if_eq hC 120 rfl dX12_take_102 (by decide) (fun cq => ?_) (fun cq => ?_)
      · replace h := h.1 cq
        refine r_iconst hC dX12_take_120 ?_
        exact r_iret hC (Nat.zero_le _) (Nat.zero_le _) dX12_take_121 ⟨_, rfl, h⟩
      · replace h := h.2 cq
        refine r_iload_n hC 2 dX12_take_105 rfl rfl ?_
        refine r_aload_n hC 0 dX12_take_106 rfl rfl ?_
        have q_18 : 0 < a0 + 7 ∧ M0 0 (a0 + 7) = kA 0 12 := lay_f0 (a := a0) hL qa0 fm_12_12
        refine r_getR0 (a' := a0 + 7) hC fg_X12_28 rfl hF fm_12_12 qa0.1 qa0.2 rfl dX12_take_107 ?_
        refine r_iload hC 3 dX12_take_110 rfl ?_
        obtain ⟨i_19, h⟩ := h
        refine r_iald hC i_19 q_18.1 q_18.2 (by decide) dX12_take_112 ?_
        refine r_ishr hC dX12_take_113 ?_
        refine r_iconst hC dX12_take_114 ?_
        refine r_iand hC dX12_take_115 ?_
        refine r_iconst hC dX12_take_116 ?_
        refine r_icmp_ne hC 122 rfl bmL_1 dX12_take_117 (by decide) (fun cq => ?_) (fun cq => ?_)
        · replace h := h.2 cq
          refine r_iload_n hC 2 dX12_take_122 rfl rfl ?_
          refine r_iconst hC dX12_take_123 ?_
          refine r_aload_n hC 0 dX12_take_124 rfl rfl ?_
          have q_20 : 0 < a0 + 7 ∧ M0 0 (a0 + 7) = kA 0 12 := lay_f0 (a := a0) hL qa0 fm_12_12
          refine r_getR0 (a' := a0 + 7) hC fg_X12_28 rfl hF fm_12_12 qa0.1 qa0.2 rfl dX12_take_125 ?_
          refine r_iload hC 3 dX12_take_128 rfl ?_
          obtain ⟨i_21, h⟩ := h
          refine r_iald hC i_21 q_20.1 q_20.2 (by decide) dX12_take_130 ?_
          refine r_ishl hC dX12_take_131 ?_
          refine r_ior hC dX12_take_132 ?_
          refine r_nameI h (fun x3_22 h => ?_)
          refine r_istore_n (lv' := [(3, vI x3_22), (0, vR Y.1 a0), (1, vI x1), (4, vI x4)]) hC dX12_take_133 rfl (by decide) rfl ?_
          refine let_elim h (fun x4_23 e_24 h => ?_)
          refine r_iinc (lv' := [(4, vI x4_23), (3, vI x3_22), (0, vR Y.1 a0), (1, vI x1)]) hC 3 dX12_take_134 rfl (by decide) e_24 rfl ?_
          refine r_goto hC 63 dX12_take_137 (by decide) ?_
          refine r_sub [2, 3, 1, 0] rfl ?_
          exact ih _ _ _ h
        · replace h := h.1 cq
          refine r_iconst hC dX12_take_120 ?_
          exact r_iret hC (Nat.zero_le _) (Nat.zero_le _) dX12_take_121 ⟨_, rfl, h⟩
set_option maxHeartbeats 4000000 in
set_option maxRecDepth 100000 in
theorem mX12_take (Y : Yx) (hF : Y.2.2.2.2 = true) (l : Launch) (a0 : Nat) (x1 : Int) (x2 : Int) (M0 : Mem) (Q : Int → Mem → Prop) (qa0 : 0 < a0 ∧ M0 0 a0 = kO 12) (h : wX12_take a0 x1 x2 M0 Q) : CT Y l yX12_take cX12_take 5 (some .int) rmX12_take [vR Y.1 a0, vI x1, vI x2] M0 (QI Q) := by
  unfold wX12_take at h
  refine ct_intro (by decide) (Nat.le_of_ble_eq_true rfl) ?_
  intro X hXl hC hL0
  have hL := hL0 hF
  change OKX X Y RX12 cX12_take 5 (some .int) rmX12_take at hC
  change WW X Y 5 rmX12_take (QI Q) M0 0 0 0 [(0, vR Y.1 a0), (1, vI x1), (2, vI x2)] [] M0
  refine r_aload_n hC 0 dX12_take_0 rfl rfl ?_
  have q_1 : 0 < a0 + 19 ∧ M0 0 (a0 + 19) = kA 0 4 := lay_f0 (a := a0) hL qa0 fm_12_36
  refine r_getR0 (a' := a0 + 19) hC fg_X12_66 rfl hF fm_12_36 qa0.1 qa0.2 rfl dX12_take_1 ?_
  refine r_iload_n hC 1 dX12_take_4 rfl rfl ?_
  obtain ⟨i_2, h⟩ := h
  refine r_iald hC i_2 q_1.1 q_1.2 (by decide) dX12_take_5 ?_
  refine r_if_ne hC 11 rfl dX12_take_6 (by decide) (fun cq => ?_) (fun cq => ?_)
  · replace h := h.2 cq
    refine r_aload_n hC 0 dX12_take_11 rfl rfl ?_
    refine r_aload_n hC 0 dX12_take_12 rfl rfl ?_
    have q_3 : 0 < a0 + 20 ∧ M0 0 (a0 + 20) = kA 0 4 := lay_f0 (a := a0) hL qa0 fm_12_37
    refine r_getR0 (a' := a0 + 20) hC fg_X12_69 rfl hF fm_12_37 qa0.1 qa0.2 rfl dX12_take_13 ?_
    refine r_iload_n hC 1 dX12_take_16 rfl rfl ?_
    obtain ⟨i_4, h⟩ := h
    refine r_iald hC i_4 q_3.1 q_3.2 (by decide) dX12_take_17 ?_
    refine r_putI hC fp_X12_162 rfl qa0.1 qa0.2 dX12_take_18 ?_
    refine r_nameM h (fun M_5 h => ?_)
    refine r_aload_n hC 0 dX12_take_21 rfl rfl ?_
    refine r_iload_n hC 2 dX12_take_22 rfl rfl ?_
    refine r_putI hC fp_X12_159 rfl qa0.1 qa0.2 dX12_take_23 ?_
    refine r_nameM h (fun M_6 h => ?_)
    refine r_aload_n hC 0 dX12_take_26 rfl rfl ?_
    refine r_getI hC fg_X12_162 rfl qa0.1 qa0.2 dX12_take_27 ?_
    refine r_if_eq hC 56 rfl dX12_take_30 (by decide) (fun cq => ?_) (fun cq => ?_)
    · replace h := h.1 cq
      refine r_iconst hC dX12_take_56 ?_
      exact r_iret hC (Nat.zero_le _) (Nat.zero_le _) dX12_take_57 ⟨_, rfl, h⟩
    · replace h := h.2 cq
      refine r_aload_n hC 0 dX12_take_33 rfl rfl ?_
      refine r_getI hC fg_X12_162 rfl qa0.1 qa0.2 dX12_take_34 ?_
      refine r_bipush hC (by decide +kernel) dX12_take_37 ?_
      refine r_icmp_gt hC 56 rfl bmL_12 dX12_take_39 (by decide) (fun cq => ?_) (fun cq => ?_)
      · replace h := h.1 cq
        refine r_iconst hC dX12_take_56 ?_
        exact r_iret hC (Nat.zero_le _) (Nat.zero_le _) dX12_take_57 ⟨_, rfl, h⟩
      · replace h := h.2 cq
        refine r_iload_n hC 2 dX12_take_42 rfl rfl ?_
        refine r_iconst hC dX12_take_43 ?_
        refine r_aload_n hC 0 dX12_take_44 rfl rfl ?_
        refine r_getI hC fg_X12_162 rfl qa0.1 qa0.2 dX12_take_45 ?_
        refine r_iconst hC dX12_take_48 ?_
        refine r_isub hC dX12_take_49 ?_
        refine r_callS (As := [vI x2, vI 0, vI ((M_6 a0 13) - 1)]) (st := []) hC cw_X12_79 rfl rfl (Nat.le_of_ble_eq_true rfl) ⟨Nat.le_of_ble_eq_true rfl, Nat.le_of_ble_eq_true rfl⟩ ⟨Nat.le_of_ble_eq_true rfl, Nat.le_of_ble_eq_true rfl⟩ dX12_take_50 (fun hk => mX12_in Y hF _ _ _ _ _ _  h) (fun v M_7 h => ?_)
        obtain ⟨r_8, rfl, h⟩ := h
        refine r_if_ne hC 58 rfl dX12_take_53 (by decide) (fun cq => ?_) (fun cq => ?_)
        · replace h := h.2 cq
          refine r_iconst hC dX12_take_58 ?_
          refine r_istore_n (lv' := [(3, vI 0), (0, vR Y.1 a0), (1, vI x1), (2, vI x2)]) hC dX12_take_59 rfl (by decide) rfl ?_
          refine r_iconst hC dX12_take_60 ?_
          refine r_istore (lv' := [(4, vI 0), (3, vI 0), (0, vR Y.1 a0), (1, vI x1), (2, vI x2)]) hC dX12_take_61 (by decide) rfl ?_
          refine r_sub [2, 3, 1, 0] rfl ?_
          obtain ⟨N_27, h⟩ := h
          refine tX12_take_L63 hC hF hL Q _ _ _ qa0 ?_ N_27 _ _ _ h
          · intro M_25 h
            refine r_aload_n hC 0 dX12_take_140 rfl rfl ?_
            refine r_callV (As := []) (st := []) hC cw_X12_211 rfl qa0.1 qa0.2 rfl rfl (Nat.le_of_ble_eq_true rfl) ⟨Nat.le_of_ble_eq_true rfl, Nat.le_of_ble_eq_true rfl⟩ ⟨Nat.le_of_ble_eq_true rfl, Nat.le_of_ble_eq_true rfl⟩ dX12_take_141 (fun hk => mX12_layRow Y hF _ _ _ _ (kqO hk qa0) h) (fun v M_26 h => ?_)
            obtain ⟨rfl, h⟩ := h
            refine r_iconst hC dX12_take_144 ?_
            exact r_iret hC (Nat.zero_le _) (Nat.zero_le _) dX12_take_145 ⟨_, rfl, h⟩
        · replace h := h.1 cq
          refine r_iconst hC dX12_take_56 ?_
          exact r_iret hC (Nat.zero_le _) (Nat.zero_le _) dX12_take_57 ⟨_, rfl, h⟩
  · replace h := h.1 cq
    refine r_iconst hC dX12_take_9 ?_
    exact r_iret hC (Nat.zero_le _) (Nat.zero_le _) dX12_take_10 ⟨_, rfl, h⟩
theorem dX12_isSheet_0 : dec cX12_isSheet 0 1 1 (.iload_n 0) := ⟨by decide +kernel, rfl⟩
theorem dX12_isSheet_1 : dec cX12_isSheet 1 1 2 (.iconst 0) := ⟨by decide +kernel, rfl⟩
theorem dX12_isSheet_2 : dec cX12_isSheet 2 1 3 (.iconst 3) := ⟨by decide +kernel, rfl⟩
theorem dX12_isSheet_3 : dec cX12_isSheet 3 3 6 (.invokestatic 79) := ⟨by decide +kernel, rfl⟩
theorem dX12_isSheet_6 : dec cX12_isSheet 6 1 7 (.ireturn) := ⟨by decide +kernel, rfl⟩
set_option maxHeartbeats 4000000 in
set_option maxRecDepth 100000 in
theorem mX12_isSheet (Y : Yx) (hF : Y.2.2.2.2 = true) (l : Launch) (x0 : Int) (M0 : Mem) (Q : Int → Mem → Prop)  (h : wX12_isSheet x0 M0 Q) : CT Y l yX12_isSheet cX12_isSheet 1 (some .boolean) rmX12_isSheet [vI x0] M0 (QI Q) := by
  unfold wX12_isSheet at h
  refine ct_intro (by decide) (Nat.le_of_ble_eq_true rfl) ?_
  intro X hXl hC hL0
  have hL := hL0 hF
  change OKX X Y RX12 cX12_isSheet 1 (some .boolean) rmX12_isSheet at hC
  change WW X Y 1 rmX12_isSheet (QI Q) M0 0 0 0 [(0, vI x0)] [] M0
  refine r_iload_n hC 0 dX12_isSheet_0 rfl rfl ?_
  refine r_iconst hC dX12_isSheet_1 ?_
  refine r_iconst hC dX12_isSheet_2 ?_
  refine r_callS (As := [vI x0, vI 0, vI 3]) (st := []) hC cw_X12_79 rfl rfl (Nat.le_of_ble_eq_true rfl) ⟨Nat.le_of_ble_eq_true rfl, Nat.le_of_ble_eq_true rfl⟩ ⟨Nat.le_of_ble_eq_true rfl, Nat.le_of_ble_eq_true rfl⟩ dX12_isSheet_3 (fun hk => mX12_in Y hF _ _ _ _ _ _  h) (fun v M_1 h => ?_)
  obtain ⟨r_2, rfl, h⟩ := h
  exact r_zret hC h.1 (Nat.zero_le _) (Nat.zero_le _) dX12_isSheet_6 ⟨_, rfl, h.2⟩
theorem dX12_worth_0 : dec cX12_worth 0 1 1 (.iload_n 1) := ⟨by decide +kernel, rfl⟩
theorem dX12_worth_1 : dec cX12_worth 1 3 4 (.invokestatic 214) := ⟨by decide +kernel, rfl⟩
theorem dX12_worth_4 : dec cX12_worth 4 3 7 (.ifCond .eq 12) := ⟨by decide +kernel, rfl⟩
theorem dX12_worth_7 : dec cX12_worth 7 1 8 (.iload_n 3) := ⟨by decide +kernel, rfl⟩
theorem dX12_worth_8 : dec cX12_worth 8 1 9 (.iconst 0) := ⟨by decide +kernel, rfl⟩
theorem dX12_worth_9 : dec cX12_worth 9 1 10 (.iconst 1) := ⟨by decide +kernel, rfl⟩
theorem dX12_worth_10 : dec cX12_worth 10 3 13 (.invokestatic 79) := ⟨by decide +kernel, rfl⟩
theorem dX12_worth_13 : dec cX12_worth 13 3 16 (.ifCond .ne 10) := ⟨by decide +kernel, rfl⟩
theorem dX12_worth_16 : dec cX12_worth 16 1 17 (.aload_n 0) := ⟨by decide +kernel, rfl⟩
theorem dX12_worth_17 : dec cX12_worth 17 1 18 (.iconst 1) := ⟨by decide +kernel, rfl⟩
theorem dX12_worth_18 : dec cX12_worth 18 3 21 (.invokevirtual 83) := ⟨by decide +kernel, rfl⟩
theorem dX12_worth_21 : dec cX12_worth 21 1 22 (.i2l) := ⟨by decide +kernel, rfl⟩
theorem dX12_worth_22 : dec cX12_worth 22 1 23 (.lreturn) := ⟨by decide +kernel, rfl⟩
theorem dX12_worth_23 : dec cX12_worth 23 1 24 (.aload_n 0) := ⟨by decide +kernel, rfl⟩
theorem dX12_worth_24 : dec cX12_worth 24 1 25 (.iload_n 1) := ⟨by decide +kernel, rfl⟩
theorem dX12_worth_25 : dec cX12_worth 25 1 26 (.iload_n 2) := ⟨by decide +kernel, rfl⟩
theorem dX12_worth_26 : dec cX12_worth 26 3 29 (.invokevirtual 217) := ⟨by decide +kernel, rfl⟩
theorem dX12_worth_29 : dec cX12_worth 29 2 31 (.istore 4) := ⟨by decide +kernel, rfl⟩
theorem dX12_worth_31 : dec cX12_worth 31 2 33 (.iload 4) := ⟨by decide +kernel, rfl⟩
theorem dX12_worth_33 : dec cX12_worth 33 3 36 (.ifCond .le 13) := ⟨by decide +kernel, rfl⟩
theorem dX12_worth_36 : dec cX12_worth 36 1 37 (.aload_n 0) := ⟨by decide +kernel, rfl⟩
theorem dX12_worth_37 : dec cX12_worth 37 2 39 (.iload 4) := ⟨by decide +kernel, rfl⟩
theorem dX12_worth_39 : dec cX12_worth 39 3 42 (.invokevirtual 83) := ⟨by decide +kernel, rfl⟩
theorem dX12_worth_42 : dec cX12_worth 42 1 43 (.i2l) := ⟨by decide +kernel, rfl⟩
theorem dX12_worth_43 : dec cX12_worth 43 3 46 (.goto 11) := ⟨by decide +kernel, rfl⟩
theorem dX12_worth_46 : dec cX12_worth 46 1 47 (.aload_n 0) := ⟨by decide +kernel, rfl⟩
theorem dX12_worth_47 : dec cX12_worth 47 3 50 (.invokevirtual 220) := ⟨by decide +kernel, rfl⟩
theorem dX12_worth_50 : dec cX12_worth 50 1 51 (.iload_n 3) := ⟨by decide +kernel, rfl⟩
theorem dX12_worth_51 : dec cX12_worth 51 3 54 (.invokestatic 224) := ⟨by decide +kernel, rfl⟩
theorem dX12_worth_54 : dec cX12_worth 54 1 55 (.lreturn) := ⟨by decide +kernel, rfl⟩
set_option maxHeartbeats 4000000 in
set_option maxRecDepth 100000 in
theorem tX12_worth_J16 {X : Cx} {Y : Yx} {M0 : Mem} (hC : OKX X Y RX12 cX12_worth 5 (some .long) rmX12_worth) (hF : Y.2.2.2.2 = true) (hL : Lay M0) (Q : Int → Mem → Prop)   (a0 : Nat) (qa0 : 0 < a0 ∧ M0 0 a0 = kO 12)  (M : Mem) (h : wX12_worth_J16 Q  a0 M) : WW X Y 5 rmX12_worth (QL Q) M0 0 0 16 [(0, vR Y.1 a0)] [] M := by
  unfold wX12_worth_J16 at h
  refine r_aload_n hC 0 dX12_worth_16 rfl rfl ?_
  refine r_iconst hC dX12_worth_17 ?_
  refine r_callV (As := [vI 1]) (st := []) hC cw_X12_83 rfl qa0.1 qa0.2 rfl rfl (Nat.le_of_ble_eq_true rfl) ⟨Nat.le_of_ble_eq_true rfl, Nat.le_of_ble_eq_true rfl⟩ ⟨Nat.le_of_ble_eq_true rfl, Nat.le_of_ble_eq_true rfl⟩ dX12_worth_18 (fun hk => mX12_error Y hF _ _ _ _ _ (kqO hk qa0) h) (fun v M_3 h => ?_)
  obtain ⟨r_4, rfl, h⟩ := h
  refine r_i2l hC dX12_worth_21 ?_
  exact r_lret hC (Nat.zero_le _) (Nat.zero_le _) dX12_worth_22 ⟨_, rfl, h⟩
set_option maxHeartbeats 4000000 in
set_option maxRecDepth 100000 in
theorem mX12_worth (Y : Yx) (hF : Y.2.2.2.2 = true) (l : Launch) (a0 : Nat) (x1 : Int) (x2 : Int) (x3 : Int) (M0 : Mem) (Q : Int → Mem → Prop) (qa0 : 0 < a0 ∧ M0 0 a0 = kO 12) (h : wX12_worth a0 x1 x2 x3 M0 Q) : CT Y l yX12_worth cX12_worth 5 (some .long) rmX12_worth [vR Y.1 a0, vI x1, vI x2, vI x3] M0 (QL Q) := by
  unfold wX12_worth at h
  refine ct_intro (by decide) (Nat.le_of_ble_eq_true rfl) ?_
  intro X hXl hC hL0
  have hL := hL0 hF
  change OKX X Y RX12 cX12_worth 5 (some .long) rmX12_worth at hC
  change WW X Y 5 rmX12_worth (QL Q) M0 0 0 0 [(0, vR Y.1 a0), (1, vI x1), (2, vI x2), (3, vI x3)] [] M0
  refine r_iload_n hC 1 dX12_worth_0 rfl rfl ?_
  refine r_callS (As := [vI x1]) (st := []) hC cw_X12_214 rfl rfl (Nat.le_of_ble_eq_true rfl) ⟨Nat.le_of_ble_eq_true rfl, Nat.le_of_ble_eq_true rfl⟩ ⟨Nat.le_of_ble_eq_true rfl, Nat.le_of_ble_eq_true rfl⟩ dX12_worth_1 (fun hk => mX12_isSheet Y hF _ _ _ _  h) (fun v M_1 h => ?_)
  obtain ⟨r_2, rfl, h⟩ := h
  refine r_if_eq hC 16 rfl dX12_worth_4 (by decide) (fun cq => ?_) (fun cq => ?_)
  · replace h := h.1 cq
    refine r_sub [0] rfl ?_
    exact tX12_worth_J16 hC hF hL Q   _ qa0  _ h
  · replace h := h.2 cq
    refine r_iload_n hC 3 dX12_worth_7 rfl rfl ?_
    refine r_iconst hC dX12_worth_8 ?_
    refine r_iconst hC dX12_worth_9 ?_
    refine r_callS (As := [vI x3, vI 0, vI 1]) (st := []) hC cw_X12_79 rfl rfl (Nat.le_of_ble_eq_true rfl) ⟨Nat.le_of_ble_eq_true rfl, Nat.le_of_ble_eq_true rfl⟩ ⟨Nat.le_of_ble_eq_true rfl, Nat.le_of_ble_eq_true rfl⟩ dX12_worth_10 (fun hk => mX12_in Y hF _ _ _ _ _ _  h) (fun v M_5 h => ?_)
    obtain ⟨r_6, rfl, h⟩ := h
    refine r_if_ne hC 23 rfl dX12_worth_13 (by decide) (fun cq => ?_) (fun cq => ?_)
    · replace h := h.2 cq
      refine r_aload_n hC 0 dX12_worth_23 rfl rfl ?_
      refine r_iload_n hC 1 dX12_worth_24 rfl rfl ?_
      refine r_iload_n hC 2 dX12_worth_25 rfl rfl ?_
      refine r_callV (As := [vI x1, vI x2]) (st := []) hC cw_X12_217 rfl qa0.1 qa0.2 rfl rfl (Nat.le_of_ble_eq_true rfl) ⟨Nat.le_of_ble_eq_true rfl, Nat.le_of_ble_eq_true rfl⟩ ⟨Nat.le_of_ble_eq_true rfl, Nat.le_of_ble_eq_true rfl⟩ dX12_worth_26 (fun hk => mX12_take Y hF _ _ _ _ _ _ (kqO hk qa0) h) (fun v M_7 h => ?_)
      obtain ⟨r_8, rfl, h⟩ := h
      refine r_istore (lv' := [(4, vI r_8), (0, vR Y.1 a0), (1, vI x1), (2, vI x2), (3, vI x3)]) hC dX12_worth_29 (by decide) rfl ?_
      refine r_iload hC 0 dX12_worth_31 rfl ?_
      refine r_if_le hC 46 rfl dX12_worth_33 (by decide) (fun cq => ?_) (fun cq => ?_)
      · replace h := h.1 cq
        refine r_aload_n hC 1 dX12_worth_46 rfl rfl ?_
        refine r_callV (As := []) (st := []) hC cw_X12_220 rfl qa0.1 qa0.2 rfl rfl (Nat.le_of_ble_eq_true rfl) ⟨Nat.le_of_ble_eq_true rfl, Nat.le_of_ble_eq_true rfl⟩ ⟨Nat.le_of_ble_eq_true rfl, Nat.le_of_ble_eq_true rfl⟩ dX12_worth_47 (fun hk => mX12_worthNow Y hF _ _ _ _ (kqO hk qa0) h) (fun v M_9 h => ?_)
        obtain ⟨r_10, rfl, h⟩ := h
        refine r_iload_n hC 4 dX12_worth_50 rfl rfl ?_
        refine r_callS (As := [vL r_10, vI x3]) (st := []) hC cw_X12_224 rfl rfl (Nat.le_of_ble_eq_true rfl) ⟨Nat.le_of_ble_eq_true rfl, Nat.le_of_ble_eq_true rfl⟩ ⟨Nat.le_of_ble_eq_true rfl, Nat.le_of_ble_eq_true rfl⟩ dX12_worth_51 (fun hk => mX12_partOf Y hF _ _ _ _ _  h) (fun v M_11 h => ?_)
        obtain ⟨r_12, rfl, h⟩ := h
        exact r_lret hC (Nat.zero_le _) (Nat.zero_le _) dX12_worth_54 ⟨_, rfl, h⟩
      · replace h := h.2 cq
        refine r_aload_n hC 1 dX12_worth_36 rfl rfl ?_
        refine r_iload hC 0 dX12_worth_37 rfl ?_
        refine r_callV (As := [vI r_8]) (st := []) hC cw_X12_83 rfl qa0.1 qa0.2 rfl rfl (Nat.le_of_ble_eq_true rfl) ⟨Nat.le_of_ble_eq_true rfl, Nat.le_of_ble_eq_true rfl⟩ ⟨Nat.le_of_ble_eq_true rfl, Nat.le_of_ble_eq_true rfl⟩ dX12_worth_39 (fun hk => mX12_error Y hF _ _ _ _ _ (kqO hk qa0) h) (fun v M_13 h => ?_)
        obtain ⟨r_14, rfl, h⟩ := h
        refine r_i2l hC dX12_worth_42 ?_
        refine r_goto hC 54 dX12_worth_43 (by decide) ?_
        exact r_lret hC (Nat.zero_le _) (Nat.zero_le _) dX12_worth_54 ⟨_, rfl, h⟩
    · replace h := h.1 cq
      refine r_sub [0] rfl ?_
      exact tX12_worth_J16 hC hF hL Q   _ qa0  _ h
theorem dX12_worthBy_0 : dec cX12_worthBy 0 1 1 (.iload_n 1) := ⟨by decide +kernel, rfl⟩
theorem dX12_worthBy_1 : dec cX12_worthBy 1 3 4 (.invokestatic 214) := ⟨by decide +kernel, rfl⟩
theorem dX12_worthBy_4 : dec cX12_worthBy 4 3 7 (.ifCond .eq 11) := ⟨by decide +kernel, rfl⟩
theorem dX12_worthBy_7 : dec cX12_worthBy 7 1 8 (.aload_n 0) := ⟨by decide +kernel, rfl⟩
theorem dX12_worthBy_8 : dec cX12_worthBy 8 1 9 (.iload_n 3) := ⟨by decide +kernel, rfl⟩
theorem dX12_worthBy_9 : dec cX12_worthBy 9 3 12 (.invokevirtual 98) := ⟨by decide +kernel, rfl⟩
theorem dX12_worthBy_12 : dec cX12_worthBy 12 3 15 (.ifCond .ne 9) := ⟨by decide +kernel, rfl⟩
theorem dX12_worthBy_15 : dec cX12_worthBy 15 1 16 (.aload_n 0) := ⟨by decide +kernel, rfl⟩
theorem dX12_worthBy_16 : dec cX12_worthBy 16 1 17 (.iconst 1) := ⟨by decide +kernel, rfl⟩
theorem dX12_worthBy_17 : dec cX12_worthBy 17 3 20 (.invokevirtual 83) := ⟨by decide +kernel, rfl⟩
theorem dX12_worthBy_20 : dec cX12_worthBy 20 1 21 (.ireturn) := ⟨by decide +kernel, rfl⟩
theorem dX12_worthBy_21 : dec cX12_worthBy 21 1 22 (.aload_n 0) := ⟨by decide +kernel, rfl⟩
theorem dX12_worthBy_22 : dec cX12_worthBy 22 1 23 (.iload_n 1) := ⟨by decide +kernel, rfl⟩
theorem dX12_worthBy_23 : dec cX12_worthBy 23 1 24 (.iload_n 2) := ⟨by decide +kernel, rfl⟩
theorem dX12_worthBy_24 : dec cX12_worthBy 24 3 27 (.invokevirtual 217) := ⟨by decide +kernel, rfl⟩
theorem dX12_worthBy_27 : dec cX12_worthBy 27 2 29 (.istore 4) := ⟨by decide +kernel, rfl⟩
theorem dX12_worthBy_29 : dec cX12_worthBy 29 2 31 (.iload 4) := ⟨by decide +kernel, rfl⟩
theorem dX12_worthBy_31 : dec cX12_worthBy 31 3 34 (.ifCond .le 12) := ⟨by decide +kernel, rfl⟩
theorem dX12_worthBy_34 : dec cX12_worthBy 34 1 35 (.aload_n 0) := ⟨by decide +kernel, rfl⟩
theorem dX12_worthBy_35 : dec cX12_worthBy 35 2 37 (.iload 4) := ⟨by decide +kernel, rfl⟩
theorem dX12_worthBy_37 : dec cX12_worthBy 37 3 40 (.invokevirtual 83) := ⟨by decide +kernel, rfl⟩
theorem dX12_worthBy_40 : dec cX12_worthBy 40 3 43 (.goto 8) := ⟨by decide +kernel, rfl⟩
theorem dX12_worthBy_43 : dec cX12_worthBy 43 1 44 (.aload_n 0) := ⟨by decide +kernel, rfl⟩
theorem dX12_worthBy_44 : dec cX12_worthBy 44 1 45 (.iload_n 3) := ⟨by decide +kernel, rfl⟩
theorem dX12_worthBy_45 : dec cX12_worthBy 45 3 48 (.invokevirtual 202) := ⟨by decide +kernel, rfl⟩
theorem dX12_worthBy_48 : dec cX12_worthBy 48 1 49 (.ireturn) := ⟨by decide +kernel, rfl⟩
set_option maxHeartbeats 4000000 in
set_option maxRecDepth 100000 in
theorem tX12_worthBy_J15 {X : Cx} {Y : Yx} {M0 : Mem} (hC : OKX X Y RX12 cX12_worthBy 5 (some .int) rmX12_worthBy) (hF : Y.2.2.2.2 = true) (hL : Lay M0) (Q : Int → Mem → Prop)   (a0 : Nat) (qa0 : 0 < a0 ∧ M0 0 a0 = kO 12)  (M : Mem) (h : wX12_worthBy_J15 Q  a0 M) : WW X Y 5 rmX12_worthBy (QI Q) M0 0 0 15 [(0, vR Y.1 a0)] [] M := by
  unfold wX12_worthBy_J15 at h
  refine r_aload_n hC 0 dX12_worthBy_15 rfl rfl ?_
  refine r_iconst hC dX12_worthBy_16 ?_
  refine r_callV (As := [vI 1]) (st := []) hC cw_X12_83 rfl qa0.1 qa0.2 rfl rfl (Nat.le_of_ble_eq_true rfl) ⟨Nat.le_of_ble_eq_true rfl, Nat.le_of_ble_eq_true rfl⟩ ⟨Nat.le_of_ble_eq_true rfl, Nat.le_of_ble_eq_true rfl⟩ dX12_worthBy_17 (fun hk => mX12_error Y hF _ _ _ _ _ (kqO hk qa0) h) (fun v M_3 h => ?_)
  obtain ⟨r_4, rfl, h⟩ := h
  exact r_iret hC (Nat.zero_le _) (Nat.zero_le _) dX12_worthBy_20 ⟨_, rfl, h⟩
set_option maxHeartbeats 4000000 in
set_option maxRecDepth 100000 in
theorem mX12_worthBy (Y : Yx) (hF : Y.2.2.2.2 = true) (l : Launch) (a0 : Nat) (x1 : Int) (x2 : Int) (x3 : Int) (M0 : Mem) (Q : Int → Mem → Prop) (qa0 : 0 < a0 ∧ M0 0 a0 = kO 12) (h : wX12_worthBy a0 x1 x2 x3 M0 Q) : CT Y l yX12_worthBy cX12_worthBy 5 (some .int) rmX12_worthBy [vR Y.1 a0, vI x1, vI x2, vI x3] M0 (QI Q) := by
  unfold wX12_worthBy at h
  refine ct_intro (by decide) (Nat.le_of_ble_eq_true rfl) ?_
  intro X hXl hC hL0
  have hL := hL0 hF
  change OKX X Y RX12 cX12_worthBy 5 (some .int) rmX12_worthBy at hC
  change WW X Y 5 rmX12_worthBy (QI Q) M0 0 0 0 [(0, vR Y.1 a0), (1, vI x1), (2, vI x2), (3, vI x3)] [] M0
  refine r_iload_n hC 1 dX12_worthBy_0 rfl rfl ?_
  refine r_callS (As := [vI x1]) (st := []) hC cw_X12_214 rfl rfl (Nat.le_of_ble_eq_true rfl) ⟨Nat.le_of_ble_eq_true rfl, Nat.le_of_ble_eq_true rfl⟩ ⟨Nat.le_of_ble_eq_true rfl, Nat.le_of_ble_eq_true rfl⟩ dX12_worthBy_1 (fun hk => mX12_isSheet Y hF _ _ _ _  h) (fun v M_1 h => ?_)
  obtain ⟨r_2, rfl, h⟩ := h
  refine r_if_eq hC 15 rfl dX12_worthBy_4 (by decide) (fun cq => ?_) (fun cq => ?_)
  · replace h := h.1 cq
    refine r_sub [0] rfl ?_
    exact tX12_worthBy_J15 hC hF hL Q   _ qa0  _ h
  · replace h := h.2 cq
    refine r_aload_n hC 0 dX12_worthBy_7 rfl rfl ?_
    refine r_iload_n hC 3 dX12_worthBy_8 rfl rfl ?_
    refine r_callV (As := [vI x3]) (st := []) hC cw_X12_98 rfl qa0.1 qa0.2 rfl rfl (Nat.le_of_ble_eq_true rfl) ⟨Nat.le_of_ble_eq_true rfl, Nat.le_of_ble_eq_true rfl⟩ ⟨Nat.le_of_ble_eq_true rfl, Nat.le_of_ble_eq_true rfl⟩ dX12_worthBy_9 (fun hk => mX12_isLiking Y hF _ _ _ _ _ (kqO hk qa0) h) (fun v M_5 h => ?_)
    obtain ⟨r_6, rfl, h⟩ := h
    refine r_if_ne hC 21 rfl dX12_worthBy_12 (by decide) (fun cq => ?_) (fun cq => ?_)
    · replace h := h.2 cq
      refine r_aload_n hC 0 dX12_worthBy_21 rfl rfl ?_
      refine r_iload_n hC 1 dX12_worthBy_22 rfl rfl ?_
      refine r_iload_n hC 2 dX12_worthBy_23 rfl rfl ?_
      refine r_callV (As := [vI x1, vI x2]) (st := []) hC cw_X12_217 rfl qa0.1 qa0.2 rfl rfl (Nat.le_of_ble_eq_true rfl) ⟨Nat.le_of_ble_eq_true rfl, Nat.le_of_ble_eq_true rfl⟩ ⟨Nat.le_of_ble_eq_true rfl, Nat.le_of_ble_eq_true rfl⟩ dX12_worthBy_24 (fun hk => mX12_take Y hF _ _ _ _ _ _ (kqO hk qa0) h) (fun v M_7 h => ?_)
      obtain ⟨r_8, rfl, h⟩ := h
      refine r_istore (lv' := [(4, vI r_8), (0, vR Y.1 a0), (1, vI x1), (2, vI x2), (3, vI x3)]) hC dX12_worthBy_27 (by decide) rfl ?_
      refine r_iload hC 0 dX12_worthBy_29 rfl ?_
      refine r_if_le hC 43 rfl dX12_worthBy_31 (by decide) (fun cq => ?_) (fun cq => ?_)
      · replace h := h.1 cq
        refine r_aload_n hC 1 dX12_worthBy_43 rfl rfl ?_
        refine r_iload_n hC 4 dX12_worthBy_44 rfl rfl ?_
        refine r_callV (As := [vI x3]) (st := []) hC cw_X12_202 rfl qa0.1 qa0.2 rfl rfl (Nat.le_of_ble_eq_true rfl) ⟨Nat.le_of_ble_eq_true rfl, Nat.le_of_ble_eq_true rfl⟩ ⟨Nat.le_of_ble_eq_true rfl, Nat.le_of_ble_eq_true rfl⟩ dX12_worthBy_45 (fun hk => mX12_by Y hF _ _ _ _ _ (kqO hk qa0) h) (fun v M_9 h => ?_)
        obtain ⟨r_10, rfl, h⟩ := h
        exact r_iret hC (Nat.zero_le _) (Nat.zero_le _) dX12_worthBy_48 ⟨_, rfl, h⟩
      · replace h := h.2 cq
        refine r_aload_n hC 1 dX12_worthBy_34 rfl rfl ?_
        refine r_iload hC 0 dX12_worthBy_35 rfl ?_
        refine r_callV (As := [vI r_8]) (st := []) hC cw_X12_83 rfl qa0.1 qa0.2 rfl rfl (Nat.le_of_ble_eq_true rfl) ⟨Nat.le_of_ble_eq_true rfl, Nat.le_of_ble_eq_true rfl⟩ ⟨Nat.le_of_ble_eq_true rfl, Nat.le_of_ble_eq_true rfl⟩ dX12_worthBy_37 (fun hk => mX12_error Y hF _ _ _ _ _ (kqO hk qa0) h) (fun v M_11 h => ?_)
        obtain ⟨r_12, rfl, h⟩ := h
        refine r_goto hC 48 dX12_worthBy_40 (by decide) ?_
        exact r_iret hC (Nat.zero_le _) (Nat.zero_le _) dX12_worthBy_48 ⟨_, rfl, h⟩
    · replace h := h.1 cq
      refine r_sub [0] rfl ?_
      exact tX12_worthBy_J15 hC hF hL Q   _ qa0  _ h
theorem dX12_tired_0 : dec cX12_tired 0 1 1 (.iload_n 1) := ⟨by decide +kernel, rfl⟩
theorem dX12_tired_1 : dec cX12_tired 1 3 4 (.invokestatic 214) := ⟨by decide +kernel, rfl⟩
theorem dX12_tired_4 : dec cX12_tired 4 3 7 (.ifCond .eq 13) := ⟨by decide +kernel, rfl⟩
theorem dX12_tired_7 : dec cX12_tired 7 1 8 (.iload_n 3) := ⟨by decide +kernel, rfl⟩
theorem dX12_tired_8 : dec cX12_tired 8 1 9 (.iconst 0) := ⟨by decide +kernel, rfl⟩
theorem dX12_tired_9 : dec cX12_tired 9 2 11 (.bipush 7) := ⟨by decide +kernel, rfl⟩
theorem dX12_tired_11 : dec cX12_tired 11 3 14 (.invokestatic 79) := ⟨by decide +kernel, rfl⟩
theorem dX12_tired_14 : dec cX12_tired 14 3 17 (.ifCond .ne 9) := ⟨by decide +kernel, rfl⟩
theorem dX12_tired_17 : dec cX12_tired 17 1 18 (.aload_n 0) := ⟨by decide +kernel, rfl⟩
theorem dX12_tired_18 : dec cX12_tired 18 1 19 (.iconst 1) := ⟨by decide +kernel, rfl⟩
theorem dX12_tired_19 : dec cX12_tired 19 3 22 (.invokevirtual 83) := ⟨by decide +kernel, rfl⟩
theorem dX12_tired_22 : dec cX12_tired 22 1 23 (.ireturn) := ⟨by decide +kernel, rfl⟩
theorem dX12_tired_23 : dec cX12_tired 23 1 24 (.aload_n 0) := ⟨by decide +kernel, rfl⟩
theorem dX12_tired_24 : dec cX12_tired 24 1 25 (.iload_n 1) := ⟨by decide +kernel, rfl⟩
theorem dX12_tired_25 : dec cX12_tired 25 1 26 (.iload_n 2) := ⟨by decide +kernel, rfl⟩
theorem dX12_tired_26 : dec cX12_tired 26 3 29 (.invokevirtual 217) := ⟨by decide +kernel, rfl⟩
theorem dX12_tired_29 : dec cX12_tired 29 2 31 (.istore 5) := ⟨by decide +kernel, rfl⟩
theorem dX12_tired_31 : dec cX12_tired 31 2 33 (.iload 5) := ⟨by decide +kernel, rfl⟩
theorem dX12_tired_33 : dec cX12_tired 33 3 36 (.ifCond .le 10) := ⟨by decide +kernel, rfl⟩
theorem dX12_tired_36 : dec cX12_tired 36 1 37 (.aload_n 0) := ⟨by decide +kernel, rfl⟩
theorem dX12_tired_37 : dec cX12_tired 37 2 39 (.iload 5) := ⟨by decide +kernel, rfl⟩
theorem dX12_tired_39 : dec cX12_tired 39 3 42 (.invokevirtual 83) := ⟨by decide +kernel, rfl⟩
theorem dX12_tired_42 : dec cX12_tired 42 1 43 (.ireturn) := ⟨by decide +kernel, rfl⟩
theorem dX12_tired_43 : dec cX12_tired 43 2 45 (.iload 4) := ⟨by decide +kernel, rfl⟩
theorem dX12_tired_45 : dec cX12_tired 45 1 46 (.iconst 0) := ⟨by decide +kernel, rfl⟩
theorem dX12_tired_46 : dec cX12_tired 46 1 47 (.aload_n 0) := ⟨by decide +kernel, rfl⟩
theorem dX12_tired_47 : dec cX12_tired 47 3 50 (.getfield 162) := ⟨by decide +kernel, rfl⟩
theorem dX12_tired_50 : dec cX12_tired 50 1 51 (.iconst 1) := ⟨by decide +kernel, rfl⟩
theorem dX12_tired_51 : dec cX12_tired 51 1 52 (.isub) := ⟨by decide +kernel, rfl⟩
theorem dX12_tired_52 : dec cX12_tired 52 3 55 (.invokestatic 79) := ⟨by decide +kernel, rfl⟩
theorem dX12_tired_55 : dec cX12_tired 55 3 58 (.ifCond .eq 18) := ⟨by decide +kernel, rfl⟩
theorem dX12_tired_58 : dec cX12_tired 58 1 59 (.aload_n 0) := ⟨by decide +kernel, rfl⟩
theorem dX12_tired_59 : dec cX12_tired 59 3 62 (.getfield 37) := ⟨by decide +kernel, rfl⟩
theorem dX12_tired_62 : dec cX12_tired 62 2 64 (.bipush 8) := ⟨by decide +kernel, rfl⟩
theorem dX12_tired_64 : dec cX12_tired 64 2 66 (.iload 4) := ⟨by decide +kernel, rfl⟩
theorem dX12_tired_66 : dec cX12_tired 66 1 67 (.imul) := ⟨by decide +kernel, rfl⟩
theorem dX12_tired_67 : dec cX12_tired 67 1 68 (.iload_n 3) := ⟨by decide +kernel, rfl⟩
theorem dX12_tired_68 : dec cX12_tired 68 1 69 (.iadd) := ⟨by decide +kernel, rfl⟩
theorem dX12_tired_69 : dec cX12_tired 69 1 70 (.iaload) := ⟨by decide +kernel, rfl⟩
theorem dX12_tired_70 : dec cX12_tired 70 3 73 (.goto 8) := ⟨by decide +kernel, rfl⟩
theorem dX12_tired_73 : dec cX12_tired 73 1 74 (.aload_n 0) := ⟨by decide +kernel, rfl⟩
theorem dX12_tired_74 : dec cX12_tired 74 1 75 (.iconst 1) := ⟨by decide +kernel, rfl⟩
theorem dX12_tired_75 : dec cX12_tired 75 3 78 (.invokevirtual 83) := ⟨by decide +kernel, rfl⟩
theorem dX12_tired_78 : dec cX12_tired 78 1 79 (.ireturn) := ⟨by decide +kernel, rfl⟩
set_option maxHeartbeats 4000000 in
set_option maxRecDepth 100000 in
theorem tX12_tired_J17 {X : Cx} {Y : Yx} {M0 : Mem} (hC : OKX X Y RX12 cX12_tired 6 (some .int) rmX12_tired) (hF : Y.2.2.2.2 = true) (hL : Lay M0) (Q : Int → Mem → Prop)   (a0 : Nat) (qa0 : 0 < a0 ∧ M0 0 a0 = kO 12)  (M : Mem) (h : wX12_tired_J17 Q  a0 M) : WW X Y 6 rmX12_tired (QI Q) M0 0 0 17 [(0, vR Y.1 a0)] [] M := by
  unfold wX12_tired_J17 at h
  refine r_aload_n hC 0 dX12_tired_17 rfl rfl ?_
  refine r_iconst hC dX12_tired_18 ?_
  refine r_callV (As := [vI 1]) (st := []) hC cw_X12_83 rfl qa0.1 qa0.2 rfl rfl (Nat.le_of_ble_eq_true rfl) ⟨Nat.le_of_ble_eq_true rfl, Nat.le_of_ble_eq_true rfl⟩ ⟨Nat.le_of_ble_eq_true rfl, Nat.le_of_ble_eq_true rfl⟩ dX12_tired_19 (fun hk => mX12_error Y hF _ _ _ _ _ (kqO hk qa0) h) (fun v M_3 h => ?_)
  obtain ⟨r_4, rfl, h⟩ := h
  exact r_iret hC (Nat.zero_le _) (Nat.zero_le _) dX12_tired_22 ⟨_, rfl, h⟩
set_option maxHeartbeats 4000000 in
set_option maxRecDepth 100000 in
theorem mX12_tired (Y : Yx) (hF : Y.2.2.2.2 = true) (l : Launch) (a0 : Nat) (x1 : Int) (x2 : Int) (x3 : Int) (x4 : Int) (M0 : Mem) (Q : Int → Mem → Prop) (qa0 : 0 < a0 ∧ M0 0 a0 = kO 12) (h : wX12_tired a0 x1 x2 x3 x4 M0 Q) : CT Y l yX12_tired cX12_tired 6 (some .int) rmX12_tired [vR Y.1 a0, vI x1, vI x2, vI x3, vI x4] M0 (QI Q) := by
  unfold wX12_tired at h
  refine ct_intro (by decide) (Nat.le_of_ble_eq_true rfl) ?_
  intro X hXl hC hL0
  have hL := hL0 hF
  change OKX X Y RX12 cX12_tired 6 (some .int) rmX12_tired at hC
  change WW X Y 6 rmX12_tired (QI Q) M0 0 0 0 [(0, vR Y.1 a0), (1, vI x1), (2, vI x2), (3, vI x3), (4, vI x4)] [] M0
  refine r_iload_n hC 1 dX12_tired_0 rfl rfl ?_
  refine r_callS (As := [vI x1]) (st := []) hC cw_X12_214 rfl rfl (Nat.le_of_ble_eq_true rfl) ⟨Nat.le_of_ble_eq_true rfl, Nat.le_of_ble_eq_true rfl⟩ ⟨Nat.le_of_ble_eq_true rfl, Nat.le_of_ble_eq_true rfl⟩ dX12_tired_1 (fun hk => mX12_isSheet Y hF _ _ _ _  h) (fun v M_1 h => ?_)
  obtain ⟨r_2, rfl, h⟩ := h
  refine r_if_eq hC 17 rfl dX12_tired_4 (by decide) (fun cq => ?_) (fun cq => ?_)
  · replace h := h.1 cq
    refine r_sub [0] rfl ?_
    exact tX12_tired_J17 hC hF hL Q   _ qa0  _ h
  · replace h := h.2 cq
    refine r_iload_n hC 3 dX12_tired_7 rfl rfl ?_
    refine r_iconst hC dX12_tired_8 ?_
    refine r_bipush hC (by decide +kernel) dX12_tired_9 ?_
    refine r_callS (As := [vI x3, vI 0, vI 7]) (st := []) hC cw_X12_79 rfl rfl (Nat.le_of_ble_eq_true rfl) ⟨Nat.le_of_ble_eq_true rfl, Nat.le_of_ble_eq_true rfl⟩ ⟨Nat.le_of_ble_eq_true rfl, Nat.le_of_ble_eq_true rfl⟩ dX12_tired_11 (fun hk => mX12_in Y hF _ _ _ _ _ _  h) (fun v M_5 h => ?_)
    obtain ⟨r_6, rfl, h⟩ := h
    refine r_if_ne hC 23 rfl dX12_tired_14 (by decide) (fun cq => ?_) (fun cq => ?_)
    · replace h := h.2 cq
      refine r_aload_n hC 0 dX12_tired_23 rfl rfl ?_
      refine r_iload_n hC 1 dX12_tired_24 rfl rfl ?_
      refine r_iload_n hC 2 dX12_tired_25 rfl rfl ?_
      refine r_callV (As := [vI x1, vI x2]) (st := []) hC cw_X12_217 rfl qa0.1 qa0.2 rfl rfl (Nat.le_of_ble_eq_true rfl) ⟨Nat.le_of_ble_eq_true rfl, Nat.le_of_ble_eq_true rfl⟩ ⟨Nat.le_of_ble_eq_true rfl, Nat.le_of_ble_eq_true rfl⟩ dX12_tired_26 (fun hk => mX12_take Y hF _ _ _ _ _ _ (kqO hk qa0) h) (fun v M_7 h => ?_)
      obtain ⟨r_8, rfl, h⟩ := h
      refine r_istore (lv' := [(5, vI r_8), (0, vR Y.1 a0), (1, vI x1), (2, vI x2), (3, vI x3), (4, vI x4)]) hC dX12_tired_29 (by decide) rfl ?_
      refine r_iload hC 0 dX12_tired_31 rfl ?_
      refine r_if_le hC 43 rfl dX12_tired_33 (by decide) (fun cq => ?_) (fun cq => ?_)
      · replace h := h.1 cq
        refine r_iload hC 5 dX12_tired_43 rfl ?_
        refine r_iconst hC dX12_tired_45 ?_
        refine r_aload_n hC 1 dX12_tired_46 rfl rfl ?_
        refine r_getI hC fg_X12_162 rfl qa0.1 qa0.2 dX12_tired_47 ?_
        refine r_iconst hC dX12_tired_50 ?_
        refine r_isub hC dX12_tired_51 ?_
        refine r_callS (As := [vI x4, vI 0, vI ((M_7 a0 13) - 1)]) (st := []) hC cw_X12_79 rfl rfl (Nat.le_of_ble_eq_true rfl) ⟨Nat.le_of_ble_eq_true rfl, Nat.le_of_ble_eq_true rfl⟩ ⟨Nat.le_of_ble_eq_true rfl, Nat.le_of_ble_eq_true rfl⟩ dX12_tired_52 (fun hk => mX12_in Y hF _ _ _ _ _ _  h) (fun v M_9 h => ?_)
        obtain ⟨r_10, rfl, h⟩ := h
        refine r_if_eq hC 73 rfl dX12_tired_55 (by decide) (fun cq => ?_) (fun cq => ?_)
        · replace h := h.1 cq
          refine r_aload_n hC 1 dX12_tired_73 rfl rfl ?_
          refine r_iconst hC dX12_tired_74 ?_
          refine r_callV (As := [vI 1]) (st := []) hC cw_X12_83 rfl qa0.1 qa0.2 rfl rfl (Nat.le_of_ble_eq_true rfl) ⟨Nat.le_of_ble_eq_true rfl, Nat.le_of_ble_eq_true rfl⟩ ⟨Nat.le_of_ble_eq_true rfl, Nat.le_of_ble_eq_true rfl⟩ dX12_tired_75 (fun hk => mX12_error Y hF _ _ _ _ _ (kqO hk qa0) h) (fun v M_11 h => ?_)
          obtain ⟨r_12, rfl, h⟩ := h
          exact r_iret hC (Nat.zero_le _) (Nat.zero_le _) dX12_tired_78 ⟨_, rfl, h⟩
        · replace h := h.2 cq
          refine r_aload_n hC 1 dX12_tired_58 rfl rfl ?_
          have q_13 : 0 < a0 + 10 ∧ M0 0 (a0 + 10) = kA 0 96 := lay_f0 (a := a0) hL qa0 fm_12_17
          refine r_getR0 (a' := a0 + 10) hC fg_X12_37 rfl hF fm_12_17 qa0.1 qa0.2 rfl dX12_tired_59 ?_
          refine r_bipush hC (by decide +kernel) dX12_tired_62 ?_
          refine r_iload hC 5 dX12_tired_64 rfl ?_
          refine r_imul hC dX12_tired_66 ?_
          refine r_iload_n hC 4 dX12_tired_67 rfl rfl ?_
          refine r_iadd hC dX12_tired_68 ?_
          obtain ⟨i_14, h⟩ := h
          refine r_iald hC i_14 q_13.1 q_13.2 (by decide) dX12_tired_69 ?_
          refine r_goto hC 78 dX12_tired_70 (by decide) ?_
          exact r_iret hC (Nat.zero_le _) (Nat.zero_le _) dX12_tired_78 ⟨_, rfl, h⟩
      · replace h := h.2 cq
        refine r_aload_n hC 1 dX12_tired_36 rfl rfl ?_
        refine r_iload hC 0 dX12_tired_37 rfl ?_
        refine r_callV (As := [vI r_8]) (st := []) hC cw_X12_83 rfl qa0.1 qa0.2 rfl rfl (Nat.le_of_ble_eq_true rfl) ⟨Nat.le_of_ble_eq_true rfl, Nat.le_of_ble_eq_true rfl⟩ ⟨Nat.le_of_ble_eq_true rfl, Nat.le_of_ble_eq_true rfl⟩ dX12_tired_39 (fun hk => mX12_error Y hF _ _ _ _ _ (kqO hk qa0) h) (fun v M_15 h => ?_)
        obtain ⟨r_16, rfl, h⟩ := h
        exact r_iret hC (Nat.zero_le _) (Nat.zero_le _) dX12_tired_42 ⟨_, rfl, h⟩
    · replace h := h.1 cq
      refine r_sub [0] rfl ?_
      exact tX12_tired_J17 hC hF hL Q   _ qa0  _ h
theorem dX12_judge_0 : dec cX12_judge 0 1 1 (.iload_n 1) := ⟨by decide +kernel, rfl⟩
theorem dX12_judge_1 : dec cX12_judge 1 3 4 (.invokestatic 214) := ⟨by decide +kernel, rfl⟩
theorem dX12_judge_4 : dec cX12_judge 4 3 7 (.ifCond .eq 12) := ⟨by decide +kernel, rfl⟩
theorem dX12_judge_7 : dec cX12_judge 7 1 8 (.iload_n 3) := ⟨by decide +kernel, rfl⟩
theorem dX12_judge_8 : dec cX12_judge 8 1 9 (.iconst 0) := ⟨by decide +kernel, rfl⟩
theorem dX12_judge_9 : dec cX12_judge 9 1 10 (.iconst 4) := ⟨by decide +kernel, rfl⟩
theorem dX12_judge_10 : dec cX12_judge 10 3 13 (.invokestatic 79) := ⟨by decide +kernel, rfl⟩
theorem dX12_judge_13 : dec cX12_judge 13 3 16 (.ifCond .ne 9) := ⟨by decide +kernel, rfl⟩
theorem dX12_judge_16 : dec cX12_judge 16 1 17 (.aload_n 0) := ⟨by decide +kernel, rfl⟩
theorem dX12_judge_17 : dec cX12_judge 17 1 18 (.iconst 1) := ⟨by decide +kernel, rfl⟩
theorem dX12_judge_18 : dec cX12_judge 18 3 21 (.invokevirtual 83) := ⟨by decide +kernel, rfl⟩
theorem dX12_judge_21 : dec cX12_judge 21 1 22 (.ireturn) := ⟨by decide +kernel, rfl⟩
theorem dX12_judge_22 : dec cX12_judge 22 1 23 (.aload_n 0) := ⟨by decide +kernel, rfl⟩
theorem dX12_judge_23 : dec cX12_judge 23 1 24 (.iload_n 1) := ⟨by decide +kernel, rfl⟩
theorem dX12_judge_24 : dec cX12_judge 24 1 25 (.iload_n 2) := ⟨by decide +kernel, rfl⟩
theorem dX12_judge_25 : dec cX12_judge 25 3 28 (.invokevirtual 217) := ⟨by decide +kernel, rfl⟩
theorem dX12_judge_28 : dec cX12_judge 28 2 30 (.istore 4) := ⟨by decide +kernel, rfl⟩
theorem dX12_judge_30 : dec cX12_judge 30 2 32 (.iload 4) := ⟨by decide +kernel, rfl⟩
theorem dX12_judge_32 : dec cX12_judge 32 3 35 (.ifCond .le 10) := ⟨by decide +kernel, rfl⟩
theorem dX12_judge_35 : dec cX12_judge 35 1 36 (.aload_n 0) := ⟨by decide +kernel, rfl⟩
theorem dX12_judge_36 : dec cX12_judge 36 2 38 (.iload 4) := ⟨by decide +kernel, rfl⟩
theorem dX12_judge_38 : dec cX12_judge 38 3 41 (.invokevirtual 83) := ⟨by decide +kernel, rfl⟩
theorem dX12_judge_41 : dec cX12_judge 41 1 42 (.ireturn) := ⟨by decide +kernel, rfl⟩
theorem dX12_judge_42 : dec cX12_judge 42 1 43 (.iload_n 3) := ⟨by decide +kernel, rfl⟩
theorem dX12_judge_43 : dec cX12_judge 43 29 72 (.tableswitch 100 0 3 #[29, 41, 90, 95]) := ⟨by decide +kernel, rfl⟩
theorem dX12_judge_72 : dec cX12_judge 72 1 73 (.aload_n 0) := ⟨by decide +kernel, rfl⟩
theorem dX12_judge_73 : dec cX12_judge 73 3 76 (.getfield 34) := ⟨by decide +kernel, rfl⟩
theorem dX12_judge_76 : dec cX12_judge 76 1 77 (.aload_n 0) := ⟨by decide +kernel, rfl⟩
theorem dX12_judge_77 : dec cX12_judge 77 3 80 (.getfield 162) := ⟨by decide +kernel, rfl⟩
theorem dX12_judge_80 : dec cX12_judge 80 1 81 (.iconst 1) := ⟨by decide +kernel, rfl⟩
theorem dX12_judge_81 : dec cX12_judge 81 1 82 (.isub) := ⟨by decide +kernel, rfl⟩
theorem dX12_judge_82 : dec cX12_judge 82 1 83 (.iaload) := ⟨by decide +kernel, rfl⟩
theorem dX12_judge_83 : dec cX12_judge 83 1 84 (.ireturn) := ⟨by decide +kernel, rfl⟩
theorem dX12_judge_84 : dec cX12_judge 84 1 85 (.iconst 0) := ⟨by decide +kernel, rfl⟩
theorem dX12_judge_85 : dec cX12_judge 85 2 87 (.istore 5) := ⟨by decide +kernel, rfl⟩
theorem dX12_judge_87 : dec cX12_judge 87 1 88 (.iconst 1) := ⟨by decide +kernel, rfl⟩
theorem dX12_judge_88 : dec cX12_judge 88 2 90 (.istore 6) := ⟨by decide +kernel, rfl⟩
theorem dX12_judge_90 : dec cX12_judge 90 2 92 (.iload 6) := ⟨by decide +kernel, rfl⟩
theorem dX12_judge_92 : dec cX12_judge 92 1 93 (.aload_n 0) := ⟨by decide +kernel, rfl⟩
theorem dX12_judge_93 : dec cX12_judge 93 3 96 (.getfield 162) := ⟨by decide +kernel, rfl⟩
theorem dX12_judge_96 : dec cX12_judge 96 3 99 (.if_icmp .ge 34) := ⟨by decide +kernel, rfl⟩
theorem dX12_judge_99 : dec cX12_judge 99 2 101 (.iload 5) := ⟨by decide +kernel, rfl⟩
theorem dX12_judge_101 : dec cX12_judge 101 1 102 (.aload_n 0) := ⟨by decide +kernel, rfl⟩
theorem dX12_judge_102 : dec cX12_judge 102 1 103 (.aload_n 0) := ⟨by decide +kernel, rfl⟩
theorem dX12_judge_103 : dec cX12_judge 103 3 106 (.getfield 28) := ⟨by decide +kernel, rfl⟩
theorem dX12_judge_106 : dec cX12_judge 106 2 108 (.iload 6) := ⟨by decide +kernel, rfl⟩
theorem dX12_judge_108 : dec cX12_judge 108 1 109 (.iconst 1) := ⟨by decide +kernel, rfl⟩
theorem dX12_judge_109 : dec cX12_judge 109 1 110 (.isub) := ⟨by decide +kernel, rfl⟩
theorem dX12_judge_110 : dec cX12_judge 110 1 111 (.iaload) := ⟨by decide +kernel, rfl⟩
theorem dX12_judge_111 : dec cX12_judge 111 1 112 (.aload_n 0) := ⟨by decide +kernel, rfl⟩
theorem dX12_judge_112 : dec cX12_judge 112 3 115 (.getfield 28) := ⟨by decide +kernel, rfl⟩
theorem dX12_judge_115 : dec cX12_judge 115 2 117 (.iload 6) := ⟨by decide +kernel, rfl⟩
theorem dX12_judge_117 : dec cX12_judge 117 1 118 (.iaload) := ⟨by decide +kernel, rfl⟩
theorem dX12_judge_118 : dec cX12_judge 118 3 121 (.invokevirtual 168) := ⟨by decide +kernel, rfl⟩
theorem dX12_judge_121 : dec cX12_judge 121 1 122 (.iadd) := ⟨by decide +kernel, rfl⟩
theorem dX12_judge_122 : dec cX12_judge 122 2 124 (.istore 5) := ⟨by decide +kernel, rfl⟩
theorem dX12_judge_124 : dec cX12_judge 124 3 127 (.iinc 6 1) := ⟨by decide +kernel, rfl⟩
theorem dX12_judge_127 : dec cX12_judge 127 3 130 (.goto (-37)) := ⟨by decide +kernel, rfl⟩
theorem dX12_judge_130 : dec cX12_judge 130 2 132 (.iload 5) := ⟨by decide +kernel, rfl⟩
theorem dX12_judge_132 : dec cX12_judge 132 1 133 (.ireturn) := ⟨by decide +kernel, rfl⟩
theorem dX12_judge_133 : dec cX12_judge 133 1 134 (.aload_n 0) := ⟨by decide +kernel, rfl⟩
theorem dX12_judge_134 : dec cX12_judge 134 3 137 (.invokevirtual 180) := ⟨by decide +kernel, rfl⟩
theorem dX12_judge_137 : dec cX12_judge 137 1 138 (.ireturn) := ⟨by decide +kernel, rfl⟩
theorem dX12_judge_138 : dec cX12_judge 138 1 139 (.aload_n 0) := ⟨by decide +kernel, rfl⟩
theorem dX12_judge_139 : dec cX12_judge 139 3 142 (.invokevirtual 183) := ⟨by decide +kernel, rfl⟩
theorem dX12_judge_142 : dec cX12_judge 142 1 143 (.ireturn) := ⟨by decide +kernel, rfl⟩
theorem dX12_judge_143 : dec cX12_judge 143 1 144 (.aload_n 0) := ⟨by decide +kernel, rfl⟩
theorem dX12_judge_144 : dec cX12_judge 144 3 147 (.invokevirtual 228) := ⟨by decide +kernel, rfl⟩
theorem dX12_judge_147 : dec cX12_judge 147 3 150 (.ifCond .eq 7) := ⟨by decide +kernel, rfl⟩
theorem dX12_judge_150 : dec cX12_judge 150 1 151 (.iconst 1) := ⟨by decide +kernel, rfl⟩
theorem dX12_judge_151 : dec cX12_judge 151 3 154 (.goto 4) := ⟨by decide +kernel, rfl⟩
theorem dX12_judge_154 : dec cX12_judge 154 1 155 (.iconst 0) := ⟨by decide +kernel, rfl⟩
theorem dX12_judge_155 : dec cX12_judge 155 1 156 (.ireturn) := ⟨by decide +kernel, rfl⟩
set_option maxHeartbeats 4000000 in
set_option maxRecDepth 100000 in
theorem tX12_judge_J16 {X : Cx} {Y : Yx} {M0 : Mem} (hC : OKX X Y RX12 cX12_judge 7 (some .int) rmX12_judge) (hF : Y.2.2.2.2 = true) (hL : Lay M0) (Q : Int → Mem → Prop)   (a0 : Nat) (qa0 : 0 < a0 ∧ M0 0 a0 = kO 12)  (M : Mem) (h : wX12_judge_J16 Q  a0 M) : WW X Y 7 rmX12_judge (QI Q) M0 0 0 16 [(0, vR Y.1 a0)] [] M := by
  unfold wX12_judge_J16 at h
  refine r_aload_n hC 0 dX12_judge_16 rfl rfl ?_
  refine r_iconst hC dX12_judge_17 ?_
  refine r_callV (As := [vI 1]) (st := []) hC cw_X12_83 rfl qa0.1 qa0.2 rfl rfl (Nat.le_of_ble_eq_true rfl) ⟨Nat.le_of_ble_eq_true rfl, Nat.le_of_ble_eq_true rfl⟩ ⟨Nat.le_of_ble_eq_true rfl, Nat.le_of_ble_eq_true rfl⟩ dX12_judge_18 (fun hk => mX12_error Y hF _ _ _ _ _ (kqO hk qa0) h) (fun v M_3 h => ?_)
  obtain ⟨r_4, rfl, h⟩ := h
  exact r_iret hC (Nat.zero_le _) (Nat.zero_le _) dX12_judge_21 ⟨_, rfl, h⟩
set_option maxHeartbeats 4000000 in
set_option maxRecDepth 100000 in
theorem tX12_judge_L90 {X : Cx} {Y : Yx} {M0 : Mem} (hC : OKX X Y RX12 cX12_judge 7 (some .int) rmX12_judge) (hF : Y.2.2.2.2 = true) (hL : Lay M0) (Q : Int → Mem → Prop)  (a0 : Nat) (qa0 : 0 < a0 ∧ M0 0 a0 = kO 12)  : ∀ (N : Nat) (x5 : Int) (x6 : Int) (M : Mem) (_ : wX12_judge_L90 Q  a0 N x5 x6 M), WW X Y 7 rmX12_judge (QI Q) M0 0 0 90 [(0, vR Y.1 a0), (5, vI x5), (6, vI x6)] [] M := by
  intro N
  induction N with
  | zero =>
    intro x5 x6 M h
    exact h.elim
  | succ N ih =>
    intro x5 x6 M h
    unfold wX12_judge_L90 at h
    refine r_iload hC 2 dX12_judge_90 rfl ?_
    refine r_aload_n hC 0 dX12_judge_92 rfl rfl ?_
    refine r_getI hC fg_X12_162 rfl qa0.1 qa0.2 dX12_judge_93 ?_
    refine r_icmp_ge hC 130 rfl rfl dX12_judge_96 (by decide) (fun cq => ?_) (fun cq => ?_)
    · replace h := h.1 cq
      refine r_iload hC 1 dX12_judge_130 rfl ?_
      exact r_iret hC (Nat.zero_le _) (Nat.zero_le _) dX12_judge_132 ⟨_, rfl, h⟩
    · replace h := h.2 cq
      refine r_iload hC 1 dX12_judge_99 rfl ?_
      refine r_aload_n hC 0 dX12_judge_101 rfl rfl ?_
      refine r_aload_n hC 0 dX12_judge_102 rfl rfl ?_
      have q_11 : 0 < a0 + 7 ∧ M0 0 (a0 + 7) = kA 0 12 := lay_f0 (a := a0) hL qa0 fm_12_12
      refine r_getR0 (a' := a0 + 7) hC fg_X12_28 rfl hF fm_12_12 qa0.1 qa0.2 rfl dX12_judge_103 ?_
      refine r_iload hC 2 dX12_judge_106 rfl ?_
      refine r_iconst hC dX12_judge_108 ?_
      refine r_isub hC dX12_judge_109 ?_
      obtain ⟨i_12, h⟩ := h
      refine r_iald hC i_12 q_11.1 q_11.2 (by decide) dX12_judge_110 ?_
      refine r_aload_n hC 0 dX12_judge_111 rfl rfl ?_
      have q_13 : 0 < a0 + 7 ∧ M0 0 (a0 + 7) = kA 0 12 := lay_f0 (a := a0) hL qa0 fm_12_12
      refine r_getR0 (a' := a0 + 7) hC fg_X12_28 rfl hF fm_12_12 qa0.1 qa0.2 rfl dX12_judge_112 ?_
      refine r_iload hC 2 dX12_judge_115 rfl ?_
      obtain ⟨i_14, h⟩ := h
      refine r_iald hC i_14 q_13.1 q_13.2 (by decide) dX12_judge_117 ?_
      refine r_callV (As := [vI (rd M (a0 + 7) (x6 - 1)), vI (rd M (a0 + 7) x6)]) (st := [vI x5]) hC cw_X12_168 rfl qa0.1 qa0.2 rfl rfl (Nat.le_of_ble_eq_true rfl) ⟨Nat.le_of_ble_eq_true rfl, Nat.le_of_ble_eq_true rfl⟩ ⟨Nat.le_of_ble_eq_true rfl, Nat.le_of_ble_eq_true rfl⟩ dX12_judge_118 (fun hk => mX12_carried Y hF _ _ _ _ _ _ (kqO hk qa0) h) (fun v M_15 h => ?_)
      obtain ⟨r_16, rfl, h⟩ := h
      refine r_iadd hC dX12_judge_121 ?_
      refine r_nameI h (fun x5_17 h => ?_)
      refine r_istore (lv' := [(5, vI x5_17), (0, vR Y.1 a0), (6, vI x6)]) hC dX12_judge_122 (by decide) rfl ?_
      refine let_elim h (fun x6_18 e_19 h => ?_)
      refine r_iinc (lv' := [(6, vI x6_18), (5, vI x5_17), (0, vR Y.1 a0)]) hC 2 dX12_judge_124 rfl (by decide) e_19 rfl ?_
      refine r_goto hC 90 dX12_judge_127 (by decide) ?_
      refine r_sub [2, 1, 0] rfl ?_
      exact ih _ _ _ h
set_option maxHeartbeats 4000000 in
set_option maxRecDepth 100000 in
theorem mX12_judge (Y : Yx) (hF : Y.2.2.2.2 = true) (l : Launch) (a0 : Nat) (x1 : Int) (x2 : Int) (x3 : Int) (M0 : Mem) (Q : Int → Mem → Prop) (qa0 : 0 < a0 ∧ M0 0 a0 = kO 12) (h : wX12_judge a0 x1 x2 x3 M0 Q) : CT Y l yX12_judge cX12_judge 7 (some .int) rmX12_judge [vR Y.1 a0, vI x1, vI x2, vI x3] M0 (QI Q) := by
  unfold wX12_judge at h
  refine ct_intro (by decide) (Nat.le_of_ble_eq_true rfl) ?_
  intro X hXl hC hL0
  have hL := hL0 hF
  change OKX X Y RX12 cX12_judge 7 (some .int) rmX12_judge at hC
  change WW X Y 7 rmX12_judge (QI Q) M0 0 0 0 [(0, vR Y.1 a0), (1, vI x1), (2, vI x2), (3, vI x3)] [] M0
  refine r_iload_n hC 1 dX12_judge_0 rfl rfl ?_
  refine r_callS (As := [vI x1]) (st := []) hC cw_X12_214 rfl rfl (Nat.le_of_ble_eq_true rfl) ⟨Nat.le_of_ble_eq_true rfl, Nat.le_of_ble_eq_true rfl⟩ ⟨Nat.le_of_ble_eq_true rfl, Nat.le_of_ble_eq_true rfl⟩ dX12_judge_1 (fun hk => mX12_isSheet Y hF _ _ _ _  h) (fun v M_1 h => ?_)
  obtain ⟨r_2, rfl, h⟩ := h
  refine r_if_eq hC 16 rfl dX12_judge_4 (by decide) (fun cq => ?_) (fun cq => ?_)
  · replace h := h.1 cq
    refine r_sub [0] rfl ?_
    exact tX12_judge_J16 hC hF hL Q   _ qa0  _ h
  · replace h := h.2 cq
    refine r_iload_n hC 3 dX12_judge_7 rfl rfl ?_
    refine r_iconst hC dX12_judge_8 ?_
    refine r_iconst hC dX12_judge_9 ?_
    refine r_callS (As := [vI x3, vI 0, vI 4]) (st := []) hC cw_X12_79 rfl rfl (Nat.le_of_ble_eq_true rfl) ⟨Nat.le_of_ble_eq_true rfl, Nat.le_of_ble_eq_true rfl⟩ ⟨Nat.le_of_ble_eq_true rfl, Nat.le_of_ble_eq_true rfl⟩ dX12_judge_10 (fun hk => mX12_in Y hF _ _ _ _ _ _  h) (fun v M_5 h => ?_)
    obtain ⟨r_6, rfl, h⟩ := h
    refine r_if_ne hC 22 rfl dX12_judge_13 (by decide) (fun cq => ?_) (fun cq => ?_)
    · replace h := h.2 cq
      refine r_aload_n hC 0 dX12_judge_22 rfl rfl ?_
      refine r_iload_n hC 1 dX12_judge_23 rfl rfl ?_
      refine r_iload_n hC 2 dX12_judge_24 rfl rfl ?_
      refine r_callV (As := [vI x1, vI x2]) (st := []) hC cw_X12_217 rfl qa0.1 qa0.2 rfl rfl (Nat.le_of_ble_eq_true rfl) ⟨Nat.le_of_ble_eq_true rfl, Nat.le_of_ble_eq_true rfl⟩ ⟨Nat.le_of_ble_eq_true rfl, Nat.le_of_ble_eq_true rfl⟩ dX12_judge_25 (fun hk => mX12_take Y hF _ _ _ _ _ _ (kqO hk qa0) h) (fun v M_7 h => ?_)
      obtain ⟨r_8, rfl, h⟩ := h
      refine r_istore (lv' := [(4, vI r_8), (0, vR Y.1 a0), (1, vI x1), (2, vI x2), (3, vI x3)]) hC dX12_judge_28 (by decide) rfl ?_
      refine r_iload hC 0 dX12_judge_30 rfl ?_
      refine r_if_le hC 42 rfl dX12_judge_32 (by decide) (fun cq => ?_) (fun cq => ?_)
      · replace h := h.1 cq
        refine r_iload_n hC 4 dX12_judge_42 rfl rfl ?_
        by_cases c0 : bm x3 = 0
        · replace h := h.1 c0
          refine r_tabIn hC 72 0 dX12_judge_43 c0 (by decide) (by decide) rfl (by decide) ?_
          refine r_aload_n hC 1 dX12_judge_72 rfl rfl ?_
          have q_9 : 0 < a0 + 9 ∧ M0 0 (a0 + 9) = kA 0 12 := lay_f0 (a := a0) hL qa0 fm_12_16
          refine r_getR0 (a' := a0 + 9) hC fg_X12_34 rfl hF fm_12_16 qa0.1 qa0.2 rfl dX12_judge_73 ?_
          refine r_aload_n hC 1 dX12_judge_76 rfl rfl ?_
          refine r_getI hC fg_X12_162 rfl qa0.1 qa0.2 dX12_judge_77 ?_
          refine r_iconst hC dX12_judge_80 ?_
          refine r_isub hC dX12_judge_81 ?_
          obtain ⟨i_10, h⟩ := h
          refine r_iald hC i_10 q_9.1 q_9.2 (by decide) dX12_judge_82 ?_
          exact r_iret hC (Nat.zero_le _) (Nat.zero_le _) dX12_judge_83 ⟨_, rfl, h⟩
        · replace h := h.2 c0
          by_cases c1 : bm x3 = 1
          · replace h := h.1 c1
            refine r_tabIn hC 84 1 dX12_judge_43 c1 (by decide) (by decide) rfl (by decide) ?_
            refine r_iconst hC dX12_judge_84 ?_
            refine r_istore (lv' := [(5, vI 0), (4, vI r_8), (0, vR Y.1 a0), (1, vI x1), (2, vI x2), (3, vI x3)]) hC dX12_judge_85 (by decide) rfl ?_
            refine r_iconst hC dX12_judge_87 ?_
            refine r_istore (lv' := [(6, vI 1), (5, vI 0), (4, vI r_8), (0, vR Y.1 a0), (1, vI x1), (2, vI x2), (3, vI x3)]) hC dX12_judge_88 (by decide) rfl ?_
            refine r_sub [3, 1, 0] rfl ?_
            obtain ⟨N_20, h⟩ := h
            refine tX12_judge_L90 hC hF hL Q  _ qa0  N_20 _ _ _ h
          · replace h := h.2 c1
            by_cases c2 : bm x3 = 2
            · replace h := h.1 c2
              refine r_tabIn hC 133 2 dX12_judge_43 c2 (by decide) (by decide) rfl (by decide) ?_
              refine r_aload_n hC 1 dX12_judge_133 rfl rfl ?_
              refine r_callV (As := []) (st := []) hC cw_X12_180 rfl qa0.1 qa0.2 rfl rfl (Nat.le_of_ble_eq_true rfl) ⟨Nat.le_of_ble_eq_true rfl, Nat.le_of_ble_eq_true rfl⟩ ⟨Nat.le_of_ble_eq_true rfl, Nat.le_of_ble_eq_true rfl⟩ dX12_judge_134 (fun hk => mX12_greatestTired Y hF _ _ _ _ (kqO hk qa0) h) (fun v M_21 h => ?_)
              obtain ⟨r_22, rfl, h⟩ := h
              exact r_iret hC (Nat.zero_le _) (Nat.zero_le _) dX12_judge_137 ⟨_, rfl, h⟩
            · replace h := h.2 c2
              by_cases c3 : bm x3 = 3
              · replace h := h.1 c3
                refine r_tabIn hC 138 3 dX12_judge_43 c3 (by decide) (by decide) rfl (by decide) ?_
                refine r_aload_n hC 1 dX12_judge_138 rfl rfl ?_
                refine r_callV (As := []) (st := []) hC cw_X12_183 rfl qa0.1 qa0.2 rfl rfl (Nat.le_of_ble_eq_true rfl) ⟨Nat.le_of_ble_eq_true rfl, Nat.le_of_ble_eq_true rfl⟩ ⟨Nat.le_of_ble_eq_true rfl, Nat.le_of_ble_eq_true rfl⟩ dX12_judge_139 (fun hk => mX12_broken Y hF _ _ _ _ (kqO hk qa0) h) (fun v M_23 h => ?_)
                obtain ⟨r_24, rfl, h⟩ := h
                exact r_iret hC (Nat.zero_le _) (Nat.zero_le _) dX12_judge_142 ⟨_, rfl, h⟩
              · replace h := h.2 c3
                refine r_tabOut hC 143 dX12_judge_43 (by omega) (by decide) ?_
                refine r_aload_n hC 1 dX12_judge_143 rfl rfl ?_
                refine r_callV (As := []) (st := []) hC cw_X12_228 rfl qa0.1 qa0.2 rfl rfl (Nat.le_of_ble_eq_true rfl) ⟨Nat.le_of_ble_eq_true rfl, Nat.le_of_ble_eq_true rfl⟩ ⟨Nat.le_of_ble_eq_true rfl, Nat.le_of_ble_eq_true rfl⟩ dX12_judge_144 (fun hk => mX12_isGood Y hF _ _ _ _ (kqO hk qa0) h) (fun v M_25 h => ?_)
                obtain ⟨r_26, rfl, h⟩ := h
                refine r_if_eq hC 154 rfl dX12_judge_147 (by decide) (fun cq => ?_) (fun cq => ?_)
                · replace h := h.1 cq
                  refine r_iconst hC dX12_judge_154 ?_
                  exact r_iret hC (Nat.zero_le _) (Nat.zero_le _) dX12_judge_155 ⟨_, rfl, h⟩
                · replace h := h.2 cq
                  refine r_iconst hC dX12_judge_150 ?_
                  refine r_goto hC 155 dX12_judge_151 (by decide) ?_
                  exact r_iret hC (Nat.zero_le _) (Nat.zero_le _) dX12_judge_155 ⟨_, rfl, h⟩
      · replace h := h.2 cq
        refine r_aload_n hC 1 dX12_judge_35 rfl rfl ?_
        refine r_iload hC 0 dX12_judge_36 rfl ?_
        refine r_callV (As := [vI r_8]) (st := []) hC cw_X12_83 rfl qa0.1 qa0.2 rfl rfl (Nat.le_of_ble_eq_true rfl) ⟨Nat.le_of_ble_eq_true rfl, Nat.le_of_ble_eq_true rfl⟩ ⟨Nat.le_of_ble_eq_true rfl, Nat.le_of_ble_eq_true rfl⟩ dX12_judge_38 (fun hk => mX12_error Y hF _ _ _ _ _ (kqO hk qa0) h) (fun v M_27 h => ?_)
        obtain ⟨r_28, rfl, h⟩ := h
        exact r_iret hC (Nat.zero_le _) (Nat.zero_le _) dX12_judge_41 ⟨_, rfl, h⟩
    · replace h := h.1 cq
      refine r_sub [0] rfl ?_
      exact tX12_judge_J16 hC hF hL Q   _ qa0  _ h
theorem dX12_begins_0 : dec cX12_begins 0 1 1 (.iload_n 1) := ⟨by decide +kernel, rfl⟩
theorem dX12_begins_1 : dec cX12_begins 1 3 4 (.invokestatic 214) := ⟨by decide +kernel, rfl⟩
theorem dX12_begins_4 : dec cX12_begins 4 3 7 (.ifCond .ne 9) := ⟨by decide +kernel, rfl⟩
theorem dX12_begins_7 : dec cX12_begins 7 1 8 (.aload_n 0) := ⟨by decide +kernel, rfl⟩
theorem dX12_begins_8 : dec cX12_begins 8 1 9 (.iconst 1) := ⟨by decide +kernel, rfl⟩
theorem dX12_begins_9 : dec cX12_begins 9 3 12 (.invokevirtual 83) := ⟨by decide +kernel, rfl⟩
theorem dX12_begins_12 : dec cX12_begins 12 1 13 (.ireturn) := ⟨by decide +kernel, rfl⟩
theorem dX12_begins_13 : dec cX12_begins 13 1 14 (.aload_n 0) := ⟨by decide +kernel, rfl⟩
theorem dX12_begins_14 : dec cX12_begins 14 1 15 (.iload_n 1) := ⟨by decide +kernel, rfl⟩
theorem dX12_begins_15 : dec cX12_begins 15 1 16 (.iload_n 2) := ⟨by decide +kernel, rfl⟩
theorem dX12_begins_16 : dec cX12_begins 16 3 19 (.invokevirtual 217) := ⟨by decide +kernel, rfl⟩
theorem dX12_begins_19 : dec cX12_begins 19 2 21 (.istore 4) := ⟨by decide +kernel, rfl⟩
theorem dX12_begins_21 : dec cX12_begins 21 2 23 (.iload 4) := ⟨by decide +kernel, rfl⟩
theorem dX12_begins_23 : dec cX12_begins 23 3 26 (.ifCond .le 10) := ⟨by decide +kernel, rfl⟩
theorem dX12_begins_26 : dec cX12_begins 26 1 27 (.aload_n 0) := ⟨by decide +kernel, rfl⟩
theorem dX12_begins_27 : dec cX12_begins 27 2 29 (.iload 4) := ⟨by decide +kernel, rfl⟩
theorem dX12_begins_29 : dec cX12_begins 29 3 32 (.invokevirtual 83) := ⟨by decide +kernel, rfl⟩
theorem dX12_begins_32 : dec cX12_begins 32 1 33 (.ireturn) := ⟨by decide +kernel, rfl⟩
theorem dX12_begins_33 : dec cX12_begins 33 1 34 (.iload_n 3) := ⟨by decide +kernel, rfl⟩
theorem dX12_begins_34 : dec cX12_begins 34 1 35 (.iconst 0) := ⟨by decide +kernel, rfl⟩
theorem dX12_begins_35 : dec cX12_begins 35 1 36 (.aload_n 0) := ⟨by decide +kernel, rfl⟩
theorem dX12_begins_36 : dec cX12_begins 36 3 39 (.getfield 162) := ⟨by decide +kernel, rfl⟩
theorem dX12_begins_39 : dec cX12_begins 39 1 40 (.iconst 1) := ⟨by decide +kernel, rfl⟩
theorem dX12_begins_40 : dec cX12_begins 40 1 41 (.isub) := ⟨by decide +kernel, rfl⟩
theorem dX12_begins_41 : dec cX12_begins 41 3 44 (.invokestatic 79) := ⟨by decide +kernel, rfl⟩
theorem dX12_begins_44 : dec cX12_begins 44 3 47 (.ifCond .eq 12) := ⟨by decide +kernel, rfl⟩
theorem dX12_begins_47 : dec cX12_begins 47 1 48 (.aload_n 0) := ⟨by decide +kernel, rfl⟩
theorem dX12_begins_48 : dec cX12_begins 48 3 51 (.getfield 31) := ⟨by decide +kernel, rfl⟩
theorem dX12_begins_51 : dec cX12_begins 51 1 52 (.iload_n 3) := ⟨by decide +kernel, rfl⟩
theorem dX12_begins_52 : dec cX12_begins 52 1 53 (.iaload) := ⟨by decide +kernel, rfl⟩
theorem dX12_begins_53 : dec cX12_begins 53 3 56 (.goto 8) := ⟨by decide +kernel, rfl⟩
theorem dX12_begins_56 : dec cX12_begins 56 1 57 (.aload_n 0) := ⟨by decide +kernel, rfl⟩
theorem dX12_begins_57 : dec cX12_begins 57 1 58 (.iconst 1) := ⟨by decide +kernel, rfl⟩
theorem dX12_begins_58 : dec cX12_begins 58 3 61 (.invokevirtual 83) := ⟨by decide +kernel, rfl⟩
theorem dX12_begins_61 : dec cX12_begins 61 1 62 (.ireturn) := ⟨by decide +kernel, rfl⟩
set_option maxHeartbeats 4000000 in
set_option maxRecDepth 100000 in
theorem mX12_begins (Y : Yx) (hF : Y.2.2.2.2 = true) (l : Launch) (a0 : Nat) (x1 : Int) (x2 : Int) (x3 : Int) (M0 : Mem) (Q : Int → Mem → Prop) (qa0 : 0 < a0 ∧ M0 0 a0 = kO 12) (h : wX12_begins a0 x1 x2 x3 M0 Q) : CT Y l yX12_begins cX12_begins 5 (some .int) rmX12_begins [vR Y.1 a0, vI x1, vI x2, vI x3] M0 (QI Q) := by
  unfold wX12_begins at h
  refine ct_intro (by decide) (Nat.le_of_ble_eq_true rfl) ?_
  intro X hXl hC hL0
  have hL := hL0 hF
  change OKX X Y RX12 cX12_begins 5 (some .int) rmX12_begins at hC
  change WW X Y 5 rmX12_begins (QI Q) M0 0 0 0 [(0, vR Y.1 a0), (1, vI x1), (2, vI x2), (3, vI x3)] [] M0
  refine r_iload_n hC 1 dX12_begins_0 rfl rfl ?_
  refine r_callS (As := [vI x1]) (st := []) hC cw_X12_214 rfl rfl (Nat.le_of_ble_eq_true rfl) ⟨Nat.le_of_ble_eq_true rfl, Nat.le_of_ble_eq_true rfl⟩ ⟨Nat.le_of_ble_eq_true rfl, Nat.le_of_ble_eq_true rfl⟩ dX12_begins_1 (fun hk => mX12_isSheet Y hF _ _ _ _  h) (fun v M_1 h => ?_)
  obtain ⟨r_2, rfl, h⟩ := h
  refine r_if_ne hC 13 rfl dX12_begins_4 (by decide) (fun cq => ?_) (fun cq => ?_)
  · replace h := h.2 cq
    refine r_aload_n hC 0 dX12_begins_13 rfl rfl ?_
    refine r_iload_n hC 1 dX12_begins_14 rfl rfl ?_
    refine r_iload_n hC 2 dX12_begins_15 rfl rfl ?_
    refine r_callV (As := [vI x1, vI x2]) (st := []) hC cw_X12_217 rfl qa0.1 qa0.2 rfl rfl (Nat.le_of_ble_eq_true rfl) ⟨Nat.le_of_ble_eq_true rfl, Nat.le_of_ble_eq_true rfl⟩ ⟨Nat.le_of_ble_eq_true rfl, Nat.le_of_ble_eq_true rfl⟩ dX12_begins_16 (fun hk => mX12_take Y hF _ _ _ _ _ _ (kqO hk qa0) h) (fun v M_3 h => ?_)
    obtain ⟨r_4, rfl, h⟩ := h
    refine r_istore (lv' := [(4, vI r_4), (0, vR Y.1 a0), (1, vI x1), (2, vI x2), (3, vI x3)]) hC dX12_begins_19 (by decide) rfl ?_
    refine r_iload hC 0 dX12_begins_21 rfl ?_
    refine r_if_le hC 33 rfl dX12_begins_23 (by decide) (fun cq => ?_) (fun cq => ?_)
    · replace h := h.1 cq
      refine r_iload_n hC 4 dX12_begins_33 rfl rfl ?_
      refine r_iconst hC dX12_begins_34 ?_
      refine r_aload_n hC 1 dX12_begins_35 rfl rfl ?_
      refine r_getI hC fg_X12_162 rfl qa0.1 qa0.2 dX12_begins_36 ?_
      refine r_iconst hC dX12_begins_39 ?_
      refine r_isub hC dX12_begins_40 ?_
      refine r_callS (As := [vI x3, vI 0, vI ((M_3 a0 13) - 1)]) (st := []) hC cw_X12_79 rfl rfl (Nat.le_of_ble_eq_true rfl) ⟨Nat.le_of_ble_eq_true rfl, Nat.le_of_ble_eq_true rfl⟩ ⟨Nat.le_of_ble_eq_true rfl, Nat.le_of_ble_eq_true rfl⟩ dX12_begins_41 (fun hk => mX12_in Y hF _ _ _ _ _ _  h) (fun v M_5 h => ?_)
      obtain ⟨r_6, rfl, h⟩ := h
      refine r_if_eq hC 56 rfl dX12_begins_44 (by decide) (fun cq => ?_) (fun cq => ?_)
      · replace h := h.1 cq
        refine r_aload_n hC 1 dX12_begins_56 rfl rfl ?_
        refine r_iconst hC dX12_begins_57 ?_
        refine r_callV (As := [vI 1]) (st := []) hC cw_X12_83 rfl qa0.1 qa0.2 rfl rfl (Nat.le_of_ble_eq_true rfl) ⟨Nat.le_of_ble_eq_true rfl, Nat.le_of_ble_eq_true rfl⟩ ⟨Nat.le_of_ble_eq_true rfl, Nat.le_of_ble_eq_true rfl⟩ dX12_begins_58 (fun hk => mX12_error Y hF _ _ _ _ _ (kqO hk qa0) h) (fun v M_7 h => ?_)
        obtain ⟨r_8, rfl, h⟩ := h
        exact r_iret hC (Nat.zero_le _) (Nat.zero_le _) dX12_begins_61 ⟨_, rfl, h⟩
      · replace h := h.2 cq
        refine r_aload_n hC 1 dX12_begins_47 rfl rfl ?_
        have q_9 : 0 < a0 + 8 ∧ M0 0 (a0 + 8) = kA 0 12 := lay_f0 (a := a0) hL qa0 fm_12_15
        refine r_getR0 (a' := a0 + 8) hC fg_X12_31 rfl hF fm_12_15 qa0.1 qa0.2 rfl dX12_begins_48 ?_
        refine r_iload_n hC 4 dX12_begins_51 rfl rfl ?_
        obtain ⟨i_10, h⟩ := h
        refine r_iald hC i_10 q_9.1 q_9.2 (by decide) dX12_begins_52 ?_
        refine r_goto hC 61 dX12_begins_53 (by decide) ?_
        exact r_iret hC (Nat.zero_le _) (Nat.zero_le _) dX12_begins_61 ⟨_, rfl, h⟩
    · replace h := h.2 cq
      refine r_aload_n hC 1 dX12_begins_26 rfl rfl ?_
      refine r_iload hC 0 dX12_begins_27 rfl ?_
      refine r_callV (As := [vI r_4]) (st := []) hC cw_X12_83 rfl qa0.1 qa0.2 rfl rfl (Nat.le_of_ble_eq_true rfl) ⟨Nat.le_of_ble_eq_true rfl, Nat.le_of_ble_eq_true rfl⟩ ⟨Nat.le_of_ble_eq_true rfl, Nat.le_of_ble_eq_true rfl⟩ dX12_begins_29 (fun hk => mX12_error Y hF _ _ _ _ _ (kqO hk qa0) h) (fun v M_11 h => ?_)
      obtain ⟨r_12, rfl, h⟩ := h
      exact r_iret hC (Nat.zero_le _) (Nat.zero_le _) dX12_begins_32 ⟨_, rfl, h⟩
  · replace h := h.1 cq
    refine r_aload_n hC 0 dX12_begins_7 rfl rfl ?_
    refine r_iconst hC dX12_begins_8 ?_
    refine r_callV (As := [vI 1]) (st := []) hC cw_X12_83 rfl qa0.1 qa0.2 rfl rfl (Nat.le_of_ble_eq_true rfl) ⟨Nat.le_of_ble_eq_true rfl, Nat.le_of_ble_eq_true rfl⟩ ⟨Nat.le_of_ble_eq_true rfl, Nat.le_of_ble_eq_true rfl⟩ dX12_begins_9 (fun hk => mX12_error Y hF _ _ _ _ _ (kqO hk qa0) h) (fun v M_13 h => ?_)
    obtain ⟨r_14, rfl, h⟩ := h
    exact r_iret hC (Nat.zero_le _) (Nat.zero_le _) dX12_begins_12 ⟨_, rfl, h⟩
theorem dX12_firstOrder_0 : dec cX12_firstOrder 0 1 1 (.aload_n 0) := ⟨by decide +kernel, rfl⟩
theorem dX12_firstOrder_1 : dec cX12_firstOrder 1 1 2 (.iconst 0) := ⟨by decide +kernel, rfl⟩
theorem dX12_firstOrder_2 : dec cX12_firstOrder 2 3 5 (.putfield 162) := ⟨by decide +kernel, rfl⟩
theorem dX12_firstOrder_5 : dec cX12_firstOrder 5 1 6 (.iconst 0) := ⟨by decide +kernel, rfl⟩
theorem dX12_firstOrder_6 : dec cX12_firstOrder 6 1 7 (.istore_n 2) := ⟨by decide +kernel, rfl⟩
theorem dX12_firstOrder_7 : dec cX12_firstOrder 7 1 8 (.iload_n 2) := ⟨by decide +kernel, rfl⟩
theorem dX12_firstOrder_8 : dec cX12_firstOrder 8 2 10 (.bipush 12) := ⟨by decide +kernel, rfl⟩
theorem dX12_firstOrder_10 : dec cX12_firstOrder 10 3 13 (.if_icmp .ge 38) := ⟨by decide +kernel, rfl⟩
theorem dX12_firstOrder_13 : dec cX12_firstOrder 13 1 14 (.iload_n 1) := ⟨by decide +kernel, rfl⟩
theorem dX12_firstOrder_14 : dec cX12_firstOrder 14 1 15 (.iload_n 2) := ⟨by decide +kernel, rfl⟩
theorem dX12_firstOrder_15 : dec cX12_firstOrder 15 1 16 (.ishr) := ⟨by decide +kernel, rfl⟩
theorem dX12_firstOrder_16 : dec cX12_firstOrder 16 1 17 (.iconst 1) := ⟨by decide +kernel, rfl⟩
theorem dX12_firstOrder_17 : dec cX12_firstOrder 17 1 18 (.iand) := ⟨by decide +kernel, rfl⟩
theorem dX12_firstOrder_18 : dec cX12_firstOrder 18 1 19 (.iconst 1) := ⟨by decide +kernel, rfl⟩
theorem dX12_firstOrder_19 : dec cX12_firstOrder 19 3 22 (.if_icmp .ne 23) := ⟨by decide +kernel, rfl⟩
theorem dX12_firstOrder_22 : dec cX12_firstOrder 22 1 23 (.aload_n 0) := ⟨by decide +kernel, rfl⟩
theorem dX12_firstOrder_23 : dec cX12_firstOrder 23 3 26 (.getfield 28) := ⟨by decide +kernel, rfl⟩
theorem dX12_firstOrder_26 : dec cX12_firstOrder 26 1 27 (.aload_n 0) := ⟨by decide +kernel, rfl⟩
theorem dX12_firstOrder_27 : dec cX12_firstOrder 27 3 30 (.getfield 162) := ⟨by decide +kernel, rfl⟩
theorem dX12_firstOrder_30 : dec cX12_firstOrder 30 1 31 (.iload_n 2) := ⟨by decide +kernel, rfl⟩
theorem dX12_firstOrder_31 : dec cX12_firstOrder 31 1 32 (.iastore) := ⟨by decide +kernel, rfl⟩
theorem dX12_firstOrder_32 : dec cX12_firstOrder 32 1 33 (.aload_n 0) := ⟨by decide +kernel, rfl⟩
theorem dX12_firstOrder_33 : dec cX12_firstOrder 33 1 34 (.dup) := ⟨by decide +kernel, rfl⟩
theorem dX12_firstOrder_34 : dec cX12_firstOrder 34 3 37 (.getfield 162) := ⟨by decide +kernel, rfl⟩
theorem dX12_firstOrder_37 : dec cX12_firstOrder 37 1 38 (.iconst 1) := ⟨by decide +kernel, rfl⟩
theorem dX12_firstOrder_38 : dec cX12_firstOrder 38 1 39 (.iadd) := ⟨by decide +kernel, rfl⟩
theorem dX12_firstOrder_39 : dec cX12_firstOrder 39 3 42 (.putfield 162) := ⟨by decide +kernel, rfl⟩
theorem dX12_firstOrder_42 : dec cX12_firstOrder 42 3 45 (.iinc 2 1) := ⟨by decide +kernel, rfl⟩
theorem dX12_firstOrder_45 : dec cX12_firstOrder 45 3 48 (.goto (-38)) := ⟨by decide +kernel, rfl⟩
theorem dX12_firstOrder_48 : dec cX12_firstOrder 48 1 49 (.return_) := ⟨by decide +kernel, rfl⟩
set_option maxHeartbeats 4000000 in
set_option maxRecDepth 100000 in
theorem tX12_firstOrder_L7 {X : Cx} {Y : Yx} {M0 : Mem} (hC : OKX X Y RX12 cX12_firstOrder 3 none rmX12_firstOrder) (hF : Y.2.2.2.2 = true) (hL : Lay M0) (Q : Mem → Prop)  (a0 : Nat) (x1 : Int) (qa0 : 0 < a0 ∧ M0 0 a0 = kO 12)  : ∀ (N : Nat) (x2 : Int) (M : Mem) (_ : wX12_firstOrder_L7 Q  a0 x1 N x2 M), WW X Y 3 rmX12_firstOrder (QV Q) M0 0 0 7 [(0, vR Y.1 a0), (1, vI x1), (2, vI x2)] [] M := by
  intro N
  induction N with
  | zero =>
    intro x2 M h
    exact h.elim
  | succ N ih =>
    intro x2 M h
    unfold wX12_firstOrder_L7 at h
    refine r_iload_n hC 2 dX12_firstOrder_7 rfl rfl ?_
    refine r_bipush hC (by decide +kernel) dX12_firstOrder_8 ?_
    refine r_icmp_ge hC 48 rfl bmL_12 dX12_firstOrder_10 (by decide) (fun cq => ?_) (fun cq => ?_)
    · replace h := h.1 cq
      exact r_vret hC (Nat.zero_le _) (Nat.zero_le _) dX12_firstOrder_48 ⟨rfl, h⟩
    · replace h := h.2 cq
      refine r_iload_n hC 1 dX12_firstOrder_13 rfl rfl ?_
      refine r_iload_n hC 2 dX12_firstOrder_14 rfl rfl ?_
      refine r_ishr hC dX12_firstOrder_15 ?_
      refine r_iconst hC dX12_firstOrder_16 ?_
      refine r_iand hC dX12_firstOrder_17 ?_
      refine r_iconst hC dX12_firstOrder_18 ?_
      refine r_icmp_ne hC 42 rfl bmL_1 dX12_firstOrder_19 (by decide) (fun cq => ?_) (fun cq => ?_)
      · replace h := h.2 cq
        refine let_elim h (fun x2_2 e_3 h => ?_)
        refine r_iinc (lv' := [(2, vI x2_2), (0, vR Y.1 a0), (1, vI x1)]) hC 2 dX12_firstOrder_42 rfl (by decide) e_3 rfl ?_
        refine r_goto hC 7 dX12_firstOrder_45 (by decide) ?_
        refine r_sub [1, 2, 0] rfl ?_
        exact ih _ _ h
      · replace h := h.1 cq
        refine r_aload_n hC 0 dX12_firstOrder_22 rfl rfl ?_
        have q_4 : 0 < a0 + 7 ∧ M0 0 (a0 + 7) = kA 0 12 := lay_f0 (a := a0) hL qa0 fm_12_12
        refine r_getR0 (a' := a0 + 7) hC fg_X12_28 rfl hF fm_12_12 qa0.1 qa0.2 rfl dX12_firstOrder_23 ?_
        refine r_aload_n hC 0 dX12_firstOrder_26 rfl rfl ?_
        refine r_getI hC fg_X12_162 rfl qa0.1 qa0.2 dX12_firstOrder_27 ?_
        refine r_iload_n hC 2 dX12_firstOrder_30 rfl rfl ?_
        obtain ⟨i_5, h⟩ := h
        refine r_iast hC i_5 q_4.1 q_4.2 (by decide) dX12_firstOrder_31 ?_
        refine r_nameM h (fun M_6 h => ?_)
        refine r_aload_n hC 0 dX12_firstOrder_32 rfl rfl ?_
        refine r_dup hC rfl dX12_firstOrder_33 ?_
        refine r_getI hC fg_X12_162 rfl qa0.1 qa0.2 dX12_firstOrder_34 ?_
        refine r_iconst hC dX12_firstOrder_37 ?_
        refine r_iadd hC dX12_firstOrder_38 ?_
        refine r_putI hC fp_X12_162 rfl qa0.1 qa0.2 dX12_firstOrder_39 ?_
        refine r_nameM h (fun M_7 h => ?_)
        refine let_elim h (fun x2_8 e_9 h => ?_)
        refine r_iinc (lv' := [(2, vI x2_8), (0, vR Y.1 a0), (1, vI x1)]) hC 2 dX12_firstOrder_42 rfl (by decide) e_9 rfl ?_
        refine r_goto hC 7 dX12_firstOrder_45 (by decide) ?_
        refine r_sub [1, 2, 0] rfl ?_
        exact ih _ _ h
set_option maxHeartbeats 4000000 in
set_option maxRecDepth 100000 in
theorem mX12_firstOrder (Y : Yx) (hF : Y.2.2.2.2 = true) (l : Launch) (a0 : Nat) (x1 : Int) (M0 : Mem) (Q : Mem → Prop) (qa0 : 0 < a0 ∧ M0 0 a0 = kO 12) (h : wX12_firstOrder a0 x1 M0 Q) : CT Y l yX12_firstOrder cX12_firstOrder 3 none rmX12_firstOrder [vR Y.1 a0, vI x1] M0 (QV Q) := by
  unfold wX12_firstOrder at h
  refine ct_intro (by decide) (Nat.le_of_ble_eq_true rfl) ?_
  intro X hXl hC hL0
  have hL := hL0 hF
  change OKX X Y RX12 cX12_firstOrder 3 none rmX12_firstOrder at hC
  change WW X Y 3 rmX12_firstOrder (QV Q) M0 0 0 0 [(0, vR Y.1 a0), (1, vI x1)] [] M0
  refine r_aload_n hC 0 dX12_firstOrder_0 rfl rfl ?_
  refine r_iconst hC dX12_firstOrder_1 ?_
  refine r_putI hC fp_X12_162 rfl qa0.1 qa0.2 dX12_firstOrder_2 ?_
  refine r_nameM h (fun M_1 h => ?_)
  refine r_iconst hC dX12_firstOrder_5 ?_
  refine r_istore_n (lv' := [(2, vI 0), (0, vR Y.1 a0), (1, vI x1)]) hC dX12_firstOrder_6 rfl (by decide) rfl ?_
  refine r_sub [1, 2, 0] rfl ?_
  obtain ⟨N_10, h⟩ := h
  refine tX12_firstOrder_L7 hC hF hL Q  _ _ qa0  N_10 _ _ h
theorem dX12_swap_0 : dec cX12_swap 0 1 1 (.aload_n 0) := ⟨by decide +kernel, rfl⟩
theorem dX12_swap_1 : dec cX12_swap 1 3 4 (.getfield 28) := ⟨by decide +kernel, rfl⟩
theorem dX12_swap_4 : dec cX12_swap 4 1 5 (.iload_n 1) := ⟨by decide +kernel, rfl⟩
theorem dX12_swap_5 : dec cX12_swap 5 1 6 (.iaload) := ⟨by decide +kernel, rfl⟩
theorem dX12_swap_6 : dec cX12_swap 6 1 7 (.istore_n 3) := ⟨by decide +kernel, rfl⟩
theorem dX12_swap_7 : dec cX12_swap 7 1 8 (.aload_n 0) := ⟨by decide +kernel, rfl⟩
theorem dX12_swap_8 : dec cX12_swap 8 3 11 (.getfield 28) := ⟨by decide +kernel, rfl⟩
theorem dX12_swap_11 : dec cX12_swap 11 1 12 (.iload_n 1) := ⟨by decide +kernel, rfl⟩
theorem dX12_swap_12 : dec cX12_swap 12 1 13 (.aload_n 0) := ⟨by decide +kernel, rfl⟩
theorem dX12_swap_13 : dec cX12_swap 13 3 16 (.getfield 28) := ⟨by decide +kernel, rfl⟩
theorem dX12_swap_16 : dec cX12_swap 16 1 17 (.iload_n 2) := ⟨by decide +kernel, rfl⟩
theorem dX12_swap_17 : dec cX12_swap 17 1 18 (.iaload) := ⟨by decide +kernel, rfl⟩
theorem dX12_swap_18 : dec cX12_swap 18 1 19 (.iastore) := ⟨by decide +kernel, rfl⟩
theorem dX12_swap_19 : dec cX12_swap 19 1 20 (.aload_n 0) := ⟨by decide +kernel, rfl⟩
theorem dX12_swap_20 : dec cX12_swap 20 3 23 (.getfield 28) := ⟨by decide +kernel, rfl⟩
theorem dX12_swap_23 : dec cX12_swap 23 1 24 (.iload_n 2) := ⟨by decide +kernel, rfl⟩
theorem dX12_swap_24 : dec cX12_swap 24 1 25 (.iload_n 3) := ⟨by decide +kernel, rfl⟩
theorem dX12_swap_25 : dec cX12_swap 25 1 26 (.iastore) := ⟨by decide +kernel, rfl⟩
theorem dX12_swap_26 : dec cX12_swap 26 1 27 (.return_) := ⟨by decide +kernel, rfl⟩
set_option maxHeartbeats 4000000 in
set_option maxRecDepth 100000 in
theorem mX12_swap (Y : Yx) (hF : Y.2.2.2.2 = true) (l : Launch) (a0 : Nat) (x1 : Int) (x2 : Int) (M0 : Mem) (Q : Mem → Prop) (qa0 : 0 < a0 ∧ M0 0 a0 = kO 12) (h : wX12_swap a0 x1 x2 M0 Q) : CT Y l yX12_swap cX12_swap 4 none rmX12_swap [vR Y.1 a0, vI x1, vI x2] M0 (QV Q) := by
  unfold wX12_swap at h
  refine ct_intro (by decide) (Nat.le_of_ble_eq_true rfl) ?_
  intro X hXl hC hL0
  have hL := hL0 hF
  change OKX X Y RX12 cX12_swap 4 none rmX12_swap at hC
  change WW X Y 4 rmX12_swap (QV Q) M0 0 0 0 [(0, vR Y.1 a0), (1, vI x1), (2, vI x2)] [] M0
  refine r_aload_n hC 0 dX12_swap_0 rfl rfl ?_
  have q_1 : 0 < a0 + 7 ∧ M0 0 (a0 + 7) = kA 0 12 := lay_f0 (a := a0) hL qa0 fm_12_12
  refine r_getR0 (a' := a0 + 7) hC fg_X12_28 rfl hF fm_12_12 qa0.1 qa0.2 rfl dX12_swap_1 ?_
  refine r_iload_n hC 1 dX12_swap_4 rfl rfl ?_
  obtain ⟨i_2, h⟩ := h
  refine r_iald hC i_2 q_1.1 q_1.2 (by decide) dX12_swap_5 ?_
  refine r_nameI h (fun x3_3 h => ?_)
  refine r_istore_n (lv' := [(3, vI x3_3), (0, vR Y.1 a0), (1, vI x1), (2, vI x2)]) hC dX12_swap_6 rfl (by decide) rfl ?_
  refine r_aload_n hC 1 dX12_swap_7 rfl rfl ?_
  have q_4 : 0 < a0 + 7 ∧ M0 0 (a0 + 7) = kA 0 12 := lay_f0 (a := a0) hL qa0 fm_12_12
  refine r_getR0 (a' := a0 + 7) hC fg_X12_28 rfl hF fm_12_12 qa0.1 qa0.2 rfl dX12_swap_8 ?_
  refine r_iload_n hC 2 dX12_swap_11 rfl rfl ?_
  refine r_aload_n hC 1 dX12_swap_12 rfl rfl ?_
  have q_5 : 0 < a0 + 7 ∧ M0 0 (a0 + 7) = kA 0 12 := lay_f0 (a := a0) hL qa0 fm_12_12
  refine r_getR0 (a' := a0 + 7) hC fg_X12_28 rfl hF fm_12_12 qa0.1 qa0.2 rfl dX12_swap_13 ?_
  refine r_iload_n hC 3 dX12_swap_16 rfl rfl ?_
  obtain ⟨i_6, h⟩ := h
  refine r_iald hC i_6 q_5.1 q_5.2 (by decide) dX12_swap_17 ?_
  obtain ⟨i_7, h⟩ := h
  refine r_iast hC i_7 q_4.1 q_4.2 (by decide) dX12_swap_18 ?_
  refine r_nameM h (fun M_8 h => ?_)
  refine r_aload_n hC 1 dX12_swap_19 rfl rfl ?_
  have q_9 : 0 < a0 + 7 ∧ M0 0 (a0 + 7) = kA 0 12 := lay_f0 (a := a0) hL qa0 fm_12_12
  refine r_getR0 (a' := a0 + 7) hC fg_X12_28 rfl hF fm_12_12 qa0.1 qa0.2 rfl dX12_swap_20 ?_
  refine r_iload_n hC 3 dX12_swap_23 rfl rfl ?_
  refine r_iload_n hC 0 dX12_swap_24 rfl rfl ?_
  obtain ⟨i_10, h⟩ := h
  refine r_iast hC i_10 q_9.1 q_9.2 (by decide) dX12_swap_25 ?_
  refine r_nameM h (fun M_11 h => ?_)
  exact r_vret hC (Nat.zero_le _) (Nat.zero_le _) dX12_swap_26 ⟨rfl, h⟩
theorem dX12_nextOrder_0 : dec cX12_nextOrder 0 1 1 (.aload_n 0) := ⟨by decide +kernel, rfl⟩
theorem dX12_nextOrder_1 : dec cX12_nextOrder 1 3 4 (.getfield 162) := ⟨by decide +kernel, rfl⟩
theorem dX12_nextOrder_4 : dec cX12_nextOrder 4 1 5 (.iconst 2) := ⟨by decide +kernel, rfl⟩
theorem dX12_nextOrder_5 : dec cX12_nextOrder 5 1 6 (.isub) := ⟨by decide +kernel, rfl⟩
theorem dX12_nextOrder_6 : dec cX12_nextOrder 6 1 7 (.istore_n 1) := ⟨by decide +kernel, rfl⟩
theorem dX12_nextOrder_7 : dec cX12_nextOrder 7 1 8 (.iload_n 1) := ⟨by decide +kernel, rfl⟩
theorem dX12_nextOrder_8 : dec cX12_nextOrder 8 3 11 (.ifCond .lt 26) := ⟨by decide +kernel, rfl⟩
theorem dX12_nextOrder_11 : dec cX12_nextOrder 11 1 12 (.aload_n 0) := ⟨by decide +kernel, rfl⟩
theorem dX12_nextOrder_12 : dec cX12_nextOrder 12 3 15 (.getfield 28) := ⟨by decide +kernel, rfl⟩
theorem dX12_nextOrder_15 : dec cX12_nextOrder 15 1 16 (.iload_n 1) := ⟨by decide +kernel, rfl⟩
theorem dX12_nextOrder_16 : dec cX12_nextOrder 16 1 17 (.iaload) := ⟨by decide +kernel, rfl⟩
theorem dX12_nextOrder_17 : dec cX12_nextOrder 17 1 18 (.aload_n 0) := ⟨by decide +kernel, rfl⟩
theorem dX12_nextOrder_18 : dec cX12_nextOrder 18 3 21 (.getfield 28) := ⟨by decide +kernel, rfl⟩
theorem dX12_nextOrder_21 : dec cX12_nextOrder 21 1 22 (.iload_n 1) := ⟨by decide +kernel, rfl⟩
theorem dX12_nextOrder_22 : dec cX12_nextOrder 22 1 23 (.iconst 1) := ⟨by decide +kernel, rfl⟩
theorem dX12_nextOrder_23 : dec cX12_nextOrder 23 1 24 (.iadd) := ⟨by decide +kernel, rfl⟩
theorem dX12_nextOrder_24 : dec cX12_nextOrder 24 1 25 (.iaload) := ⟨by decide +kernel, rfl⟩
theorem dX12_nextOrder_25 : dec cX12_nextOrder 25 3 28 (.if_icmp .le 9) := ⟨by decide +kernel, rfl⟩
theorem dX12_nextOrder_28 : dec cX12_nextOrder 28 3 31 (.iinc 1 (-1)) := ⟨by decide +kernel, rfl⟩
theorem dX12_nextOrder_31 : dec cX12_nextOrder 31 3 34 (.goto (-24)) := ⟨by decide +kernel, rfl⟩
theorem dX12_nextOrder_34 : dec cX12_nextOrder 34 1 35 (.iload_n 1) := ⟨by decide +kernel, rfl⟩
theorem dX12_nextOrder_35 : dec cX12_nextOrder 35 3 38 (.ifCond .ge 5) := ⟨by decide +kernel, rfl⟩
theorem dX12_nextOrder_38 : dec cX12_nextOrder 38 1 39 (.iconst 0) := ⟨by decide +kernel, rfl⟩
theorem dX12_nextOrder_39 : dec cX12_nextOrder 39 1 40 (.ireturn) := ⟨by decide +kernel, rfl⟩
theorem dX12_nextOrder_40 : dec cX12_nextOrder 40 1 41 (.aload_n 0) := ⟨by decide +kernel, rfl⟩
theorem dX12_nextOrder_41 : dec cX12_nextOrder 41 3 44 (.getfield 162) := ⟨by decide +kernel, rfl⟩
theorem dX12_nextOrder_44 : dec cX12_nextOrder 44 1 45 (.iconst 1) := ⟨by decide +kernel, rfl⟩
theorem dX12_nextOrder_45 : dec cX12_nextOrder 45 1 46 (.isub) := ⟨by decide +kernel, rfl⟩
theorem dX12_nextOrder_46 : dec cX12_nextOrder 46 1 47 (.istore_n 2) := ⟨by decide +kernel, rfl⟩
theorem dX12_nextOrder_47 : dec cX12_nextOrder 47 1 48 (.aload_n 0) := ⟨by decide +kernel, rfl⟩
theorem dX12_nextOrder_48 : dec cX12_nextOrder 48 3 51 (.getfield 28) := ⟨by decide +kernel, rfl⟩
theorem dX12_nextOrder_51 : dec cX12_nextOrder 51 1 52 (.iload_n 2) := ⟨by decide +kernel, rfl⟩
theorem dX12_nextOrder_52 : dec cX12_nextOrder 52 1 53 (.iaload) := ⟨by decide +kernel, rfl⟩
theorem dX12_nextOrder_53 : dec cX12_nextOrder 53 1 54 (.aload_n 0) := ⟨by decide +kernel, rfl⟩
theorem dX12_nextOrder_54 : dec cX12_nextOrder 54 3 57 (.getfield 28) := ⟨by decide +kernel, rfl⟩
theorem dX12_nextOrder_57 : dec cX12_nextOrder 57 1 58 (.iload_n 1) := ⟨by decide +kernel, rfl⟩
theorem dX12_nextOrder_58 : dec cX12_nextOrder 58 1 59 (.iaload) := ⟨by decide +kernel, rfl⟩
theorem dX12_nextOrder_59 : dec cX12_nextOrder 59 3 62 (.if_icmp .ge 9) := ⟨by decide +kernel, rfl⟩
theorem dX12_nextOrder_62 : dec cX12_nextOrder 62 3 65 (.iinc 2 (-1)) := ⟨by decide +kernel, rfl⟩
theorem dX12_nextOrder_65 : dec cX12_nextOrder 65 3 68 (.goto (-18)) := ⟨by decide +kernel, rfl⟩
theorem dX12_nextOrder_68 : dec cX12_nextOrder 68 1 69 (.aload_n 0) := ⟨by decide +kernel, rfl⟩
theorem dX12_nextOrder_69 : dec cX12_nextOrder 69 1 70 (.iload_n 1) := ⟨by decide +kernel, rfl⟩
theorem dX12_nextOrder_70 : dec cX12_nextOrder 70 1 71 (.iload_n 2) := ⟨by decide +kernel, rfl⟩
theorem dX12_nextOrder_71 : dec cX12_nextOrder 71 3 74 (.invokevirtual 231) := ⟨by decide +kernel, rfl⟩
theorem dX12_nextOrder_74 : dec cX12_nextOrder 74 1 75 (.iload_n 1) := ⟨by decide +kernel, rfl⟩
theorem dX12_nextOrder_75 : dec cX12_nextOrder 75 1 76 (.iconst 1) := ⟨by decide +kernel, rfl⟩
theorem dX12_nextOrder_76 : dec cX12_nextOrder 76 1 77 (.iadd) := ⟨by decide +kernel, rfl⟩
theorem dX12_nextOrder_77 : dec cX12_nextOrder 77 1 78 (.istore_n 3) := ⟨by decide +kernel, rfl⟩
theorem dX12_nextOrder_78 : dec cX12_nextOrder 78 1 79 (.aload_n 0) := ⟨by decide +kernel, rfl⟩
theorem dX12_nextOrder_79 : dec cX12_nextOrder 79 3 82 (.getfield 162) := ⟨by decide +kernel, rfl⟩
theorem dX12_nextOrder_82 : dec cX12_nextOrder 82 1 83 (.iconst 1) := ⟨by decide +kernel, rfl⟩
theorem dX12_nextOrder_83 : dec cX12_nextOrder 83 1 84 (.isub) := ⟨by decide +kernel, rfl⟩
theorem dX12_nextOrder_84 : dec cX12_nextOrder 84 2 86 (.istore 4) := ⟨by decide +kernel, rfl⟩
theorem dX12_nextOrder_86 : dec cX12_nextOrder 86 1 87 (.iload_n 3) := ⟨by decide +kernel, rfl⟩
theorem dX12_nextOrder_87 : dec cX12_nextOrder 87 2 89 (.iload 4) := ⟨by decide +kernel, rfl⟩
theorem dX12_nextOrder_89 : dec cX12_nextOrder 89 3 92 (.if_icmp .ge 19) := ⟨by decide +kernel, rfl⟩
theorem dX12_nextOrder_92 : dec cX12_nextOrder 92 1 93 (.aload_n 0) := ⟨by decide +kernel, rfl⟩
theorem dX12_nextOrder_93 : dec cX12_nextOrder 93 1 94 (.iload_n 3) := ⟨by decide +kernel, rfl⟩
theorem dX12_nextOrder_94 : dec cX12_nextOrder 94 2 96 (.iload 4) := ⟨by decide +kernel, rfl⟩
theorem dX12_nextOrder_96 : dec cX12_nextOrder 96 3 99 (.invokevirtual 231) := ⟨by decide +kernel, rfl⟩
theorem dX12_nextOrder_99 : dec cX12_nextOrder 99 3 102 (.iinc 3 1) := ⟨by decide +kernel, rfl⟩
theorem dX12_nextOrder_102 : dec cX12_nextOrder 102 3 105 (.iinc 4 (-1)) := ⟨by decide +kernel, rfl⟩
theorem dX12_nextOrder_105 : dec cX12_nextOrder 105 3 108 (.goto (-19)) := ⟨by decide +kernel, rfl⟩
theorem dX12_nextOrder_108 : dec cX12_nextOrder 108 1 109 (.iconst 1) := ⟨by decide +kernel, rfl⟩
theorem dX12_nextOrder_109 : dec cX12_nextOrder 109 1 110 (.ireturn) := ⟨by decide +kernel, rfl⟩
set_option maxHeartbeats 4000000 in
set_option maxRecDepth 100000 in
theorem tX12_nextOrder_L7 {X : Cx} {Y : Yx} {M0 : Mem} (hC : OKX X Y RX12 cX12_nextOrder 5 (some .boolean) rmX12_nextOrder) (hF : Y.2.2.2.2 = true) (hL : Lay M0) (Q : Int → Mem → Prop) (E34 : Int → Mem → Prop) (a0 : Nat) (qa0 : 0 < a0 ∧ M0 0 a0 = kO 12) (hE34 : ∀ (x1 : Int) (M : Mem), E34 x1 M → WW X Y 5 rmX12_nextOrder (QI Q) M0 0 0 34 [(0, vR Y.1 a0), (1, vI x1)] [] M) : ∀ (N : Nat) (x1 : Int) (M : Mem) (_ : wX12_nextOrder_L7 Q E34 a0 N x1 M), WW X Y 5 rmX12_nextOrder (QI Q) M0 0 0 7 [(0, vR Y.1 a0), (1, vI x1)] [] M := by
  intro N
  induction N with
  | zero =>
    intro x1 M h
    exact h.elim
  | succ N ih =>
    intro x1 M h
    unfold wX12_nextOrder_L7 at h
    refine r_iload_n hC 1 dX12_nextOrder_7 rfl rfl ?_
    refine r_if_lt hC 34 rfl dX12_nextOrder_8 (by decide) (fun cq => ?_) (fun cq => ?_)
    · replace h := h.1 cq
      refine r_sub [0, 1] rfl ?_
      exact hE34 _ _ h
    · replace h := h.2 cq
      refine r_aload_n hC 0 dX12_nextOrder_11 rfl rfl ?_
      have q_2 : 0 < a0 + 7 ∧ M0 0 (a0 + 7) = kA 0 12 := lay_f0 (a := a0) hL qa0 fm_12_12
      refine r_getR0 (a' := a0 + 7) hC fg_X12_28 rfl hF fm_12_12 qa0.1 qa0.2 rfl dX12_nextOrder_12 ?_
      refine r_iload_n hC 1 dX12_nextOrder_15 rfl rfl ?_
      obtain ⟨i_3, h⟩ := h
      refine r_iald hC i_3 q_2.1 q_2.2 (by decide) dX12_nextOrder_16 ?_
      refine r_aload_n hC 0 dX12_nextOrder_17 rfl rfl ?_
      have q_4 : 0 < a0 + 7 ∧ M0 0 (a0 + 7) = kA 0 12 := lay_f0 (a := a0) hL qa0 fm_12_12
      refine r_getR0 (a' := a0 + 7) hC fg_X12_28 rfl hF fm_12_12 qa0.1 qa0.2 rfl dX12_nextOrder_18 ?_
      refine r_iload_n hC 1 dX12_nextOrder_21 rfl rfl ?_
      refine r_iconst hC dX12_nextOrder_22 ?_
      refine r_iadd hC dX12_nextOrder_23 ?_
      obtain ⟨i_5, h⟩ := h
      refine r_iald hC i_5 q_4.1 q_4.2 (by decide) dX12_nextOrder_24 ?_
      refine r_icmp_le hC 34 rfl rfl dX12_nextOrder_25 (by decide) (fun cq => ?_) (fun cq => ?_)
      · replace h := h.1 cq
        refine r_sub [0, 1] rfl ?_
        exact hE34 _ _ h
      · replace h := h.2 cq
        refine let_elim h (fun x1_6 e_7 h => ?_)
        refine r_iinc (lv' := [(1, vI x1_6), (0, vR Y.1 a0)]) hC 1 dX12_nextOrder_28 rfl (by decide) e_7 rfl ?_
        refine r_goto hC 7 dX12_nextOrder_31 (by decide) ?_
        refine r_sub [1, 0] rfl ?_
        exact ih _ _ h
set_option maxHeartbeats 4000000 in
set_option maxRecDepth 100000 in
theorem tX12_nextOrder_L47 {X : Cx} {Y : Yx} {M0 : Mem} (hC : OKX X Y RX12 cX12_nextOrder 5 (some .boolean) rmX12_nextOrder) (hF : Y.2.2.2.2 = true) (hL : Lay M0) (Q : Int → Mem → Prop) (E68 : Int → Mem → Prop) (a0 : Nat) (x1 : Int) (qa0 : 0 < a0 ∧ M0 0 a0 = kO 12) (hE68 : ∀ (x2 : Int) (M : Mem), E68 x2 M → WW X Y 5 rmX12_nextOrder (QI Q) M0 0 0 68 [(0, vR Y.1 a0), (1, vI x1), (2, vI x2)] [] M) : ∀ (N : Nat) (x2 : Int) (M : Mem) (_ : wX12_nextOrder_L47 Q E68 a0 x1 N x2 M), WW X Y 5 rmX12_nextOrder (QI Q) M0 0 0 47 [(0, vR Y.1 a0), (1, vI x1), (2, vI x2)] [] M := by
  intro N
  induction N with
  | zero =>
    intro x2 M h
    exact h.elim
  | succ N ih =>
    intro x2 M h
    unfold wX12_nextOrder_L47 at h
    refine r_aload_n hC 0 dX12_nextOrder_47 rfl rfl ?_
    have q_11 : 0 < a0 + 7 ∧ M0 0 (a0 + 7) = kA 0 12 := lay_f0 (a := a0) hL qa0 fm_12_12
    refine r_getR0 (a' := a0 + 7) hC fg_X12_28 rfl hF fm_12_12 qa0.1 qa0.2 rfl dX12_nextOrder_48 ?_
    refine r_iload_n hC 2 dX12_nextOrder_51 rfl rfl ?_
    obtain ⟨i_12, h⟩ := h
    refine r_iald hC i_12 q_11.1 q_11.2 (by decide) dX12_nextOrder_52 ?_
    refine r_aload_n hC 0 dX12_nextOrder_53 rfl rfl ?_
    have q_13 : 0 < a0 + 7 ∧ M0 0 (a0 + 7) = kA 0 12 := lay_f0 (a := a0) hL qa0 fm_12_12
    refine r_getR0 (a' := a0 + 7) hC fg_X12_28 rfl hF fm_12_12 qa0.1 qa0.2 rfl dX12_nextOrder_54 ?_
    refine r_iload_n hC 1 dX12_nextOrder_57 rfl rfl ?_
    obtain ⟨i_14, h⟩ := h
    refine r_iald hC i_14 q_13.1 q_13.2 (by decide) dX12_nextOrder_58 ?_
    refine r_icmp_ge hC 68 rfl rfl dX12_nextOrder_59 (by decide) (fun cq => ?_) (fun cq => ?_)
    · replace h := h.1 cq
      refine r_sub [0, 1, 2] rfl ?_
      exact hE68 _ _ h
    · replace h := h.2 cq
      refine let_elim h (fun x2_15 e_16 h => ?_)
      refine r_iinc (lv' := [(2, vI x2_15), (0, vR Y.1 a0), (1, vI x1)]) hC 2 dX12_nextOrder_62 rfl (by decide) e_16 rfl ?_
      refine r_goto hC 47 dX12_nextOrder_65 (by decide) ?_
      refine r_sub [1, 2, 0] rfl ?_
      exact ih _ _ h
set_option maxHeartbeats 4000000 in
set_option maxRecDepth 100000 in
theorem tX12_nextOrder_L86 {X : Cx} {Y : Yx} {M0 : Mem} (hC : OKX X Y RX12 cX12_nextOrder 5 (some .boolean) rmX12_nextOrder) (hF : Y.2.2.2.2 = true) (hL : Lay M0) (Q : Int → Mem → Prop)  (a0 : Nat) (qa0 : 0 < a0 ∧ M0 0 a0 = kO 12)  : ∀ (N : Nat) (x3 : Int) (x4 : Int) (M : Mem) (_ : wX12_nextOrder_L86 Q  a0 N x3 x4 M), WW X Y 5 rmX12_nextOrder (QI Q) M0 0 0 86 [(0, vR Y.1 a0), (3, vI x3), (4, vI x4)] [] M := by
  intro N
  induction N with
  | zero =>
    intro x3 x4 M h
    exact h.elim
  | succ N ih =>
    intro x3 x4 M h
    unfold wX12_nextOrder_L86 at h
    refine r_iload_n hC 1 dX12_nextOrder_86 rfl rfl ?_
    refine r_iload hC 2 dX12_nextOrder_87 rfl ?_
    refine r_icmp_ge hC 108 rfl rfl dX12_nextOrder_89 (by decide) (fun cq => ?_) (fun cq => ?_)
    · replace h := h.1 cq
      refine r_iconst hC dX12_nextOrder_108 ?_
      exact r_zret hC (Or.inr rfl) (Nat.zero_le _) (Nat.zero_le _) dX12_nextOrder_109 ⟨_, rfl, h⟩
    · replace h := h.2 cq
      refine r_aload_n hC 0 dX12_nextOrder_92 rfl rfl ?_
      refine r_iload_n hC 1 dX12_nextOrder_93 rfl rfl ?_
      refine r_iload hC 2 dX12_nextOrder_94 rfl ?_
      refine r_callV (As := [vI x3, vI x4]) (st := []) hC cw_X12_231 rfl qa0.1 qa0.2 rfl rfl (Nat.le_of_ble_eq_true rfl) ⟨Nat.le_of_ble_eq_true rfl, Nat.le_of_ble_eq_true rfl⟩ ⟨Nat.le_of_ble_eq_true rfl, Nat.le_of_ble_eq_true rfl⟩ dX12_nextOrder_96 (fun hk => mX12_swap Y hF _ _ _ _ _ _ (kqO hk qa0) h) (fun v M_22 h => ?_)
      obtain ⟨rfl, h⟩ := h
      refine let_elim h (fun x3_23 e_24 h => ?_)
      refine r_iinc (lv' := [(3, vI x3_23), (0, vR Y.1 a0), (4, vI x4)]) hC 1 dX12_nextOrder_99 rfl (by decide) e_24 rfl ?_
      refine let_elim h (fun x4_25 e_26 h => ?_)
      refine r_iinc (lv' := [(4, vI x4_25), (3, vI x3_23), (0, vR Y.1 a0)]) hC 2 dX12_nextOrder_102 rfl (by decide) e_26 rfl ?_
      refine r_goto hC 86 dX12_nextOrder_105 (by decide) ?_
      refine r_sub [2, 1, 0] rfl ?_
      exact ih _ _ _ h
set_option maxHeartbeats 4000000 in
set_option maxRecDepth 100000 in
theorem tX12_nextOrder_J34 {X : Cx} {Y : Yx} {M0 : Mem} (hC : OKX X Y RX12 cX12_nextOrder 5 (some .boolean) rmX12_nextOrder) (hF : Y.2.2.2.2 = true) (hL : Lay M0) (Q : Int → Mem → Prop)   (a0 : Nat) (x1 : Int) (qa0 : 0 < a0 ∧ M0 0 a0 = kO 12)  (M : Mem) (h : wX12_nextOrder_J34 Q  a0 x1 M) : WW X Y 5 rmX12_nextOrder (QI Q) M0 0 0 34 [(0, vR Y.1 a0), (1, vI x1)] [] M := by
  unfold wX12_nextOrder_J34 at h
  refine r_iload_n hC 1 dX12_nextOrder_34 rfl rfl ?_
  refine r_if_ge hC 40 rfl dX12_nextOrder_35 (by decide) (fun cq => ?_) (fun cq => ?_)
  · replace h := h.1 cq
    refine r_aload_n hC 0 dX12_nextOrder_40 rfl rfl ?_
    refine r_getI hC fg_X12_162 rfl qa0.1 qa0.2 dX12_nextOrder_41 ?_
    refine r_iconst hC dX12_nextOrder_44 ?_
    refine r_isub hC dX12_nextOrder_45 ?_
    refine r_nameI h (fun x2_10 h => ?_)
    refine r_istore_n (lv' := [(2, vI x2_10), (0, vR Y.1 a0), (1, vI x1)]) hC dX12_nextOrder_46 rfl (by decide) rfl ?_
    refine r_sub [1, 2, 0] rfl ?_
    obtain ⟨N_28, h⟩ := h
    refine tX12_nextOrder_L47 hC hF hL Q _ _ _ qa0 ?_ N_28 _ _ h
    · intro x2_17 M_18 h
      refine r_aload_n hC 0 dX12_nextOrder_68 rfl rfl ?_
      refine r_iload_n hC 1 dX12_nextOrder_69 rfl rfl ?_
      refine r_iload_n hC 2 dX12_nextOrder_70 rfl rfl ?_
      refine r_callV (As := [vI x1, vI x2_17]) (st := []) hC cw_X12_231 rfl qa0.1 qa0.2 rfl rfl (Nat.le_of_ble_eq_true rfl) ⟨Nat.le_of_ble_eq_true rfl, Nat.le_of_ble_eq_true rfl⟩ ⟨Nat.le_of_ble_eq_true rfl, Nat.le_of_ble_eq_true rfl⟩ dX12_nextOrder_71 (fun hk => mX12_swap Y hF _ _ _ _ _ _ (kqO hk qa0) h) (fun v M_19 h => ?_)
      obtain ⟨rfl, h⟩ := h
      refine r_iload_n hC 1 dX12_nextOrder_74 rfl rfl ?_
      refine r_iconst hC dX12_nextOrder_75 ?_
      refine r_iadd hC dX12_nextOrder_76 ?_
      refine r_nameI h (fun x3_20 h => ?_)
      refine r_istore_n (lv' := [(3, vI x3_20), (0, vR Y.1 a0), (1, vI x1), (2, vI x2_17)]) hC dX12_nextOrder_77 rfl (by decide) rfl ?_
      refine r_aload_n hC 1 dX12_nextOrder_78 rfl rfl ?_
      refine r_getI hC fg_X12_162 rfl qa0.1 qa0.2 dX12_nextOrder_79 ?_
      refine r_iconst hC dX12_nextOrder_82 ?_
      refine r_isub hC dX12_nextOrder_83 ?_
      refine r_nameI h (fun x4_21 h => ?_)
      refine r_istore (lv' := [(4, vI x4_21), (3, vI x3_20), (0, vR Y.1 a0), (1, vI x1), (2, vI x2_17)]) hC dX12_nextOrder_84 (by decide) rfl ?_
      refine r_sub [2, 1, 0] rfl ?_
      obtain ⟨N_27, h⟩ := h
      refine tX12_nextOrder_L86 hC hF hL Q  _ qa0  N_27 _ _ _ h
  · replace h := h.2 cq
    refine r_iconst hC dX12_nextOrder_38 ?_
    exact r_zret hC (Or.inl rfl) (Nat.zero_le _) (Nat.zero_le _) dX12_nextOrder_39 ⟨_, rfl, h⟩
set_option maxHeartbeats 4000000 in
set_option maxRecDepth 100000 in
theorem mX12_nextOrder (Y : Yx) (hF : Y.2.2.2.2 = true) (l : Launch) (a0 : Nat) (M0 : Mem) (Q : Int → Mem → Prop) (qa0 : 0 < a0 ∧ M0 0 a0 = kO 12) (h : wX12_nextOrder a0 M0 Q) : CT Y l yX12_nextOrder cX12_nextOrder 5 (some .boolean) rmX12_nextOrder [vR Y.1 a0] M0 (QI Q) := by
  unfold wX12_nextOrder at h
  refine ct_intro (by decide) (Nat.le_of_ble_eq_true rfl) ?_
  intro X hXl hC hL0
  have hL := hL0 hF
  change OKX X Y RX12 cX12_nextOrder 5 (some .boolean) rmX12_nextOrder at hC
  change WW X Y 5 rmX12_nextOrder (QI Q) M0 0 0 0 [(0, vR Y.1 a0)] [] M0
  refine r_aload_n hC 0 dX12_nextOrder_0 rfl rfl ?_
  refine r_getI hC fg_X12_162 rfl qa0.1 qa0.2 dX12_nextOrder_1 ?_
  refine r_iconst hC dX12_nextOrder_4 ?_
  refine r_isub hC dX12_nextOrder_5 ?_
  refine r_nameI h (fun x1_1 h => ?_)
  refine r_istore_n (lv' := [(1, vI x1_1), (0, vR Y.1 a0)]) hC dX12_nextOrder_6 rfl (by decide) rfl ?_
  refine r_sub [1, 0] rfl ?_
  obtain ⟨N_29, h⟩ := h
  refine tX12_nextOrder_L7 hC hF hL Q _ _ qa0 ?_ N_29 _ _ h
  · intro x1_8 M_9 h
    refine r_sub [0, 1] rfl ?_
    exact tX12_nextOrder_J34 hC hF hL Q   _ _ qa0  _ h
