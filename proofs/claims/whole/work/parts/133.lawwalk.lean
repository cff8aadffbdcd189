theorem dL_law_1027 : dec code 1027 1 1028 (.aload_n 1) := ⟨by decide +kernel, rfl⟩
theorem dL_law_1028 : dec code 1028 1 1029 (.aload_n 0) := ⟨by decide +kernel, rfl⟩
theorem dL_law_1029 : dec code 1029 1 1030 (.iload_n 3) := ⟨by decide +kernel, rfl⟩
theorem dL_law_1030 : dec code 1030 1 1031 (.iconst 1) := ⟨by decide +kernel, rfl⟩
theorem dL_law_1031 : dec code 1031 1 1032 (.iadd) := ⟨by decide +kernel, rfl⟩
theorem dL_law_1032 : dec code 1032 1 1033 (.iaload) := ⟨by decide +kernel, rfl⟩
theorem dL_law_1033 : dec code 1033 1 1034 (.aload_n 0) := ⟨by decide +kernel, rfl⟩
theorem dL_law_1034 : dec code 1034 1 1035 (.iload_n 3) := ⟨by decide +kernel, rfl⟩
theorem dL_law_1035 : dec code 1035 1 1036 (.iconst 2) := ⟨by decide +kernel, rfl⟩
theorem dL_law_1036 : dec code 1036 1 1037 (.iadd) := ⟨by decide +kernel, rfl⟩
theorem dL_law_1037 : dec code 1037 1 1038 (.iaload) := ⟨by decide +kernel, rfl⟩
theorem dL_law_1038 : dec code 1038 1 1039 (.aload_n 0) := ⟨by decide +kernel, rfl⟩
theorem dL_law_1039 : dec code 1039 1 1040 (.iload_n 3) := ⟨by decide +kernel, rfl⟩
theorem dL_law_1040 : dec code 1040 1 1041 (.iconst 3) := ⟨by decide +kernel, rfl⟩
theorem dL_law_1041 : dec code 1041 1 1042 (.iadd) := ⟨by decide +kernel, rfl⟩
theorem dL_law_1042 : dec code 1042 1 1043 (.iaload) := ⟨by decide +kernel, rfl⟩
theorem dL_law_1043 : dec code 1043 1 1044 (.aload_n 0) := ⟨by decide +kernel, rfl⟩
theorem dL_law_1044 : dec code 1044 1 1045 (.iload_n 3) := ⟨by decide +kernel, rfl⟩
theorem dL_law_1045 : dec code 1045 1 1046 (.iconst 4) := ⟨by decide +kernel, rfl⟩
theorem dL_law_1046 : dec code 1046 1 1047 (.iadd) := ⟨by decide +kernel, rfl⟩
theorem dL_law_1047 : dec code 1047 1 1048 (.iaload) := ⟨by decide +kernel, rfl⟩
theorem dL_law_1048 : dec code 1048 3 1051 (.invokevirtual 107) := ⟨by decide +kernel, rfl⟩
theorem dL_law_1051 : dec code 1051 1 1052 (.aload_n 2) := ⟨by decide +kernel, rfl⟩
theorem dL_law_1052 : dec code 1052 1 1053 (.aload_n 0) := ⟨by decide +kernel, rfl⟩
theorem dL_law_1053 : dec code 1053 1 1054 (.iload_n 3) := ⟨by decide +kernel, rfl⟩
theorem dL_law_1054 : dec code 1054 1 1055 (.iconst 1) := ⟨by decide +kernel, rfl⟩
theorem dL_law_1055 : dec code 1055 1 1056 (.iadd) := ⟨by decide +kernel, rfl⟩
theorem dL_law_1056 : dec code 1056 1 1057 (.iaload) := ⟨by decide +kernel, rfl⟩
theorem dL_law_1057 : dec code 1057 1 1058 (.aload_n 0) := ⟨by decide +kernel, rfl⟩
theorem dL_law_1058 : dec code 1058 1 1059 (.iload_n 3) := ⟨by decide +kernel, rfl⟩
theorem dL_law_1059 : dec code 1059 1 1060 (.iconst 2) := ⟨by decide +kernel, rfl⟩
theorem dL_law_1060 : dec code 1060 1 1061 (.iadd) := ⟨by decide +kernel, rfl⟩
theorem dL_law_1061 : dec code 1061 1 1062 (.iaload) := ⟨by decide +kernel, rfl⟩
theorem dL_law_1062 : dec code 1062 1 1063 (.aload_n 0) := ⟨by decide +kernel, rfl⟩
theorem dL_law_1063 : dec code 1063 1 1064 (.iload_n 3) := ⟨by decide +kernel, rfl⟩
theorem dL_law_1064 : dec code 1064 1 1065 (.iconst 3) := ⟨by decide +kernel, rfl⟩
theorem dL_law_1065 : dec code 1065 1 1066 (.iadd) := ⟨by decide +kernel, rfl⟩
theorem dL_law_1066 : dec code 1066 1 1067 (.iaload) := ⟨by decide +kernel, rfl⟩
theorem dL_law_1067 : dec code 1067 1 1068 (.aload_n 0) := ⟨by decide +kernel, rfl⟩
theorem dL_law_1068 : dec code 1068 1 1069 (.iload_n 3) := ⟨by decide +kernel, rfl⟩
theorem dL_law_1069 : dec code 1069 1 1070 (.iconst 4) := ⟨by decide +kernel, rfl⟩
theorem dL_law_1070 : dec code 1070 1 1071 (.iadd) := ⟨by decide +kernel, rfl⟩
theorem dL_law_1071 : dec code 1071 1 1072 (.iaload) := ⟨by decide +kernel, rfl⟩
theorem dL_law_1072 : dec code 1072 3 1075 (.invokevirtual 110) := ⟨by decide +kernel, rfl⟩
theorem dL_law_1075 : dec code 1075 3 1078 (.if_icmp .eq 460) := ⟨by decide +kernel, rfl⟩
theorem dL_law_1078 : dec code 1078 1 1079 (.iconst 0) := ⟨by decide +kernel, rfl⟩
theorem dL_law_1079 : dec code 1079 1 1080 (.ireturn) := ⟨by decide +kernel, rfl⟩
set_option maxHeartbeats 4000000 in
set_option maxRecDepth 100000 in
theorem tL_c21 {X : Cx} {Y : Yx} {M0 : Mem} (hC : OKX X Y R_law code 4 (some .boolean) room_1) (hF : Y.2.2.2.2 = true) (hL : Lay M0) {b L : Nat} {xs : Nat → Int32} (hX : va_X b L xs X.2.2.2.2.1 X.2.2.2.2.1.heap) (hbl : b < X.2.2.2.2.1.heap.size) (hbA : ¬ frA Y b) {Qm : Option Value → Mem → Prop} {n k : Nat} {a1 a2 : Nat} (q1 : 0 < a1 ∧ M0 0 a1 = kO 11) (q2 : 0 < a2 ∧ M0 0 a2 = kO 12) (C : Mem → Prop) (x3 : Int) (hn : n + 100 ≤ 600000 ∧ k + 10240 ≤ 7302250) (kk : ∀ M : Mem, C M → WW X Y 4 room_1 Qm M0 (n + 100) (k + 10240) 1535 [(0, .ref b), (1, vR Y.1 a1), (2, vR Y.1 a2), (3, vI x3)] [] M) (M : Mem) (h : wL_c21 xs L a1 a2 C x3 M) : WW X Y 4 room_1 Qm M0 n k 1027 [(0, .ref b), (1, vR Y.1 a1), (2, vR Y.1 a2), (3, vI x3)] [] M := by
  unfold wL_c21 at h
  refine r_aload_n hC 1 dL_law_1027 rfl rfl ?_
  refine r_aloadX hC 0 dL_law_1028 rfl rfl ?_
  refine r_iload_n hC 3 dL_law_1029 rfl rfl ?_
  refine r_iconst hC dL_law_1030 ?_
  refine r_iadd hC dL_law_1031 ?_
  obtain ⟨i_1, h⟩ := h
  refine r_sld hC hX hbl hbA i_1 dL_law_1032 ?_
  refine r_aloadX hC 0 dL_law_1033 rfl rfl ?_
  refine r_iload_n hC 3 dL_law_1034 rfl rfl ?_
  refine r_iconst hC dL_law_1035 ?_
  refine r_iadd hC dL_law_1036 ?_
  obtain ⟨i_2, h⟩ := h
  refine r_sld hC hX hbl hbA i_2 dL_law_1037 ?_
  refine r_aloadX hC 0 dL_law_1038 rfl rfl ?_
  refine r_iload_n hC 3 dL_law_1039 rfl rfl ?_
  refine r_iconst hC dL_law_1040 ?_
  refine r_iadd hC dL_law_1041 ?_
  obtain ⟨i_3, h⟩ := h
  refine r_sld hC hX hbl hbA i_3 dL_law_1042 ?_
  refine r_aloadX hC 0 dL_law_1043 rfl rfl ?_
  refine r_iload_n hC 3 dL_law_1044 rfl rfl ?_
  refine r_iconst hC dL_law_1045 ?_
  refine r_iadd hC dL_law_1046 ?_
  obtain ⟨i_4, h⟩ := h
  refine r_sld hC hX hbl hbA i_4 dL_law_1047 ?_
  refine r_callV (As := [vI (sxv xs (x3 + 1)), vI (sxv xs (x3 + 2)), vI (sxv xs (x3 + 3)), vI (sxv xs (x3 + 4))]) (st := []) hC cw_law_107 rfl q1.1 q1.2 rfl rfl (Nat.le_of_ble_eq_true rfl) ⟨Nat.le_of_ble_eq_true rfl, Nat.le_of_ble_eq_true rfl⟩ (by constructor <;> simp only [rmX11_ill, room_1] <;> omega) dL_law_1048 (fun hk => mX11_ill Y hF _ _ _ _ _ _ _ _ (kqO hk q1) h) (fun v M_5 h => ?_)
  obtain ⟨r_6, rfl, h⟩ := h
  refine r_aload_n hC 2 dL_law_1051 rfl rfl ?_
  refine r_aloadX hC 0 dL_law_1052 rfl rfl ?_
  refine r_iload_n hC 3 dL_law_1053 rfl rfl ?_
  refine r_iconst hC dL_law_1054 ?_
  refine r_iadd hC dL_law_1055 ?_
  obtain ⟨i_7, h⟩ := h
  refine r_sld hC hX hbl hbA i_7 dL_law_1056 ?_
  refine r_aloadX hC 0 dL_law_1057 rfl rfl ?_
  refine r_iload_n hC 3 dL_law_1058 rfl rfl ?_
  refine r_iconst hC dL_law_1059 ?_
  refine r_iadd hC dL_law_1060 ?_
  obtain ⟨i_8, h⟩ := h
  refine r_sld hC hX hbl hbA i_8 dL_law_1061 ?_
  refine r_aloadX hC 0 dL_law_1062 rfl rfl ?_
  refine r_iload_n hC 3 dL_law_1063 rfl rfl ?_
  refine r_iconst hC dL_law_1064 ?_
  refine r_iadd hC dL_law_1065 ?_
  obtain ⟨i_9, h⟩ := h
  refine r_sld hC hX hbl hbA i_9 dL_law_1066 ?_
  refine r_aloadX hC 0 dL_law_1067 rfl rfl ?_
  refine r_iload_n hC 3 dL_law_1068 rfl rfl ?_
  refine r_iconst hC dL_law_1069 ?_
  refine r_iadd hC dL_law_1070 ?_
  obtain ⟨i_10, h⟩ := h
  refine r_sld hC hX hbl hbA i_10 dL_law_1071 ?_
  refine r_callV (As := [vI (sxv xs (x3 + 1)), vI (sxv xs (x3 + 2)), vI (sxv xs (x3 + 3)), vI (sxv xs (x3 + 4))]) (st := [vI r_6]) hC cw_law_110 rfl q2.1 q2.2 rfl rfl (Nat.le_of_ble_eq_true rfl) ⟨Nat.le_of_ble_eq_true rfl, Nat.le_of_ble_eq_true rfl⟩ (by constructor <;> simp only [rmX11_ill, rmX12_ill, room_1] <;> omega) dL_law_1072 (fun hk => mX12_ill Y hF _ _ _ _ _ _ _ _ (kqO hk q2) h) (fun v M_11 h => ?_)
  obtain ⟨r_12, rfl, h⟩ := h
  refine r_icmp_eq hC 1535 rfl rfl dL_law_1075 (by decide) (fun cq => ?_) (fun cq => ?_)
  · replace h := h.1 cq
    exact r_widen (n' := n + 100) (k' := k + 10240) (by simp only [rmX11_ill, rmX12_ill]; omega) (by simp only [rmX11_ill, rmX12_ill]; omega) (kk _ h)
  · replace h := h.2 cq
    refine r_iconst hC dL_law_1078 ?_
    exact h.elim
theorem dL_law_1080 : dec code 1080 1 1081 (.aload_n 1) := ⟨by decide +kernel, rfl⟩
theorem dL_law_1081 : dec code 1081 1 1082 (.aload_n 0) := ⟨by decide +kernel, rfl⟩
theorem dL_law_1082 : dec code 1082 1 1083 (.iload_n 3) := ⟨by decide +kernel, rfl⟩
theorem dL_law_1083 : dec code 1083 1 1084 (.iconst 1) := ⟨by decide +kernel, rfl⟩
theorem dL_law_1084 : dec code 1084 1 1085 (.iadd) := ⟨by decide +kernel, rfl⟩
theorem dL_law_1085 : dec code 1085 1 1086 (.iaload) := ⟨by decide +kernel, rfl⟩
theorem dL_law_1086 : dec code 1086 3 1089 (.invokevirtual 111) := ⟨by decide +kernel, rfl⟩
theorem dL_law_1089 : dec code 1089 1 1090 (.aload_n 2) := ⟨by decide +kernel, rfl⟩
theorem dL_law_1090 : dec code 1090 1 1091 (.aload_n 0) := ⟨by decide +kernel, rfl⟩
theorem dL_law_1091 : dec code 1091 1 1092 (.iload_n 3) := ⟨by decide +kernel, rfl⟩
theorem dL_law_1092 : dec code 1092 1 1093 (.iconst 1) := ⟨by decide +kernel, rfl⟩
theorem dL_law_1093 : dec code 1093 1 1094 (.iadd) := ⟨by decide +kernel, rfl⟩
theorem dL_law_1094 : dec code 1094 1 1095 (.iaload) := ⟨by decide +kernel, rfl⟩
theorem dL_law_1095 : dec code 1095 3 1098 (.invokevirtual 114) := ⟨by decide +kernel, rfl⟩
theorem dL_law_1098 : dec code 1098 3 1101 (.if_icmp .eq 437) := ⟨by decide +kernel, rfl⟩
theorem dL_law_1101 : dec code 1101 1 1102 (.iconst 0) := ⟨by decide +kernel, rfl⟩
theorem dL_law_1102 : dec code 1102 1 1103 (.ireturn) := ⟨by decide +kernel, rfl⟩
set_option maxHeartbeats 4000000 in
set_option maxRecDepth 100000 in
theorem tL_c22 {X : Cx} {Y : Yx} {M0 : Mem} (hC : OKX X Y R_law code 4 (some .boolean) room_1) (hF : Y.2.2.2.2 = true) (hL : Lay M0) {b L : Nat} {xs : Nat → Int32} (hX : va_X b L xs X.2.2.2.2.1 X.2.2.2.2.1.heap) (hbl : b < X.2.2.2.2.1.heap.size) (hbA : ¬ frA Y b) {Qm : Option Value → Mem → Prop} {n k : Nat} {a1 a2 : Nat} (q1 : 0 < a1 ∧ M0 0 a1 = kO 11) (q2 : 0 < a2 ∧ M0 0 a2 = kO 12) (C : Mem → Prop) (x3 : Int) (hn : n + 100 ≤ 600000 ∧ k + 10240 ≤ 7302250) (kk : ∀ M : Mem, C M → WW X Y 4 room_1 Qm M0 (n + 100) (k + 10240) 1535 [(0, .ref b), (1, vR Y.1 a1), (2, vR Y.1 a2), (3, vI x3)] [] M) (M : Mem) (h : wL_c22 xs L a1 a2 C x3 M) : WW X Y 4 room_1 Qm M0 n k 1080 [(0, .ref b), (1, vR Y.1 a1), (2, vR Y.1 a2), (3, vI x3)] [] M := by
  unfold wL_c22 at h
  refine r_aload_n hC 1 dL_law_1080 rfl rfl ?_
  refine r_aloadX hC 0 dL_law_1081 rfl rfl ?_
  refine r_iload_n hC 3 dL_law_1082 rfl rfl ?_
  refine r_iconst hC dL_law_1083 ?_
  refine r_iadd hC dL_law_1084 ?_
  obtain ⟨i_1, h⟩ := h
  refine r_sld hC hX hbl hbA i_1 dL_law_1085 ?_
  refine r_callV (As := [vI (sxv xs (x3 + 1))]) (st := []) hC cw_law_111 rfl q1.1 q1.2 rfl rfl (Nat.le_of_ble_eq_true rfl) ⟨Nat.le_of_ble_eq_true rfl, Nat.le_of_ble_eq_true rfl⟩ (by constructor <;> simp only [rmX11_two, room_1] <;> omega) dL_law_1086 (fun hk => mX11_two Y hF _ _ _ _ _ (kqO hk q1) h) (fun v M_2 h => ?_)
  obtain ⟨r_3, rfl, h⟩ := h
  refine r_aload_n hC 2 dL_law_1089 rfl rfl ?_
  refine r_aloadX hC 0 dL_law_1090 rfl rfl ?_
  refine r_iload_n hC 3 dL_law_1091 rfl rfl ?_
  refine r_iconst hC dL_law_1092 ?_
  refine r_iadd hC dL_law_1093 ?_
  obtain ⟨i_4, h⟩ := h
  refine r_sld hC hX hbl hbA i_4 dL_law_1094 ?_
  refine r_callV (As := [vI (sxv xs (x3 + 1))]) (st := [vI r_3]) hC cw_law_114 rfl q2.1 q2.2 rfl rfl (Nat.le_of_ble_eq_true rfl) ⟨Nat.le_of_ble_eq_true rfl, Nat.le_of_ble_eq_true rfl⟩ (by constructor <;> simp only [rmX11_two, rmX12_two, room_1] <;> omega) dL_law_1095 (fun hk => mX12_two Y hF _ _ _ _ _ (kqO hk q2) h) (fun v M_5 h => ?_)
  obtain ⟨r_6, rfl, h⟩ := h
  refine r_icmp_eq hC 1535 rfl rfl dL_law_1098 (by decide) (fun cq => ?_) (fun cq => ?_)
  · replace h := h.1 cq
    exact r_widen (n' := n + 100) (k' := k + 10240) (by simp only [rmX11_two, rmX12_two]; omega) (by simp only [rmX11_two, rmX12_two]; omega) (kk _ h)
  · replace h := h.2 cq
    refine r_iconst hC dL_law_1101 ?_
    exact h.elim
theorem dL_law_1103 : dec code 1103 1 1104 (.aload_n 1) := ⟨by decide +kernel, rfl⟩
theorem dL_law_1104 : dec code 1104 1 1105 (.aload_n 0) := ⟨by decide +kernel, rfl⟩
theorem dL_law_1105 : dec code 1105 1 1106 (.iload_n 3) := ⟨by decide +kernel, rfl⟩
theorem dL_law_1106 : dec code 1106 1 1107 (.iconst 1) := ⟨by decide +kernel, rfl⟩
theorem dL_law_1107 : dec code 1107 1 1108 (.iadd) := ⟨by decide +kernel, rfl⟩
theorem dL_law_1108 : dec code 1108 1 1109 (.iaload) := ⟨by decide +kernel, rfl⟩
theorem dL_law_1109 : dec code 1109 1 1110 (.aload_n 0) := ⟨by decide +kernel, rfl⟩
theorem dL_law_1110 : dec code 1110 1 1111 (.iload_n 3) := ⟨by decide +kernel, rfl⟩
theorem dL_law_1111 : dec code 1111 1 1112 (.iconst 2) := ⟨by decide +kernel, rfl⟩
theorem dL_law_1112 : dec code 1112 1 1113 (.iadd) := ⟨by decide +kernel, rfl⟩
theorem dL_law_1113 : dec code 1113 1 1114 (.iaload) := ⟨by decide +kernel, rfl⟩
theorem dL_law_1114 : dec code 1114 1 1115 (.aload_n 0) := ⟨by decide +kernel, rfl⟩
theorem dL_law_1115 : dec code 1115 1 1116 (.iload_n 3) := ⟨by decide +kernel, rfl⟩
theorem dL_law_1116 : dec code 1116 1 1117 (.iconst 3) := ⟨by decide +kernel, rfl⟩
theorem dL_law_1117 : dec code 1117 1 1118 (.iadd) := ⟨by decide +kernel, rfl⟩
theorem dL_law_1118 : dec code 1118 1 1119 (.iaload) := ⟨by decide +kernel, rfl⟩
theorem dL_law_1119 : dec code 1119 3 1122 (.invokevirtual 115) := ⟨by decide +kernel, rfl⟩
theorem dL_law_1122 : dec code 1122 1 1123 (.aload_n 2) := ⟨by decide +kernel, rfl⟩
theorem dL_law_1123 : dec code 1123 1 1124 (.aload_n 0) := ⟨by decide +kernel, rfl⟩
theorem dL_law_1124 : dec code 1124 1 1125 (.iload_n 3) := ⟨by decide +kernel, rfl⟩
theorem dL_law_1125 : dec code 1125 1 1126 (.iconst 1) := ⟨by decide +kernel, rfl⟩
theorem dL_law_1126 : dec code 1126 1 1127 (.iadd) := ⟨by decide +kernel, rfl⟩
theorem dL_law_1127 : dec code 1127 1 1128 (.iaload) := ⟨by decide +kernel, rfl⟩
theorem dL_law_1128 : dec code 1128 1 1129 (.aload_n 0) := ⟨by decide +kernel, rfl⟩
theorem dL_law_1129 : dec code 1129 1 1130 (.iload_n 3) := ⟨by decide +kernel, rfl⟩
theorem dL_law_1130 : dec code 1130 1 1131 (.iconst 2) := ⟨by decide +kernel, rfl⟩
theorem dL_law_1131 : dec code 1131 1 1132 (.iadd) := ⟨by decide +kernel, rfl⟩
theorem dL_law_1132 : dec code 1132 1 1133 (.iaload) := ⟨by decide +kernel, rfl⟩
theorem dL_law_1133 : dec code 1133 1 1134 (.aload_n 0) := ⟨by decide +kernel, rfl⟩
theorem dL_law_1134 : dec code 1134 1 1135 (.iload_n 3) := ⟨by decide +kernel, rfl⟩
theorem dL_law_1135 : dec code 1135 1 1136 (.iconst 3) := ⟨by decide +kernel, rfl⟩
theorem dL_law_1136 : dec code 1136 1 1137 (.iadd) := ⟨by decide +kernel, rfl⟩
theorem dL_law_1137 : dec code 1137 1 1138 (.iaload) := ⟨by decide +kernel, rfl⟩
theorem dL_law_1138 : dec code 1138 3 1141 (.invokevirtual 118) := ⟨by decide +kernel, rfl⟩
theorem dL_law_1141 : dec code 1141 3 1144 (.if_icmp .eq 394) := ⟨by decide +kernel, rfl⟩
theorem dL_law_1144 : dec code 1144 1 1145 (.iconst 0) := ⟨by decide +kernel, rfl⟩
theorem dL_law_1145 : dec code 1145 1 1146 (.ireturn) := ⟨by decide +kernel, rfl⟩
set_option maxHeartbeats 4000000 in
set_option maxRecDepth 100000 in
theorem tL_c23 {X : Cx} {Y : Yx} {M0 : Mem} (hC : OKX X Y R_law code 4 (some .boolean) room_1) (hF : Y.2.2.2.2 = true) (hL : Lay M0) {b L : Nat} {xs : Nat → Int32} (hX : va_X b L xs X.2.2.2.2.1 X.2.2.2.2.1.heap) (hbl : b < X.2.2.2.2.1.heap.size) (hbA : ¬ frA Y b) {Qm : Option Value → Mem → Prop} {n k : Nat} {a1 a2 : Nat} (q1 : 0 < a1 ∧ M0 0 a1 = kO 11) (q2 : 0 < a2 ∧ M0 0 a2 = kO 12) (C : Mem → Prop) (x3 : Int) (hn : n + 100 ≤ 600000 ∧ k + 10240 ≤ 7302250) (kk : ∀ M : Mem, C M → WW X Y 4 room_1 Qm M0 (n + 100) (k + 10240) 1535 [(0, .ref b), (1, vR Y.1 a1), (2, vR Y.1 a2), (3, vI x3)] [] M) (M : Mem) (h : wL_c23 xs L a1 a2 C x3 M) : WW X Y 4 room_1 Qm M0 n k 1103 [(0, .ref b), (1, vR Y.1 a1), (2, vR Y.1 a2), (3, vI x3)] [] M := by
  unfold wL_c23 at h
  refine r_aload_n hC 1 dL_law_1103 rfl rfl ?_
  refine r_aloadX hC 0 dL_law_1104 rfl rfl ?_
  refine r_iload_n hC 3 dL_law_1105 rfl rfl ?_
  refine r_iconst hC dL_law_1106 ?_
  refine r_iadd hC dL_law_1107 ?_
  obtain ⟨i_1, h⟩ := h
  refine r_sld hC hX hbl hbA i_1 dL_law_1108 ?_
  refine r_aloadX hC 0 dL_law_1109 rfl rfl ?_
  refine r_iload_n hC 3 dL_law_1110 rfl rfl ?_
  refine r_iconst hC dL_law_1111 ?_
  refine r_iadd hC dL_law_1112 ?_
  obtain ⟨i_2, h⟩ := h
  refine r_sld hC hX hbl hbA i_2 dL_law_1113 ?_
  refine r_aloadX hC 0 dL_law_1114 rfl rfl ?_
  refine r_iload_n hC 3 dL_law_1115 rfl rfl ?_
  refine r_iconst hC dL_law_1116 ?_
  refine r_iadd hC dL_law_1117 ?_
  obtain ⟨i_3, h⟩ := h
  refine r_sld hC hX hbl hbA i_3 dL_law_1118 ?_
  refine r_callV (As := [vI (sxv xs (x3 + 1)), vI (sxv xs (x3 + 2)), vI (sxv xs (x3 + 3))]) (st := []) hC cw_law_115 rfl q1.1 q1.2 rfl rfl (Nat.le_of_ble_eq_true rfl) ⟨Nat.le_of_ble_eq_true rfl, Nat.le_of_ble_eq_true rfl⟩ (by constructor <;> simp only [rmX11_past, room_1] <;> omega) dL_law_1119 (fun hk => mX11_past Y hF _ _ _ _ _ _ _ (kqO hk q1) h) (fun v M_4 h => ?_)
  obtain ⟨r_5, rfl, h⟩ := h
  refine r_aload_n hC 2 dL_law_1122 rfl rfl ?_
  refine r_aloadX hC 0 dL_law_1123 rfl rfl ?_
  refine r_iload_n hC 3 dL_law_1124 rfl rfl ?_
  refine r_iconst hC dL_law_1125 ?_
  refine r_iadd hC dL_law_1126 ?_
  obtain ⟨i_6, h⟩ := h
  refine r_sld hC hX hbl hbA i_6 dL_law_1127 ?_
  refine r_aloadX hC 0 dL_law_1128 rfl rfl ?_
  refine r_iload_n hC 3 dL_law_1129 rfl rfl ?_
  refine r_iconst hC dL_law_1130 ?_
  refine r_iadd hC dL_law_1131 ?_
  obtain ⟨i_7, h⟩ := h
  refine r_sld hC hX hbl hbA i_7 dL_law_1132 ?_
  refine r_aloadX hC 0 dL_law_1133 rfl rfl ?_
  refine r_iload_n hC 3 dL_law_1134 rfl rfl ?_
  refine r_iconst hC dL_law_1135 ?_
  refine r_iadd hC dL_law_1136 ?_
  obtain ⟨i_8, h⟩ := h
  refine r_sld hC hX hbl hbA i_8 dL_law_1137 ?_
  refine r_callV (As := [vI (sxv xs (x3 + 1)), vI (sxv xs (x3 + 2)), vI (sxv xs (x3 + 3))]) (st := [vI r_5]) hC cw_law_118 rfl q2.1 q2.2 rfl rfl (Nat.le_of_ble_eq_true rfl) ⟨Nat.le_of_ble_eq_true rfl, Nat.le_of_ble_eq_true rfl⟩ (by constructor <;> simp only [rmX11_past, rmX12_past, room_1] <;> omega) dL_law_1138 (fun hk => mX12_past Y hF _ _ _ _ _ _ _ (kqO hk q2) h) (fun v M_9 h => ?_)
  obtain ⟨r_10, rfl, h⟩ := h
  refine r_icmp_eq hC 1535 rfl rfl dL_law_1141 (by decide) (fun cq => ?_) (fun cq => ?_)
  · replace h := h.1 cq
    exact r_widen (n' := n + 100) (k' := k + 10240) (by simp only [rmX11_past, rmX12_past]; omega) (by simp only [rmX11_past, rmX12_past]; omega) (kk _ h)
  · replace h := h.2 cq
    refine r_iconst hC dL_law_1144 ?_
    exact h.elim
theorem dL_law_1146 : dec code 1146 1 1147 (.aload_n 1) := ⟨by decide +kernel, rfl⟩
theorem dL_law_1147 : dec code 1147 1 1148 (.aload_n 0) := ⟨by decide +kernel, rfl⟩
theorem dL_law_1148 : dec code 1148 1 1149 (.iload_n 3) := ⟨by decide +kernel, rfl⟩
theorem dL_law_1149 : dec code 1149 1 1150 (.iconst 1) := ⟨by decide +kernel, rfl⟩
theorem dL_law_1150 : dec code 1150 1 1151 (.iadd) := ⟨by decide +kernel, rfl⟩
theorem dL_law_1151 : dec code 1151 1 1152 (.iaload) := ⟨by decide +kernel, rfl⟩
theorem dL_law_1152 : dec code 1152 3 1155 (.invokevirtual 119) := ⟨by decide +kernel, rfl⟩
theorem dL_law_1155 : dec code 1155 1 1156 (.aload_n 2) := ⟨by decide +kernel, rfl⟩
theorem dL_law_1156 : dec code 1156 1 1157 (.aload_n 0) := ⟨by decide +kernel, rfl⟩
theorem dL_law_1157 : dec code 1157 1 1158 (.iload_n 3) := ⟨by decide +kernel, rfl⟩
theorem dL_law_1158 : dec code 1158 1 1159 (.iconst 1) := ⟨by decide +kernel, rfl⟩
theorem dL_law_1159 : dec code 1159 1 1160 (.iadd) := ⟨by decide +kernel, rfl⟩
theorem dL_law_1160 : dec code 1160 1 1161 (.iaload) := ⟨by decide +kernel, rfl⟩
theorem dL_law_1161 : dec code 1161 3 1164 (.invokevirtual 122) := ⟨by decide +kernel, rfl⟩
theorem dL_law_1164 : dec code 1164 3 1167 (.if_icmp .eq 371) := ⟨by decide +kernel, rfl⟩
theorem dL_law_1167 : dec code 1167 1 1168 (.iconst 0) := ⟨by decide +kernel, rfl⟩
theorem dL_law_1168 : dec code 1168 1 1169 (.ireturn) := ⟨by decide +kernel, rfl⟩
set_option maxHeartbeats 4000000 in
set_option maxRecDepth 100000 in
theorem tL_c24 {X : Cx} {Y : Yx} {M0 : Mem} (hC : OKX X Y R_law code 4 (some .boolean) room_1) (hF : Y.2.2.2.2 = true) (hL : Lay M0) {b L : Nat} {xs : Nat → Int32} (hX : va_X b L xs X.2.2.2.2.1 X.2.2.2.2.1.heap) (hbl : b < X.2.2.2.2.1.heap.size) (hbA : ¬ frA Y b) {Qm : Option Value → Mem → Prop} {n k : Nat} {a1 a2 : Nat} (q1 : 0 < a1 ∧ M0 0 a1 = kO 11) (q2 : 0 < a2 ∧ M0 0 a2 = kO 12) (C : Mem → Prop) (x3 : Int) (hn : n + 100 ≤ 600000 ∧ k + 10240 ≤ 7302250) (kk : ∀ M : Mem, C M → WW X Y 4 room_1 Qm M0 (n + 100) (k + 10240) 1535 [(0, .ref b), (1, vR Y.1 a1), (2, vR Y.1 a2), (3, vI x3)] [] M) (M : Mem) (h : wL_c24 xs L a1 a2 C x3 M) : WW X Y 4 room_1 Qm M0 n k 1146 [(0, .ref b), (1, vR Y.1 a1), (2, vR Y.1 a2), (3, vI x3)] [] M := by
  unfold wL_c24 at h
  refine r_aload_n hC 1 dL_law_1146 rfl rfl ?_
  refine r_aloadX hC 0 dL_law_1147 rfl rfl ?_
  refine r_iload_n hC 3 dL_law_1148 rfl rfl ?_
  refine r_iconst hC dL_law_1149 ?_
  refine r_iadd hC dL_law_1150 ?_
  obtain ⟨i_1, h⟩ := h
  refine r_sld hC hX hbl hbA i_1 dL_law_1151 ?_
  refine r_callV (As := [vI (sxv xs (x3 + 1))]) (st := []) hC cw_law_119 rfl q1.1 q1.2 rfl rfl (Nat.le_of_ble_eq_true rfl) ⟨Nat.le_of_ble_eq_true rfl, Nat.le_of_ble_eq_true rfl⟩ (by constructor <;> simp only [rmX11_plain, room_1] <;> omega) dL_law_1152 (fun hk => mX11_plain Y hF _ _ _ _ _ (kqO hk q1) h) (fun v M_2 h => ?_)
  obtain ⟨r_3, rfl, h⟩ := h
  refine r_aload_n hC 2 dL_law_1155 rfl rfl ?_
  refine r_aloadX hC 0 dL_law_1156 rfl rfl ?_
  refine r_iload_n hC 3 dL_law_1157 rfl rfl ?_
  refine r_iconst hC dL_law_1158 ?_
  refine r_iadd hC dL_law_1159 ?_
  obtain ⟨i_4, h⟩ := h
  refine r_sld hC hX hbl hbA i_4 dL_law_1160 ?_
  refine r_callV (As := [vI (sxv xs (x3 + 1))]) (st := [vI r_3]) hC cw_law_122 rfl q2.1 q2.2 rfl rfl (Nat.le_of_ble_eq_true rfl) ⟨Nat.le_of_ble_eq_true rfl, Nat.le_of_ble_eq_true rfl⟩ (by constructor <;> simp only [rmX11_plain, rmX12_plain, room_1] <;> omega) dL_law_1161 (fun hk => mX12_plain Y hF _ _ _ _ _ (kqO hk q2) h) (fun v M_5 h => ?_)
  obtain ⟨r_6, rfl, h⟩ := h
  refine r_icmp_eq hC 1535 rfl rfl dL_law_1164 (by decide) (fun cq => ?_) (fun cq => ?_)
  · replace h := h.1 cq
    exact r_widen (n' := n + 100) (k' := k + 10240) (by simp only [rmX11_plain, rmX12_plain]; omega) (by simp only [rmX11_plain, rmX12_plain]; omega) (kk _ h)
  · replace h := h.2 cq
    refine r_iconst hC dL_law_1167 ?_
    exact h.elim
theorem dL_law_1169 : dec code 1169 1 1170 (.aload_n 1) := ⟨by decide +kernel, rfl⟩
theorem dL_law_1170 : dec code 1170 1 1171 (.aload_n 0) := ⟨by decide +kernel, rfl⟩
theorem dL_law_1171 : dec code 1171 1 1172 (.iload_n 3) := ⟨by decide +kernel, rfl⟩
theorem dL_law_1172 : dec code 1172 1 1173 (.iconst 1) := ⟨by decide +kernel, rfl⟩
theorem dL_law_1173 : dec code 1173 1 1174 (.iadd) := ⟨by decide +kernel, rfl⟩
theorem dL_law_1174 : dec code 1174 1 1175 (.iaload) := ⟨by decide +kernel, rfl⟩
theorem dL_law_1175 : dec code 1175 1 1176 (.aload_n 0) := ⟨by decide +kernel, rfl⟩
theorem dL_law_1176 : dec code 1176 1 1177 (.iload_n 3) := ⟨by decide +kernel, rfl⟩
theorem dL_law_1177 : dec code 1177 1 1178 (.iconst 2) := ⟨by decide +kernel, rfl⟩
theorem dL_law_1178 : dec code 1178 1 1179 (.iadd) := ⟨by decide +kernel, rfl⟩
theorem dL_law_1179 : dec code 1179 1 1180 (.iaload) := ⟨by decide +kernel, rfl⟩
theorem dL_law_1180 : dec code 1180 1 1181 (.aload_n 0) := ⟨by decide +kernel, rfl⟩
theorem dL_law_1181 : dec code 1181 1 1182 (.iload_n 3) := ⟨by decide +kernel, rfl⟩
theorem dL_law_1182 : dec code 1182 1 1183 (.iconst 3) := ⟨by decide +kernel, rfl⟩
theorem dL_law_1183 : dec code 1183 1 1184 (.iadd) := ⟨by decide +kernel, rfl⟩
theorem dL_law_1184 : dec code 1184 1 1185 (.iaload) := ⟨by decide +kernel, rfl⟩
theorem dL_law_1185 : dec code 1185 3 1188 (.invokevirtual 123) := ⟨by decide +kernel, rfl⟩
theorem dL_law_1188 : dec code 1188 1 1189 (.aload_n 2) := ⟨by decide +kernel, rfl⟩
theorem dL_law_1189 : dec code 1189 1 1190 (.aload_n 0) := ⟨by decide +kernel, rfl⟩
theorem dL_law_1190 : dec code 1190 1 1191 (.iload_n 3) := ⟨by decide +kernel, rfl⟩
theorem dL_law_1191 : dec code 1191 1 1192 (.iconst 1) := ⟨by decide +kernel, rfl⟩
theorem dL_law_1192 : dec code 1192 1 1193 (.iadd) := ⟨by decide +kernel, rfl⟩
theorem dL_law_1193 : dec code 1193 1 1194 (.iaload) := ⟨by decide +kernel, rfl⟩
theorem dL_law_1194 : dec code 1194 1 1195 (.aload_n 0) := ⟨by decide +kernel, rfl⟩
theorem dL_law_1195 : dec code 1195 1 1196 (.iload_n 3) := ⟨by decide +kernel, rfl⟩
theorem dL_law_1196 : dec code 1196 1 1197 (.iconst 2) := ⟨by decide +kernel, rfl⟩
theorem dL_law_1197 : dec code 1197 1 1198 (.iadd) := ⟨by decide +kernel, rfl⟩
theorem dL_law_1198 : dec code 1198 1 1199 (.iaload) := ⟨by decide +kernel, rfl⟩
theorem dL_law_1199 : dec code 1199 1 1200 (.aload_n 0) := ⟨by decide +kernel, rfl⟩
theorem dL_law_1200 : dec code 1200 1 1201 (.iload_n 3) := ⟨by decide +kernel, rfl⟩
theorem dL_law_1201 : dec code 1201 1 1202 (.iconst 3) := ⟨by decide +kernel, rfl⟩
theorem dL_law_1202 : dec code 1202 1 1203 (.iadd) := ⟨by decide +kernel, rfl⟩
theorem dL_law_1203 : dec code 1203 1 1204 (.iaload) := ⟨by decide +kernel, rfl⟩
theorem dL_law_1204 : dec code 1204 3 1207 (.invokevirtual 126) := ⟨by decide +kernel, rfl⟩
theorem dL_law_1207 : dec code 1207 3 1210 (.if_icmp .eq 328) := ⟨by decide +kernel, rfl⟩
theorem dL_law_1210 : dec code 1210 1 1211 (.iconst 0) := ⟨by decide +kernel, rfl⟩
theorem dL_law_1211 : dec code 1211 1 1212 (.ireturn) := ⟨by decide +kernel, rfl⟩
set_option maxHeartbeats 4000000 in
set_option maxRecDepth 100000 in
theorem tL_c25 {X : Cx} {Y : Yx} {M0 : Mem} (hC : OKX X Y R_law code 4 (some .boolean) room_1) (hF : Y.2.2.2.2 = true) (hL : Lay M0) {b L : Nat} {xs : Nat → Int32} (hX : va_X b L xs X.2.2.2.2.1 X.2.2.2.2.1.heap) (hbl : b < X.2.2.2.2.1.heap.size) (hbA : ¬ frA Y b) {Qm : Option Value → Mem → Prop} {n k : Nat} {a1 a2 : Nat} (q1 : 0 < a1 ∧ M0 0 a1 = kO 11) (q2 : 0 < a2 ∧ M0 0 a2 = kO 12) (C : Mem → Prop) (x3 : Int) (hn : n + 100 ≤ 600000 ∧ k + 10240 ≤ 7302250) (kk : ∀ M : Mem, C M → WW X Y 4 room_1 Qm M0 (n + 100) (k + 10240) 1535 [(0, .ref b), (1, vR Y.1 a1), (2, vR Y.1 a2), (3, vI x3)] [] M) (M : Mem) (h : wL_c25 xs L a1 a2 C x3 M) : WW X Y 4 room_1 Qm M0 n k 1169 [(0, .ref b), (1, vR Y.1 a1), (2, vR Y.1 a2), (3, vI x3)] [] M := by
  unfold wL_c25 at h
  refine r_aload_n hC 1 dL_law_1169 rfl rfl ?_
  refine r_aloadX hC 0 dL_law_1170 rfl rfl ?_
  refine r_iload_n hC 3 dL_law_1171 rfl rfl ?_
  refine r_iconst hC dL_law_1172 ?_
  refine r_iadd hC dL_law_1173 ?_
  obtain ⟨i_1, h⟩ := h
  refine r_sld hC hX hbl hbA i_1 dL_law_1174 ?_
  refine r_aloadX hC 0 dL_law_1175 rfl rfl ?_
  refine r_iload_n hC 3 dL_law_1176 rfl rfl ?_
  refine r_iconst hC dL_law_1177 ?_
  refine r_iadd hC dL_law_1178 ?_
  obtain ⟨i_2, h⟩ := h
  refine r_sld hC hX hbl hbA i_2 dL_law_1179 ?_
  refine r_aloadX hC 0 dL_law_1180 rfl rfl ?_
  refine r_iload_n hC 3 dL_law_1181 rfl rfl ?_
  refine r_iconst hC dL_law_1182 ?_
  refine r_iadd hC dL_law_1183 ?_
  obtain ⟨i_3, h⟩ := h
  refine r_sld hC hX hbl hbA i_3 dL_law_1184 ?_
  refine r_callV (As := [vI (sxv xs (x3 + 1)), vI (sxv xs (x3 + 2)), vI (sxv xs (x3 + 3))]) (st := []) hC cw_law_123 rfl q1.1 q1.2 rfl rfl (Nat.le_of_ble_eq_true rfl) ⟨Nat.le_of_ble_eq_true rfl, Nat.le_of_ble_eq_true rfl⟩ (by constructor <;> simp only [rmX11_voice, room_1] <;> omega) dL_law_1185 (fun hk => mX11_voice Y hF _ _ _ _ _ _ _ (kqO hk q1) h) (fun v M_4 h => ?_)
  obtain ⟨r_5, rfl, h⟩ := h
  refine r_aload_n hC 2 dL_law_1188 rfl rfl ?_
  refine r_aloadX hC 0 dL_law_1189 rfl rfl ?_
  refine r_iload_n hC 3 dL_law_1190 rfl rfl ?_
  refine r_iconst hC dL_law_1191 ?_
  refine r_iadd hC dL_law_1192 ?_
  obtain ⟨i_6, h⟩ := h
  refine r_sld hC hX hbl hbA i_6 dL_law_1193 ?_
  refine r_aloadX hC 0 dL_law_1194 rfl rfl ?_
  refine r_iload_n hC 3 dL_law_1195 rfl rfl ?_
  refine r_iconst hC dL_law_1196 ?_
  refine r_iadd hC dL_law_1197 ?_
  obtain ⟨i_7, h⟩ := h
  refine r_sld hC hX hbl hbA i_7 dL_law_1198 ?_
  refine r_aloadX hC 0 dL_law_1199 rfl rfl ?_
  refine r_iload_n hC 3 dL_law_1200 rfl rfl ?_
  refine r_iconst hC dL_law_1201 ?_
  refine r_iadd hC dL_law_1202 ?_
  obtain ⟨i_8, h⟩ := h
  refine r_sld hC hX hbl hbA i_8 dL_law_1203 ?_
  refine r_callV (As := [vI (sxv xs (x3 + 1)), vI (sxv xs (x3 + 2)), vI (sxv xs (x3 + 3))]) (st := [vI r_5]) hC cw_law_126 rfl q2.1 q2.2 rfl rfl (Nat.le_of_ble_eq_true rfl) ⟨Nat.le_of_ble_eq_true rfl, Nat.le_of_ble_eq_true rfl⟩ (by constructor <;> simp only [rmX11_voice, rmX12_voice, room_1] <;> omega) dL_law_1204 (fun hk => mX12_voice Y hF _ _ _ _ _ _ _ (kqO hk q2) h) (fun v M_9 h => ?_)
  obtain ⟨r_10, rfl, h⟩ := h
  refine r_icmp_eq hC 1535 rfl rfl dL_law_1207 (by decide) (fun cq => ?_) (fun cq => ?_)
  · replace h := h.1 cq
    exact r_widen (n' := n + 100) (k' := k + 10240) (by simp only [rmX11_voice, rmX12_voice]; omega) (by simp only [rmX11_voice, rmX12_voice]; omega) (kk _ h)
  · replace h := h.2 cq
    refine r_iconst hC dL_law_1210 ?_
    exact h.elim
theorem dL_law_1212 : dec code 1212 1 1213 (.aload_n 1) := ⟨by decide +kernel, rfl⟩
theorem dL_law_1213 : dec code 1213 1 1214 (.aload_n 0) := ⟨by decide +kernel, rfl⟩
theorem dL_law_1214 : dec code 1214 1 1215 (.iload_n 3) := ⟨by decide +kernel, rfl⟩
theorem dL_law_1215 : dec code 1215 1 1216 (.iconst 1) := ⟨by decide +kernel, rfl⟩
theorem dL_law_1216 : dec code 1216 1 1217 (.iadd) := ⟨by decide +kernel, rfl⟩
theorem dL_law_1217 : dec code 1217 1 1218 (.iaload) := ⟨by decide +kernel, rfl⟩
theorem dL_law_1218 : dec code 1218 3 1221 (.invokevirtual 127) := ⟨by decide +kernel, rfl⟩
theorem dL_law_1221 : dec code 1221 1 1222 (.aload_n 2) := ⟨by decide +kernel, rfl⟩
theorem dL_law_1222 : dec code 1222 1 1223 (.aload_n 0) := ⟨by decide +kernel, rfl⟩
theorem dL_law_1223 : dec code 1223 1 1224 (.iload_n 3) := ⟨by decide +kernel, rfl⟩
theorem dL_law_1224 : dec code 1224 1 1225 (.iconst 1) := ⟨by decide +kernel, rfl⟩
theorem dL_law_1225 : dec code 1225 1 1226 (.iadd) := ⟨by decide +kernel, rfl⟩
theorem dL_law_1226 : dec code 1226 1 1227 (.iaload) := ⟨by decide +kernel, rfl⟩
theorem dL_law_1227 : dec code 1227 3 1230 (.invokevirtual 130) := ⟨by decide +kernel, rfl⟩
theorem dL_law_1230 : dec code 1230 3 1233 (.if_icmp .eq 305) := ⟨by decide +kernel, rfl⟩
theorem dL_law_1233 : dec code 1233 1 1234 (.iconst 0) := ⟨by decide +kernel, rfl⟩
theorem dL_law_1234 : dec code 1234 1 1235 (.ireturn) := ⟨by decide +kernel, rfl⟩
set_option maxHeartbeats 4000000 in
set_option maxRecDepth 100000 in
theorem tL_c26 {X : Cx} {Y : Yx} {M0 : Mem} (hC : OKX X Y R_law code 4 (some .boolean) room_1) (hF : Y.2.2.2.2 = true) (hL : Lay M0) {b L : Nat} {xs : Nat → Int32} (hX : va_X b L xs X.2.2.2.2.1 X.2.2.2.2.1.heap) (hbl : b < X.2.2.2.2.1.heap.size) (hbA : ¬ frA Y b) {Qm : Option Value → Mem → Prop} {n k : Nat} {a1 a2 : Nat} (q1 : 0 < a1 ∧ M0 0 a1 = kO 11) (q2 : 0 < a2 ∧ M0 0 a2 = kO 12) (C : Mem → Prop) (x3 : Int) (hn : n + 100 ≤ 600000 ∧ k + 10240 ≤ 7302250) (kk : ∀ M : Mem, C M → WW X Y 4 room_1 Qm M0 (n + 100) (k + 10240) 1535 [(0, .ref b), (1, vR Y.1 a1), (2, vR Y.1 a2), (3, vI x3)] [] M) (M : Mem) (h : wL_c26 xs L a1 a2 C x3 M) : WW X Y 4 room_1 Qm M0 n k 1212 [(0, .ref b), (1, vR Y.1 a1), (2, vR Y.1 a2), (3, vI x3)] [] M := by
  unfold wL_c26 at h
  refine r_aload_n hC 1 dL_law_1212 rfl rfl ?_
  refine r_aloadX hC 0 dL_law_1213 rfl rfl ?_
  refine r_iload_n hC 3 dL_law_1214 rfl rfl ?_
  refine r_iconst hC dL_law_1215 ?_
  refine r_iadd hC dL_law_1216 ?_
  obtain ⟨i_1, h⟩ := h
  refine r_sld hC hX hbl hbA i_1 dL_law_1217 ?_
  refine r_callV (As := [vI (sxv xs (x3 + 1))]) (st := []) hC cw_law_127 rfl q1.1 q1.2 rfl rfl (Nat.le_of_ble_eq_true rfl) ⟨Nat.le_of_ble_eq_true rfl, Nat.le_of_ble_eq_true rfl⟩ (by constructor <;> simp only [rmX11_trace, room_1] <;> omega) dL_law_1218 (fun hk => mX11_trace Y hF _ _ _ _ _ (kqO hk q1) h) (fun v M_2 h => ?_)
  obtain ⟨r_3, rfl, h⟩ := h
  refine r_aload_n hC 2 dL_law_1221 rfl rfl ?_
  refine r_aloadX hC 0 dL_law_1222 rfl rfl ?_
  refine r_iload_n hC 3 dL_law_1223 rfl rfl ?_
  refine r_iconst hC dL_law_1224 ?_
  refine r_iadd hC dL_law_1225 ?_
  obtain ⟨i_4, h⟩ := h
  refine r_sld hC hX hbl hbA i_4 dL_law_1226 ?_
  refine r_callV (As := [vI (sxv xs (x3 + 1))]) (st := [vI r_3]) hC cw_law_130 rfl q2.1 q2.2 rfl rfl (Nat.le_of_ble_eq_true rfl) ⟨Nat.le_of_ble_eq_true rfl, Nat.le_of_ble_eq_true rfl⟩ (by constructor <;> simp only [rmX11_trace, rmX12_trace, room_1] <;> omega) dL_law_1227 (fun hk => mX12_trace Y hF _ _ _ _ _ (kqO hk q2) h) (fun v M_5 h => ?_)
  obtain ⟨r_6, rfl, h⟩ := h
  refine r_icmp_eq hC 1535 rfl rfl dL_law_1230 (by decide) (fun cq => ?_) (fun cq => ?_)
  · replace h := h.1 cq
    exact r_widen (n' := n + 100) (k' := k + 10240) (by simp only [rmX11_trace, rmX12_trace]; omega) (by simp only [rmX11_trace, rmX12_trace]; omega) (kk _ h)
  · replace h := h.2 cq
    refine r_iconst hC dL_law_1233 ?_
    exact h.elim
theorem dL_law_1235 : dec code 1235 1 1236 (.aload_n 1) := ⟨by decide +kernel, rfl⟩
theorem dL_law_1236 : dec code 1236 1 1237 (.aload_n 0) := ⟨by decide +kernel, rfl⟩
theorem dL_law_1237 : dec code 1237 1 1238 (.iload_n 3) := ⟨by decide +kernel, rfl⟩
theorem dL_law_1238 : dec code 1238 1 1239 (.iconst 1) := ⟨by decide +kernel, rfl⟩
theorem dL_law_1239 : dec code 1239 1 1240 (.iadd) := ⟨by decide +kernel, rfl⟩
theorem dL_law_1240 : dec code 1240 1 1241 (.iaload) := ⟨by decide +kernel, rfl⟩
theorem dL_law_1241 : dec code 1241 1 1242 (.aload_n 0) := ⟨by decide +kernel, rfl⟩
theorem dL_law_1242 : dec code 1242 1 1243 (.iload_n 3) := ⟨by decide +kernel, rfl⟩
theorem dL_law_1243 : dec code 1243 1 1244 (.iconst 2) := ⟨by decide +kernel, rfl⟩
theorem dL_law_1244 : dec code 1244 1 1245 (.iadd) := ⟨by decide +kernel, rfl⟩
theorem dL_law_1245 : dec code 1245 1 1246 (.iaload) := ⟨by decide +kernel, rfl⟩
theorem dL_law_1246 : dec code 1246 1 1247 (.aload_n 0) := ⟨by decide +kernel, rfl⟩
theorem dL_law_1247 : dec code 1247 1 1248 (.iload_n 3) := ⟨by decide +kernel, rfl⟩
theorem dL_law_1248 : dec code 1248 1 1249 (.iconst 3) := ⟨by decide +kernel, rfl⟩
theorem dL_law_1249 : dec code 1249 1 1250 (.iadd) := ⟨by decide +kernel, rfl⟩
theorem dL_law_1250 : dec code 1250 1 1251 (.iaload) := ⟨by decide +kernel, rfl⟩
theorem dL_law_1251 : dec code 1251 3 1254 (.invokevirtual 131) := ⟨by decide +kernel, rfl⟩
theorem dL_law_1254 : dec code 1254 1 1255 (.aload_n 2) := ⟨by decide +kernel, rfl⟩
theorem dL_law_1255 : dec code 1255 1 1256 (.aload_n 0) := ⟨by decide +kernel, rfl⟩
theorem dL_law_1256 : dec code 1256 1 1257 (.iload_n 3) := ⟨by decide +kernel, rfl⟩
theorem dL_law_1257 : dec code 1257 1 1258 (.iconst 1) := ⟨by decide +kernel, rfl⟩
theorem dL_law_1258 : dec code 1258 1 1259 (.iadd) := ⟨by decide +kernel, rfl⟩
theorem dL_law_1259 : dec code 1259 1 1260 (.iaload) := ⟨by decide +kernel, rfl⟩
theorem dL_law_1260 : dec code 1260 1 1261 (.aload_n 0) := ⟨by decide +kernel, rfl⟩
theorem dL_law_1261 : dec code 1261 1 1262 (.iload_n 3) := ⟨by decide +kernel, rfl⟩
theorem dL_law_1262 : dec code 1262 1 1263 (.iconst 2) := ⟨by decide +kernel, rfl⟩
theorem dL_law_1263 : dec code 1263 1 1264 (.iadd) := ⟨by decide +kernel, rfl⟩
theorem dL_law_1264 : dec code 1264 1 1265 (.iaload) := ⟨by decide +kernel, rfl⟩
theorem dL_law_1265 : dec code 1265 1 1266 (.aload_n 0) := ⟨by decide +kernel, rfl⟩
theorem dL_law_1266 : dec code 1266 1 1267 (.iload_n 3) := ⟨by decide +kernel, rfl⟩
theorem dL_law_1267 : dec code 1267 1 1268 (.iconst 3) := ⟨by decide +kernel, rfl⟩
theorem dL_law_1268 : dec code 1268 1 1269 (.iadd) := ⟨by decide +kernel, rfl⟩
theorem dL_law_1269 : dec code 1269 1 1270 (.iaload) := ⟨by decide +kernel, rfl⟩
theorem dL_law_1270 : dec code 1270 3 1273 (.invokevirtual 134) := ⟨by decide +kernel, rfl⟩
theorem dL_law_1273 : dec code 1273 3 1276 (.if_icmp .eq 262) := ⟨by decide +kernel, rfl⟩
theorem dL_law_1276 : dec code 1276 1 1277 (.iconst 0) := ⟨by decide +kernel, rfl⟩
theorem dL_law_1277 : dec code 1277 1 1278 (.ireturn) := ⟨by decide +kernel, rfl⟩
set_option maxHeartbeats 4000000 in
set_option maxRecDepth 100000 in
theorem tL_c27 {X : Cx} {Y : Yx} {M0 : Mem} (hC : OKX X Y R_law code 4 (some .boolean) room_1) (hF : Y.2.2.2.2 = true) (hL : Lay M0) {b L : Nat} {xs : Nat → Int32} (hX : va_X b L xs X.2.2.2.2.1 X.2.2.2.2.1.heap) (hbl : b < X.2.2.2.2.1.heap.size) (hbA : ¬ frA Y b) {Qm : Option Value → Mem → Prop} {n k : Nat} {a1 a2 : Nat} (q1 : 0 < a1 ∧ M0 0 a1 = kO 11) (q2 : 0 < a2 ∧ M0 0 a2 = kO 12) (C : Mem → Prop) (x3 : Int) (hn : n + 100 ≤ 600000 ∧ k + 10240 ≤ 7302250) (kk : ∀ M : Mem, C M → WW X Y 4 room_1 Qm M0 (n + 100) (k + 10240) 1535 [(0, .ref b), (1, vR Y.1 a1), (2, vR Y.1 a2), (3, vI x3)] [] M) (M : Mem) (h : wL_c27 xs L a1 a2 C x3 M) : WW X Y 4 room_1 Qm M0 n k 1235 [(0, .ref b), (1, vR Y.1 a1), (2, vR Y.1 a2), (3, vI x3)] [] M := by
  unfold wL_c27 at h
  refine r_aload_n hC 1 dL_law_1235 rfl rfl ?_
  refine r_aloadX hC 0 dL_law_1236 rfl rfl ?_
  refine r_iload_n hC 3 dL_law_1237 rfl rfl ?_
  refine r_iconst hC dL_law_1238 ?_
  refine r_iadd hC dL_law_1239 ?_
  obtain ⟨i_1, h⟩ := h
  refine r_sld hC hX hbl hbA i_1 dL_law_1240 ?_
  refine r_aloadX hC 0 dL_law_1241 rfl rfl ?_
  refine r_iload_n hC 3 dL_law_1242 rfl rfl ?_
  refine r_iconst hC dL_law_1243 ?_
  refine r_iadd hC dL_law_1244 ?_
  obtain ⟨i_2, h⟩ := h
  refine r_sld hC hX hbl hbA i_2 dL_law_1245 ?_
  refine r_aloadX hC 0 dL_law_1246 rfl rfl ?_
  refine r_iload_n hC 3 dL_law_1247 rfl rfl ?_
  refine r_iconst hC dL_law_1248 ?_
  refine r_iadd hC dL_law_1249 ?_
  obtain ⟨i_3, h⟩ := h
  refine r_sld hC hX hbl hbA i_3 dL_law_1250 ?_
  refine r_callV (As := [vI (sxv xs (x3 + 1)), vI (sxv xs (x3 + 2)), vI (sxv xs (x3 + 3))]) (st := []) hC cw_law_131 rfl q1.1 q1.2 rfl rfl (Nat.le_of_ble_eq_true rfl) ⟨Nat.le_of_ble_eq_true rfl, Nat.le_of_ble_eq_true rfl⟩ (by constructor <;> simp only [rmX11_sheet, room_1] <;> omega) dL_law_1251 (fun hk => mX11_sheet Y hF _ _ _ _ _ _ _ (kqO hk q1) h) (fun v M_4 h => ?_)
  obtain ⟨r_5, rfl, h⟩ := h
  refine r_aload_n hC 2 dL_law_1254 rfl rfl ?_
  refine r_aloadX hC 0 dL_law_1255 rfl rfl ?_
  refine r_iload_n hC 3 dL_law_1256 rfl rfl ?_
  refine r_iconst hC dL_law_1257 ?_
  refine r_iadd hC dL_law_1258 ?_
  obtain ⟨i_6, h⟩ := h
  refine r_sld hC hX hbl hbA i_6 dL_law_1259 ?_
  refine r_aloadX hC 0 dL_law_1260 rfl rfl ?_
  refine r_iload_n hC 3 dL_law_1261 rfl rfl ?_
  refine r_iconst hC dL_law_1262 ?_
  refine r_iadd hC dL_law_1263 ?_
  obtain ⟨i_7, h⟩ := h
  refine r_sld hC hX hbl hbA i_7 dL_law_1264 ?_
  refine r_aloadX hC 0 dL_law_1265 rfl rfl ?_
  refine r_iload_n hC 3 dL_law_1266 rfl rfl ?_
  refine r_iconst hC dL_law_1267 ?_
  refine r_iadd hC dL_law_1268 ?_
  obtain ⟨i_8, h⟩ := h
  refine r_sld hC hX hbl hbA i_8 dL_law_1269 ?_
  refine r_callV (As := [vI (sxv xs (x3 + 1)), vI (sxv xs (x3 + 2)), vI (sxv xs (x3 + 3))]) (st := [vI r_5]) hC cw_law_134 rfl q2.1 q2.2 rfl rfl (Nat.le_of_ble_eq_true rfl) ⟨Nat.le_of_ble_eq_true rfl, Nat.le_of_ble_eq_true rfl⟩ (by constructor <;> simp only [rmX11_sheet, rmX12_sheet, room_1] <;> omega) dL_law_1270 (fun hk => mX12_sheet Y hF _ _ _ _ _ _ _ (kqO hk q2) h) (fun v M_9 h => ?_)
  obtain ⟨r_10, rfl, h⟩ := h
  refine r_icmp_eq hC 1535 rfl rfl dL_law_1273 (by decide) (fun cq => ?_) (fun cq => ?_)
  · replace h := h.1 cq
    exact r_widen (n' := n + 100) (k' := k + 10240) (by simp only [rmX11_sheet, rmX12_sheet]; omega) (by simp only [rmX11_sheet, rmX12_sheet]; omega) (kk _ h)
  · replace h := h.2 cq
    refine r_iconst hC dL_law_1276 ?_
    exact h.elim
theorem dL_law_1278 : dec code 1278 1 1279 (.aload_n 1) := ⟨by decide +kernel, rfl⟩
theorem dL_law_1279 : dec code 1279 1 1280 (.aload_n 0) := ⟨by decide +kernel, rfl⟩
theorem dL_law_1280 : dec code 1280 1 1281 (.iload_n 3) := ⟨by decide +kernel, rfl⟩
theorem dL_law_1281 : dec code 1281 1 1282 (.iconst 1) := ⟨by decide +kernel, rfl⟩
theorem dL_law_1282 : dec code 1282 1 1283 (.iadd) := ⟨by decide +kernel, rfl⟩
theorem dL_law_1283 : dec code 1283 1 1284 (.iaload) := ⟨by decide +kernel, rfl⟩
theorem dL_law_1284 : dec code 1284 1 1285 (.aload_n 0) := ⟨by decide +kernel, rfl⟩
theorem dL_law_1285 : dec code 1285 1 1286 (.iload_n 3) := ⟨by decide +kernel, rfl⟩
theorem dL_law_1286 : dec code 1286 1 1287 (.iconst 2) := ⟨by decide +kernel, rfl⟩
theorem dL_law_1287 : dec code 1287 1 1288 (.iadd) := ⟨by decide +kernel, rfl⟩
theorem dL_law_1288 : dec code 1288 1 1289 (.iaload) := ⟨by decide +kernel, rfl⟩
theorem dL_law_1289 : dec code 1289 1 1290 (.aload_n 0) := ⟨by decide +kernel, rfl⟩
theorem dL_law_1290 : dec code 1290 1 1291 (.iload_n 3) := ⟨by decide +kernel, rfl⟩
theorem dL_law_1291 : dec code 1291 1 1292 (.iconst 3) := ⟨by decide +kernel, rfl⟩
theorem dL_law_1292 : dec code 1292 1 1293 (.iadd) := ⟨by decide +kernel, rfl⟩
theorem dL_law_1293 : dec code 1293 1 1294 (.iaload) := ⟨by decide +kernel, rfl⟩
theorem dL_law_1294 : dec code 1294 3 1297 (.invokevirtual 135) := ⟨by decide +kernel, rfl⟩
theorem dL_law_1297 : dec code 1297 1 1298 (.aload_n 2) := ⟨by decide +kernel, rfl⟩
theorem dL_law_1298 : dec code 1298 1 1299 (.aload_n 0) := ⟨by decide +kernel, rfl⟩
theorem dL_law_1299 : dec code 1299 1 1300 (.iload_n 3) := ⟨by decide +kernel, rfl⟩
theorem dL_law_1300 : dec code 1300 1 1301 (.iconst 1) := ⟨by decide +kernel, rfl⟩
theorem dL_law_1301 : dec code 1301 1 1302 (.iadd) := ⟨by decide +kernel, rfl⟩
theorem dL_law_1302 : dec code 1302 1 1303 (.iaload) := ⟨by decide +kernel, rfl⟩
theorem dL_law_1303 : dec code 1303 1 1304 (.aload_n 0) := ⟨by decide +kernel, rfl⟩
theorem dL_law_1304 : dec code 1304 1 1305 (.iload_n 3) := ⟨by decide +kernel, rfl⟩
theorem dL_law_1305 : dec code 1305 1 1306 (.iconst 2) := ⟨by decide +kernel, rfl⟩
theorem dL_law_1306 : dec code 1306 1 1307 (.iadd) := ⟨by decide +kernel, rfl⟩
theorem dL_law_1307 : dec code 1307 1 1308 (.iaload) := ⟨by decide +kernel, rfl⟩
theorem dL_law_1308 : dec code 1308 1 1309 (.aload_n 0) := ⟨by decide +kernel, rfl⟩
theorem dL_law_1309 : dec code 1309 1 1310 (.iload_n 3) := ⟨by decide +kernel, rfl⟩
theorem dL_law_1310 : dec code 1310 1 1311 (.iconst 3) := ⟨by decide +kernel, rfl⟩
theorem dL_law_1311 : dec code 1311 1 1312 (.iadd) := ⟨by decide +kernel, rfl⟩
theorem dL_law_1312 : dec code 1312 1 1313 (.iaload) := ⟨by decide +kernel, rfl⟩
theorem dL_law_1313 : dec code 1313 3 1316 (.invokevirtual 138) := ⟨by decide +kernel, rfl⟩
theorem dL_law_1316 : dec code 1316 3 1319 (.if_icmp .eq 219) := ⟨by decide +kernel, rfl⟩
theorem dL_law_1319 : dec code 1319 1 1320 (.iconst 0) := ⟨by decide +kernel, rfl⟩
theorem dL_law_1320 : dec code 1320 1 1321 (.ireturn) := ⟨by decide +kernel, rfl⟩
set_option maxHeartbeats 4000000 in
set_option maxRecDepth 100000 in
theorem tL_c28 {X : Cx} {Y : Yx} {M0 : Mem} (hC : OKX X Y R_law code 4 (some .boolean) room_1) (hF : Y.2.2.2.2 = true) (hL : Lay M0) {b L : Nat} {xs : Nat → Int32} (hX : va_X b L xs X.2.2.2.2.1 X.2.2.2.2.1.heap) (hbl : b < X.2.2.2.2.1.heap.size) (hbA : ¬ frA Y b) {Qm : Option Value → Mem → Prop} {n k : Nat} {a1 a2 : Nat} (q1 : 0 < a1 ∧ M0 0 a1 = kO 11) (q2 : 0 < a2 ∧ M0 0 a2 = kO 12) (C : Mem → Prop) (x3 : Int) (hn : n + 100 ≤ 600000 ∧ k + 10240 ≤ 7302250) (kk : ∀ M : Mem, C M → WW X Y 4 room_1 Qm M0 (n + 100) (k + 10240) 1535 [(0, .ref b), (1, vR Y.1 a1), (2, vR Y.1 a2), (3, vI x3)] [] M) (M : Mem) (h : wL_c28 xs L a1 a2 C x3 M) : WW X Y 4 room_1 Qm M0 n k 1278 [(0, .ref b), (1, vR Y.1 a1), (2, vR Y.1 a2), (3, vI x3)] [] M := by
  unfold wL_c28 at h
  refine r_aload_n hC 1 dL_law_1278 rfl rfl ?_
  refine r_aloadX hC 0 dL_law_1279 rfl rfl ?_
  refine r_iload_n hC 3 dL_law_1280 rfl rfl ?_
  refine r_iconst hC dL_law_1281 ?_
  refine r_iadd hC dL_law_1282 ?_
  obtain ⟨i_1, h⟩ := h
  refine r_sld hC hX hbl hbA i_1 dL_law_1283 ?_
  refine r_aloadX hC 0 dL_law_1284 rfl rfl ?_
  refine r_iload_n hC 3 dL_law_1285 rfl rfl ?_
  refine r_iconst hC dL_law_1286 ?_
  refine r_iadd hC dL_law_1287 ?_
  obtain ⟨i_2, h⟩ := h
  refine r_sld hC hX hbl hbA i_2 dL_law_1288 ?_
  refine r_aloadX hC 0 dL_law_1289 rfl rfl ?_
  refine r_iload_n hC 3 dL_law_1290 rfl rfl ?_
  refine r_iconst hC dL_law_1291 ?_
  refine r_iadd hC dL_law_1292 ?_
  obtain ⟨i_3, h⟩ := h
  refine r_sld hC hX hbl hbA i_3 dL_law_1293 ?_
  refine r_callV (As := [vI (sxv xs (x3 + 1)), vI (sxv xs (x3 + 2)), vI (sxv xs (x3 + 3))]) (st := []) hC cw_law_135 rfl q1.1 q1.2 rfl rfl (Nat.le_of_ble_eq_true rfl) ⟨Nat.le_of_ble_eq_true rfl, Nat.le_of_ble_eq_true rfl⟩ (by constructor <;> simp only [rmX11_put, room_1] <;> omega) dL_law_1294 (fun hk => mX11_put Y hF _ _ _ _ _ _ _ (kqO hk q1) h) (fun v M_4 h => ?_)
  obtain ⟨r_5, rfl, h⟩ := h
  refine r_aload_n hC 2 dL_law_1297 rfl rfl ?_
  refine r_aloadX hC 0 dL_law_1298 rfl rfl ?_
  refine r_iload_n hC 3 dL_law_1299 rfl rfl ?_
  refine r_iconst hC dL_law_1300 ?_
  refine r_iadd hC dL_law_1301 ?_
  obtain ⟨i_6, h⟩ := h
  refine r_sld hC hX hbl hbA i_6 dL_law_1302 ?_
  refine r_aloadX hC 0 dL_law_1303 rfl rfl ?_
  refine r_iload_n hC 3 dL_law_1304 rfl rfl ?_
  refine r_iconst hC dL_law_1305 ?_
  refine r_iadd hC dL_law_1306 ?_
  obtain ⟨i_7, h⟩ := h
  refine r_sld hC hX hbl hbA i_7 dL_law_1307 ?_
  refine r_aloadX hC 0 dL_law_1308 rfl rfl ?_
  refine r_iload_n hC 3 dL_law_1309 rfl rfl ?_
  refine r_iconst hC dL_law_1310 ?_
  refine r_iadd hC dL_law_1311 ?_
  obtain ⟨i_8, h⟩ := h
  refine r_sld hC hX hbl hbA i_8 dL_law_1312 ?_
  refine r_callV (As := [vI (sxv xs (x3 + 1)), vI (sxv xs (x3 + 2)), vI (sxv xs (x3 + 3))]) (st := [vI r_5]) hC cw_law_138 rfl q2.1 q2.2 rfl rfl (Nat.le_of_ble_eq_true rfl) ⟨Nat.le_of_ble_eq_true rfl, Nat.le_of_ble_eq_true rfl⟩ (by constructor <;> simp only [rmX11_put, rmX12_put, room_1] <;> omega) dL_law_1313 (fun hk => mX12_put Y hF _ _ _ _ _ _ _ (kqO hk q2) h) (fun v M_9 h => ?_)
  obtain ⟨r_10, rfl, h⟩ := h
  refine r_icmp_eq hC 1535 rfl rfl dL_law_1316 (by decide) (fun cq => ?_) (fun cq => ?_)
  · replace h := h.1 cq
    exact r_widen (n' := n + 100) (k' := k + 10240) (by simp only [rmX11_put, rmX12_put]; omega) (by simp only [rmX11_put, rmX12_put]; omega) (kk _ h)
  · replace h := h.2 cq
    refine r_iconst hC dL_law_1319 ?_
    exact h.elim
theorem dL_law_1321 : dec code 1321 1 1322 (.aload_n 1) := ⟨by decide +kernel, rfl⟩
theorem dL_law_1322 : dec code 1322 1 1323 (.aload_n 0) := ⟨by decide +kernel, rfl⟩
theorem dL_law_1323 : dec code 1323 1 1324 (.iload_n 3) := ⟨by decide +kernel, rfl⟩
theorem dL_law_1324 : dec code 1324 1 1325 (.iconst 1) := ⟨by decide +kernel, rfl⟩
theorem dL_law_1325 : dec code 1325 1 1326 (.iadd) := ⟨by decide +kernel, rfl⟩
theorem dL_law_1326 : dec code 1326 1 1327 (.iaload) := ⟨by decide +kernel, rfl⟩
theorem dL_law_1327 : dec code 1327 1 1328 (.aload_n 0) := ⟨by decide +kernel, rfl⟩
theorem dL_law_1328 : dec code 1328 1 1329 (.iload_n 3) := ⟨by decide +kernel, rfl⟩
theorem dL_law_1329 : dec code 1329 1 1330 (.iconst 2) := ⟨by decide +kernel, rfl⟩
theorem dL_law_1330 : dec code 1330 1 1331 (.iadd) := ⟨by decide +kernel, rfl⟩
theorem dL_law_1331 : dec code 1331 1 1332 (.iaload) := ⟨by decide +kernel, rfl⟩
theorem dL_law_1332 : dec code 1332 3 1335 (.invokevirtual 139) := ⟨by decide +kernel, rfl⟩
theorem dL_law_1335 : dec code 1335 1 1336 (.aload_n 2) := ⟨by decide +kernel, rfl⟩
theorem dL_law_1336 : dec code 1336 1 1337 (.aload_n 0) := ⟨by decide +kernel, rfl⟩
theorem dL_law_1337 : dec code 1337 1 1338 (.iload_n 3) := ⟨by decide +kernel, rfl⟩
theorem dL_law_1338 : dec code 1338 1 1339 (.iconst 1) := ⟨by decide +kernel, rfl⟩
theorem dL_law_1339 : dec code 1339 1 1340 (.iadd) := ⟨by decide +kernel, rfl⟩
theorem dL_law_1340 : dec code 1340 1 1341 (.iaload) := ⟨by decide +kernel, rfl⟩
theorem dL_law_1341 : dec code 1341 1 1342 (.aload_n 0) := ⟨by decide +kernel, rfl⟩
theorem dL_law_1342 : dec code 1342 1 1343 (.iload_n 3) := ⟨by decide +kernel, rfl⟩
theorem dL_law_1343 : dec code 1343 1 1344 (.iconst 2) := ⟨by decide +kernel, rfl⟩
theorem dL_law_1344 : dec code 1344 1 1345 (.iadd) := ⟨by decide +kernel, rfl⟩
theorem dL_law_1345 : dec code 1345 1 1346 (.iaload) := ⟨by decide +kernel, rfl⟩
theorem dL_law_1346 : dec code 1346 3 1349 (.invokevirtual 142) := ⟨by decide +kernel, rfl⟩
theorem dL_law_1349 : dec code 1349 3 1352 (.if_icmp .eq 186) := ⟨by decide +kernel, rfl⟩
theorem dL_law_1352 : dec code 1352 1 1353 (.iconst 0) := ⟨by decide +kernel, rfl⟩
theorem dL_law_1353 : dec code 1353 1 1354 (.ireturn) := ⟨by decide +kernel, rfl⟩
set_option maxHeartbeats 4000000 in
set_option maxRecDepth 100000 in
theorem tL_c29 {X : Cx} {Y : Yx} {M0 : Mem} (hC : OKX X Y R_law code 4 (some .boolean) room_1) (hF : Y.2.2.2.2 = true) (hL : Lay M0) {b L : Nat} {xs : Nat → Int32} (hX : va_X b L xs X.2.2.2.2.1 X.2.2.2.2.1.heap) (hbl : b < X.2.2.2.2.1.heap.size) (hbA : ¬ frA Y b) {Qm : Option Value → Mem → Prop} {n k : Nat} {a1 a2 : Nat} (q1 : 0 < a1 ∧ M0 0 a1 = kO 11) (q2 : 0 < a2 ∧ M0 0 a2 = kO 12) (C : Mem → Prop) (x3 : Int) (hn : n + 100 ≤ 600000 ∧ k + 10240 ≤ 7302250) (kk : ∀ M : Mem, C M → WW X Y 4 room_1 Qm M0 (n + 100) (k + 10240) 1535 [(0, .ref b), (1, vR Y.1 a1), (2, vR Y.1 a2), (3, vI x3)] [] M) (M : Mem) (h : wL_c29 xs L a1 a2 C x3 M) : WW X Y 4 room_1 Qm M0 n k 1321 [(0, .ref b), (1, vR Y.1 a1), (2, vR Y.1 a2), (3, vI x3)] [] M := by
  unfold wL_c29 at h
  refine r_aload_n hC 1 dL_law_1321 rfl rfl ?_
  refine r_aloadX hC 0 dL_law_1322 rfl rfl ?_
  refine r_iload_n hC 3 dL_law_1323 rfl rfl ?_
  refine r_iconst hC dL_law_1324 ?_
  refine r_iadd hC dL_law_1325 ?_
  obtain ⟨i_1, h⟩ := h
  refine r_sld hC hX hbl hbA i_1 dL_law_1326 ?_
  refine r_aloadX hC 0 dL_law_1327 rfl rfl ?_
  refine r_iload_n hC 3 dL_law_1328 rfl rfl ?_
  refine r_iconst hC dL_law_1329 ?_
  refine r_iadd hC dL_law_1330 ?_
  obtain ⟨i_2, h⟩ := h
  refine r_sld hC hX hbl hbA i_2 dL_law_1331 ?_
  refine r_callV (As := [vI (sxv xs (x3 + 1)), vI (sxv xs (x3 + 2))]) (st := []) hC cw_law_139 rfl q1.1 q1.2 rfl rfl (Nat.le_of_ble_eq_true rfl) ⟨Nat.le_of_ble_eq_true rfl, Nat.le_of_ble_eq_true rfl⟩ (by constructor <;> simp only [rmX11_get, room_1] <;> omega) dL_law_1332 (fun hk => mX11_get Y hF _ _ _ _ _ _ (kqO hk q1) h) (fun v M_3 h => ?_)
  obtain ⟨r_4, rfl, h⟩ := h
  refine r_aload_n hC 2 dL_law_1335 rfl rfl ?_
  refine r_aloadX hC 0 dL_law_1336 rfl rfl ?_
  refine r_iload_n hC 3 dL_law_1337 rfl rfl ?_
  refine r_iconst hC dL_law_1338 ?_
  refine r_iadd hC dL_law_1339 ?_
  obtain ⟨i_5, h⟩ := h
  refine r_sld hC hX hbl hbA i_5 dL_law_1340 ?_
  refine r_aloadX hC 0 dL_law_1341 rfl rfl ?_
  refine r_iload_n hC 3 dL_law_1342 rfl rfl ?_
  refine r_iconst hC dL_law_1343 ?_
  refine r_iadd hC dL_law_1344 ?_
  obtain ⟨i_6, h⟩ := h
  refine r_sld hC hX hbl hbA i_6 dL_law_1345 ?_
  refine r_callV (As := [vI (sxv xs (x3 + 1)), vI (sxv xs (x3 + 2))]) (st := [vI r_4]) hC cw_law_142 rfl q2.1 q2.2 rfl rfl (Nat.le_of_ble_eq_true rfl) ⟨Nat.le_of_ble_eq_true rfl, Nat.le_of_ble_eq_true rfl⟩ (by constructor <;> simp only [rmX11_get, rmX12_get, room_1] <;> omega) dL_law_1346 (fun hk => mX12_get Y hF _ _ _ _ _ _ (kqO hk q2) h) (fun v M_7 h => ?_)
  obtain ⟨r_8, rfl, h⟩ := h
  refine r_icmp_eq hC 1535 rfl rfl dL_law_1349 (by decide) (fun cq => ?_) (fun cq => ?_)
  · replace h := h.1 cq
    exact r_widen (n' := n + 100) (k' := k + 10240) (by simp only [rmX11_get, rmX12_get]; omega) (by simp only [rmX11_get, rmX12_get]; omega) (kk _ h)
  · replace h := h.2 cq
    refine r_iconst hC dL_law_1352 ?_
    exact h.elim
theorem dL_law_1354 : dec code 1354 1 1355 (.aload_n 1) := ⟨by decide +kernel, rfl⟩
theorem dL_law_1355 : dec code 1355 1 1356 (.aload_n 0) := ⟨by decide +kernel, rfl⟩
theorem dL_law_1356 : dec code 1356 1 1357 (.iload_n 3) := ⟨by decide +kernel, rfl⟩
theorem dL_law_1357 : dec code 1357 1 1358 (.iconst 1) := ⟨by decide +kernel, rfl⟩
theorem dL_law_1358 : dec code 1358 1 1359 (.iadd) := ⟨by decide +kernel, rfl⟩
theorem dL_law_1359 : dec code 1359 1 1360 (.iaload) := ⟨by decide +kernel, rfl⟩
theorem dL_law_1360 : dec code 1360 1 1361 (.aload_n 0) := ⟨by decide +kernel, rfl⟩
theorem dL_law_1361 : dec code 1361 1 1362 (.iload_n 3) := ⟨by decide +kernel, rfl⟩
theorem dL_law_1362 : dec code 1362 1 1363 (.iconst 2) := ⟨by decide +kernel, rfl⟩
theorem dL_law_1363 : dec code 1363 1 1364 (.iadd) := ⟨by decide +kernel, rfl⟩
theorem dL_law_1364 : dec code 1364 1 1365 (.iaload) := ⟨by decide +kernel, rfl⟩
theorem dL_law_1365 : dec code 1365 1 1366 (.aload_n 0) := ⟨by decide +kernel, rfl⟩
theorem dL_law_1366 : dec code 1366 1 1367 (.iload_n 3) := ⟨by decide +kernel, rfl⟩
theorem dL_law_1367 : dec code 1367 1 1368 (.iconst 3) := ⟨by decide +kernel, rfl⟩
theorem dL_law_1368 : dec code 1368 1 1369 (.iadd) := ⟨by decide +kernel, rfl⟩
theorem dL_law_1369 : dec code 1369 1 1370 (.iaload) := ⟨by decide +kernel, rfl⟩
theorem dL_law_1370 : dec code 1370 1 1371 (.aload_n 0) := ⟨by decide +kernel, rfl⟩
theorem dL_law_1371 : dec code 1371 1 1372 (.iload_n 3) := ⟨by decide +kernel, rfl⟩
theorem dL_law_1372 : dec code 1372 1 1373 (.iconst 4) := ⟨by decide +kernel, rfl⟩
theorem dL_law_1373 : dec code 1373 1 1374 (.iadd) := ⟨by decide +kernel, rfl⟩
theorem dL_law_1374 : dec code 1374 1 1375 (.iaload) := ⟨by decide +kernel, rfl⟩
theorem dL_law_1375 : dec code 1375 1 1376 (.aload_n 0) := ⟨by decide +kernel, rfl⟩
theorem dL_law_1376 : dec code 1376 1 1377 (.iload_n 3) := ⟨by decide +kernel, rfl⟩
theorem dL_law_1377 : dec code 1377 1 1378 (.iconst 5) := ⟨by decide +kernel, rfl⟩
theorem dL_law_1378 : dec code 1378 1 1379 (.iadd) := ⟨by decide +kernel, rfl⟩
theorem dL_law_1379 : dec code 1379 1 1380 (.iaload) := ⟨by decide +kernel, rfl⟩
theorem dL_law_1380 : dec code 1380 3 1383 (.invokevirtual 143) := ⟨by decide +kernel, rfl⟩
theorem dL_law_1383 : dec code 1383 1 1384 (.aload_n 2) := ⟨by decide +kernel, rfl⟩
theorem dL_law_1384 : dec code 1384 1 1385 (.aload_n 0) := ⟨by decide +kernel, rfl⟩
theorem dL_law_1385 : dec code 1385 1 1386 (.iload_n 3) := ⟨by decide +kernel, rfl⟩
theorem dL_law_1386 : dec code 1386 1 1387 (.iconst 1) := ⟨by decide +kernel, rfl⟩
theorem dL_law_1387 : dec code 1387 1 1388 (.iadd) := ⟨by decide +kernel, rfl⟩
theorem dL_law_1388 : dec code 1388 1 1389 (.iaload) := ⟨by decide +kernel, rfl⟩
theorem dL_law_1389 : dec code 1389 1 1390 (.aload_n 0) := ⟨by decide +kernel, rfl⟩
theorem dL_law_1390 : dec code 1390 1 1391 (.iload_n 3) := ⟨by decide +kernel, rfl⟩
theorem dL_law_1391 : dec code 1391 1 1392 (.iconst 2) := ⟨by decide +kernel, rfl⟩
theorem dL_law_1392 : dec code 1392 1 1393 (.iadd) := ⟨by decide +kernel, rfl⟩
theorem dL_law_1393 : dec code 1393 1 1394 (.iaload) := ⟨by decide +kernel, rfl⟩
theorem dL_law_1394 : dec code 1394 1 1395 (.aload_n 0) := ⟨by decide +kernel, rfl⟩
theorem dL_law_1395 : dec code 1395 1 1396 (.iload_n 3) := ⟨by decide +kernel, rfl⟩
theorem dL_law_1396 : dec code 1396 1 1397 (.iconst 3) := ⟨by decide +kernel, rfl⟩
theorem dL_law_1397 : dec code 1397 1 1398 (.iadd) := ⟨by decide +kernel, rfl⟩
theorem dL_law_1398 : dec code 1398 1 1399 (.iaload) := ⟨by decide +kernel, rfl⟩
theorem dL_law_1399 : dec code 1399 1 1400 (.aload_n 0) := ⟨by decide +kernel, rfl⟩
theorem dL_law_1400 : dec code 1400 1 1401 (.iload_n 3) := ⟨by decide +kernel, rfl⟩
theorem dL_law_1401 : dec code 1401 1 1402 (.iconst 4) := ⟨by decide +kernel, rfl⟩
theorem dL_law_1402 : dec code 1402 1 1403 (.iadd) := ⟨by decide +kernel, rfl⟩
theorem dL_law_1403 : dec code 1403 1 1404 (.iaload) := ⟨by decide +kernel, rfl⟩
theorem dL_law_1404 : dec code 1404 1 1405 (.aload_n 0) := ⟨by decide +kernel, rfl⟩
theorem dL_law_1405 : dec code 1405 1 1406 (.iload_n 3) := ⟨by decide +kernel, rfl⟩
theorem dL_law_1406 : dec code 1406 1 1407 (.iconst 5) := ⟨by decide +kernel, rfl⟩
theorem dL_law_1407 : dec code 1407 1 1408 (.iadd) := ⟨by decide +kernel, rfl⟩
theorem dL_law_1408 : dec code 1408 1 1409 (.iaload) := ⟨by decide +kernel, rfl⟩
theorem dL_law_1409 : dec code 1409 3 1412 (.invokevirtual 147) := ⟨by decide +kernel, rfl⟩
theorem dL_law_1412 : dec code 1412 3 1415 (.if_icmp .eq 123) := ⟨by decide +kernel, rfl⟩
theorem dL_law_1415 : dec code 1415 1 1416 (.iconst 0) := ⟨by decide +kernel, rfl⟩
theorem dL_law_1416 : dec code 1416 1 1417 (.ireturn) := ⟨by decide +kernel, rfl⟩
set_option maxHeartbeats 4000000 in
set_option maxRecDepth 100000 in
theorem tL_c30 {X : Cx} {Y : Yx} {M0 : Mem} (hC : OKX X Y R_law code 4 (some .boolean) room_1) (hF : Y.2.2.2.2 = true) (hL : Lay M0) {b L : Nat} {xs : Nat → Int32} (hX : va_X b L xs X.2.2.2.2.1 X.2.2.2.2.1.heap) (hbl : b < X.2.2.2.2.1.heap.size) (hbA : ¬ frA Y b) {Qm : Option Value → Mem → Prop} {n k : Nat} {a1 a2 : Nat} (q1 : 0 < a1 ∧ M0 0 a1 = kO 11) (q2 : 0 < a2 ∧ M0 0 a2 = kO 12) (C : Mem → Prop) (x3 : Int) (hn : n + 100 ≤ 600000 ∧ k + 10240 ≤ 7302250) (kk : ∀ M : Mem, C M → WW X Y 4 room_1 Qm M0 (n + 100) (k + 10240) 1535 [(0, .ref b), (1, vR Y.1 a1), (2, vR Y.1 a2), (3, vI x3)] [] M) (M : Mem) (h : wL_c30 xs L a1 a2 C x3 M) : WW X Y 4 room_1 Qm M0 n k 1354 [(0, .ref b), (1, vR Y.1 a1), (2, vR Y.1 a2), (3, vI x3)] [] M := by
  unfold wL_c30 at h
  refine r_aload_n hC 1 dL_law_1354 rfl rfl ?_
  refine r_aloadX hC 0 dL_law_1355 rfl rfl ?_
  refine r_iload_n hC 3 dL_law_1356 rfl rfl ?_
  refine r_iconst hC dL_law_1357 ?_
  refine r_iadd hC dL_law_1358 ?_
  obtain ⟨i_1, h⟩ := h
  refine r_sld hC hX hbl hbA i_1 dL_law_1359 ?_
  refine r_aloadX hC 0 dL_law_1360 rfl rfl ?_
  refine r_iload_n hC 3 dL_law_1361 rfl rfl ?_
  refine r_iconst hC dL_law_1362 ?_
  refine r_iadd hC dL_law_1363 ?_
  obtain ⟨i_2, h⟩ := h
  refine r_sld hC hX hbl hbA i_2 dL_law_1364 ?_
  refine r_aloadX hC 0 dL_law_1365 rfl rfl ?_
  refine r_iload_n hC 3 dL_law_1366 rfl rfl ?_
  refine r_iconst hC dL_law_1367 ?_
  refine r_iadd hC dL_law_1368 ?_
  obtain ⟨i_3, h⟩ := h
  refine r_sld hC hX hbl hbA i_3 dL_law_1369 ?_
  refine r_aloadX hC 0 dL_law_1370 rfl rfl ?_
  refine r_iload_n hC 3 dL_law_1371 rfl rfl ?_
  refine r_iconst hC dL_law_1372 ?_
  refine r_iadd hC dL_law_1373 ?_
  obtain ⟨i_4, h⟩ := h
  refine r_sld hC hX hbl hbA i_4 dL_law_1374 ?_
  refine r_aloadX hC 0 dL_law_1375 rfl rfl ?_
  refine r_iload_n hC 3 dL_law_1376 rfl rfl ?_
  refine r_iconst hC dL_law_1377 ?_
  refine r_iadd hC dL_law_1378 ?_
  obtain ⟨i_5, h⟩ := h
  refine r_sld hC hX hbl hbA i_5 dL_law_1379 ?_
  refine r_callV (As := [vI (sxv xs (x3 + 1)), vI (sxv xs (x3 + 2)), vI (sxv xs (x3 + 3)), vI (sxv xs (x3 + 4)), vI (sxv xs (x3 + 5))]) (st := []) hC cw_law_143 rfl q1.1 q1.2 rfl rfl (Nat.le_of_ble_eq_true rfl) ⟨Nat.le_of_ble_eq_true rfl, Nat.le_of_ble_eq_true rfl⟩ (by constructor <;> simp only [rmX11_move, room_1] <;> omega) dL_law_1380 (fun hk => mX11_move Y hF _ _ _ _ _ _ _ _ _ (kqO hk q1) h) (fun v M_6 h => ?_)
  obtain ⟨r_7, rfl, h⟩ := h
  refine r_aload_n hC 2 dL_law_1383 rfl rfl ?_
  refine r_aloadX hC 0 dL_law_1384 rfl rfl ?_
  refine r_iload_n hC 3 dL_law_1385 rfl rfl ?_
  refine r_iconst hC dL_law_1386 ?_
  refine r_iadd hC dL_law_1387 ?_
  obtain ⟨i_8, h⟩ := h
  refine r_sld hC hX hbl hbA i_8 dL_law_1388 ?_
  refine r_aloadX hC 0 dL_law_1389 rfl rfl ?_
  refine r_iload_n hC 3 dL_law_1390 rfl rfl ?_
  refine r_iconst hC dL_law_1391 ?_
  refine r_iadd hC dL_law_1392 ?_
  obtain ⟨i_9, h⟩ := h
  refine r_sld hC hX hbl hbA i_9 dL_law_1393 ?_
  refine r_aloadX hC 0 dL_law_1394 rfl rfl ?_
  refine r_iload_n hC 3 dL_law_1395 rfl rfl ?_
  refine r_iconst hC dL_law_1396 ?_
  refine r_iadd hC dL_law_1397 ?_
  obtain ⟨i_10, h⟩ := h
  refine r_sld hC hX hbl hbA i_10 dL_law_1398 ?_
  refine r_aloadX hC 0 dL_law_1399 rfl rfl ?_
  refine r_iload_n hC 3 dL_law_1400 rfl rfl ?_
  refine r_iconst hC dL_law_1401 ?_
  refine r_iadd hC dL_law_1402 ?_
  obtain ⟨i_11, h⟩ := h
  refine r_sld hC hX hbl hbA i_11 dL_law_1403 ?_
  refine r_aloadX hC 0 dL_law_1404 rfl rfl ?_
  refine r_iload_n hC 3 dL_law_1405 rfl rfl ?_
  refine r_iconst hC dL_law_1406 ?_
  refine r_iadd hC dL_law_1407 ?_
  obtain ⟨i_12, h⟩ := h
  refine r_sld hC hX hbl hbA i_12 dL_law_1408 ?_
  refine r_callV (As := [vI (sxv xs (x3 + 1)), vI (sxv xs (x3 + 2)), vI (sxv xs (x3 + 3)), vI (sxv xs (x3 + 4)), vI (sxv xs (x3 + 5))]) (st := [vI r_7]) hC cw_law_147 rfl q2.1 q2.2 rfl rfl (Nat.le_of_ble_eq_true rfl) ⟨Nat.le_of_ble_eq_true rfl, Nat.le_of_ble_eq_true rfl⟩ (by constructor <;> simp only [rmX11_move, rmX12_move, room_1] <;> omega) dL_law_1409 (fun hk => mX12_move Y hF _ _ _ _ _ _ _ _ _ (kqO hk q2) h) (fun v M_13 h => ?_)
  obtain ⟨r_14, rfl, h⟩ := h
  refine r_icmp_eq hC 1535 rfl rfl dL_law_1412 (by decide) (fun cq => ?_) (fun cq => ?_)
  · replace h := h.1 cq
    exact r_widen (n' := n + 100) (k' := k + 10240) (by simp only [rmX11_move, rmX12_move]; omega) (by simp only [rmX11_move, rmX12_move]; omega) (kk _ h)
  · replace h := h.2 cq
    refine r_iconst hC dL_law_1415 ?_
    exact h.elim
