theorem dL_law_1417 : dec code 1417 1 1418 (.aload_n 1) := ⟨by decide +kernel, rfl⟩
theorem dL_law_1418 : dec code 1418 3 1421 (.invokevirtual 148) := ⟨by decide +kernel, rfl⟩
theorem dL_law_1421 : dec code 1421 1 1422 (.aload_n 2) := ⟨by decide +kernel, rfl⟩
theorem dL_law_1422 : dec code 1422 3 1425 (.invokevirtual 152) := ⟨by decide +kernel, rfl⟩
theorem dL_law_1425 : dec code 1425 3 1428 (.if_icmp .eq 110) := ⟨by decide +kernel, rfl⟩
theorem dL_law_1428 : dec code 1428 1 1429 (.iconst 0) := ⟨by decide +kernel, rfl⟩
theorem dL_law_1429 : dec code 1429 1 1430 (.ireturn) := ⟨by decide +kernel, rfl⟩
set_option maxHeartbeats 4000000 in
set_option maxRecDepth 100000 in
theorem r_fre {X : Cx} {Y : Yx} {nL : Nat} {rm : Room} {Qm : Option Value → Mem → Prop} {M0 M : Mem} {n k pc : Nat} {lv : List (Nat × Value)} {st : List Value} (hF : Y.2.2.2.2 = true) (kk : Lay M → Fre M → WW X Y nL rm Qm M0 n k pc lv st M) : WW X Y nL rm Qm M0 n k pc lv st M := fun ls H locs hl hk hR hS => kk (hR.2 hF) ⟨by have := hR.1.1.1; unfold nx; omega, hR.1.1.2.2⟩ ls H locs hl hk hR hS
theorem tL_c31 {X : Cx} {Y : Yx} {M0 : Mem} (hC : OKX X Y R_law code 4 (some .boolean) room_1) (hF : Y.2.2.2.2 = true) (hL : Lay M0) {b L : Nat} {xs : Nat → Int32} (hX : va_X b L xs X.2.2.2.2.1 X.2.2.2.2.1.heap) (hbl : b < X.2.2.2.2.1.heap.size) (hbA : ¬ frA Y b) {Qm : Option Value → Mem → Prop} {n k : Nat} {a1 a2 : Nat} (q1 : 0 < a1 ∧ M0 0 a1 = kO 11) (q2 : 0 < a2 ∧ M0 0 a2 = kO 12) (C : Mem → Prop) (x3 : Int) (hn : n + 100 ≤ 600000 ∧ k + 10240 ≤ 7302250) (kk : ∀ M : Mem, C M → WW X Y 4 room_1 Qm M0 (n + 100) (k + 10240) 1535 [(0, .ref b), (1, vR Y.1 a1), (2, vR Y.1 a2), (3, vI x3)] [] M) (M : Mem) (h : wL_c31 xs L a1 a2 C x3 M) : WW X Y 4 room_1 Qm M0 n k 1417 [(0, .ref b), (1, vR Y.1 a1), (2, vR Y.1 a2), (3, vI x3)] [] M := by
  unfold wL_c31 at h
  refine r_fre hF fun hlay hfre => ?_
  replace h := h hlay hfre
  refine r_aload_n hC 1 dL_law_1417 rfl rfl ?_
  refine r_callV (As := []) (st := []) hC cw_law_148 rfl q1.1 q1.2 rfl rfl (Nat.le_of_ble_eq_true rfl) ⟨Nat.le_of_ble_eq_true rfl, Nat.le_of_ble_eq_true rfl⟩ (by constructor <;> simp only [rmX11_image, room_1] <;> omega) dL_law_1418 (fun hk => mX11_image Y hF _ _ _ _ (kqO hk q1) h) (fun v M_1 h => ?_)
  obtain ⟨r_2, rfl, h⟩ := h
  refine r_aload_n hC 2 dL_law_1421 rfl rfl ?_
  refine r_callV (As := []) (st := [vI r_2]) hC cw_law_152 rfl q2.1 q2.2 rfl rfl (Nat.le_of_ble_eq_true rfl) ⟨Nat.le_of_ble_eq_true rfl, Nat.le_of_ble_eq_true rfl⟩ (by constructor <;> simp only [rmX11_image, rmX12_image, room_1] <;> omega) dL_law_1422 (fun hk => mX12_image Y hF _ _ _ _ (kqO hk q2) h) (fun v M_3 h => ?_)
  obtain ⟨r_4, rfl, h⟩ := h
  refine r_icmp_eq hC 1535 rfl rfl dL_law_1425 (by decide) (fun cq => ?_) (fun cq => ?_)
  · replace h := h.1 cq
    exact r_widen (n' := n + 100) (k' := k + 10240) (by simp only [rmX11_image, rmX12_image]; omega) (by simp only [rmX11_image, rmX12_image]; omega) (kk _ h)
  · replace h := h.2 cq
    refine r_iconst hC dL_law_1428 ?_
    exact h.elim
theorem dL_law_1430 : dec code 1430 1 1431 (.aload_n 1) := ⟨by decide +kernel, rfl⟩
theorem dL_law_1431 : dec code 1431 3 1434 (.invokevirtual 153) := ⟨by decide +kernel, rfl⟩
theorem dL_law_1434 : dec code 1434 1 1435 (.aload_n 2) := ⟨by decide +kernel, rfl⟩
theorem dL_law_1435 : dec code 1435 3 1438 (.invokevirtual 156) := ⟨by decide +kernel, rfl⟩
theorem dL_law_1438 : dec code 1438 3 1441 (.if_icmp .eq 97) := ⟨by decide +kernel, rfl⟩
theorem dL_law_1441 : dec code 1441 1 1442 (.iconst 0) := ⟨by decide +kernel, rfl⟩
theorem dL_law_1442 : dec code 1442 1 1443 (.ireturn) := ⟨by decide +kernel, rfl⟩
set_option maxHeartbeats 4000000 in
set_option maxRecDepth 100000 in
theorem tL_c32 {X : Cx} {Y : Yx} {M0 : Mem} (hC : OKX X Y R_law code 4 (some .boolean) room_1) (hF : Y.2.2.2.2 = true) (hL : Lay M0) {b L : Nat} {xs : Nat → Int32} (hX : va_X b L xs X.2.2.2.2.1 X.2.2.2.2.1.heap) (hbl : b < X.2.2.2.2.1.heap.size) (hbA : ¬ frA Y b) {Qm : Option Value → Mem → Prop} {n k : Nat} {a1 a2 : Nat} (q1 : 0 < a1 ∧ M0 0 a1 = kO 11) (q2 : 0 < a2 ∧ M0 0 a2 = kO 12) (C : Mem → Prop) (x3 : Int) (hn : n + 100 ≤ 600000 ∧ k + 10240 ≤ 7302250) (kk : ∀ M : Mem, C M → WW X Y 4 room_1 Qm M0 (n + 100) (k + 10240) 1535 [(0, .ref b), (1, vR Y.1 a1), (2, vR Y.1 a2), (3, vI x3)] [] M) (M : Mem) (h : wL_c32 xs L a1 a2 C x3 M) : WW X Y 4 room_1 Qm M0 n k 1430 [(0, .ref b), (1, vR Y.1 a1), (2, vR Y.1 a2), (3, vI x3)] [] M := by
  unfold wL_c32 at h
  refine r_aload_n hC 1 dL_law_1430 rfl rfl ?_
  refine r_callV (As := []) (st := []) hC cw_law_153 rfl q1.1 q1.2 rfl rfl (Nat.le_of_ble_eq_true rfl) ⟨Nat.le_of_ble_eq_true rfl, Nat.le_of_ble_eq_true rfl⟩ (by constructor <;> simp only [rmX11_restore, room_1] <;> omega) dL_law_1431 (fun hk => mX11_restore Y hF _ _ _ _ (kqO hk q1) h) (fun v M_1 h => ?_)
  obtain ⟨r_2, rfl, h⟩ := h
  refine r_aload_n hC 2 dL_law_1434 rfl rfl ?_
  refine r_callV (As := []) (st := [vI r_2]) hC cw_law_156 rfl q2.1 q2.2 rfl rfl (Nat.le_of_ble_eq_true rfl) ⟨Nat.le_of_ble_eq_true rfl, Nat.le_of_ble_eq_true rfl⟩ (by constructor <;> simp only [rmX11_restore, rmX12_restore, room_1] <;> omega) dL_law_1435 (fun hk => mX12_restore Y hF _ _ _ _ (kqO hk q2) h) (fun v M_3 h => ?_)
  obtain ⟨r_4, rfl, h⟩ := h
  refine r_icmp_eq hC 1535 rfl rfl dL_law_1438 (by decide) (fun cq => ?_) (fun cq => ?_)
  · replace h := h.1 cq
    exact r_widen (n' := n + 100) (k' := k + 10240) (by simp only [rmX11_restore, rmX12_restore]; omega) (by simp only [rmX11_restore, rmX12_restore]; omega) (kk _ h)
  · replace h := h.2 cq
    refine r_iconst hC dL_law_1441 ?_
    exact h.elim
theorem dL_law_1443 : dec code 1443 1 1444 (.aload_n 1) := ⟨by decide +kernel, rfl⟩
theorem dL_law_1444 : dec code 1444 1 1445 (.aload_n 0) := ⟨by decide +kernel, rfl⟩
theorem dL_law_1445 : dec code 1445 1 1446 (.iload_n 3) := ⟨by decide +kernel, rfl⟩
theorem dL_law_1446 : dec code 1446 1 1447 (.iconst 1) := ⟨by decide +kernel, rfl⟩
theorem dL_law_1447 : dec code 1447 1 1448 (.iadd) := ⟨by decide +kernel, rfl⟩
theorem dL_law_1448 : dec code 1448 1 1449 (.iaload) := ⟨by decide +kernel, rfl⟩
theorem dL_law_1449 : dec code 1449 3 1452 (.invokevirtual 157) := ⟨by decide +kernel, rfl⟩
theorem dL_law_1452 : dec code 1452 1 1453 (.aload_n 2) := ⟨by decide +kernel, rfl⟩
theorem dL_law_1453 : dec code 1453 1 1454 (.aload_n 0) := ⟨by decide +kernel, rfl⟩
theorem dL_law_1454 : dec code 1454 1 1455 (.iload_n 3) := ⟨by decide +kernel, rfl⟩
theorem dL_law_1455 : dec code 1455 1 1456 (.iconst 1) := ⟨by decide +kernel, rfl⟩
theorem dL_law_1456 : dec code 1456 1 1457 (.iadd) := ⟨by decide +kernel, rfl⟩
theorem dL_law_1457 : dec code 1457 1 1458 (.iaload) := ⟨by decide +kernel, rfl⟩
theorem dL_law_1458 : dec code 1458 3 1461 (.invokevirtual 160) := ⟨by decide +kernel, rfl⟩
theorem dL_law_1461 : dec code 1461 3 1464 (.if_icmp .eq 74) := ⟨by decide +kernel, rfl⟩
theorem dL_law_1464 : dec code 1464 1 1465 (.iconst 0) := ⟨by decide +kernel, rfl⟩
theorem dL_law_1465 : dec code 1465 1 1466 (.ireturn) := ⟨by decide +kernel, rfl⟩
set_option maxHeartbeats 4000000 in
set_option maxRecDepth 100000 in
theorem tL_c33 {X : Cx} {Y : Yx} {M0 : Mem} (hC : OKX X Y R_law code 4 (some .boolean) room_1) (hF : Y.2.2.2.2 = true) (hL : Lay M0) {b L : Nat} {xs : Nat → Int32} (hX : va_X b L xs X.2.2.2.2.1 X.2.2.2.2.1.heap) (hbl : b < X.2.2.2.2.1.heap.size) (hbA : ¬ frA Y b) {Qm : Option Value → Mem → Prop} {n k : Nat} {a1 a2 : Nat} (q1 : 0 < a1 ∧ M0 0 a1 = kO 11) (q2 : 0 < a2 ∧ M0 0 a2 = kO 12) (C : Mem → Prop) (x3 : Int) (hn : n + 100 ≤ 600000 ∧ k + 10240 ≤ 7302250) (kk : ∀ M : Mem, C M → WW X Y 4 room_1 Qm M0 (n + 100) (k + 10240) 1535 [(0, .ref b), (1, vR Y.1 a1), (2, vR Y.1 a2), (3, vI x3)] [] M) (M : Mem) (h : wL_c33 xs L a1 a2 C x3 M) : WW X Y 4 room_1 Qm M0 n k 1443 [(0, .ref b), (1, vR Y.1 a1), (2, vR Y.1 a2), (3, vI x3)] [] M := by
  unfold wL_c33 at h
  refine r_aload_n hC 1 dL_law_1443 rfl rfl ?_
  refine r_aloadX hC 0 dL_law_1444 rfl rfl ?_
  refine r_iload_n hC 3 dL_law_1445 rfl rfl ?_
  refine r_iconst hC dL_law_1446 ?_
  refine r_iadd hC dL_law_1447 ?_
  obtain ⟨i_1, h⟩ := h
  refine r_sld hC hX hbl hbA i_1 dL_law_1448 ?_
  refine r_callV (As := [vI (sxv xs (x3 + 1))]) (st := []) hC cw_law_157 rfl q1.1 q1.2 rfl rfl (Nat.le_of_ble_eq_true rfl) ⟨Nat.le_of_ble_eq_true rfl, Nat.le_of_ble_eq_true rfl⟩ (by constructor <;> simp only [rmX11_tell, room_1] <;> omega) dL_law_1449 (fun hk => mX11_tell Y hF _ _ _ _ _ (kqO hk q1) h) (fun v M_2 h => ?_)
  obtain ⟨r_3, rfl, h⟩ := h
  refine r_aload_n hC 2 dL_law_1452 rfl rfl ?_
  refine r_aloadX hC 0 dL_law_1453 rfl rfl ?_
  refine r_iload_n hC 3 dL_law_1454 rfl rfl ?_
  refine r_iconst hC dL_law_1455 ?_
  refine r_iadd hC dL_law_1456 ?_
  obtain ⟨i_4, h⟩ := h
  refine r_sld hC hX hbl hbA i_4 dL_law_1457 ?_
  refine r_callV (As := [vI (sxv xs (x3 + 1))]) (st := [vI r_3]) hC cw_law_160 rfl q2.1 q2.2 rfl rfl (Nat.le_of_ble_eq_true rfl) ⟨Nat.le_of_ble_eq_true rfl, Nat.le_of_ble_eq_true rfl⟩ (by constructor <;> simp only [rmX11_tell, rmX12_tell, room_1] <;> omega) dL_law_1458 (fun hk => mX12_tell Y hF _ _ _ _ _ (kqO hk q2) h) (fun v M_5 h => ?_)
  obtain ⟨r_6, rfl, h⟩ := h
  refine r_icmp_eq hC 1535 rfl rfl dL_law_1461 (by decide) (fun cq => ?_) (fun cq => ?_)
  · replace h := h.1 cq
    exact r_widen (n' := n + 100) (k' := k + 10240) (by simp only [rmX11_tell, rmX12_tell]; omega) (by simp only [rmX11_tell, rmX12_tell]; omega) (kk _ h)
  · replace h := h.2 cq
    refine r_iconst hC dL_law_1464 ?_
    exact h.elim
theorem dL_law_1466 : dec code 1466 1 1467 (.aload_n 1) := ⟨by decide +kernel, rfl⟩
theorem dL_law_1467 : dec code 1467 1 1468 (.aload_n 0) := ⟨by decide +kernel, rfl⟩
theorem dL_law_1468 : dec code 1468 1 1469 (.iload_n 3) := ⟨by decide +kernel, rfl⟩
theorem dL_law_1469 : dec code 1469 1 1470 (.iconst 1) := ⟨by decide +kernel, rfl⟩
theorem dL_law_1470 : dec code 1470 1 1471 (.iadd) := ⟨by decide +kernel, rfl⟩
theorem dL_law_1471 : dec code 1471 1 1472 (.iaload) := ⟨by decide +kernel, rfl⟩
theorem dL_law_1472 : dec code 1472 3 1475 (.invokevirtual 161) := ⟨by decide +kernel, rfl⟩
theorem dL_law_1475 : dec code 1475 1 1476 (.aload_n 2) := ⟨by decide +kernel, rfl⟩
theorem dL_law_1476 : dec code 1476 1 1477 (.aload_n 0) := ⟨by decide +kernel, rfl⟩
theorem dL_law_1477 : dec code 1477 1 1478 (.iload_n 3) := ⟨by decide +kernel, rfl⟩
theorem dL_law_1478 : dec code 1478 1 1479 (.iconst 1) := ⟨by decide +kernel, rfl⟩
theorem dL_law_1479 : dec code 1479 1 1480 (.iadd) := ⟨by decide +kernel, rfl⟩
theorem dL_law_1480 : dec code 1480 1 1481 (.iaload) := ⟨by decide +kernel, rfl⟩
theorem dL_law_1481 : dec code 1481 3 1484 (.invokevirtual 164) := ⟨by decide +kernel, rfl⟩
theorem dL_law_1484 : dec code 1484 3 1487 (.if_icmp .eq 51) := ⟨by decide +kernel, rfl⟩
theorem dL_law_1487 : dec code 1487 1 1488 (.iconst 0) := ⟨by decide +kernel, rfl⟩
theorem dL_law_1488 : dec code 1488 1 1489 (.ireturn) := ⟨by decide +kernel, rfl⟩
set_option maxHeartbeats 4000000 in
set_option maxRecDepth 100000 in
theorem tL_c34 {X : Cx} {Y : Yx} {M0 : Mem} (hC : OKX X Y R_law code 4 (some .boolean) room_1) (hF : Y.2.2.2.2 = true) (hL : Lay M0) {b L : Nat} {xs : Nat → Int32} (hX : va_X b L xs X.2.2.2.2.1 X.2.2.2.2.1.heap) (hbl : b < X.2.2.2.2.1.heap.size) (hbA : ¬ frA Y b) {Qm : Option Value → Mem → Prop} {n k : Nat} {a1 a2 : Nat} (q1 : 0 < a1 ∧ M0 0 a1 = kO 11) (q2 : 0 < a2 ∧ M0 0 a2 = kO 12) (C : Mem → Prop) (x3 : Int) (hn : n + 100 ≤ 600000 ∧ k + 10240 ≤ 7302250) (kk : ∀ M : Mem, C M → WW X Y 4 room_1 Qm M0 (n + 100) (k + 10240) 1535 [(0, .ref b), (1, vR Y.1 a1), (2, vR Y.1 a2), (3, vI x3)] [] M) (M : Mem) (h : wL_c34 xs L a1 a2 C x3 M) : WW X Y 4 room_1 Qm M0 n k 1466 [(0, .ref b), (1, vR Y.1 a1), (2, vR Y.1 a2), (3, vI x3)] [] M := by
  unfold wL_c34 at h
  refine r_aload_n hC 1 dL_law_1466 rfl rfl ?_
  refine r_aloadX hC 0 dL_law_1467 rfl rfl ?_
  refine r_iload_n hC 3 dL_law_1468 rfl rfl ?_
  refine r_iconst hC dL_law_1469 ?_
  refine r_iadd hC dL_law_1470 ?_
  obtain ⟨i_1, h⟩ := h
  refine r_sld hC hX hbl hbA i_1 dL_law_1471 ?_
  refine r_callV (As := [vI (sxv xs (x3 + 1))]) (st := []) hC cw_law_161 rfl q1.1 q1.2 rfl rfl (Nat.le_of_ble_eq_true rfl) ⟨Nat.le_of_ble_eq_true rfl, Nat.le_of_ble_eq_true rfl⟩ (by constructor <;> simp only [rmX11_check, room_1] <;> omega) dL_law_1472 (fun hk => mX11_check Y hF _ _ _ _ _ (kqO hk q1) h) (fun v M_2 h => ?_)
  obtain ⟨r_3, rfl, h⟩ := h
  refine r_aload_n hC 2 dL_law_1475 rfl rfl ?_
  refine r_aloadX hC 0 dL_law_1476 rfl rfl ?_
  refine r_iload_n hC 3 dL_law_1477 rfl rfl ?_
  refine r_iconst hC dL_law_1478 ?_
  refine r_iadd hC dL_law_1479 ?_
  obtain ⟨i_4, h⟩ := h
  refine r_sld hC hX hbl hbA i_4 dL_law_1480 ?_
  refine r_callV (As := [vI (sxv xs (x3 + 1))]) (st := [vI r_3]) hC cw_law_164 rfl q2.1 q2.2 rfl rfl (Nat.le_of_ble_eq_true rfl) ⟨Nat.le_of_ble_eq_true rfl, Nat.le_of_ble_eq_true rfl⟩ (by constructor <;> simp only [rmX11_check, rmX12_check, room_1] <;> omega) dL_law_1481 (fun hk => mX12_check Y hF _ _ _ _ _ (kqO hk q2) h) (fun v M_5 h => ?_)
  obtain ⟨r_6, rfl, h⟩ := h
  refine r_icmp_eq hC 1535 rfl rfl dL_law_1484 (by decide) (fun cq => ?_) (fun cq => ?_)
  · replace h := h.1 cq
    exact r_widen (n' := n + 100) (k' := k + 10240) (by simp only [rmX11_check, rmX12_check]; omega) (by simp only [rmX11_check, rmX12_check]; omega) (kk _ h)
  · replace h := h.2 cq
    refine r_iconst hC dL_law_1487 ?_
    exact h.elim
theorem dL_law_1489 : dec code 1489 1 1490 (.aload_n 1) := ⟨by decide +kernel, rfl⟩
theorem dL_law_1490 : dec code 1490 1 1491 (.aload_n 0) := ⟨by decide +kernel, rfl⟩
theorem dL_law_1491 : dec code 1491 1 1492 (.iload_n 3) := ⟨by decide +kernel, rfl⟩
theorem dL_law_1492 : dec code 1492 1 1493 (.iconst 1) := ⟨by decide +kernel, rfl⟩
theorem dL_law_1493 : dec code 1493 1 1494 (.iadd) := ⟨by decide +kernel, rfl⟩
theorem dL_law_1494 : dec code 1494 1 1495 (.iaload) := ⟨by decide +kernel, rfl⟩
theorem dL_law_1495 : dec code 1495 3 1498 (.invokevirtual 165) := ⟨by decide +kernel, rfl⟩
theorem dL_law_1498 : dec code 1498 1 1499 (.aload_n 2) := ⟨by decide +kernel, rfl⟩
theorem dL_law_1499 : dec code 1499 1 1500 (.aload_n 0) := ⟨by decide +kernel, rfl⟩
theorem dL_law_1500 : dec code 1500 1 1501 (.iload_n 3) := ⟨by decide +kernel, rfl⟩
theorem dL_law_1501 : dec code 1501 1 1502 (.iconst 1) := ⟨by decide +kernel, rfl⟩
theorem dL_law_1502 : dec code 1502 1 1503 (.iadd) := ⟨by decide +kernel, rfl⟩
theorem dL_law_1503 : dec code 1503 1 1504 (.iaload) := ⟨by decide +kernel, rfl⟩
theorem dL_law_1504 : dec code 1504 3 1507 (.invokevirtual 168) := ⟨by decide +kernel, rfl⟩
theorem dL_law_1507 : dec code 1507 3 1510 (.if_icmp .eq 28) := ⟨by decide +kernel, rfl⟩
theorem dL_law_1510 : dec code 1510 1 1511 (.iconst 0) := ⟨by decide +kernel, rfl⟩
theorem dL_law_1511 : dec code 1511 1 1512 (.ireturn) := ⟨by decide +kernel, rfl⟩
set_option maxHeartbeats 4000000 in
set_option maxRecDepth 100000 in
theorem tL_c35 {X : Cx} {Y : Yx} {M0 : Mem} (hC : OKX X Y R_law code 4 (some .boolean) room_1) (hF : Y.2.2.2.2 = true) (hL : Lay M0) {b L : Nat} {xs : Nat → Int32} (hX : va_X b L xs X.2.2.2.2.1 X.2.2.2.2.1.heap) (hbl : b < X.2.2.2.2.1.heap.size) (hbA : ¬ frA Y b) {Qm : Option Value → Mem → Prop} {n k : Nat} {a1 a2 : Nat} (q1 : 0 < a1 ∧ M0 0 a1 = kO 11) (q2 : 0 < a2 ∧ M0 0 a2 = kO 12) (C : Mem → Prop) (x3 : Int) (hn : n + 100 ≤ 600000 ∧ k + 10240 ≤ 7302250) (kk : ∀ M : Mem, C M → WW X Y 4 room_1 Qm M0 (n + 100) (k + 10240) 1535 [(0, .ref b), (1, vR Y.1 a1), (2, vR Y.1 a2), (3, vI x3)] [] M) (M : Mem) (h : wL_c35 xs L a1 a2 C x3 M) : WW X Y 4 room_1 Qm M0 n k 1489 [(0, .ref b), (1, vR Y.1 a1), (2, vR Y.1 a2), (3, vI x3)] [] M := by
  unfold wL_c35 at h
  refine r_aload_n hC 1 dL_law_1489 rfl rfl ?_
  refine r_aloadX hC 0 dL_law_1490 rfl rfl ?_
  refine r_iload_n hC 3 dL_law_1491 rfl rfl ?_
  refine r_iconst hC dL_law_1492 ?_
  refine r_iadd hC dL_law_1493 ?_
  obtain ⟨i_1, h⟩ := h
  refine r_sld hC hX hbl hbA i_1 dL_law_1494 ?_
  refine r_callV (As := [vI (sxv xs (x3 + 1))]) (st := []) hC cw_law_165 rfl q1.1 q1.2 rfl rfl (Nat.le_of_ble_eq_true rfl) ⟨Nat.le_of_ble_eq_true rfl, Nat.le_of_ble_eq_true rfl⟩ (by constructor <;> simp only [rmX11_count, room_1] <;> omega) dL_law_1495 (fun hk => mX11_count Y hF _ _ _ _ _ (kqO hk q1) h) (fun v M_2 h => ?_)
  obtain ⟨r_3, rfl, h⟩ := h
  refine r_aload_n hC 2 dL_law_1498 rfl rfl ?_
  refine r_aloadX hC 0 dL_law_1499 rfl rfl ?_
  refine r_iload_n hC 3 dL_law_1500 rfl rfl ?_
  refine r_iconst hC dL_law_1501 ?_
  refine r_iadd hC dL_law_1502 ?_
  obtain ⟨i_4, h⟩ := h
  refine r_sld hC hX hbl hbA i_4 dL_law_1503 ?_
  refine r_callV (As := [vI (sxv xs (x3 + 1))]) (st := [vI r_3]) hC cw_law_168 rfl q2.1 q2.2 rfl rfl (Nat.le_of_ble_eq_true rfl) ⟨Nat.le_of_ble_eq_true rfl, Nat.le_of_ble_eq_true rfl⟩ (by constructor <;> simp only [rmX11_count, rmX12_count, room_1] <;> omega) dL_law_1504 (fun hk => mX12_count Y hF _ _ _ _ _ (kqO hk q2) h) (fun v M_5 h => ?_)
  obtain ⟨r_6, rfl, h⟩ := h
  refine r_icmp_eq hC 1535 rfl rfl dL_law_1507 (by decide) (fun cq => ?_) (fun cq => ?_)
  · replace h := h.1 cq
    exact r_widen (n' := n + 100) (k' := k + 10240) (by simp only [rmX11_count, rmX12_count]; omega) (by simp only [rmX11_count, rmX12_count]; omega) (kk _ h)
  · replace h := h.2 cq
    refine r_iconst hC dL_law_1510 ?_
    exact h.elim
theorem dL_law_1512 : dec code 1512 1 1513 (.aload_n 1) := ⟨by decide +kernel, rfl⟩
theorem dL_law_1513 : dec code 1513 1 1514 (.aload_n 0) := ⟨by decide +kernel, rfl⟩
theorem dL_law_1514 : dec code 1514 1 1515 (.iload_n 3) := ⟨by decide +kernel, rfl⟩
theorem dL_law_1515 : dec code 1515 1 1516 (.iconst 1) := ⟨by decide +kernel, rfl⟩
theorem dL_law_1516 : dec code 1516 1 1517 (.iadd) := ⟨by decide +kernel, rfl⟩
theorem dL_law_1517 : dec code 1517 1 1518 (.iaload) := ⟨by decide +kernel, rfl⟩
theorem dL_law_1518 : dec code 1518 3 1521 (.invokevirtual 169) := ⟨by decide +kernel, rfl⟩
theorem dL_law_1521 : dec code 1521 1 1522 (.aload_n 2) := ⟨by decide +kernel, rfl⟩
theorem dL_law_1522 : dec code 1522 1 1523 (.aload_n 0) := ⟨by decide +kernel, rfl⟩
theorem dL_law_1523 : dec code 1523 1 1524 (.iload_n 3) := ⟨by decide +kernel, rfl⟩
theorem dL_law_1524 : dec code 1524 1 1525 (.iconst 1) := ⟨by decide +kernel, rfl⟩
theorem dL_law_1525 : dec code 1525 1 1526 (.iadd) := ⟨by decide +kernel, rfl⟩
theorem dL_law_1526 : dec code 1526 1 1527 (.iaload) := ⟨by decide +kernel, rfl⟩
theorem dL_law_1527 : dec code 1527 3 1530 (.invokevirtual 172) := ⟨by decide +kernel, rfl⟩
theorem dL_law_1530 : dec code 1530 3 1533 (.if_icmp .eq 5) := ⟨by decide +kernel, rfl⟩
theorem dL_law_1533 : dec code 1533 1 1534 (.iconst 0) := ⟨by decide +kernel, rfl⟩
theorem dL_law_1534 : dec code 1534 1 1535 (.ireturn) := ⟨by decide +kernel, rfl⟩
set_option maxHeartbeats 4000000 in
set_option maxRecDepth 100000 in
theorem tL_c36 {X : Cx} {Y : Yx} {M0 : Mem} (hC : OKX X Y R_law code 4 (some .boolean) room_1) (hF : Y.2.2.2.2 = true) (hL : Lay M0) {b L : Nat} {xs : Nat → Int32} (hX : va_X b L xs X.2.2.2.2.1 X.2.2.2.2.1.heap) (hbl : b < X.2.2.2.2.1.heap.size) (hbA : ¬ frA Y b) {Qm : Option Value → Mem → Prop} {n k : Nat} {a1 a2 : Nat} (q1 : 0 < a1 ∧ M0 0 a1 = kO 11) (q2 : 0 < a2 ∧ M0 0 a2 = kO 12) (C : Mem → Prop) (x3 : Int) (hn : n + 100 ≤ 600000 ∧ k + 10240 ≤ 7302250) (kk : ∀ M : Mem, C M → WW X Y 4 room_1 Qm M0 (n + 100) (k + 10240) 1535 [(0, .ref b), (1, vR Y.1 a1), (2, vR Y.1 a2), (3, vI x3)] [] M) (M : Mem) (h : wL_c36 xs L a1 a2 C x3 M) : WW X Y 4 room_1 Qm M0 n k 1512 [(0, .ref b), (1, vR Y.1 a1), (2, vR Y.1 a2), (3, vI x3)] [] M := by
  unfold wL_c36 at h
  refine r_aload_n hC 1 dL_law_1512 rfl rfl ?_
  refine r_aloadX hC 0 dL_law_1513 rfl rfl ?_
  refine r_iload_n hC 3 dL_law_1514 rfl rfl ?_
  refine r_iconst hC dL_law_1515 ?_
  refine r_iadd hC dL_law_1516 ?_
  obtain ⟨i_1, h⟩ := h
  refine r_sld hC hX hbl hbA i_1 dL_law_1517 ?_
  refine r_callV (As := [vI (sxv xs (x3 + 1))]) (st := []) hC cw_law_169 rfl q1.1 q1.2 rfl rfl (Nat.le_of_ble_eq_true rfl) ⟨Nat.le_of_ble_eq_true rfl, Nat.le_of_ble_eq_true rfl⟩ (by constructor <;> simp only [rmX11_told, room_1] <;> omega) dL_law_1518 (fun hk => mX11_told Y hF _ _ _ _ _ (kqO hk q1) h) (fun v M_2 h => ?_)
  obtain ⟨r_3, rfl, h⟩ := h
  refine r_aload_n hC 2 dL_law_1521 rfl rfl ?_
  refine r_aloadX hC 0 dL_law_1522 rfl rfl ?_
  refine r_iload_n hC 3 dL_law_1523 rfl rfl ?_
  refine r_iconst hC dL_law_1524 ?_
  refine r_iadd hC dL_law_1525 ?_
  obtain ⟨i_4, h⟩ := h
  refine r_sld hC hX hbl hbA i_4 dL_law_1526 ?_
  refine r_callV (As := [vI (sxv xs (x3 + 1))]) (st := [vI r_3]) hC cw_law_172 rfl q2.1 q2.2 rfl rfl (Nat.le_of_ble_eq_true rfl) ⟨Nat.le_of_ble_eq_true rfl, Nat.le_of_ble_eq_true rfl⟩ (by constructor <;> simp only [rmX11_told, rmX12_told, room_1] <;> omega) dL_law_1527 (fun hk => mX12_told Y hF _ _ _ _ _ (kqO hk q2) h) (fun v M_5 h => ?_)
  obtain ⟨r_6, rfl, h⟩ := h
  refine r_icmp_eq hC 1535 rfl rfl dL_law_1530 (by decide) (fun cq => ?_) (fun cq => ?_)
  · replace h := h.1 cq
    exact r_widen (n' := n + 100) (k' := k + 10240) (by simp only [rmX11_told, rmX12_told]; omega) (by simp only [rmX11_told, rmX12_told]; omega) (kk _ h)
  · replace h := h.2 cq
    refine r_iconst hC dL_law_1533 ?_
    exact h.elim
theorem dL_law_0 : dec code 0 3 3 (.new 7) := ⟨by decide +kernel, rfl⟩
theorem dL_law_3 : dec code 3 1 4 (.dup) := ⟨by decide +kernel, rfl⟩
theorem dL_law_4 : dec code 4 3 7 (.invokespecial 9) := ⟨by decide +kernel, rfl⟩
theorem dL_law_7 : dec code 7 1 8 (.astore_n 1) := ⟨by decide +kernel, rfl⟩
theorem dL_law_8 : dec code 8 3 11 (.new 10) := ⟨by decide +kernel, rfl⟩
theorem dL_law_11 : dec code 11 1 12 (.dup) := ⟨by decide +kernel, rfl⟩
theorem dL_law_12 : dec code 12 3 15 (.invokespecial 12) := ⟨by decide +kernel, rfl⟩
theorem dL_law_15 : dec code 15 1 16 (.astore_n 2) := ⟨by decide +kernel, rfl⟩
theorem dL_law_16 : dec code 16 1 17 (.iconst 0) := ⟨by decide +kernel, rfl⟩
theorem dL_law_17 : dec code 17 1 18 (.istore_n 3) := ⟨by decide +kernel, rfl⟩
theorem dL_law_18 : dec code 18 1 19 (.iload_n 3) := ⟨by decide +kernel, rfl⟩
theorem dL_law_19 : dec code 19 1 20 (.aload_n 0) := ⟨by decide +kernel, rfl⟩
theorem dL_law_20 : dec code 20 1 21 (.arraylength) := ⟨by decide +kernel, rfl⟩
theorem dL_law_21 : dec code 21 2 23 (.bipush 6) := ⟨by decide +kernel, rfl⟩
theorem dL_law_23 : dec code 23 1 24 (.isub) := ⟨by decide +kernel, rfl⟩
theorem dL_law_24 : dec code 24 3 27 (.if_icmp .gt 1517) := ⟨by decide +kernel, rfl⟩
theorem dL_law_27 : dec code 27 1 28 (.aload_n 0) := ⟨by decide +kernel, rfl⟩
theorem dL_law_28 : dec code 28 1 29 (.iload_n 3) := ⟨by decide +kernel, rfl⟩
theorem dL_law_29 : dec code 29 1 30 (.iaload) := ⟨by decide +kernel, rfl⟩
theorem dL_law_30 : dec code 30 2 32 (.bipush 63) := ⟨by decide +kernel, rfl⟩
theorem dL_law_32 : dec code 32 1 33 (.iand) := ⟨by decide +kernel, rfl⟩
theorem dL_law_33 : dec code 33 163 196 (.tableswitch 1502 0 36 #[163, 216, 249, 282, 325, 374, 407, 450, 513, 536, 580, 623, 676, 719, 762, 795, 829, 862, 885, 918, 951, 994, 1047, 1070, 1113, 1136, 1179, 1202, 1245, 1288, 1321, 1384, 1397, 1410, 1433, 1456, 1479]) := ⟨by decide +kernel, rfl⟩
theorem dL_law_1535 : dec code 1535 3 1538 (.iinc 3 6) := ⟨by decide +kernel, rfl⟩
theorem dL_law_1538 : dec code 1538 3 1541 (.goto (-1520)) := ⟨by decide +kernel, rfl⟩
theorem dL_law_1541 : dec code 1541 1 1542 (.iconst 1) := ⟨by decide +kernel, rfl⟩
theorem dL_law_1542 : dec code 1542 1 1543 (.ireturn) := ⟨by decide +kernel, rfl⟩
set_option maxHeartbeats 4000000 in
set_option maxRecDepth 100000 in
theorem tL_start {X : Cx} {Y : Yx} {M0 : Mem} (hC : OKX X Y R_law code 4 (some .boolean) room_1) (hF : Y.2.2.2.2 = true) (hL : Lay M0) {b L : Nat} {xs : Nat → Int32} (hX : va_X b L xs X.2.2.2.2.1 X.2.2.2.2.1.heap) (hbl : b < X.2.2.2.2.1.heap.size) (hbA : ¬ frA Y b) {Qm : Option Value → Mem → Prop} (C : Nat → Nat → Mem → Prop) (kk : ∀ (a1 a2 : Nat) (M : Mem), Lay M → (0 < a1 ∧ M 0 a1 = kO 11) → (0 < a2 ∧ M 0 a2 = kO 12) → C a1 a2 M → WW X Y 4 room_1 Qm M 147 241323 18 [(3, vI 0), (2, vR Y.1 a2), (1, vR Y.1 a1), (0, .ref b)] [] M) (h : wL_start C M0) : WW X Y 4 room_1 Qm M0 0 0 0 [(0, .ref b)] [] M0 := by
  unfold wL_start at h
  refine r_off ?_
  have hCo := okx_off hC
  refine r_newobj hCo rfl rfl nw_law_7 ⟨Nat.le_of_ble_eq_true rfl, Nat.le_of_ble_eq_true rfl⟩ dL_law_0 ?_
  refine r_nameM h (fun M_2 h => ?_)
  obtain ⟨q_1, h⟩ := h
  refine r_base (fun hk hL0 => ?_)
  refine r_dup hCo rfl dL_law_3 ?_
  refine r_callI (As := []) hCo ci__law_9 rfl rfl (Nat.le_of_ble_eq_true rfl) ⟨Nat.le_of_ble_eq_true rfl, Nat.le_of_ble_eq_true rfl⟩ ⟨Nat.le_of_ble_eq_true rfl, Nat.le_of_ble_eq_true rfl⟩ dL_law_4 (fun hk => mX11_init (offY Y) rfl _ _ _ _ (kqO hk q_1) h) (fun v M_3 h => ?_)
  obtain ⟨rfl, h⟩ := h
  obtain ⟨hl_4, h⟩ := h
  refine r_on hF hl_4 ?_
  refine r_base (fun hk hL0 => ?_)
  have hL := hL0 hF
  have q_1 := kqO hk q_1
  refine r_astore_n (lv' := [(1, vR Y.1 ((nx M0))), (0, .ref b)]) hC dL_law_7 rfl (by decide) rfl ?_
  refine r_off ?_
  have hCo := okx_off hC
  refine r_newobj hCo rfl rfl nw_law_10 ⟨Nat.le_of_ble_eq_true rfl, Nat.le_of_ble_eq_true rfl⟩ dL_law_8 ?_
  refine r_nameM h (fun M_6 h => ?_)
  obtain ⟨q_5, h⟩ := h
  refine r_base (fun hk hL0 => ?_)
  have q_1 := kqO hk q_1
  refine r_dup hCo rfl dL_law_11 ?_
  refine r_callI (As := []) hCo ci__law_12 rfl rfl (Nat.le_of_ble_eq_true rfl) ⟨Nat.le_of_ble_eq_true rfl, Nat.le_of_ble_eq_true rfl⟩ ⟨Nat.le_of_ble_eq_true rfl, Nat.le_of_ble_eq_true rfl⟩ dL_law_12 (fun hk => mX12_init (offY Y) rfl _ _ _ _ (kqO hk q_5) h) (fun v M_7 h => ?_)
  obtain ⟨rfl, h⟩ := h
  obtain ⟨hl_8, h⟩ := h
  refine r_on hF hl_8 ?_
  refine r_base (fun hk hL0 => ?_)
  have hL := hL0 hF
  have q_5 := kqO hk q_5
  have q_1 := kqO hk q_1
  refine r_astore_n (lv' := [(2, vR Y.1 ((nx M_3))), (1, vR Y.1 ((nx M0))), (0, .ref b)]) hC dL_law_15 rfl (by decide) rfl ?_
  refine r_iconst hC dL_law_16 ?_
  refine r_istore_n (lv' := [(3, vI 0), (2, vR Y.1 ((nx M_3))), (1, vR Y.1 ((nx M0))), (0, .ref b)]) hC dL_law_17 rfl (by decide) rfl ?_
  exact kk _ _ _ hL q_1 q_5 h
set_option maxHeartbeats 4000000 in
set_option maxRecDepth 100000 in
theorem tL_loop {X : Cx} {Y : Yx} {M0 : Mem} (hC : OKX X Y R_law code 4 (some .boolean) room_1) (hF : Y.2.2.2.2 = true) (hL : Lay M0) {b L : Nat} {xs : Nat → Int32} (hX : va_X b L xs X.2.2.2.2.1 X.2.2.2.2.1.heap) (hbl : b < X.2.2.2.2.1.heap.size) (hbA : ¬ frA Y b) {a1 a2 : Nat} (q1 : 0 < a1 ∧ M0 0 a1 = kO 11) (q2 : 0 < a2 ∧ M0 0 a2 = kO 12) (Q : Int → Mem → Prop) : ∀ (N n k : Nat) (x3 : Int) (M : Mem), wL_loop xs L a1 a2 Q N x3 M → n + 100 * N ≤ 600000 → k + 10240 * N ≤ 7302250 → WW X Y 4 room_1 (QI Q) M0 n k 18 [(0, .ref b), (1, vR Y.1 a1), (2, vR Y.1 a2), (3, vI x3)] [] M := by
  intro N
  induction N with
  | zero =>
    intro n k x3 M h
    exact h.elim
  | succ N ih =>
    intro n k x3 M h hn hk
    unfold wL_loop at h
    have hnext : ∀ M' : Mem, wL_loop xs L a1 a2 Q N (x3 + 6) M' → WW X Y 4 room_1 (QI Q) M0 (n + 100) (k + 10240) 1535 [(0, .ref b), (1, vR Y.1 a1), (2, vR Y.1 a2), (3, vI x3)] [] M' := by
      intro M' h'
      refine r_iinc (lv' := [(3, vI (x3 + 6)), (0, .ref b), (1, vR Y.1 a1), (2, vR Y.1 a2)]) hC 3 dL_law_1535 rfl (by decide) rfl rfl ?_
      refine r_goto hC 18 dL_law_1538 (by decide) ?_
      refine r_sub [1, 2, 3, 0] rfl ?_
      exact ih _ _ _ _ h' (by omega) (by omega)
    refine r_iload_n hC 3 dL_law_18 rfl rfl ?_
    refine r_aloadX hC 0 dL_law_19 rfl rfl ?_
    refine r_slenX hC hX hbl hbA dL_law_20 ?_
    refine r_bipush hC (by decide +kernel) dL_law_21 ?_
    refine r_isub hC dL_law_23 ?_
    refine r_icmp_gt hC 1541 rfl rfl dL_law_24 (by decide) (fun c => ?_) (fun c => ?_)
    · replace h := h.1 c
      refine r_iconst hC dL_law_1541 ?_
      exact r_zret hC (Or.inr rfl) (by simp only [room_1]; omega) (by simp only [room_1]; omega) dL_law_1542 ⟨_, rfl, h⟩
    · replace h := h.2 c
      obtain ⟨hi, h⟩ := h
      refine r_aloadX hC 0 dL_law_27 rfl rfl ?_
      refine r_iload_n hC 3 dL_law_28 rfl rfl ?_
      refine r_sld hC hX hbl hbA hi dL_law_29 ?_
      refine r_bipush hC (by decide +kernel) dL_law_30 ?_
      refine r_iand hC dL_law_32 ?_
      rw [LET] at h
      by_cases c0 : bm (iAnd (sxv xs x3) 63) = 0
      · replace h := h.1 c0
        refine r_tabIn hC 196 0 dL_law_33 c0 (by decide) (by decide) rfl (by decide) ?_
        exact tL_c0 hC hF hL hX hbl hbA q1 q2 _ x3 ⟨by omega, by omega⟩ hnext M h
      replace h := h.2 c0
      by_cases c1 : bm (iAnd (sxv xs x3) 63) = 1
      · replace h := h.1 c1
        refine r_tabIn hC 249 1 dL_law_33 c1 (by decide) (by decide) rfl (by decide) ?_
        exact tL_c1 hC hF hL hX hbl hbA q1 q2 _ x3 ⟨by omega, by omega⟩ hnext M h
      replace h := h.2 c1
      by_cases c2 : bm (iAnd (sxv xs x3) 63) = 2
      · replace h := h.1 c2
        refine r_tabIn hC 282 2 dL_law_33 c2 (by decide) (by decide) rfl (by decide) ?_
        exact tL_c2 hC hF hL hX hbl hbA q1 q2 _ x3 ⟨by omega, by omega⟩ hnext M h
      replace h := h.2 c2
      by_cases c3 : bm (iAnd (sxv xs x3) 63) = 3
      · replace h := h.1 c3
        refine r_tabIn hC 315 3 dL_law_33 c3 (by decide) (by decide) rfl (by decide) ?_
        exact tL_c3 hC hF hL hX hbl hbA q1 q2 _ x3 ⟨by omega, by omega⟩ hnext M h
      replace h := h.2 c3
      by_cases c4 : bm (iAnd (sxv xs x3) 63) = 4
      · replace h := h.1 c4
        refine r_tabIn hC 358 4 dL_law_33 c4 (by decide) (by decide) rfl (by decide) ?_
        exact tL_c4 hC hF hL hX hbl hbA q1 q2 _ x3 ⟨by omega, by omega⟩ hnext M h
      replace h := h.2 c4
      by_cases c5 : bm (iAnd (sxv xs x3) 63) = 5
      · replace h := h.1 c5
        refine r_tabIn hC 407 5 dL_law_33 c5 (by decide) (by decide) rfl (by decide) ?_
        exact tL_c5 hC hF hL hX hbl hbA q1 q2 _ x3 ⟨by omega, by omega⟩ hnext M h
      replace h := h.2 c5
      by_cases c6 : bm (iAnd (sxv xs x3) 63) = 6
      · replace h := h.1 c6
        refine r_tabIn hC 440 6 dL_law_33 c6 (by decide) (by decide) rfl (by decide) ?_
        exact tL_c6 hC hF hL hX hbl hbA q1 q2 _ x3 ⟨by omega, by omega⟩ hnext M h
      replace h := h.2 c6
      by_cases c7 : bm (iAnd (sxv xs x3) 63) = 7
      · replace h := h.1 c7
        refine r_tabIn hC 483 7 dL_law_33 c7 (by decide) (by decide) rfl (by decide) ?_
        exact tL_c7 hC hF hL hX hbl hbA q1 q2 _ x3 ⟨by omega, by omega⟩ hnext M h
      replace h := h.2 c7
      by_cases c8 : bm (iAnd (sxv xs x3) 63) = 8
      · replace h := h.1 c8
        refine r_tabIn hC 546 8 dL_law_33 c8 (by decide) (by decide) rfl (by decide) ?_
        exact tL_c8 hC hF hL hX hbl hbA q1 q2 _ x3 ⟨by omega, by omega⟩ hnext M h
      replace h := h.2 c8
      by_cases c9 : bm (iAnd (sxv xs x3) 63) = 9
      · replace h := h.1 c9
        refine r_tabIn hC 569 9 dL_law_33 c9 (by decide) (by decide) rfl (by decide) ?_
        exact tL_c9 hC hF hL hX hbl hbA q1 q2 _ x3 ⟨by omega, by omega⟩ hnext M h
      replace h := h.2 c9
      by_cases c10 : bm (iAnd (sxv xs x3) 63) = 10
      · replace h := h.1 c10
        refine r_tabIn hC 613 10 dL_law_33 c10 (by decide) (by decide) rfl (by decide) ?_
        exact tL_c10 hC hF hL hX hbl hbA q1 q2 _ x3 ⟨by omega, by omega⟩ hnext M h
      replace h := h.2 c10
      by_cases c11 : bm (iAnd (sxv xs x3) 63) = 11
      · replace h := h.1 c11
        refine r_tabIn hC 656 11 dL_law_33 c11 (by decide) (by decide) rfl (by decide) ?_
        exact tL_c11 hC hF hL hX hbl hbA q1 q2 _ x3 ⟨by omega, by omega⟩ hnext M h
      replace h := h.2 c11
      by_cases c12 : bm (iAnd (sxv xs x3) 63) = 12
      · replace h := h.1 c12
        refine r_tabIn hC 709 12 dL_law_33 c12 (by decide) (by decide) rfl (by decide) ?_
        exact tL_c12 hC hF hL hX hbl hbA q1 q2 _ x3 ⟨by omega, by omega⟩ hnext M h
      replace h := h.2 c12
      by_cases c13 : bm (iAnd (sxv xs x3) 63) = 13
      · replace h := h.1 c13
        refine r_tabIn hC 752 13 dL_law_33 c13 (by decide) (by decide) rfl (by decide) ?_
        exact tL_c13 hC hF hL hX hbl hbA q1 q2 _ x3 ⟨by omega, by omega⟩ hnext M h
      replace h := h.2 c13
      by_cases c14 : bm (iAnd (sxv xs x3) 63) = 14
      · replace h := h.1 c14
        refine r_tabIn hC 795 14 dL_law_33 c14 (by decide) (by decide) rfl (by decide) ?_
        exact tL_c14 hC hF hL hX hbl hbA q1 q2 _ x3 ⟨by omega, by omega⟩ hnext M h
      replace h := h.2 c14
      by_cases c15 : bm (iAnd (sxv xs x3) 63) = 15
      · replace h := h.1 c15
        refine r_tabIn hC 828 15 dL_law_33 c15 (by decide) (by decide) rfl (by decide) ?_
        exact tL_c15 hC hF hL hX hbl hbA q1 q2 _ x3 ⟨by omega, by omega⟩ hnext M h
      replace h := h.2 c15
      by_cases c16 : bm (iAnd (sxv xs x3) 63) = 16
      · replace h := h.1 c16
        refine r_tabIn hC 862 16 dL_law_33 c16 (by decide) (by decide) rfl (by decide) ?_
        exact tL_c16 hC hF hL hX hbl hbA q1 q2 _ x3 ⟨by omega, by omega⟩ hnext M h
      replace h := h.2 c16
      by_cases c17 : bm (iAnd (sxv xs x3) 63) = 17
      · replace h := h.1 c17
        refine r_tabIn hC 895 17 dL_law_33 c17 (by decide) (by decide) rfl (by decide) ?_
        exact tL_c17 hC hF hL hX hbl hbA q1 q2 _ x3 ⟨by omega, by omega⟩ hnext M h
      replace h := h.2 c17
      by_cases c18 : bm (iAnd (sxv xs x3) 63) = 18
      · replace h := h.1 c18
        refine r_tabIn hC 918 18 dL_law_33 c18 (by decide) (by decide) rfl (by decide) ?_
        exact tL_c18 hC hF hL hX hbl hbA q1 q2 _ x3 ⟨by omega, by omega⟩ hnext M h
      replace h := h.2 c18
      by_cases c19 : bm (iAnd (sxv xs x3) 63) = 19
      · replace h := h.1 c19
        refine r_tabIn hC 951 19 dL_law_33 c19 (by decide) (by decide) rfl (by decide) ?_
        exact tL_c19 hC hF hL hX hbl hbA q1 q2 _ x3 ⟨by omega, by omega⟩ hnext M h
      replace h := h.2 c19
      by_cases c20 : bm (iAnd (sxv xs x3) 63) = 20
      · replace h := h.1 c20
        refine r_tabIn hC 984 20 dL_law_33 c20 (by decide) (by decide) rfl (by decide) ?_
        exact tL_c20 hC hF hL hX hbl hbA q1 q2 _ x3 ⟨by omega, by omega⟩ hnext M h
      replace h := h.2 c20
      by_cases c21 : bm (iAnd (sxv xs x3) 63) = 21
      · replace h := h.1 c21
        refine r_tabIn hC 1027 21 dL_law_33 c21 (by decide) (by decide) rfl (by decide) ?_
        exact tL_c21 hC hF hL hX hbl hbA q1 q2 _ x3 ⟨by omega, by omega⟩ hnext M h
      replace h := h.2 c21
      by_cases c22 : bm (iAnd (sxv xs x3) 63) = 22
      · replace h := h.1 c22
        refine r_tabIn hC 1080 22 dL_law_33 c22 (by decide) (by decide) rfl (by decide) ?_
        exact tL_c22 hC hF hL hX hbl hbA q1 q2 _ x3 ⟨by omega, by omega⟩ hnext M h
      replace h := h.2 c22
      by_cases c23 : bm (iAnd (sxv xs x3) 63) = 23
      · replace h := h.1 c23
        refine r_tabIn hC 1103 23 dL_law_33 c23 (by decide) (by decide) rfl (by decide) ?_
        exact tL_c23 hC hF hL hX hbl hbA q1 q2 _ x3 ⟨by omega, by omega⟩ hnext M h
      replace h := h.2 c23
      by_cases c24 : bm (iAnd (sxv xs x3) 63) = 24
      · replace h := h.1 c24
        refine r_tabIn hC 1146 24 dL_law_33 c24 (by decide) (by decide) rfl (by decide) ?_
        exact tL_c24 hC hF hL hX hbl hbA q1 q2 _ x3 ⟨by omega, by omega⟩ hnext M h
      replace h := h.2 c24
      by_cases c25 : bm (iAnd (sxv xs x3) 63) = 25
      · replace h := h.1 c25
        refine r_tabIn hC 1169 25 dL_law_33 c25 (by decide) (by decide) rfl (by decide) ?_
        exact tL_c25 hC hF hL hX hbl hbA q1 q2 _ x3 ⟨by omega, by omega⟩ hnext M h
      replace h := h.2 c25
      by_cases c26 : bm (iAnd (sxv xs x3) 63) = 26
      · replace h := h.1 c26
        refine r_tabIn hC 1212 26 dL_law_33 c26 (by decide) (by decide) rfl (by decide) ?_
        exact tL_c26 hC hF hL hX hbl hbA q1 q2 _ x3 ⟨by omega, by omega⟩ hnext M h
      replace h := h.2 c26
      by_cases c27 : bm (iAnd (sxv xs x3) 63) = 27
      · replace h := h.1 c27
        refine r_tabIn hC 1235 27 dL_law_33 c27 (by decide) (by decide) rfl (by decide) ?_
        exact tL_c27 hC hF hL hX hbl hbA q1 q2 _ x3 ⟨by omega, by omega⟩ hnext M h
      replace h := h.2 c27
      by_cases c28 : bm (iAnd (sxv xs x3) 63) = 28
      · replace h := h.1 c28
        refine r_tabIn hC 1278 28 dL_law_33 c28 (by decide) (by decide) rfl (by decide) ?_
        exact tL_c28 hC hF hL hX hbl hbA q1 q2 _ x3 ⟨by omega, by omega⟩ hnext M h
      replace h := h.2 c28
      by_cases c29 : bm (iAnd (sxv xs x3) 63) = 29
      · replace h := h.1 c29
        refine r_tabIn hC 1321 29 dL_law_33 c29 (by decide) (by decide) rfl (by decide) ?_
        exact tL_c29 hC hF hL hX hbl hbA q1 q2 _ x3 ⟨by omega, by omega⟩ hnext M h
      replace h := h.2 c29
      by_cases c30 : bm (iAnd (sxv xs x3) 63) = 30
      · replace h := h.1 c30
        refine r_tabIn hC 1354 30 dL_law_33 c30 (by decide) (by decide) rfl (by decide) ?_
        exact tL_c30 hC hF hL hX hbl hbA q1 q2 _ x3 ⟨by omega, by omega⟩ hnext M h
      replace h := h.2 c30
      by_cases c31 : bm (iAnd (sxv xs x3) 63) = 31
      · replace h := h.1 c31
        refine r_tabIn hC 1417 31 dL_law_33 c31 (by decide) (by decide) rfl (by decide) ?_
        exact tL_c31 hC hF hL hX hbl hbA q1 q2 _ x3 ⟨by omega, by omega⟩ hnext M h
      replace h := h.2 c31
      by_cases c32 : bm (iAnd (sxv xs x3) 63) = 32
      · replace h := h.1 c32
        refine r_tabIn hC 1430 32 dL_law_33 c32 (by decide) (by decide) rfl (by decide) ?_
        exact tL_c32 hC hF hL hX hbl hbA q1 q2 _ x3 ⟨by omega, by omega⟩ hnext M h
      replace h := h.2 c32
      by_cases c33 : bm (iAnd (sxv xs x3) 63) = 33
      · replace h := h.1 c33
        refine r_tabIn hC 1443 33 dL_law_33 c33 (by decide) (by decide) rfl (by decide) ?_
        exact tL_c33 hC hF hL hX hbl hbA q1 q2 _ x3 ⟨by omega, by omega⟩ hnext M h
      replace h := h.2 c33
      by_cases c34 : bm (iAnd (sxv xs x3) 63) = 34
      · replace h := h.1 c34
        refine r_tabIn hC 1466 34 dL_law_33 c34 (by decide) (by decide) rfl (by decide) ?_
        exact tL_c34 hC hF hL hX hbl hbA q1 q2 _ x3 ⟨by omega, by omega⟩ hnext M h
      replace h := h.2 c34
      by_cases c35 : bm (iAnd (sxv xs x3) 63) = 35
      · replace h := h.1 c35
        refine r_tabIn hC 1489 35 dL_law_33 c35 (by decide) (by decide) rfl (by decide) ?_
        exact tL_c35 hC hF hL hX hbl hbA q1 q2 _ x3 ⟨by omega, by omega⟩ hnext M h
      replace h := h.2 c35
      by_cases c36 : bm (iAnd (sxv xs x3) 63) = 36
      · replace h := h.1 c36
        refine r_tabIn hC 1512 36 dL_law_33 c36 (by decide) (by decide) rfl (by decide) ?_
        exact tL_c36 hC hF hL hX hbl hbA q1 q2 _ x3 ⟨by omega, by omega⟩ hnext M h
      replace h := h.2 c36
      refine r_tabOut hC 1535 dL_law_33 (by omega) (by decide) ?_
      exact r_widen (n' := n + 100) (k' := k + 10240) (by omega) (by omega) (hnext M h)
