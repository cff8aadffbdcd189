theorem dL_law_613 : dec code 613 1 614 (.aload_n 1) := ⟨by decide +kernel, rfl⟩
theorem dL_law_614 : dec code 614 1 615 (.aload_n 0) := ⟨by decide +kernel, rfl⟩
theorem dL_law_615 : dec code 615 1 616 (.iload_n 3) := ⟨by decide +kernel, rfl⟩
theorem dL_law_616 : dec code 616 1 617 (.iconst 1) := ⟨by decide +kernel, rfl⟩
theorem dL_law_617 : dec code 617 1 618 (.iadd) := ⟨by decide +kernel, rfl⟩
theorem dL_law_618 : dec code 618 1 619 (.iaload) := ⟨by decide +kernel, rfl⟩
theorem dL_law_619 : dec code 619 1 620 (.aload_n 0) := ⟨by decide +kernel, rfl⟩
theorem dL_law_620 : dec code 620 1 621 (.iload_n 3) := ⟨by decide +kernel, rfl⟩
theorem dL_law_621 : dec code 621 1 622 (.iconst 2) := ⟨by decide +kernel, rfl⟩
theorem dL_law_622 : dec code 622 1 623 (.iadd) := ⟨by decide +kernel, rfl⟩
theorem dL_law_623 : dec code 623 1 624 (.iaload) := ⟨by decide +kernel, rfl⟩
theorem dL_law_624 : dec code 624 1 625 (.aload_n 0) := ⟨by decide +kernel, rfl⟩
theorem dL_law_625 : dec code 625 1 626 (.iload_n 3) := ⟨by decide +kernel, rfl⟩
theorem dL_law_626 : dec code 626 1 627 (.iconst 3) := ⟨by decide +kernel, rfl⟩
theorem dL_law_627 : dec code 627 1 628 (.iadd) := ⟨by decide +kernel, rfl⟩
theorem dL_law_628 : dec code 628 1 629 (.iaload) := ⟨by decide +kernel, rfl⟩
theorem dL_law_629 : dec code 629 3 632 (.invokevirtual 62) := ⟨by decide +kernel, rfl⟩
theorem dL_law_632 : dec code 632 1 633 (.aload_n 2) := ⟨by decide +kernel, rfl⟩
theorem dL_law_633 : dec code 633 1 634 (.aload_n 0) := ⟨by decide +kernel, rfl⟩
theorem dL_law_634 : dec code 634 1 635 (.iload_n 3) := ⟨by decide +kernel, rfl⟩
theorem dL_law_635 : dec code 635 1 636 (.iconst 1) := ⟨by decide +kernel, rfl⟩
theorem dL_law_636 : dec code 636 1 637 (.iadd) := ⟨by decide +kernel, rfl⟩
theorem dL_law_637 : dec code 637 1 638 (.iaload) := ⟨by decide +kernel, rfl⟩
theorem dL_law_638 : dec code 638 1 639 (.aload_n 0) := ⟨by decide +kernel, rfl⟩
theorem dL_law_639 : dec code 639 1 640 (.iload_n 3) := ⟨by decide +kernel, rfl⟩
theorem dL_law_640 : dec code 640 1 641 (.iconst 2) := ⟨by decide +kernel, rfl⟩
theorem dL_law_641 : dec code 641 1 642 (.iadd) := ⟨by decide +kernel, rfl⟩
theorem dL_law_642 : dec code 642 1 643 (.iaload) := ⟨by decide +kernel, rfl⟩
theorem dL_law_643 : dec code 643 1 644 (.aload_n 0) := ⟨by decide +kernel, rfl⟩
theorem dL_law_644 : dec code 644 1 645 (.iload_n 3) := ⟨by decide +kernel, rfl⟩
theorem dL_law_645 : dec code 645 1 646 (.iconst 3) := ⟨by decide +kernel, rfl⟩
theorem dL_law_646 : dec code 646 1 647 (.iadd) := ⟨by decide +kernel, rfl⟩
theorem dL_law_647 : dec code 647 1 648 (.iaload) := ⟨by decide +kernel, rfl⟩
theorem dL_law_648 : dec code 648 3 651 (.invokevirtual 65) := ⟨by decide +kernel, rfl⟩
theorem dL_law_651 : dec code 651 3 654 (.if_icmp .eq 884) := ⟨by decide +kernel, rfl⟩
theorem dL_law_654 : dec code 654 1 655 (.iconst 0) := ⟨by decide +kernel, rfl⟩
theorem dL_law_655 : dec code 655 1 656 (.ireturn) := ⟨by decide +kernel, rfl⟩
set_option maxHeartbeats 4000000 in
set_option maxRecDepth 100000 in
theorem tL_c10 {X : Cx} {Y : Yx} {M0 : Mem} (hC : OKX X Y R_law code 4 (some .boolean) room_1) (hF : Y.2.2.2.2 = true) (hL : Lay M0) {b L : Nat} {xs : Nat → Int32} (hX : va_X b L xs X.2.2.2.2.1 X.2.2.2.2.1.heap) (hbl : b < X.2.2.2.2.1.heap.size) (hbA : ¬ frA Y b) {Qm : Option Value → Mem → Prop} {n k : Nat} {a1 a2 : Nat} (q1 : 0 < a1 ∧ M0 0 a1 = kO 11) (q2 : 0 < a2 ∧ M0 0 a2 = kO 12) (C : Mem → Prop) (x3 : Int) (hn : n + 100 ≤ 600000 ∧ k + 10240 ≤ 7302250) (kk : ∀ M : Mem, C M → WW X Y 4 room_1 Qm M0 (n + 100) (k + 10240) 1535 [(0, .ref b), (1, vR Y.1 a1), (2, vR Y.1 a2), (3, vI x3)] [] M) (M : Mem) (h : wL_c10 xs L a1 a2 C x3 M) : WW X Y 4 room_1 Qm M0 n k 613 [(0, .ref b), (1, vR Y.1 a1), (2, vR Y.1 a2), (3, vI x3)] [] M := by
  unfold wL_c10 at h
  refine r_aload_n hC 1 dL_law_613 rfl rfl ?_
  refine r_aloadX hC 0 dL_law_614 rfl rfl ?_
  refine r_iload_n hC 3 dL_law_615 rfl rfl ?_
  refine r_iconst hC dL_law_616 ?_
  refine r_iadd hC dL_law_617 ?_
  obtain ⟨i_1, h⟩ := h
  refine r_sld hC hX hbl hbA i_1 dL_law_618 ?_
  refine r_aloadX hC 0 dL_law_619 rfl rfl ?_
  refine r_iload_n hC 3 dL_law_620 rfl rfl ?_
  refine r_iconst hC dL_law_621 ?_
  refine r_iadd hC dL_law_622 ?_
  obtain ⟨i_2, h⟩ := h
  refine r_sld hC hX hbl hbA i_2 dL_law_623 ?_
  refine r_aloadX hC 0 dL_law_624 rfl rfl ?_
  refine r_iload_n hC 3 dL_law_625 rfl rfl ?_
  refine r_iconst hC dL_law_626 ?_
  refine r_iadd hC dL_law_627 ?_
  obtain ⟨i_3, h⟩ := h
  refine r_sld hC hX hbl hbA i_3 dL_law_628 ?_
  refine r_callV (As := [vI (sxv xs (x3 + 1)), vI (sxv xs (x3 + 2)), vI (sxv xs (x3 + 3))]) (st := []) hC cw_law_62 rfl q1.1 q1.2 rfl rfl (Nat.le_of_ble_eq_true rfl) ⟨Nat.le_of_ble_eq_true rfl, Nat.le_of_ble_eq_true rfl⟩ (by constructor <;> simp only [rmX11_worthBy, room_1] <;> omega) dL_law_629 (fun hk => mX11_worthBy Y hF _ _ _ _ _ _ _ (kqO hk q1) h) (fun v M_4 h => ?_)
  obtain ⟨r_5, rfl, h⟩ := h
  refine r_aload_n hC 2 dL_law_632 rfl rfl ?_
  refine r_aloadX hC 0 dL_law_633 rfl rfl ?_
  refine r_iload_n hC 3 dL_law_634 rfl rfl ?_
  refine r_iconst hC dL_law_635 ?_
  refine r_iadd hC dL_law_636 ?_
  obtain ⟨i_6, h⟩ := h
  refine r_sld hC hX hbl hbA i_6 dL_law_637 ?_
  refine r_aloadX hC 0 dL_law_638 rfl rfl ?_
  refine r_iload_n hC 3 dL_law_639 rfl rfl ?_
  refine r_iconst hC dL_law_640 ?_
  refine r_iadd hC dL_law_641 ?_
  obtain ⟨i_7, h⟩ := h
  refine r_sld hC hX hbl hbA i_7 dL_law_642 ?_
  refine r_aloadX hC 0 dL_law_643 rfl rfl ?_
  refine r_iload_n hC 3 dL_law_644 rfl rfl ?_
  refine r_iconst hC dL_law_645 ?_
  refine r_iadd hC dL_law_646 ?_
  obtain ⟨i_8, h⟩ := h
  refine r_sld hC hX hbl hbA i_8 dL_law_647 ?_
  refine r_callV (As := [vI (sxv xs (x3 + 1)), vI (sxv xs (x3 + 2)), vI (sxv xs (x3 + 3))]) (st := [vI r_5]) hC cw_law_65 rfl q2.1 q2.2 rfl rfl (Nat.le_of_ble_eq_true rfl) ⟨Nat.le_of_ble_eq_true rfl, Nat.le_of_ble_eq_true rfl⟩ (by constructor <;> simp only [rmX11_worthBy, rmX12_worthBy, room_1] <;> omega) dL_law_648 (fun hk => mX12_worthBy Y hF _ _ _ _ _ _ _ (kqO hk q2) h) (fun v M_9 h => ?_)
  obtain ⟨r_10, rfl, h⟩ := h
  refine r_icmp_eq hC 1535 rfl rfl dL_law_651 (by decide) (fun cq => ?_) (fun cq => ?_)
  · replace h := h.1 cq
    exact r_widen (n' := n + 100) (k' := k + 10240) (by simp only [rmX11_worthBy, rmX12_worthBy]; omega) (by simp only [rmX11_worthBy, rmX12_worthBy]; omega) (kk _ h)
  · replace h := h.2 cq
    refine r_iconst hC dL_law_654 ?_
    exact h.elim
theorem dL_law_656 : dec code 656 1 657 (.aload_n 1) := ⟨by decide +kernel, rfl⟩
theorem dL_law_657 : dec code 657 1 658 (.aload_n 0) := ⟨by decide +kernel, rfl⟩
theorem dL_law_658 : dec code 658 1 659 (.iload_n 3) := ⟨by decide +kernel, rfl⟩
theorem dL_law_659 : dec code 659 1 660 (.iconst 1) := ⟨by decide +kernel, rfl⟩
theorem dL_law_660 : dec code 660 1 661 (.iadd) := ⟨by decide +kernel, rfl⟩
theorem dL_law_661 : dec code 661 1 662 (.iaload) := ⟨by decide +kernel, rfl⟩
theorem dL_law_662 : dec code 662 1 663 (.aload_n 0) := ⟨by decide +kernel, rfl⟩
theorem dL_law_663 : dec code 663 1 664 (.iload_n 3) := ⟨by decide +kernel, rfl⟩
theorem dL_law_664 : dec code 664 1 665 (.iconst 2) := ⟨by decide +kernel, rfl⟩
theorem dL_law_665 : dec code 665 1 666 (.iadd) := ⟨by decide +kernel, rfl⟩
theorem dL_law_666 : dec code 666 1 667 (.iaload) := ⟨by decide +kernel, rfl⟩
theorem dL_law_667 : dec code 667 1 668 (.aload_n 0) := ⟨by decide +kernel, rfl⟩
theorem dL_law_668 : dec code 668 1 669 (.iload_n 3) := ⟨by decide +kernel, rfl⟩
theorem dL_law_669 : dec code 669 1 670 (.iconst 3) := ⟨by decide +kernel, rfl⟩
theorem dL_law_670 : dec code 670 1 671 (.iadd) := ⟨by decide +kernel, rfl⟩
theorem dL_law_671 : dec code 671 1 672 (.iaload) := ⟨by decide +kernel, rfl⟩
theorem dL_law_672 : dec code 672 1 673 (.aload_n 0) := ⟨by decide +kernel, rfl⟩
theorem dL_law_673 : dec code 673 1 674 (.iload_n 3) := ⟨by decide +kernel, rfl⟩
theorem dL_law_674 : dec code 674 1 675 (.iconst 4) := ⟨by decide +kernel, rfl⟩
theorem dL_law_675 : dec code 675 1 676 (.iadd) := ⟨by decide +kernel, rfl⟩
theorem dL_law_676 : dec code 676 1 677 (.iaload) := ⟨by decide +kernel, rfl⟩
theorem dL_law_677 : dec code 677 3 680 (.invokevirtual 66) := ⟨by decide +kernel, rfl⟩
theorem dL_law_680 : dec code 680 1 681 (.aload_n 2) := ⟨by decide +kernel, rfl⟩
theorem dL_law_681 : dec code 681 1 682 (.aload_n 0) := ⟨by decide +kernel, rfl⟩
theorem dL_law_682 : dec code 682 1 683 (.iload_n 3) := ⟨by decide +kernel, rfl⟩
theorem dL_law_683 : dec code 683 1 684 (.iconst 1) := ⟨by decide +kernel, rfl⟩
theorem dL_law_684 : dec code 684 1 685 (.iadd) := ⟨by decide +kernel, rfl⟩
theorem dL_law_685 : dec code 685 1 686 (.iaload) := ⟨by decide +kernel, rfl⟩
theorem dL_law_686 : dec code 686 1 687 (.aload_n 0) := ⟨by decide +kernel, rfl⟩
theorem dL_law_687 : dec code 687 1 688 (.iload_n 3) := ⟨by decide +kernel, rfl⟩
theorem dL_law_688 : dec code 688 1 689 (.iconst 2) := ⟨by decide +kernel, rfl⟩
theorem dL_law_689 : dec code 689 1 690 (.iadd) := ⟨by decide +kernel, rfl⟩
theorem dL_law_690 : dec code 690 1 691 (.iaload) := ⟨by decide +kernel, rfl⟩
theorem dL_law_691 : dec code 691 1 692 (.aload_n 0) := ⟨by decide +kernel, rfl⟩
theorem dL_law_692 : dec code 692 1 693 (.iload_n 3) := ⟨by decide +kernel, rfl⟩
theorem dL_law_693 : dec code 693 1 694 (.iconst 3) := ⟨by decide +kernel, rfl⟩
theorem dL_law_694 : dec code 694 1 695 (.iadd) := ⟨by decide +kernel, rfl⟩
theorem dL_law_695 : dec code 695 1 696 (.iaload) := ⟨by decide +kernel, rfl⟩
theorem dL_law_696 : dec code 696 1 697 (.aload_n 0) := ⟨by decide +kernel, rfl⟩
theorem dL_law_697 : dec code 697 1 698 (.iload_n 3) := ⟨by decide +kernel, rfl⟩
theorem dL_law_698 : dec code 698 1 699 (.iconst 4) := ⟨by decide +kernel, rfl⟩
theorem dL_law_699 : dec code 699 1 700 (.iadd) := ⟨by decide +kernel, rfl⟩
theorem dL_law_700 : dec code 700 1 701 (.iaload) := ⟨by decide +kernel, rfl⟩
theorem dL_law_701 : dec code 701 3 704 (.invokevirtual 69) := ⟨by decide +kernel, rfl⟩
theorem dL_law_704 : dec code 704 3 707 (.if_icmp .eq 831) := ⟨by decide +kernel, rfl⟩
theorem dL_law_707 : dec code 707 1 708 (.iconst 0) := ⟨by decide +kernel, rfl⟩
theorem dL_law_708 : dec code 708 1 709 (.ireturn) := ⟨by decide +kernel, rfl⟩
set_option maxHeartbeats 4000000 in
set_option maxRecDepth 100000 in
theorem tL_c11 {X : Cx} {Y : Yx} {M0 : Mem} (hC : OKX X Y R_law code 4 (some .boolean) room_1) (hF : Y.2.2.2.2 = true) (hL : Lay M0) {b L : Nat} {xs : Nat → Int32} (hX : va_X b L xs X.2.2.2.2.1 X.2.2.2.2.1.heap) (hbl : b < X.2.2.2.2.1.heap.size) (hbA : ¬ frA Y b) {Qm : Option Value → Mem → Prop} {n k : Nat} {a1 a2 : Nat} (q1 : 0 < a1 ∧ M0 0 a1 = kO 11) (q2 : 0 < a2 ∧ M0 0 a2 = kO 12) (C : Mem → Prop) (x3 : Int) (hn : n + 100 ≤ 600000 ∧ k + 10240 ≤ 7302250) (kk : ∀ M : Mem, C M → WW X Y 4 room_1 Qm M0 (n + 100) (k + 10240) 1535 [(0, .ref b), (1, vR Y.1 a1), (2, vR Y.1 a2), (3, vI x3)] [] M) (M : Mem) (h : wL_c11 xs L a1 a2 C x3 M) : WW X Y 4 room_1 Qm M0 n k 656 [(0, .ref b), (1, vR Y.1 a1), (2, vR Y.1 a2), (3, vI x3)] [] M := by
  unfold wL_c11 at h
  refine r_aload_n hC 1 dL_law_656 rfl rfl ?_
  refine r_aloadX hC 0 dL_law_657 rfl rfl ?_
  refine r_iload_n hC 3 dL_law_658 rfl rfl ?_
  refine r_iconst hC dL_law_659 ?_
  refine r_iadd hC dL_law_660 ?_
  obtain ⟨i_1, h⟩ := h
  refine r_sld hC hX hbl hbA i_1 dL_law_661 ?_
  refine r_aloadX hC 0 dL_law_662 rfl rfl ?_
  refine r_iload_n hC 3 dL_law_663 rfl rfl ?_
  refine r_iconst hC dL_law_664 ?_
  refine r_iadd hC dL_law_665 ?_
  obtain ⟨i_2, h⟩ := h
  refine r_sld hC hX hbl hbA i_2 dL_law_666 ?_
  refine r_aloadX hC 0 dL_law_667 rfl rfl ?_
  refine r_iload_n hC 3 dL_law_668 rfl rfl ?_
  refine r_iconst hC dL_law_669 ?_
  refine r_iadd hC dL_law_670 ?_
  obtain ⟨i_3, h⟩ := h
  refine r_sld hC hX hbl hbA i_3 dL_law_671 ?_
  refine r_aloadX hC 0 dL_law_672 rfl rfl ?_
  refine r_iload_n hC 3 dL_law_673 rfl rfl ?_
  refine r_iconst hC dL_law_674 ?_
  refine r_iadd hC dL_law_675 ?_
  obtain ⟨i_4, h⟩ := h
  refine r_sld hC hX hbl hbA i_4 dL_law_676 ?_
  refine r_callV (As := [vI (sxv xs (x3 + 1)), vI (sxv xs (x3 + 2)), vI (sxv xs (x3 + 3)), vI (sxv xs (x3 + 4))]) (st := []) hC cw_law_66 rfl q1.1 q1.2 rfl rfl (Nat.le_of_ble_eq_true rfl) ⟨Nat.le_of_ble_eq_true rfl, Nat.le_of_ble_eq_true rfl⟩ (by constructor <;> simp only [rmX11_tired, room_1] <;> omega) dL_law_677 (fun hk => mX11_tired Y hF _ _ _ _ _ _ _ _ (kqO hk q1) h) (fun v M_5 h => ?_)
  obtain ⟨r_6, rfl, h⟩ := h
  refine r_aload_n hC 2 dL_law_680 rfl rfl ?_
  refine r_aloadX hC 0 dL_law_681 rfl rfl ?_
  refine r_iload_n hC 3 dL_law_682 rfl rfl ?_
  refine r_iconst hC dL_law_683 ?_
  refine r_iadd hC dL_law_684 ?_
  obtain ⟨i_7, h⟩ := h
  refine r_sld hC hX hbl hbA i_7 dL_law_685 ?_
  refine r_aloadX hC 0 dL_law_686 rfl rfl ?_
  refine r_iload_n hC 3 dL_law_687 rfl rfl ?_
  refine r_iconst hC dL_law_688 ?_
  refine r_iadd hC dL_law_689 ?_
  obtain ⟨i_8, h⟩ := h
  refine r_sld hC hX hbl hbA i_8 dL_law_690 ?_
  refine r_aloadX hC 0 dL_law_691 rfl rfl ?_
  refine r_iload_n hC 3 dL_law_692 rfl rfl ?_
  refine r_iconst hC dL_law_693 ?_
  refine r_iadd hC dL_law_694 ?_
  obtain ⟨i_9, h⟩ := h
  refine r_sld hC hX hbl hbA i_9 dL_law_695 ?_
  refine r_aloadX hC 0 dL_law_696 rfl rfl ?_
  refine r_iload_n hC 3 dL_law_697 rfl rfl ?_
  refine r_iconst hC dL_law_698 ?_
  refine r_iadd hC dL_law_699 ?_
  obtain ⟨i_10, h⟩ := h
  refine r_sld hC hX hbl hbA i_10 dL_law_700 ?_
  refine r_callV (As := [vI (sxv xs (x3 + 1)), vI (sxv xs (x3 + 2)), vI (sxv xs (x3 + 3)), vI (sxv xs (x3 + 4))]) (st := [vI r_6]) hC cw_law_69 rfl q2.1 q2.2 rfl rfl (Nat.le_of_ble_eq_true rfl) ⟨Nat.le_of_ble_eq_true rfl, Nat.le_of_ble_eq_true rfl⟩ (by constructor <;> simp only [rmX11_tired, rmX12_tired, room_1] <;> omega) dL_law_701 (fun hk => mX12_tired Y hF _ _ _ _ _ _ _ _ (kqO hk q2) h) (fun v M_11 h => ?_)
  obtain ⟨r_12, rfl, h⟩ := h
  refine r_icmp_eq hC 1535 rfl rfl dL_law_704 (by decide) (fun cq => ?_) (fun cq => ?_)
  · replace h := h.1 cq
    exact r_widen (n' := n + 100) (k' := k + 10240) (by simp only [rmX11_tired, rmX12_tired]; omega) (by simp only [rmX11_tired, rmX12_tired]; omega) (kk _ h)
  · replace h := h.2 cq
    refine r_iconst hC dL_law_707 ?_
    exact h.elim
theorem dL_law_709 : dec code 709 1 710 (.aload_n 1) := ⟨by decide +kernel, rfl⟩
theorem dL_law_710 : dec code 710 1 711 (.aload_n 0) := ⟨by decide +kernel, rfl⟩
theorem dL_law_711 : dec code 711 1 712 (.iload_n 3) := ⟨by decide +kernel, rfl⟩
theorem dL_law_712 : dec code 712 1 713 (.iconst 1) := ⟨by decide +kernel, rfl⟩
theorem dL_law_713 : dec code 713 1 714 (.iadd) := ⟨by decide +kernel, rfl⟩
theorem dL_law_714 : dec code 714 1 715 (.iaload) := ⟨by decide +kernel, rfl⟩
theorem dL_law_715 : dec code 715 1 716 (.aload_n 0) := ⟨by decide +kernel, rfl⟩
theorem dL_law_716 : dec code 716 1 717 (.iload_n 3) := ⟨by decide +kernel, rfl⟩
theorem dL_law_717 : dec code 717 1 718 (.iconst 2) := ⟨by decide +kernel, rfl⟩
theorem dL_law_718 : dec code 718 1 719 (.iadd) := ⟨by decide +kernel, rfl⟩
theorem dL_law_719 : dec code 719 1 720 (.iaload) := ⟨by decide +kernel, rfl⟩
theorem dL_law_720 : dec code 720 1 721 (.aload_n 0) := ⟨by decide +kernel, rfl⟩
theorem dL_law_721 : dec code 721 1 722 (.iload_n 3) := ⟨by decide +kernel, rfl⟩
theorem dL_law_722 : dec code 722 1 723 (.iconst 3) := ⟨by decide +kernel, rfl⟩
theorem dL_law_723 : dec code 723 1 724 (.iadd) := ⟨by decide +kernel, rfl⟩
theorem dL_law_724 : dec code 724 1 725 (.iaload) := ⟨by decide +kernel, rfl⟩
theorem dL_law_725 : dec code 725 3 728 (.invokevirtual 70) := ⟨by decide +kernel, rfl⟩
theorem dL_law_728 : dec code 728 1 729 (.aload_n 2) := ⟨by decide +kernel, rfl⟩
theorem dL_law_729 : dec code 729 1 730 (.aload_n 0) := ⟨by decide +kernel, rfl⟩
theorem dL_law_730 : dec code 730 1 731 (.iload_n 3) := ⟨by decide +kernel, rfl⟩
theorem dL_law_731 : dec code 731 1 732 (.iconst 1) := ⟨by decide +kernel, rfl⟩
theorem dL_law_732 : dec code 732 1 733 (.iadd) := ⟨by decide +kernel, rfl⟩
theorem dL_law_733 : dec code 733 1 734 (.iaload) := ⟨by decide +kernel, rfl⟩
theorem dL_law_734 : dec code 734 1 735 (.aload_n 0) := ⟨by decide +kernel, rfl⟩
theorem dL_law_735 : dec code 735 1 736 (.iload_n 3) := ⟨by decide +kernel, rfl⟩
theorem dL_law_736 : dec code 736 1 737 (.iconst 2) := ⟨by decide +kernel, rfl⟩
theorem dL_law_737 : dec code 737 1 738 (.iadd) := ⟨by decide +kernel, rfl⟩
theorem dL_law_738 : dec code 738 1 739 (.iaload) := ⟨by decide +kernel, rfl⟩
theorem dL_law_739 : dec code 739 1 740 (.aload_n 0) := ⟨by decide +kernel, rfl⟩
theorem dL_law_740 : dec code 740 1 741 (.iload_n 3) := ⟨by decide +kernel, rfl⟩
theorem dL_law_741 : dec code 741 1 742 (.iconst 3) := ⟨by decide +kernel, rfl⟩
theorem dL_law_742 : dec code 742 1 743 (.iadd) := ⟨by decide +kernel, rfl⟩
theorem dL_law_743 : dec code 743 1 744 (.iaload) := ⟨by decide +kernel, rfl⟩
theorem dL_law_744 : dec code 744 3 747 (.invokevirtual 73) := ⟨by decide +kernel, rfl⟩
theorem dL_law_747 : dec code 747 3 750 (.if_icmp .eq 788) := ⟨by decide +kernel, rfl⟩
theorem dL_law_750 : dec code 750 1 751 (.iconst 0) := ⟨by decide +kernel, rfl⟩
theorem dL_law_751 : dec code 751 1 752 (.ireturn) := ⟨by decide +kernel, rfl⟩
set_option maxHeartbeats 4000000 in
set_option maxRecDepth 100000 in
theorem tL_c12 {X : Cx} {Y : Yx} {M0 : Mem} (hC : OKX X Y R_law code 4 (some .boolean) room_1) (hF : Y.2.2.2.2 = true) (hL : Lay M0) {b L : Nat} {xs : Nat → Int32} (hX : va_X b L xs X.2.2.2.2.1 X.2.2.2.2.1.heap) (hbl : b < X.2.2.2.2.1.heap.size) (hbA : ¬ frA Y b) {Qm : Option Value → Mem → Prop} {n k : Nat} {a1 a2 : Nat} (q1 : 0 < a1 ∧ M0 0 a1 = kO 11) (q2 : 0 < a2 ∧ M0 0 a2 = kO 12) (C : Mem → Prop) (x3 : Int) (hn : n + 100 ≤ 600000 ∧ k + 10240 ≤ 7302250) (kk : ∀ M : Mem, C M → WW X Y 4 room_1 Qm M0 (n + 100) (k + 10240) 1535 [(0, .ref b), (1, vR Y.1 a1), (2, vR Y.1 a2), (3, vI x3)] [] M) (M : Mem) (h : wL_c12 xs L a1 a2 C x3 M) : WW X Y 4 room_1 Qm M0 n k 709 [(0, .ref b), (1, vR Y.1 a1), (2, vR Y.1 a2), (3, vI x3)] [] M := by
  unfold wL_c12 at h
  refine r_aload_n hC 1 dL_law_709 rfl rfl ?_
  refine r_aloadX hC 0 dL_law_710 rfl rfl ?_
  refine r_iload_n hC 3 dL_law_711 rfl rfl ?_
  refine r_iconst hC dL_law_712 ?_
  refine r_iadd hC dL_law_713 ?_
  obtain ⟨i_1, h⟩ := h
  refine r_sld hC hX hbl hbA i_1 dL_law_714 ?_
  refine r_aloadX hC 0 dL_law_715 rfl rfl ?_
  refine r_iload_n hC 3 dL_law_716 rfl rfl ?_
  refine r_iconst hC dL_law_717 ?_
  refine r_iadd hC dL_law_718 ?_
  obtain ⟨i_2, h⟩ := h
  refine r_sld hC hX hbl hbA i_2 dL_law_719 ?_
  refine r_aloadX hC 0 dL_law_720 rfl rfl ?_
  refine r_iload_n hC 3 dL_law_721 rfl rfl ?_
  refine r_iconst hC dL_law_722 ?_
  refine r_iadd hC dL_law_723 ?_
  obtain ⟨i_3, h⟩ := h
  refine r_sld hC hX hbl hbA i_3 dL_law_724 ?_
  refine r_callV (As := [vI (sxv xs (x3 + 1)), vI (sxv xs (x3 + 2)), vI (sxv xs (x3 + 3))]) (st := []) hC cw_law_70 rfl q1.1 q1.2 rfl rfl (Nat.le_of_ble_eq_true rfl) ⟨Nat.le_of_ble_eq_true rfl, Nat.le_of_ble_eq_true rfl⟩ (by constructor <;> simp only [rmX11_judge, room_1] <;> omega) dL_law_725 (fun hk => mX11_judge Y hF _ _ _ _ _ _ _ (kqO hk q1) h) (fun v M_4 h => ?_)
  obtain ⟨r_5, rfl, h⟩ := h
  refine r_aload_n hC 2 dL_law_728 rfl rfl ?_
  refine r_aloadX hC 0 dL_law_729 rfl rfl ?_
  refine r_iload_n hC 3 dL_law_730 rfl rfl ?_
  refine r_iconst hC dL_law_731 ?_
  refine r_iadd hC dL_law_732 ?_
  obtain ⟨i_6, h⟩ := h
  refine r_sld hC hX hbl hbA i_6 dL_law_733 ?_
  refine r_aloadX hC 0 dL_law_734 rfl rfl ?_
  refine r_iload_n hC 3 dL_law_735 rfl rfl ?_
  refine r_iconst hC dL_law_736 ?_
  refine r_iadd hC dL_law_737 ?_
  obtain ⟨i_7, h⟩ := h
  refine r_sld hC hX hbl hbA i_7 dL_law_738 ?_
  refine r_aloadX hC 0 dL_law_739 rfl rfl ?_
  refine r_iload_n hC 3 dL_law_740 rfl rfl ?_
  refine r_iconst hC dL_law_741 ?_
  refine r_iadd hC dL_law_742 ?_
  obtain ⟨i_8, h⟩ := h
  refine r_sld hC hX hbl hbA i_8 dL_law_743 ?_
  refine r_callV (As := [vI (sxv xs (x3 + 1)), vI (sxv xs (x3 + 2)), vI (sxv xs (x3 + 3))]) (st := [vI r_5]) hC cw_law_73 rfl q2.1 q2.2 rfl rfl (Nat.le_of_ble_eq_true rfl) ⟨Nat.le_of_ble_eq_true rfl, Nat.le_of_ble_eq_true rfl⟩ (by constructor <;> simp only [rmX11_judge, rmX12_judge, room_1] <;> omega) dL_law_744 (fun hk => mX12_judge Y hF _ _ _ _ _ _ _ (kqO hk q2) h) (fun v M_9 h => ?_)
  obtain ⟨r_10, rfl, h⟩ := h
  refine r_icmp_eq hC 1535 rfl rfl dL_law_747 (by decide) (fun cq => ?_) (fun cq => ?_)
  · replace h := h.1 cq
    exact r_widen (n' := n + 100) (k' := k + 10240) (by simp only [rmX11_judge, rmX12_judge]; omega) (by simp only [rmX11_judge, rmX12_judge]; omega) (kk _ h)
  · replace h := h.2 cq
    refine r_iconst hC dL_law_750 ?_
    exact h.elim
theorem dL_law_752 : dec code 752 1 753 (.aload_n 1) := ⟨by decide +kernel, rfl⟩
theorem dL_law_753 : dec code 753 1 754 (.aload_n 0) := ⟨by decide +kernel, rfl⟩
theorem dL_law_754 : dec code 754 1 755 (.iload_n 3) := ⟨by decide +kernel, rfl⟩
theorem dL_law_755 : dec code 755 1 756 (.iconst 1) := ⟨by decide +kernel, rfl⟩
theorem dL_law_756 : dec code 756 1 757 (.iadd) := ⟨by decide +kernel, rfl⟩
theorem dL_law_757 : dec code 757 1 758 (.iaload) := ⟨by decide +kernel, rfl⟩
theorem dL_law_758 : dec code 758 1 759 (.aload_n 0) := ⟨by decide +kernel, rfl⟩
theorem dL_law_759 : dec code 759 1 760 (.iload_n 3) := ⟨by decide +kernel, rfl⟩
theorem dL_law_760 : dec code 760 1 761 (.iconst 2) := ⟨by decide +kernel, rfl⟩
theorem dL_law_761 : dec code 761 1 762 (.iadd) := ⟨by decide +kernel, rfl⟩
theorem dL_law_762 : dec code 762 1 763 (.iaload) := ⟨by decide +kernel, rfl⟩
theorem dL_law_763 : dec code 763 1 764 (.aload_n 0) := ⟨by decide +kernel, rfl⟩
theorem dL_law_764 : dec code 764 1 765 (.iload_n 3) := ⟨by decide +kernel, rfl⟩
theorem dL_law_765 : dec code 765 1 766 (.iconst 3) := ⟨by decide +kernel, rfl⟩
theorem dL_law_766 : dec code 766 1 767 (.iadd) := ⟨by decide +kernel, rfl⟩
theorem dL_law_767 : dec code 767 1 768 (.iaload) := ⟨by decide +kernel, rfl⟩
theorem dL_law_768 : dec code 768 3 771 (.invokevirtual 74) := ⟨by decide +kernel, rfl⟩
theorem dL_law_771 : dec code 771 1 772 (.aload_n 2) := ⟨by decide +kernel, rfl⟩
theorem dL_law_772 : dec code 772 1 773 (.aload_n 0) := ⟨by decide +kernel, rfl⟩
theorem dL_law_773 : dec code 773 1 774 (.iload_n 3) := ⟨by decide +kernel, rfl⟩
theorem dL_law_774 : dec code 774 1 775 (.iconst 1) := ⟨by decide +kernel, rfl⟩
theorem dL_law_775 : dec code 775 1 776 (.iadd) := ⟨by decide +kernel, rfl⟩
theorem dL_law_776 : dec code 776 1 777 (.iaload) := ⟨by decide +kernel, rfl⟩
theorem dL_law_777 : dec code 777 1 778 (.aload_n 0) := ⟨by decide +kernel, rfl⟩
theorem dL_law_778 : dec code 778 1 779 (.iload_n 3) := ⟨by decide +kernel, rfl⟩
theorem dL_law_779 : dec code 779 1 780 (.iconst 2) := ⟨by decide +kernel, rfl⟩
theorem dL_law_780 : dec code 780 1 781 (.iadd) := ⟨by decide +kernel, rfl⟩
theorem dL_law_781 : dec code 781 1 782 (.iaload) := ⟨by decide +kernel, rfl⟩
theorem dL_law_782 : dec code 782 1 783 (.aload_n 0) := ⟨by decide +kernel, rfl⟩
theorem dL_law_783 : dec code 783 1 784 (.iload_n 3) := ⟨by decide +kernel, rfl⟩
theorem dL_law_784 : dec code 784 1 785 (.iconst 3) := ⟨by decide +kernel, rfl⟩
theorem dL_law_785 : dec code 785 1 786 (.iadd) := ⟨by decide +kernel, rfl⟩
theorem dL_law_786 : dec code 786 1 787 (.iaload) := ⟨by decide +kernel, rfl⟩
theorem dL_law_787 : dec code 787 3 790 (.invokevirtual 77) := ⟨by decide +kernel, rfl⟩
theorem dL_law_790 : dec code 790 3 793 (.if_icmp .eq 745) := ⟨by decide +kernel, rfl⟩
theorem dL_law_793 : dec code 793 1 794 (.iconst 0) := ⟨by decide +kernel, rfl⟩
theorem dL_law_794 : dec code 794 1 795 (.ireturn) := ⟨by decide +kernel, rfl⟩
set_option maxHeartbeats 4000000 in
set_option maxRecDepth 100000 in
theorem tL_c13 {X : Cx} {Y : Yx} {M0 : Mem} (hC : OKX X Y R_law code 4 (some .boolean) room_1) (hF : Y.2.2.2.2 = true) (hL : Lay M0) {b L : Nat} {xs : Nat → Int32} (hX : va_X b L xs X.2.2.2.2.1 X.2.2.2.2.1.heap) (hbl : b < X.2.2.2.2.1.heap.size) (hbA : ¬ frA Y b) {Qm : Option Value → Mem → Prop} {n k : Nat} {a1 a2 : Nat} (q1 : 0 < a1 ∧ M0 0 a1 = kO 11) (q2 : 0 < a2 ∧ M0 0 a2 = kO 12) (C : Mem → Prop) (x3 : Int) (hn : n + 100 ≤ 600000 ∧ k + 10240 ≤ 7302250) (kk : ∀ M : Mem, C M → WW X Y 4 room_1 Qm M0 (n + 100) (k + 10240) 1535 [(0, .ref b), (1, vR Y.1 a1), (2, vR Y.1 a2), (3, vI x3)] [] M) (M : Mem) (h : wL_c13 xs L a1 a2 C x3 M) : WW X Y 4 room_1 Qm M0 n k 752 [(0, .ref b), (1, vR Y.1 a1), (2, vR Y.1 a2), (3, vI x3)] [] M := by
  unfold wL_c13 at h
  refine r_aload_n hC 1 dL_law_752 rfl rfl ?_
  refine r_aloadX hC 0 dL_law_753 rfl rfl ?_
  refine r_iload_n hC 3 dL_law_754 rfl rfl ?_
  refine r_iconst hC dL_law_755 ?_
  refine r_iadd hC dL_law_756 ?_
  obtain ⟨i_1, h⟩ := h
  refine r_sld hC hX hbl hbA i_1 dL_law_757 ?_
  refine r_aloadX hC 0 dL_law_758 rfl rfl ?_
  refine r_iload_n hC 3 dL_law_759 rfl rfl ?_
  refine r_iconst hC dL_law_760 ?_
  refine r_iadd hC dL_law_761 ?_
  obtain ⟨i_2, h⟩ := h
  refine r_sld hC hX hbl hbA i_2 dL_law_762 ?_
  refine r_aloadX hC 0 dL_law_763 rfl rfl ?_
  refine r_iload_n hC 3 dL_law_764 rfl rfl ?_
  refine r_iconst hC dL_law_765 ?_
  refine r_iadd hC dL_law_766 ?_
  obtain ⟨i_3, h⟩ := h
  refine r_sld hC hX hbl hbA i_3 dL_law_767 ?_
  refine r_callV (As := [vI (sxv xs (x3 + 1)), vI (sxv xs (x3 + 2)), vI (sxv xs (x3 + 3))]) (st := []) hC cw_law_74 rfl q1.1 q1.2 rfl rfl (Nat.le_of_ble_eq_true rfl) ⟨Nat.le_of_ble_eq_true rfl, Nat.le_of_ble_eq_true rfl⟩ (by constructor <;> simp only [rmX11_begins, room_1] <;> omega) dL_law_768 (fun hk => mX11_begins Y hF _ _ _ _ _ _ _ (kqO hk q1) h) (fun v M_4 h => ?_)
  obtain ⟨r_5, rfl, h⟩ := h
  refine r_aload_n hC 2 dL_law_771 rfl rfl ?_
  refine r_aloadX hC 0 dL_law_772 rfl rfl ?_
  refine r_iload_n hC 3 dL_law_773 rfl rfl ?_
  refine r_iconst hC dL_law_774 ?_
  refine r_iadd hC dL_law_775 ?_
  obtain ⟨i_6, h⟩ := h
  refine r_sld hC hX hbl hbA i_6 dL_law_776 ?_
  refine r_aloadX hC 0 dL_law_777 rfl rfl ?_
  refine r_iload_n hC 3 dL_law_778 rfl rfl ?_
  refine r_iconst hC dL_law_779 ?_
  refine r_iadd hC dL_law_780 ?_
  obtain ⟨i_7, h⟩ := h
  refine r_sld hC hX hbl hbA i_7 dL_law_781 ?_
  refine r_aloadX hC 0 dL_law_782 rfl rfl ?_
  refine r_iload_n hC 3 dL_law_783 rfl rfl ?_
  refine r_iconst hC dL_law_784 ?_
  refine r_iadd hC dL_law_785 ?_
  obtain ⟨i_8, h⟩ := h
  refine r_sld hC hX hbl hbA i_8 dL_law_786 ?_
  refine r_callV (As := [vI (sxv xs (x3 + 1)), vI (sxv xs (x3 + 2)), vI (sxv xs (x3 + 3))]) (st := [vI r_5]) hC cw_law_77 rfl q2.1 q2.2 rfl rfl (Nat.le_of_ble_eq_true rfl) ⟨Nat.le_of_ble_eq_true rfl, Nat.le_of_ble_eq_true rfl⟩ (by constructor <;> simp only [rmX11_begins, rmX12_begins, room_1] <;> omega) dL_law_787 (fun hk => mX12_begins Y hF _ _ _ _ _ _ _ (kqO hk q2) h) (fun v M_9 h => ?_)
  obtain ⟨r_10, rfl, h⟩ := h
  refine r_icmp_eq hC 1535 rfl rfl dL_law_790 (by decide) (fun cq => ?_) (fun cq => ?_)
  · replace h := h.1 cq
    exact r_widen (n' := n + 100) (k' := k + 10240) (by simp only [rmX11_begins, rmX12_begins]; omega) (by simp only [rmX11_begins, rmX12_begins]; omega) (kk _ h)
  · replace h := h.2 cq
    refine r_iconst hC dL_law_793 ?_
    exact h.elim
theorem dL_law_795 : dec code 795 1 796 (.aload_n 1) := ⟨by decide +kernel, rfl⟩
theorem dL_law_796 : dec code 796 1 797 (.aload_n 0) := ⟨by decide +kernel, rfl⟩
theorem dL_law_797 : dec code 797 1 798 (.iload_n 3) := ⟨by decide +kernel, rfl⟩
theorem dL_law_798 : dec code 798 1 799 (.iconst 1) := ⟨by decide +kernel, rfl⟩
theorem dL_law_799 : dec code 799 1 800 (.iadd) := ⟨by decide +kernel, rfl⟩
theorem dL_law_800 : dec code 800 1 801 (.iaload) := ⟨by decide +kernel, rfl⟩
theorem dL_law_801 : dec code 801 1 802 (.aload_n 0) := ⟨by decide +kernel, rfl⟩
theorem dL_law_802 : dec code 802 1 803 (.iload_n 3) := ⟨by decide +kernel, rfl⟩
theorem dL_law_803 : dec code 803 1 804 (.iconst 2) := ⟨by decide +kernel, rfl⟩
theorem dL_law_804 : dec code 804 1 805 (.iadd) := ⟨by decide +kernel, rfl⟩
theorem dL_law_805 : dec code 805 1 806 (.iaload) := ⟨by decide +kernel, rfl⟩
theorem dL_law_806 : dec code 806 3 809 (.invokevirtual 78) := ⟨by decide +kernel, rfl⟩
theorem dL_law_809 : dec code 809 1 810 (.aload_n 2) := ⟨by decide +kernel, rfl⟩
theorem dL_law_810 : dec code 810 1 811 (.aload_n 0) := ⟨by decide +kernel, rfl⟩
theorem dL_law_811 : dec code 811 1 812 (.iload_n 3) := ⟨by decide +kernel, rfl⟩
theorem dL_law_812 : dec code 812 1 813 (.iconst 1) := ⟨by decide +kernel, rfl⟩
theorem dL_law_813 : dec code 813 1 814 (.iadd) := ⟨by decide +kernel, rfl⟩
theorem dL_law_814 : dec code 814 1 815 (.iaload) := ⟨by decide +kernel, rfl⟩
theorem dL_law_815 : dec code 815 1 816 (.aload_n 0) := ⟨by decide +kernel, rfl⟩
theorem dL_law_816 : dec code 816 1 817 (.iload_n 3) := ⟨by decide +kernel, rfl⟩
theorem dL_law_817 : dec code 817 1 818 (.iconst 2) := ⟨by decide +kernel, rfl⟩
theorem dL_law_818 : dec code 818 1 819 (.iadd) := ⟨by decide +kernel, rfl⟩
theorem dL_law_819 : dec code 819 1 820 (.iaload) := ⟨by decide +kernel, rfl⟩
theorem dL_law_820 : dec code 820 3 823 (.invokevirtual 81) := ⟨by decide +kernel, rfl⟩
theorem dL_law_823 : dec code 823 3 826 (.if_icmp .eq 712) := ⟨by decide +kernel, rfl⟩
theorem dL_law_826 : dec code 826 1 827 (.iconst 0) := ⟨by decide +kernel, rfl⟩
theorem dL_law_827 : dec code 827 1 828 (.ireturn) := ⟨by decide +kernel, rfl⟩
set_option maxHeartbeats 4000000 in
set_option maxRecDepth 100000 in
theorem tL_c14 {X : Cx} {Y : Yx} {M0 : Mem} (hC : OKX X Y R_law code 4 (some .boolean) room_1) (hF : Y.2.2.2.2 = true) (hL : Lay M0) {b L : Nat} {xs : Nat → Int32} (hX : va_X b L xs X.2.2.2.2.1 X.2.2.2.2.1.heap) (hbl : b < X.2.2.2.2.1.heap.size) (hbA : ¬ frA Y b) {Qm : Option Value → Mem → Prop} {n k : Nat} {a1 a2 : Nat} (q1 : 0 < a1 ∧ M0 0 a1 = kO 11) (q2 : 0 < a2 ∧ M0 0 a2 = kO 12) (C : Mem → Prop) (x3 : Int) (hn : n + 100 ≤ 600000 ∧ k + 10240 ≤ 7302250) (kk : ∀ M : Mem, C M → WW X Y 4 room_1 Qm M0 (n + 100) (k + 10240) 1535 [(0, .ref b), (1, vR Y.1 a1), (2, vR Y.1 a2), (3, vI x3)] [] M) (M : Mem) (h : wL_c14 xs L a1 a2 C x3 M) : WW X Y 4 room_1 Qm M0 n k 795 [(0, .ref b), (1, vR Y.1 a1), (2, vR Y.1 a2), (3, vI x3)] [] M := by
  unfold wL_c14 at h
  refine r_aload_n hC 1 dL_law_795 rfl rfl ?_
  refine r_aloadX hC 0 dL_law_796 rfl rfl ?_
  refine r_iload_n hC 3 dL_law_797 rfl rfl ?_
  refine r_iconst hC dL_law_798 ?_
  refine r_iadd hC dL_law_799 ?_
  obtain ⟨i_1, h⟩ := h
  refine r_sld hC hX hbl hbA i_1 dL_law_800 ?_
  refine r_aloadX hC 0 dL_law_801 rfl rfl ?_
  refine r_iload_n hC 3 dL_law_802 rfl rfl ?_
  refine r_iconst hC dL_law_803 ?_
  refine r_iadd hC dL_law_804 ?_
  obtain ⟨i_2, h⟩ := h
  refine r_sld hC hX hbl hbA i_2 dL_law_805 ?_
  refine r_callV (As := [vI (sxv xs (x3 + 1)), vI (sxv xs (x3 + 2))]) (st := []) hC cw_law_78 rfl q1.1 q1.2 rfl rfl (Nat.le_of_ble_eq_true rfl) ⟨Nat.le_of_ble_eq_true rfl, Nat.le_of_ble_eq_true rfl⟩ (by constructor <;> simp only [rmX11_best, room_1] <;> omega) dL_law_806 (fun hk => mX11_best Y hF _ _ _ _ _ _ (kqO hk q1) h) (fun v M_3 h => ?_)
  obtain ⟨r_4, rfl, h⟩ := h
  refine r_aload_n hC 2 dL_law_809 rfl rfl ?_
  refine r_aloadX hC 0 dL_law_810 rfl rfl ?_
  refine r_iload_n hC 3 dL_law_811 rfl rfl ?_
  refine r_iconst hC dL_law_812 ?_
  refine r_iadd hC dL_law_813 ?_
  obtain ⟨i_5, h⟩ := h
  refine r_sld hC hX hbl hbA i_5 dL_law_814 ?_
  refine r_aloadX hC 0 dL_law_815 rfl rfl ?_
  refine r_iload_n hC 3 dL_law_816 rfl rfl ?_
  refine r_iconst hC dL_law_817 ?_
  refine r_iadd hC dL_law_818 ?_
  obtain ⟨i_6, h⟩ := h
  refine r_sld hC hX hbl hbA i_6 dL_law_819 ?_
  refine r_callV (As := [vI (sxv xs (x3 + 1)), vI (sxv xs (x3 + 2))]) (st := [vI r_4]) hC cw_law_81 rfl q2.1 q2.2 rfl rfl (Nat.le_of_ble_eq_true rfl) ⟨Nat.le_of_ble_eq_true rfl, Nat.le_of_ble_eq_true rfl⟩ (by constructor <;> simp only [rmX11_best, rmX12_best, room_1] <;> omega) dL_law_820 (fun hk => mX12_best Y hF _ _ _ _ _ _ (kqO hk q2) h) (fun v M_7 h => ?_)
  obtain ⟨r_8, rfl, h⟩ := h
  refine r_icmp_eq hC 1535 rfl rfl dL_law_823 (by decide) (fun cq => ?_) (fun cq => ?_)
  · replace h := h.1 cq
    exact r_widen (n' := n + 100) (k' := k + 10240) (by simp only [rmX11_best, rmX12_best]; omega) (by simp only [rmX11_best, rmX12_best]; omega) (kk _ h)
  · replace h := h.2 cq
    refine r_iconst hC dL_law_826 ?_
    exact h.elim
theorem dL_law_828 : dec code 828 1 829 (.aload_n 1) := ⟨by decide +kernel, rfl⟩
theorem dL_law_829 : dec code 829 1 830 (.aload_n 0) := ⟨by decide +kernel, rfl⟩
theorem dL_law_830 : dec code 830 1 831 (.iload_n 3) := ⟨by decide +kernel, rfl⟩
theorem dL_law_831 : dec code 831 1 832 (.iconst 1) := ⟨by decide +kernel, rfl⟩
theorem dL_law_832 : dec code 832 1 833 (.iadd) := ⟨by decide +kernel, rfl⟩
theorem dL_law_833 : dec code 833 1 834 (.iaload) := ⟨by decide +kernel, rfl⟩
theorem dL_law_834 : dec code 834 1 835 (.aload_n 0) := ⟨by decide +kernel, rfl⟩
theorem dL_law_835 : dec code 835 1 836 (.iload_n 3) := ⟨by decide +kernel, rfl⟩
theorem dL_law_836 : dec code 836 1 837 (.iconst 2) := ⟨by decide +kernel, rfl⟩
theorem dL_law_837 : dec code 837 1 838 (.iadd) := ⟨by decide +kernel, rfl⟩
theorem dL_law_838 : dec code 838 1 839 (.iaload) := ⟨by decide +kernel, rfl⟩
theorem dL_law_839 : dec code 839 3 842 (.invokevirtual 82) := ⟨by decide +kernel, rfl⟩
theorem dL_law_842 : dec code 842 1 843 (.aload_n 2) := ⟨by decide +kernel, rfl⟩
theorem dL_law_843 : dec code 843 1 844 (.aload_n 0) := ⟨by decide +kernel, rfl⟩
theorem dL_law_844 : dec code 844 1 845 (.iload_n 3) := ⟨by decide +kernel, rfl⟩
theorem dL_law_845 : dec code 845 1 846 (.iconst 1) := ⟨by decide +kernel, rfl⟩
theorem dL_law_846 : dec code 846 1 847 (.iadd) := ⟨by decide +kernel, rfl⟩
theorem dL_law_847 : dec code 847 1 848 (.iaload) := ⟨by decide +kernel, rfl⟩
theorem dL_law_848 : dec code 848 1 849 (.aload_n 0) := ⟨by decide +kernel, rfl⟩
theorem dL_law_849 : dec code 849 1 850 (.iload_n 3) := ⟨by decide +kernel, rfl⟩
theorem dL_law_850 : dec code 850 1 851 (.iconst 2) := ⟨by decide +kernel, rfl⟩
theorem dL_law_851 : dec code 851 1 852 (.iadd) := ⟨by decide +kernel, rfl⟩
theorem dL_law_852 : dec code 852 1 853 (.iaload) := ⟨by decide +kernel, rfl⟩
theorem dL_law_853 : dec code 853 3 856 (.invokevirtual 86) := ⟨by decide +kernel, rfl⟩
theorem dL_law_856 : dec code 856 1 857 (.lcmp) := ⟨by decide +kernel, rfl⟩
theorem dL_law_857 : dec code 857 3 860 (.ifCond .eq 678) := ⟨by decide +kernel, rfl⟩
theorem dL_law_860 : dec code 860 1 861 (.iconst 0) := ⟨by decide +kernel, rfl⟩
theorem dL_law_861 : dec code 861 1 862 (.ireturn) := ⟨by decide +kernel, rfl⟩
set_option maxHeartbeats 4000000 in
set_option maxRecDepth 100000 in
theorem tL_c15 {X : Cx} {Y : Yx} {M0 : Mem} (hC : OKX X Y R_law code 4 (some .boolean) room_1) (hF : Y.2.2.2.2 = true) (hL : Lay M0) {b L : Nat} {xs : Nat → Int32} (hX : va_X b L xs X.2.2.2.2.1 X.2.2.2.2.1.heap) (hbl : b < X.2.2.2.2.1.heap.size) (hbA : ¬ frA Y b) {Qm : Option Value → Mem → Prop} {n k : Nat} {a1 a2 : Nat} (q1 : 0 < a1 ∧ M0 0 a1 = kO 11) (q2 : 0 < a2 ∧ M0 0 a2 = kO 12) (C : Mem → Prop) (x3 : Int) (hn : n + 100 ≤ 600000 ∧ k + 10240 ≤ 7302250) (kk : ∀ M : Mem, C M → WW X Y 4 room_1 Qm M0 (n + 100) (k + 10240) 1535 [(0, .ref b), (1, vR Y.1 a1), (2, vR Y.1 a2), (3, vI x3)] [] M) (M : Mem) (h : wL_c15 xs L a1 a2 C x3 M) : WW X Y 4 room_1 Qm M0 n k 828 [(0, .ref b), (1, vR Y.1 a1), (2, vR Y.1 a2), (3, vI x3)] [] M := by
  unfold wL_c15 at h
  refine r_aload_n hC 1 dL_law_828 rfl rfl ?_
  refine r_aloadX hC 0 dL_law_829 rfl rfl ?_
  refine r_iload_n hC 3 dL_law_830 rfl rfl ?_
  refine r_iconst hC dL_law_831 ?_
  refine r_iadd hC dL_law_832 ?_
  obtain ⟨i_1, h⟩ := h
  refine r_sld hC hX hbl hbA i_1 dL_law_833 ?_
  refine r_aloadX hC 0 dL_law_834 rfl rfl ?_
  refine r_iload_n hC 3 dL_law_835 rfl rfl ?_
  refine r_iconst hC dL_law_836 ?_
  refine r_iadd hC dL_law_837 ?_
  obtain ⟨i_2, h⟩ := h
  refine r_sld hC hX hbl hbA i_2 dL_law_838 ?_
  refine r_callV (As := [vI (sxv xs (x3 + 1)), vI (sxv xs (x3 + 2))]) (st := []) hC cw_law_82 rfl q1.1 q1.2 rfl rfl (Nat.le_of_ble_eq_true rfl) ⟨Nat.le_of_ble_eq_true rfl, Nat.le_of_ble_eq_true rfl⟩ (by constructor <;> simp only [rmX11_most, room_1] <;> omega) dL_law_839 (fun hk => mX11_most Y hF _ _ _ _ _ _ (kqO hk q1) h) (fun v M_3 h => ?_)
  obtain ⟨r_4, rfl, h⟩ := h
  refine r_aload_n hC 2 dL_law_842 rfl rfl ?_
  refine r_aloadX hC 0 dL_law_843 rfl rfl ?_
  refine r_iload_n hC 3 dL_law_844 rfl rfl ?_
  refine r_iconst hC dL_law_845 ?_
  refine r_iadd hC dL_law_846 ?_
  obtain ⟨i_5, h⟩ := h
  refine r_sld hC hX hbl hbA i_5 dL_law_847 ?_
  refine r_aloadX hC 0 dL_law_848 rfl rfl ?_
  refine r_iload_n hC 3 dL_law_849 rfl rfl ?_
  refine r_iconst hC dL_law_850 ?_
  refine r_iadd hC dL_law_851 ?_
  obtain ⟨i_6, h⟩ := h
  refine r_sld hC hX hbl hbA i_6 dL_law_852 ?_
  refine r_callV (As := [vI (sxv xs (x3 + 1)), vI (sxv xs (x3 + 2))]) (st := [vL r_4]) hC cw_law_86 rfl q2.1 q2.2 rfl rfl (Nat.le_of_ble_eq_true rfl) ⟨Nat.le_of_ble_eq_true rfl, Nat.le_of_ble_eq_true rfl⟩ (by constructor <;> simp only [rmX11_most, rmX12_most, room_1] <;> omega) dL_law_853 (fun hk => mX12_most Y hF _ _ _ _ _ _ (kqO hk q2) h) (fun v M_7 h => ?_)
  obtain ⟨r_8, rfl, h⟩ := h
  refine r_lcmp hC dL_law_856 ?_
  refine r_if_eq hC 1535 rfl dL_law_857 (by decide) (fun cq => ?_) (fun cq => ?_)
  · replace h := h.1 cq
    exact r_widen (n' := n + 100) (k' := k + 10240) (by simp only [rmX11_most, rmX12_most]; omega) (by simp only [rmX11_most, rmX12_most]; omega) (kk _ h)
  · replace h := h.2 cq
    refine r_iconst hC dL_law_860 ?_
    exact h.elim
theorem dL_law_862 : dec code 862 1 863 (.aload_n 1) := ⟨by decide +kernel, rfl⟩
theorem dL_law_863 : dec code 863 1 864 (.aload_n 0) := ⟨by decide +kernel, rfl⟩
theorem dL_law_864 : dec code 864 1 865 (.iload_n 3) := ⟨by decide +kernel, rfl⟩
theorem dL_law_865 : dec code 865 1 866 (.iconst 1) := ⟨by decide +kernel, rfl⟩
theorem dL_law_866 : dec code 866 1 867 (.iadd) := ⟨by decide +kernel, rfl⟩
theorem dL_law_867 : dec code 867 1 868 (.iaload) := ⟨by decide +kernel, rfl⟩
theorem dL_law_868 : dec code 868 1 869 (.aload_n 0) := ⟨by decide +kernel, rfl⟩
theorem dL_law_869 : dec code 869 1 870 (.iload_n 3) := ⟨by decide +kernel, rfl⟩
theorem dL_law_870 : dec code 870 1 871 (.iconst 2) := ⟨by decide +kernel, rfl⟩
theorem dL_law_871 : dec code 871 1 872 (.iadd) := ⟨by decide +kernel, rfl⟩
theorem dL_law_872 : dec code 872 1 873 (.iaload) := ⟨by decide +kernel, rfl⟩
theorem dL_law_873 : dec code 873 3 876 (.invokevirtual 87) := ⟨by decide +kernel, rfl⟩
theorem dL_law_876 : dec code 876 1 877 (.aload_n 2) := ⟨by decide +kernel, rfl⟩
theorem dL_law_877 : dec code 877 1 878 (.aload_n 0) := ⟨by decide +kernel, rfl⟩
theorem dL_law_878 : dec code 878 1 879 (.iload_n 3) := ⟨by decide +kernel, rfl⟩
theorem dL_law_879 : dec code 879 1 880 (.iconst 1) := ⟨by decide +kernel, rfl⟩
theorem dL_law_880 : dec code 880 1 881 (.iadd) := ⟨by decide +kernel, rfl⟩
theorem dL_law_881 : dec code 881 1 882 (.iaload) := ⟨by decide +kernel, rfl⟩
theorem dL_law_882 : dec code 882 1 883 (.aload_n 0) := ⟨by decide +kernel, rfl⟩
theorem dL_law_883 : dec code 883 1 884 (.iload_n 3) := ⟨by decide +kernel, rfl⟩
theorem dL_law_884 : dec code 884 1 885 (.iconst 2) := ⟨by decide +kernel, rfl⟩
theorem dL_law_885 : dec code 885 1 886 (.iadd) := ⟨by decide +kernel, rfl⟩
theorem dL_law_886 : dec code 886 1 887 (.iaload) := ⟨by decide +kernel, rfl⟩
theorem dL_law_887 : dec code 887 3 890 (.invokevirtual 90) := ⟨by decide +kernel, rfl⟩
theorem dL_law_890 : dec code 890 3 893 (.if_icmp .eq 645) := ⟨by decide +kernel, rfl⟩
theorem dL_law_893 : dec code 893 1 894 (.iconst 0) := ⟨by decide +kernel, rfl⟩
theorem dL_law_894 : dec code 894 1 895 (.ireturn) := ⟨by decide +kernel, rfl⟩
set_option maxHeartbeats 4000000 in
set_option maxRecDepth 100000 in
theorem tL_c16 {X : Cx} {Y : Yx} {M0 : Mem} (hC : OKX X Y R_law code 4 (some .boolean) room_1) (hF : Y.2.2.2.2 = true) (hL : Lay M0) {b L : Nat} {xs : Nat → Int32} (hX : va_X b L xs X.2.2.2.2.1 X.2.2.2.2.1.heap) (hbl : b < X.2.2.2.2.1.heap.size) (hbA : ¬ frA Y b) {Qm : Option Value → Mem → Prop} {n k : Nat} {a1 a2 : Nat} (q1 : 0 < a1 ∧ M0 0 a1 = kO 11) (q2 : 0 < a2 ∧ M0 0 a2 = kO 12) (C : Mem → Prop) (x3 : Int) (hn : n + 100 ≤ 600000 ∧ k + 10240 ≤ 7302250) (kk : ∀ M : Mem, C M → WW X Y 4 room_1 Qm M0 (n + 100) (k + 10240) 1535 [(0, .ref b), (1, vR Y.1 a1), (2, vR Y.1 a2), (3, vI x3)] [] M) (M : Mem) (h : wL_c16 xs L a1 a2 C x3 M) : WW X Y 4 room_1 Qm M0 n k 862 [(0, .ref b), (1, vR Y.1 a1), (2, vR Y.1 a2), (3, vI x3)] [] M := by
  unfold wL_c16 at h
  refine r_aload_n hC 1 dL_law_862 rfl rfl ?_
  refine r_aloadX hC 0 dL_law_863 rfl rfl ?_
  refine r_iload_n hC 3 dL_law_864 rfl rfl ?_
  refine r_iconst hC dL_law_865 ?_
  refine r_iadd hC dL_law_866 ?_
  obtain ⟨i_1, h⟩ := h
  refine r_sld hC hX hbl hbA i_1 dL_law_867 ?_
  refine r_aloadX hC 0 dL_law_868 rfl rfl ?_
  refine r_iload_n hC 3 dL_law_869 rfl rfl ?_
  refine r_iconst hC dL_law_870 ?_
  refine r_iadd hC dL_law_871 ?_
  obtain ⟨i_2, h⟩ := h
  refine r_sld hC hX hbl hbA i_2 dL_law_872 ?_
  refine r_callV (As := [vI (sxv xs (x3 + 1)), vI (sxv xs (x3 + 2))]) (st := []) hC cw_law_87 rfl q1.1 q1.2 rfl rfl (Nat.le_of_ble_eq_true rfl) ⟨Nat.le_of_ble_eq_true rfl, Nat.le_of_ble_eq_true rfl⟩ (by constructor <;> simp only [rmX11_equals, room_1] <;> omega) dL_law_873 (fun hk => mX11_equals Y hF _ _ _ _ _ _ (kqO hk q1) h) (fun v M_3 h => ?_)
  obtain ⟨r_4, rfl, h⟩ := h
  refine r_aload_n hC 2 dL_law_876 rfl rfl ?_
  refine r_aloadX hC 0 dL_law_877 rfl rfl ?_
  refine r_iload_n hC 3 dL_law_878 rfl rfl ?_
  refine r_iconst hC dL_law_879 ?_
  refine r_iadd hC dL_law_880 ?_
  obtain ⟨i_5, h⟩ := h
  refine r_sld hC hX hbl hbA i_5 dL_law_881 ?_
  refine r_aloadX hC 0 dL_law_882 rfl rfl ?_
  refine r_iload_n hC 3 dL_law_883 rfl rfl ?_
  refine r_iconst hC dL_law_884 ?_
  refine r_iadd hC dL_law_885 ?_
  obtain ⟨i_6, h⟩ := h
  refine r_sld hC hX hbl hbA i_6 dL_law_886 ?_
  refine r_callV (As := [vI (sxv xs (x3 + 1)), vI (sxv xs (x3 + 2))]) (st := [vI r_4]) hC cw_law_90 rfl q2.1 q2.2 rfl rfl (Nat.le_of_ble_eq_true rfl) ⟨Nat.le_of_ble_eq_true rfl, Nat.le_of_ble_eq_true rfl⟩ (by constructor <;> simp only [rmX11_equals, rmX12_equals, room_1] <;> omega) dL_law_887 (fun hk => mX12_equals Y hF _ _ _ _ _ _ (kqO hk q2) h) (fun v M_7 h => ?_)
  obtain ⟨r_8, rfl, h⟩ := h
  refine r_icmp_eq hC 1535 rfl rfl dL_law_890 (by decide) (fun cq => ?_) (fun cq => ?_)
  · replace h := h.1 cq
    exact r_widen (n' := n + 100) (k' := k + 10240) (by simp only [rmX11_equals, rmX12_equals]; omega) (by simp only [rmX11_equals, rmX12_equals]; omega) (kk _ h)
  · replace h := h.2 cq
    refine r_iconst hC dL_law_893 ?_
    exact h.elim
theorem dL_law_895 : dec code 895 1 896 (.aload_n 1) := ⟨by decide +kernel, rfl⟩
theorem dL_law_896 : dec code 896 1 897 (.aload_n 0) := ⟨by decide +kernel, rfl⟩
theorem dL_law_897 : dec code 897 1 898 (.iload_n 3) := ⟨by decide +kernel, rfl⟩
theorem dL_law_898 : dec code 898 1 899 (.iconst 1) := ⟨by decide +kernel, rfl⟩
theorem dL_law_899 : dec code 899 1 900 (.iadd) := ⟨by decide +kernel, rfl⟩
theorem dL_law_900 : dec code 900 1 901 (.iaload) := ⟨by decide +kernel, rfl⟩
theorem dL_law_901 : dec code 901 3 904 (.invokevirtual 91) := ⟨by decide +kernel, rfl⟩
theorem dL_law_904 : dec code 904 1 905 (.aload_n 2) := ⟨by decide +kernel, rfl⟩
theorem dL_law_905 : dec code 905 1 906 (.aload_n 0) := ⟨by decide +kernel, rfl⟩
theorem dL_law_906 : dec code 906 1 907 (.iload_n 3) := ⟨by decide +kernel, rfl⟩
theorem dL_law_907 : dec code 907 1 908 (.iconst 1) := ⟨by decide +kernel, rfl⟩
theorem dL_law_908 : dec code 908 1 909 (.iadd) := ⟨by decide +kernel, rfl⟩
theorem dL_law_909 : dec code 909 1 910 (.iaload) := ⟨by decide +kernel, rfl⟩
theorem dL_law_910 : dec code 910 3 913 (.invokevirtual 94) := ⟨by decide +kernel, rfl⟩
theorem dL_law_913 : dec code 913 3 916 (.if_icmp .eq 622) := ⟨by decide +kernel, rfl⟩
theorem dL_law_916 : dec code 916 1 917 (.iconst 0) := ⟨by decide +kernel, rfl⟩
theorem dL_law_917 : dec code 917 1 918 (.ireturn) := ⟨by decide +kernel, rfl⟩
set_option maxHeartbeats 4000000 in
set_option maxRecDepth 100000 in
theorem tL_c17 {X : Cx} {Y : Yx} {M0 : Mem} (hC : OKX X Y R_law code 4 (some .boolean) room_1) (hF : Y.2.2.2.2 = true) (hL : Lay M0) {b L : Nat} {xs : Nat → Int32} (hX : va_X b L xs X.2.2.2.2.1 X.2.2.2.2.1.heap) (hbl : b < X.2.2.2.2.1.heap.size) (hbA : ¬ frA Y b) {Qm : Option Value → Mem → Prop} {n k : Nat} {a1 a2 : Nat} (q1 : 0 < a1 ∧ M0 0 a1 = kO 11) (q2 : 0 < a2 ∧ M0 0 a2 = kO 12) (C : Mem → Prop) (x3 : Int) (hn : n + 100 ≤ 600000 ∧ k + 10240 ≤ 7302250) (kk : ∀ M : Mem, C M → WW X Y 4 room_1 Qm M0 (n + 100) (k + 10240) 1535 [(0, .ref b), (1, vR Y.1 a1), (2, vR Y.1 a2), (3, vI x3)] [] M) (M : Mem) (h : wL_c17 xs L a1 a2 C x3 M) : WW X Y 4 room_1 Qm M0 n k 895 [(0, .ref b), (1, vR Y.1 a1), (2, vR Y.1 a2), (3, vI x3)] [] M := by
  unfold wL_c17 at h
  refine r_aload_n hC 1 dL_law_895 rfl rfl ?_
  refine r_aloadX hC 0 dL_law_896 rfl rfl ?_
  refine r_iload_n hC 3 dL_law_897 rfl rfl ?_
  refine r_iconst hC dL_law_898 ?_
  refine r_iadd hC dL_law_899 ?_
  obtain ⟨i_1, h⟩ := h
  refine r_sld hC hX hbl hbA i_1 dL_law_900 ?_
  refine r_callV (As := [vI (sxv xs (x3 + 1))]) (st := []) hC cw_law_91 rfl q1.1 q1.2 rfl rfl (Nat.le_of_ble_eq_true rfl) ⟨Nat.le_of_ble_eq_true rfl, Nat.le_of_ble_eq_true rfl⟩ (by constructor <;> simp only [rmX11_bars, room_1] <;> omega) dL_law_901 (fun hk => mX11_bars Y hF _ _ _ _ _ (kqO hk q1) h) (fun v M_2 h => ?_)
  obtain ⟨r_3, rfl, h⟩ := h
  refine r_aload_n hC 2 dL_law_904 rfl rfl ?_
  refine r_aloadX hC 0 dL_law_905 rfl rfl ?_
  refine r_iload_n hC 3 dL_law_906 rfl rfl ?_
  refine r_iconst hC dL_law_907 ?_
  refine r_iadd hC dL_law_908 ?_
  obtain ⟨i_4, h⟩ := h
  refine r_sld hC hX hbl hbA i_4 dL_law_909 ?_
  refine r_callV (As := [vI (sxv xs (x3 + 1))]) (st := [vI r_3]) hC cw_law_94 rfl q2.1 q2.2 rfl rfl (Nat.le_of_ble_eq_true rfl) ⟨Nat.le_of_ble_eq_true rfl, Nat.le_of_ble_eq_true rfl⟩ (by constructor <;> simp only [rmX11_bars, rmX12_bars, room_1] <;> omega) dL_law_910 (fun hk => mX12_bars Y hF _ _ _ _ _ (kqO hk q2) h) (fun v M_5 h => ?_)
  obtain ⟨r_6, rfl, h⟩ := h
  refine r_icmp_eq hC 1535 rfl rfl dL_law_913 (by decide) (fun cq => ?_) (fun cq => ?_)
  · replace h := h.1 cq
    exact r_widen (n' := n + 100) (k' := k + 10240) (by simp only [rmX11_bars, rmX12_bars]; omega) (by simp only [rmX11_bars, rmX12_bars]; omega) (kk _ h)
  · replace h := h.2 cq
    refine r_iconst hC dL_law_916 ?_
    exact h.elim
theorem dL_law_918 : dec code 918 1 919 (.aload_n 1) := ⟨by decide +kernel, rfl⟩
theorem dL_law_919 : dec code 919 1 920 (.aload_n 0) := ⟨by decide +kernel, rfl⟩
theorem dL_law_920 : dec code 920 1 921 (.iload_n 3) := ⟨by decide +kernel, rfl⟩
theorem dL_law_921 : dec code 921 1 922 (.iconst 1) := ⟨by decide +kernel, rfl⟩
theorem dL_law_922 : dec code 922 1 923 (.iadd) := ⟨by decide +kernel, rfl⟩
theorem dL_law_923 : dec code 923 1 924 (.iaload) := ⟨by decide +kernel, rfl⟩
theorem dL_law_924 : dec code 924 1 925 (.aload_n 0) := ⟨by decide +kernel, rfl⟩
theorem dL_law_925 : dec code 925 1 926 (.iload_n 3) := ⟨by decide +kernel, rfl⟩
theorem dL_law_926 : dec code 926 1 927 (.iconst 2) := ⟨by decide +kernel, rfl⟩
theorem dL_law_927 : dec code 927 1 928 (.iadd) := ⟨by decide +kernel, rfl⟩
theorem dL_law_928 : dec code 928 1 929 (.iaload) := ⟨by decide +kernel, rfl⟩
theorem dL_law_929 : dec code 929 3 932 (.invokevirtual 95) := ⟨by decide +kernel, rfl⟩
theorem dL_law_932 : dec code 932 1 933 (.aload_n 2) := ⟨by decide +kernel, rfl⟩
theorem dL_law_933 : dec code 933 1 934 (.aload_n 0) := ⟨by decide +kernel, rfl⟩
theorem dL_law_934 : dec code 934 1 935 (.iload_n 3) := ⟨by decide +kernel, rfl⟩
theorem dL_law_935 : dec code 935 1 936 (.iconst 1) := ⟨by decide +kernel, rfl⟩
theorem dL_law_936 : dec code 936 1 937 (.iadd) := ⟨by decide +kernel, rfl⟩
theorem dL_law_937 : dec code 937 1 938 (.iaload) := ⟨by decide +kernel, rfl⟩
theorem dL_law_938 : dec code 938 1 939 (.aload_n 0) := ⟨by decide +kernel, rfl⟩
theorem dL_law_939 : dec code 939 1 940 (.iload_n 3) := ⟨by decide +kernel, rfl⟩
theorem dL_law_940 : dec code 940 1 941 (.iconst 2) := ⟨by decide +kernel, rfl⟩
theorem dL_law_941 : dec code 941 1 942 (.iadd) := ⟨by decide +kernel, rfl⟩
theorem dL_law_942 : dec code 942 1 943 (.iaload) := ⟨by decide +kernel, rfl⟩
theorem dL_law_943 : dec code 943 3 946 (.invokevirtual 98) := ⟨by decide +kernel, rfl⟩
theorem dL_law_946 : dec code 946 3 949 (.if_icmp .eq 589) := ⟨by decide +kernel, rfl⟩
theorem dL_law_949 : dec code 949 1 950 (.iconst 0) := ⟨by decide +kernel, rfl⟩
theorem dL_law_950 : dec code 950 1 951 (.ireturn) := ⟨by decide +kernel, rfl⟩
set_option maxHeartbeats 4000000 in
set_option maxRecDepth 100000 in
theorem tL_c18 {X : Cx} {Y : Yx} {M0 : Mem} (hC : OKX X Y R_law code 4 (some .boolean) room_1) (hF : Y.2.2.2.2 = true) (hL : Lay M0) {b L : Nat} {xs : Nat → Int32} (hX : va_X b L xs X.2.2.2.2.1 X.2.2.2.2.1.heap) (hbl : b < X.2.2.2.2.1.heap.size) (hbA : ¬ frA Y b) {Qm : Option Value → Mem → Prop} {n k : Nat} {a1 a2 : Nat} (q1 : 0 < a1 ∧ M0 0 a1 = kO 11) (q2 : 0 < a2 ∧ M0 0 a2 = kO 12) (C : Mem → Prop) (x3 : Int) (hn : n + 100 ≤ 600000 ∧ k + 10240 ≤ 7302250) (kk : ∀ M : Mem, C M → WW X Y 4 room_1 Qm M0 (n + 100) (k + 10240) 1535 [(0, .ref b), (1, vR Y.1 a1), (2, vR Y.1 a2), (3, vI x3)] [] M) (M : Mem) (h : wL_c18 xs L a1 a2 C x3 M) : WW X Y 4 room_1 Qm M0 n k 918 [(0, .ref b), (1, vR Y.1 a1), (2, vR Y.1 a2), (3, vI x3)] [] M := by
  unfold wL_c18 at h
  refine r_aload_n hC 1 dL_law_918 rfl rfl ?_
  refine r_aloadX hC 0 dL_law_919 rfl rfl ?_
  refine r_iload_n hC 3 dL_law_920 rfl rfl ?_
  refine r_iconst hC dL_law_921 ?_
  refine r_iadd hC dL_law_922 ?_
  obtain ⟨i_1, h⟩ := h
  refine r_sld hC hX hbl hbA i_1 dL_law_923 ?_
  refine r_aloadX hC 0 dL_law_924 rfl rfl ?_
  refine r_iload_n hC 3 dL_law_925 rfl rfl ?_
  refine r_iconst hC dL_law_926 ?_
  refine r_iadd hC dL_law_927 ?_
  obtain ⟨i_2, h⟩ := h
  refine r_sld hC hX hbl hbA i_2 dL_law_928 ?_
  refine r_callV (As := [vI (sxv xs (x3 + 1)), vI (sxv xs (x3 + 2))]) (st := []) hC cw_law_95 rfl q1.1 q1.2 rfl rfl (Nat.le_of_ble_eq_true rfl) ⟨Nat.le_of_ble_eq_true rfl, Nat.le_of_ble_eq_true rfl⟩ (by constructor <;> simp only [rmX11_fewest, room_1] <;> omega) dL_law_929 (fun hk => mX11_fewest Y hF _ _ _ _ _ _ (kqO hk q1) h) (fun v M_3 h => ?_)
  obtain ⟨r_4, rfl, h⟩ := h
  refine r_aload_n hC 2 dL_law_932 rfl rfl ?_
  refine r_aloadX hC 0 dL_law_933 rfl rfl ?_
  refine r_iload_n hC 3 dL_law_934 rfl rfl ?_
  refine r_iconst hC dL_law_935 ?_
  refine r_iadd hC dL_law_936 ?_
  obtain ⟨i_5, h⟩ := h
  refine r_sld hC hX hbl hbA i_5 dL_law_937 ?_
  refine r_aloadX hC 0 dL_law_938 rfl rfl ?_
  refine r_iload_n hC 3 dL_law_939 rfl rfl ?_
  refine r_iconst hC dL_law_940 ?_
  refine r_iadd hC dL_law_941 ?_
  obtain ⟨i_6, h⟩ := h
  refine r_sld hC hX hbl hbA i_6 dL_law_942 ?_
  refine r_callV (As := [vI (sxv xs (x3 + 1)), vI (sxv xs (x3 + 2))]) (st := [vI r_4]) hC cw_law_98 rfl q2.1 q2.2 rfl rfl (Nat.le_of_ble_eq_true rfl) ⟨Nat.le_of_ble_eq_true rfl, Nat.le_of_ble_eq_true rfl⟩ (by constructor <;> simp only [rmX11_fewest, rmX12_fewest, room_1] <;> omega) dL_law_943 (fun hk => mX12_fewest Y hF _ _ _ _ _ _ (kqO hk q2) h) (fun v M_7 h => ?_)
  obtain ⟨r_8, rfl, h⟩ := h
  refine r_icmp_eq hC 1535 rfl rfl dL_law_946 (by decide) (fun cq => ?_) (fun cq => ?_)
  · replace h := h.1 cq
    exact r_widen (n' := n + 100) (k' := k + 10240) (by simp only [rmX11_fewest, rmX12_fewest]; omega) (by simp only [rmX11_fewest, rmX12_fewest]; omega) (kk _ h)
  · replace h := h.2 cq
    refine r_iconst hC dL_law_949 ?_
    exact h.elim
theorem dL_law_951 : dec code 951 1 952 (.aload_n 1) := ⟨by decide +kernel, rfl⟩
theorem dL_law_952 : dec code 952 1 953 (.aload_n 0) := ⟨by decide +kernel, rfl⟩
theorem dL_law_953 : dec code 953 1 954 (.iload_n 3) := ⟨by decide +kernel, rfl⟩
theorem dL_law_954 : dec code 954 1 955 (.iconst 1) := ⟨by decide +kernel, rfl⟩
theorem dL_law_955 : dec code 955 1 956 (.iadd) := ⟨by decide +kernel, rfl⟩
theorem dL_law_956 : dec code 956 1 957 (.iaload) := ⟨by decide +kernel, rfl⟩
theorem dL_law_957 : dec code 957 1 958 (.aload_n 0) := ⟨by decide +kernel, rfl⟩
theorem dL_law_958 : dec code 958 1 959 (.iload_n 3) := ⟨by decide +kernel, rfl⟩
theorem dL_law_959 : dec code 959 1 960 (.iconst 2) := ⟨by decide +kernel, rfl⟩
theorem dL_law_960 : dec code 960 1 961 (.iadd) := ⟨by decide +kernel, rfl⟩
theorem dL_law_961 : dec code 961 1 962 (.iaload) := ⟨by decide +kernel, rfl⟩
theorem dL_law_962 : dec code 962 3 965 (.invokevirtual 99) := ⟨by decide +kernel, rfl⟩
theorem dL_law_965 : dec code 965 1 966 (.aload_n 2) := ⟨by decide +kernel, rfl⟩
theorem dL_law_966 : dec code 966 1 967 (.aload_n 0) := ⟨by decide +kernel, rfl⟩
theorem dL_law_967 : dec code 967 1 968 (.iload_n 3) := ⟨by decide +kernel, rfl⟩
theorem dL_law_968 : dec code 968 1 969 (.iconst 1) := ⟨by decide +kernel, rfl⟩
theorem dL_law_969 : dec code 969 1 970 (.iadd) := ⟨by decide +kernel, rfl⟩
theorem dL_law_970 : dec code 970 1 971 (.iaload) := ⟨by decide +kernel, rfl⟩
theorem dL_law_971 : dec code 971 1 972 (.aload_n 0) := ⟨by decide +kernel, rfl⟩
theorem dL_law_972 : dec code 972 1 973 (.iload_n 3) := ⟨by decide +kernel, rfl⟩
theorem dL_law_973 : dec code 973 1 974 (.iconst 2) := ⟨by decide +kernel, rfl⟩
theorem dL_law_974 : dec code 974 1 975 (.iadd) := ⟨by decide +kernel, rfl⟩
theorem dL_law_975 : dec code 975 1 976 (.iaload) := ⟨by decide +kernel, rfl⟩
theorem dL_law_976 : dec code 976 3 979 (.invokevirtual 102) := ⟨by decide +kernel, rfl⟩
theorem dL_law_979 : dec code 979 3 982 (.if_icmp .eq 556) := ⟨by decide +kernel, rfl⟩
theorem dL_law_982 : dec code 982 1 983 (.iconst 0) := ⟨by decide +kernel, rfl⟩
theorem dL_law_983 : dec code 983 1 984 (.ireturn) := ⟨by decide +kernel, rfl⟩
set_option maxHeartbeats 4000000 in
set_option maxRecDepth 100000 in
theorem tL_c19 {X : Cx} {Y : Yx} {M0 : Mem} (hC : OKX X Y R_law code 4 (some .boolean) room_1) (hF : Y.2.2.2.2 = true) (hL : Lay M0) {b L : Nat} {xs : Nat → Int32} (hX : va_X b L xs X.2.2.2.2.1 X.2.2.2.2.1.heap) (hbl : b < X.2.2.2.2.1.heap.size) (hbA : ¬ frA Y b) {Qm : Option Value → Mem → Prop} {n k : Nat} {a1 a2 : Nat} (q1 : 0 < a1 ∧ M0 0 a1 = kO 11) (q2 : 0 < a2 ∧ M0 0 a2 = kO 12) (C : Mem → Prop) (x3 : Int) (hn : n + 100 ≤ 600000 ∧ k + 10240 ≤ 7302250) (kk : ∀ M : Mem, C M → WW X Y 4 room_1 Qm M0 (n + 100) (k + 10240) 1535 [(0, .ref b), (1, vR Y.1 a1), (2, vR Y.1 a2), (3, vI x3)] [] M) (M : Mem) (h : wL_c19 xs L a1 a2 C x3 M) : WW X Y 4 room_1 Qm M0 n k 951 [(0, .ref b), (1, vR Y.1 a1), (2, vR Y.1 a2), (3, vI x3)] [] M := by
  unfold wL_c19 at h
  refine r_aload_n hC 1 dL_law_951 rfl rfl ?_
  refine r_aloadX hC 0 dL_law_952 rfl rfl ?_
  refine r_iload_n hC 3 dL_law_953 rfl rfl ?_
  refine r_iconst hC dL_law_954 ?_
  refine r_iadd hC dL_law_955 ?_
  obtain ⟨i_1, h⟩ := h
  refine r_sld hC hX hbl hbA i_1 dL_law_956 ?_
  refine r_aloadX hC 0 dL_law_957 rfl rfl ?_
  refine r_iload_n hC 3 dL_law_958 rfl rfl ?_
  refine r_iconst hC dL_law_959 ?_
  refine r_iadd hC dL_law_960 ?_
  obtain ⟨i_2, h⟩ := h
  refine r_sld hC hX hbl hbA i_2 dL_law_961 ?_
  refine r_callV (As := [vI (sxv xs (x3 + 1)), vI (sxv xs (x3 + 2))]) (st := []) hC cw_law_99 rfl q1.1 q1.2 rfl rfl (Nat.le_of_ble_eq_true rfl) ⟨Nat.le_of_ble_eq_true rfl, Nat.le_of_ble_eq_true rfl⟩ (by constructor <;> simp only [rmX11_better, room_1] <;> omega) dL_law_962 (fun hk => mX11_better Y hF _ _ _ _ _ _ (kqO hk q1) h) (fun v M_3 h => ?_)
  obtain ⟨r_4, rfl, h⟩ := h
  refine r_aload_n hC 2 dL_law_965 rfl rfl ?_
  refine r_aloadX hC 0 dL_law_966 rfl rfl ?_
  refine r_iload_n hC 3 dL_law_967 rfl rfl ?_
  refine r_iconst hC dL_law_968 ?_
  refine r_iadd hC dL_law_969 ?_
  obtain ⟨i_5, h⟩ := h
  refine r_sld hC hX hbl hbA i_5 dL_law_970 ?_
  refine r_aloadX hC 0 dL_law_971 rfl rfl ?_
  refine r_iload_n hC 3 dL_law_972 rfl rfl ?_
  refine r_iconst hC dL_law_973 ?_
  refine r_iadd hC dL_law_974 ?_
  obtain ⟨i_6, h⟩ := h
  refine r_sld hC hX hbl hbA i_6 dL_law_975 ?_
  refine r_callV (As := [vI (sxv xs (x3 + 1)), vI (sxv xs (x3 + 2))]) (st := [vI r_4]) hC cw_law_102 rfl q2.1 q2.2 rfl rfl (Nat.le_of_ble_eq_true rfl) ⟨Nat.le_of_ble_eq_true rfl, Nat.le_of_ble_eq_true rfl⟩ (by constructor <;> simp only [rmX11_better, rmX12_better, room_1] <;> omega) dL_law_976 (fun hk => mX12_better Y hF _ _ _ _ _ _ (kqO hk q2) h) (fun v M_7 h => ?_)
  obtain ⟨r_8, rfl, h⟩ := h
  refine r_icmp_eq hC 1535 rfl rfl dL_law_979 (by decide) (fun cq => ?_) (fun cq => ?_)
  · replace h := h.1 cq
    exact r_widen (n' := n + 100) (k' := k + 10240) (by simp only [rmX11_better, rmX12_better]; omega) (by simp only [rmX11_better, rmX12_better]; omega) (kk _ h)
  · replace h := h.2 cq
    refine r_iconst hC dL_law_982 ?_
    exact h.elim
theorem dL_law_984 : dec code 984 1 985 (.aload_n 1) := ⟨by decide +kernel, rfl⟩
theorem dL_law_985 : dec code 985 1 986 (.aload_n 0) := ⟨by decide +kernel, rfl⟩
theorem dL_law_986 : dec code 986 1 987 (.iload_n 3) := ⟨by decide +kernel, rfl⟩
theorem dL_law_987 : dec code 987 1 988 (.iconst 1) := ⟨by decide +kernel, rfl⟩
theorem dL_law_988 : dec code 988 1 989 (.iadd) := ⟨by decide +kernel, rfl⟩
theorem dL_law_989 : dec code 989 1 990 (.iaload) := ⟨by decide +kernel, rfl⟩
theorem dL_law_990 : dec code 990 1 991 (.aload_n 0) := ⟨by decide +kernel, rfl⟩
theorem dL_law_991 : dec code 991 1 992 (.iload_n 3) := ⟨by decide +kernel, rfl⟩
theorem dL_law_992 : dec code 992 1 993 (.iconst 2) := ⟨by decide +kernel, rfl⟩
theorem dL_law_993 : dec code 993 1 994 (.iadd) := ⟨by decide +kernel, rfl⟩
theorem dL_law_994 : dec code 994 1 995 (.iaload) := ⟨by decide +kernel, rfl⟩
theorem dL_law_995 : dec code 995 1 996 (.aload_n 0) := ⟨by decide +kernel, rfl⟩
theorem dL_law_996 : dec code 996 1 997 (.iload_n 3) := ⟨by decide +kernel, rfl⟩
theorem dL_law_997 : dec code 997 1 998 (.iconst 3) := ⟨by decide +kernel, rfl⟩
theorem dL_law_998 : dec code 998 1 999 (.iadd) := ⟨by decide +kernel, rfl⟩
theorem dL_law_999 : dec code 999 1 1000 (.iaload) := ⟨by decide +kernel, rfl⟩
theorem dL_law_1000 : dec code 1000 3 1003 (.invokevirtual 103) := ⟨by decide +kernel, rfl⟩
theorem dL_law_1003 : dec code 1003 1 1004 (.aload_n 2) := ⟨by decide +kernel, rfl⟩
theorem dL_law_1004 : dec code 1004 1 1005 (.aload_n 0) := ⟨by decide +kernel, rfl⟩
theorem dL_law_1005 : dec code 1005 1 1006 (.iload_n 3) := ⟨by decide +kernel, rfl⟩
theorem dL_law_1006 : dec code 1006 1 1007 (.iconst 1) := ⟨by decide +kernel, rfl⟩
theorem dL_law_1007 : dec code 1007 1 1008 (.iadd) := ⟨by decide +kernel, rfl⟩
theorem dL_law_1008 : dec code 1008 1 1009 (.iaload) := ⟨by decide +kernel, rfl⟩
theorem dL_law_1009 : dec code 1009 1 1010 (.aload_n 0) := ⟨by decide +kernel, rfl⟩
theorem dL_law_1010 : dec code 1010 1 1011 (.iload_n 3) := ⟨by decide +kernel, rfl⟩
theorem dL_law_1011 : dec code 1011 1 1012 (.iconst 2) := ⟨by decide +kernel, rfl⟩
theorem dL_law_1012 : dec code 1012 1 1013 (.iadd) := ⟨by decide +kernel, rfl⟩
theorem dL_law_1013 : dec code 1013 1 1014 (.iaload) := ⟨by decide +kernel, rfl⟩
theorem dL_law_1014 : dec code 1014 1 1015 (.aload_n 0) := ⟨by decide +kernel, rfl⟩
theorem dL_law_1015 : dec code 1015 1 1016 (.iload_n 3) := ⟨by decide +kernel, rfl⟩
theorem dL_law_1016 : dec code 1016 1 1017 (.iconst 3) := ⟨by decide +kernel, rfl⟩
theorem dL_law_1017 : dec code 1017 1 1018 (.iadd) := ⟨by decide +kernel, rfl⟩
theorem dL_law_1018 : dec code 1018 1 1019 (.iaload) := ⟨by decide +kernel, rfl⟩
theorem dL_law_1019 : dec code 1019 3 1022 (.invokevirtual 106) := ⟨by decide +kernel, rfl⟩
theorem dL_law_1022 : dec code 1022 3 1025 (.if_icmp .eq 513) := ⟨by decide +kernel, rfl⟩
theorem dL_law_1025 : dec code 1025 1 1026 (.iconst 0) := ⟨by decide +kernel, rfl⟩
theorem dL_law_1026 : dec code 1026 1 1027 (.ireturn) := ⟨by decide +kernel, rfl⟩
set_option maxHeartbeats 4000000 in
set_option maxRecDepth 100000 in
theorem tL_c20 {X : Cx} {Y : Yx} {M0 : Mem} (hC : OKX X Y R_law code 4 (some .boolean) room_1) (hF : Y.2.2.2.2 = true) (hL : Lay M0) {b L : Nat} {xs : Nat → Int32} (hX : va_X b L xs X.2.2.2.2.1 X.2.2.2.2.1.heap) (hbl : b < X.2.2.2.2.1.heap.size) (hbA : ¬ frA Y b) {Qm : Option Value → Mem → Prop} {n k : Nat} {a1 a2 : Nat} (q1 : 0 < a1 ∧ M0 0 a1 = kO 11) (q2 : 0 < a2 ∧ M0 0 a2 = kO 12) (C : Mem → Prop) (x3 : Int) (hn : n + 100 ≤ 600000 ∧ k + 10240 ≤ 7302250) (kk : ∀ M : Mem, C M → WW X Y 4 room_1 Qm M0 (n + 100) (k + 10240) 1535 [(0, .ref b), (1, vR Y.1 a1), (2, vR Y.1 a2), (3, vI x3)] [] M) (M : Mem) (h : wL_c20 xs L a1 a2 C x3 M) : WW X Y 4 room_1 Qm M0 n k 984 [(0, .ref b), (1, vR Y.1 a1), (2, vR Y.1 a2), (3, vI x3)] [] M := by
  unfold wL_c20 at h
  refine r_aload_n hC 1 dL_law_984 rfl rfl ?_
  refine r_aloadX hC 0 dL_law_985 rfl rfl ?_
  refine r_iload_n hC 3 dL_law_986 rfl rfl ?_
  refine r_iconst hC dL_law_987 ?_
  refine r_iadd hC dL_law_988 ?_
  obtain ⟨i_1, h⟩ := h
  refine r_sld hC hX hbl hbA i_1 dL_law_989 ?_
  refine r_aloadX hC 0 dL_law_990 rfl rfl ?_
  refine r_iload_n hC 3 dL_law_991 rfl rfl ?_
  refine r_iconst hC dL_law_992 ?_
  refine r_iadd hC dL_law_993 ?_
  obtain ⟨i_2, h⟩ := h
  refine r_sld hC hX hbl hbA i_2 dL_law_994 ?_
  refine r_aloadX hC 0 dL_law_995 rfl rfl ?_
  refine r_iload_n hC 3 dL_law_996 rfl rfl ?_
  refine r_iconst hC dL_law_997 ?_
  refine r_iadd hC dL_law_998 ?_
  obtain ⟨i_3, h⟩ := h
  refine r_sld hC hX hbl hbA i_3 dL_law_999 ?_
  refine r_callV (As := [vI (sxv xs (x3 + 1)), vI (sxv xs (x3 + 2)), vI (sxv xs (x3 + 3))]) (st := []) hC cw_law_103 rfl q1.1 q1.2 rfl rfl (Nat.le_of_ble_eq_true rfl) ⟨Nat.le_of_ble_eq_true rfl, Nat.le_of_ble_eq_true rfl⟩ (by constructor <;> simp only [rmX11_slides, room_1] <;> omega) dL_law_1000 (fun hk => mX11_slides Y hF _ _ _ _ _ _ _ (kqO hk q1) h) (fun v M_4 h => ?_)
  obtain ⟨r_5, rfl, h⟩ := h
  refine r_aload_n hC 2 dL_law_1003 rfl rfl ?_
  refine r_aloadX hC 0 dL_law_1004 rfl rfl ?_
  refine r_iload_n hC 3 dL_law_1005 rfl rfl ?_
  refine r_iconst hC dL_law_1006 ?_
  refine r_iadd hC dL_law_1007 ?_
  obtain ⟨i_6, h⟩ := h
  refine r_sld hC hX hbl hbA i_6 dL_law_1008 ?_
  refine r_aloadX hC 0 dL_law_1009 rfl rfl ?_
  refine r_iload_n hC 3 dL_law_1010 rfl rfl ?_
  refine r_iconst hC dL_law_1011 ?_
  refine r_iadd hC dL_law_1012 ?_
  obtain ⟨i_7, h⟩ := h
  refine r_sld hC hX hbl hbA i_7 dL_law_1013 ?_
  refine r_aloadX hC 0 dL_law_1014 rfl rfl ?_
  refine r_iload_n hC 3 dL_law_1015 rfl rfl ?_
  refine r_iconst hC dL_law_1016 ?_
  refine r_iadd hC dL_law_1017 ?_
  obtain ⟨i_8, h⟩ := h
  refine r_sld hC hX hbl hbA i_8 dL_law_1018 ?_
  refine r_callV (As := [vI (sxv xs (x3 + 1)), vI (sxv xs (x3 + 2)), vI (sxv xs (x3 + 3))]) (st := [vI r_5]) hC cw_law_106 rfl q2.1 q2.2 rfl rfl (Nat.le_of_ble_eq_true rfl) ⟨Nat.le_of_ble_eq_true rfl, Nat.le_of_ble_eq_true rfl⟩ (by constructor <;> simp only [rmX11_slides, rmX12_slides, room_1] <;> omega) dL_law_1019 (fun hk => mX12_slides Y hF _ _ _ _ _ _ _ (kqO hk q2) h) (fun v M_9 h => ?_)
  obtain ⟨r_10, rfl, h⟩ := h
  refine r_icmp_eq hC 1535 rfl rfl dL_law_1022 (by decide) (fun cq => ?_) (fun cq => ?_)
  · replace h := h.1 cq
    exact r_widen (n' := n + 100) (k' := k + 10240) (by simp only [rmX11_slides, rmX12_slides]; omega) (by simp only [rmX11_slides, rmX12_slides]; omega) (kk _ h)
  · replace h := h.2 cq
    refine r_iconst hC dL_law_1025 ?_
    exact h.elim
