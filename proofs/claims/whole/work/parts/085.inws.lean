theorem inT0 : ∀ w ∈ u_ws RX0 TX0 14, w ∈ lw_tbl := by decide +kernel
theorem inW0 : (u_ws RX0 TX0 14).all goodWord = true := by decide +kernel
theorem inG0 : ∀ w ∈ u_ws RX0 TX0 14, w ∈ gtbl := fun w h => gt_in (inT0 w h) (List.all_eq_true.mp inW0 w h)
theorem inT1 : ∀ w ∈ u_ws RX1 TX1 7, w ∈ lw_tbl := by decide +kernel
theorem inW1 : (u_ws RX1 TX1 7).all goodWord = true := by decide +kernel
theorem inG1 : ∀ w ∈ u_ws RX1 TX1 7, w ∈ gtbl := fun w h => gt_in (inT1 w h) (List.all_eq_true.mp inW1 w h)
theorem inT2 : ∀ w ∈ u_ws RX2 TX2 4, w ∈ lw_tbl := by decide +kernel
theorem inW2 : (u_ws RX2 TX2 4).all goodWord = true := by decide +kernel
theorem inG2 : ∀ w ∈ u_ws RX2 TX2 4, w ∈ gtbl := fun w h => gt_in (inT2 w h) (List.all_eq_true.mp inW2 w h)
theorem inT3 : ∀ w ∈ u_ws RX3 TX3 6, w ∈ lw_tbl := by decide +kernel
theorem inW3 : (u_ws RX3 TX3 6).all goodWord = true := by decide +kernel
theorem inG3 : ∀ w ∈ u_ws RX3 TX3 6, w ∈ gtbl := fun w h => gt_in (inT3 w h) (List.all_eq_true.mp inW3 w h)
theorem inT4 : ∀ w ∈ u_ws RX4 TX4 8, w ∈ lw_tbl := by decide +kernel
theorem inW4 : (u_ws RX4 TX4 8).all goodWord = true := by decide +kernel
theorem inG4 : ∀ w ∈ u_ws RX4 TX4 8, w ∈ gtbl := fun w h => gt_in (inT4 w h) (List.all_eq_true.mp inW4 w h)
theorem inT5 : ∀ w ∈ u_ws RX5 TX5 3, w ∈ lw_tbl := by decide +kernel
theorem inW5 : (u_ws RX5 TX5 3).all goodWord = true := by decide +kernel
theorem inG5 : ∀ w ∈ u_ws RX5 TX5 3, w ∈ gtbl := fun w h => gt_in (inT5 w h) (List.all_eq_true.mp inW5 w h)
theorem inT6 : ∀ w ∈ u_ws RX6 TX6 14, w ∈ lw_tbl := by decide +kernel
theorem inW6 : (u_ws RX6 TX6 14).all goodWord = true := by decide +kernel
theorem inG6 : ∀ w ∈ u_ws RX6 TX6 14, w ∈ gtbl := fun w h => gt_in (inT6 w h) (List.all_eq_true.mp inW6 w h)
theorem inT7 : ∀ w ∈ u_ws RX7 TX7 8, w ∈ lw_tbl := by decide +kernel
theorem inW7 : (u_ws RX7 TX7 8).all goodWord = true := by decide +kernel
theorem inG7 : ∀ w ∈ u_ws RX7 TX7 8, w ∈ gtbl := fun w h => gt_in (inT7 w h) (List.all_eq_true.mp inW7 w h)
theorem inT8 : ∀ w ∈ u_ws RX8 TX8 3, w ∈ lw_tbl := by decide +kernel
theorem inW8 : (u_ws RX8 TX8 3).all goodWord = true := by decide +kernel
theorem inG8 : ∀ w ∈ u_ws RX8 TX8 3, w ∈ gtbl := fun w h => gt_in (inT8 w h) (List.all_eq_true.mp inW8 w h)
theorem inT9 : ∀ w ∈ u_ws RX9 TX9 7, w ∈ lw_tbl := by decide +kernel
theorem inW9 : (u_ws RX9 TX9 7).all goodWord = true := by decide +kernel
theorem inG9 : ∀ w ∈ u_ws RX9 TX9 7, w ∈ gtbl := fun w h => gt_in (inT9 w h) (List.all_eq_true.mp inW9 w h)
theorem inT10 : ∀ w ∈ u_ws RX10 TX10 15, w ∈ lw_tbl := by decide +kernel
theorem inW10 : (u_ws RX10 TX10 15).all goodWord = true := by decide +kernel
theorem inG10 : ∀ w ∈ u_ws RX10 TX10 15, w ∈ gtbl := fun w h => gt_in (inT10 w h) (List.all_eq_true.mp inW10 w h)
theorem inT11 : ∀ w ∈ u_ws RX11 TX11 13, w ∈ lw_tbl := by decide +kernel
theorem inW11 : (u_ws RX11 TX11 13).all goodWord = true := by decide +kernel
theorem inG11 : ∀ w ∈ u_ws RX11 TX11 13, w ∈ gtbl := fun w h => gt_in (inT11 w h) (List.all_eq_true.mp inW11 w h)
theorem inT12 : ∀ w ∈ u_ws RX12 TX12 40, w ∈ lw_tbl := by decide +kernel
theorem inW12 : (u_ws RX12 TX12 40).all goodWord = true := by decide +kernel
theorem inG12 : ∀ w ∈ u_ws RX12 TX12 40, w ∈ gtbl := fun w h => gt_in (inT12 w h) (List.all_eq_true.mp inW12 w h)
