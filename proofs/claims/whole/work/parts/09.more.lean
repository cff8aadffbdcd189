/-! ROWS IN THE FORMS THAT THE WALKS USE; the fields' words -/
theorem lay_f0 {M0 : Mem} (hL : Lay M0) {a ci j add : Nat} {kd : Int} (q : 0 < a ∧ M0 0 a = kO ci) (hm : (j, add, 0, kd) ∈ fin ci) : 0 < a + add ∧ M0 0 (a + add) = kd := lay_f hL q hm
theorem lay_fs {M0 : Mem} (hL : Lay M0) {a ci j sub : Nat} {kd : Int} (q : 0 < a ∧ M0 0 a = kO ci) (hm : (j, 0, sub, kd) ∈ fin ci) : 0 < a - sub ∧ M0 0 (a - sub) = kd := lay_f hL q hm
theorem lay_a4 {M0 : Mem} (hL : Lay M0) {a i : Nat} (q : 0 < a ∧ M0 0 a = kA 4 12) (hi : i < 12) : 0 < a + 8 + i ∧ M0 0 (a + 8 + i) = kO 3 := by have := lay_a hL q (by decide) (by decide) hi; simpa [abase, astr, akd] using this
theorem lay_a5 {M0 : Mem} (hL : Lay M0) {a i : Nat} (q : 0 < a ∧ M0 0 a = kA 5 10) (hi : i < 10) : 0 < a + 18 + 2 * i ∧ M0 0 (a + 18 + 2 * i) = kO 1 := lay_a hL q (by decide) (by decide) hi
theorem lay_a6 {M0 : Mem} (hL : Lay M0) {a i : Nat} (q : 0 < a ∧ M0 0 a = kA 6 10) (hi : i < 10) : 0 < a + 37 + i ∧ M0 0 (a + 37 + i) = kO 2 := by have := lay_a hL q (by decide) (by decide) hi; simpa [abase, astr, akd] using this
theorem lay_a7 {M0 : Mem} (hL : Lay M0) {a i : Nat} (q : 0 < a ∧ M0 0 a = kA 7 8) (hi : i < 8) : 0 < a + 45 + 4 * i ∧ M0 0 (a + 45 + 4 * i) = kO 5 := lay_a hL q (by decide) (by decide) hi
theorem lay_a8 {M0 : Mem} (hL : Lay M0) {a i : Nat} (q : 0 < a ∧ M0 0 a = kA 8 8) (hi : i < 8) : 0 < a + 46 + 4 * i ∧ M0 0 (a + 46 + 4 * i) = kO 5 := lay_a hL q (by decide) (by decide) hi
theorem lay_a9 {M0 : Mem} (hL : Lay M0) {a i : Nat} (q : 0 < a ∧ M0 0 a = kA 9 4) (hi : i < 4) : 0 < a + 32 + 2 * i ∧ M0 0 (a + 32 + 2 * i) = kO 8 := lay_a hL q (by decide) (by decide) hi
section MoreRows
variable {X : Cx} {Y : Yx} {own : String} {cc : ByteArray} {nL : Nat} {rt : Option FieldType} {rm : Room} {Qm : Option Value → Mem → Prop} {M0 M : Mem} {n k pc pc' : Nat} {lv : List (Nat × Value)} {st : List Value}
theorem r_getR0 (hC : OKX X Y own cc nL rt rm) {idx ci j a add a' : Nat} {kd : Int} (hf : FG own idx ci j) (ht : ftc ci j = 2) (hm : (j, add, 0, kd) ∈ fin ci) (ha : 0 < a) (g : M0 0 a = kO ci) (he : a + add = a') (hd : dec cc pc 3 pc' (.getfield idx))
    (kk : WW X Y nL rm Qm M0 n k pc' lv (vR Y.1 a' :: st) M) : WW X Y nL rm Qm M0 n k pc lv (vR Y.1 a :: st) M := r_getR hC hf ht hm ha g he hd kk
theorem r_getRs (hC : OKX X Y own cc nL rt rm) {idx ci j a sub a' : Nat} {kd : Int} (hf : FG own idx ci j) (ht : ftc ci j = 2) (hm : (j, 0, sub, kd) ∈ fin ci) (ha : 0 < a) (g : M0 0 a = kO ci) (he : a - sub = a') (hd : dec cc pc 3 pc' (.getfield idx))
    (kk : WW X Y nL rm Qm M0 n k pc' lv (vR Y.1 a' :: st) M) : WW X Y nL rm Qm M0 n k pc lv (vR Y.1 a :: st) M := r_getR hC hf ht hm ha g he hd kk
theorem r_aald4 (hC : OKX X Y own cc nL rt rm) {a : Nat} {i : Int} (hi : inb i 12) (ha : 0 < a) (g : M0 0 a = kA 4 12) (hd : dec cc pc 1 pc' .aaload)
    (kk : WW X Y nL rm Qm M0 n k pc' lv (vR Y.1 (a + 8 + (bm i).toNat) :: st) M) : WW X Y nL rm Qm M0 n k pc lv (vI i :: vR Y.1 a :: st) M := r_aald (t := 4) hC (by decide) (by decide) rfl hi ha g (by decide) (by simp [abase, astr]) hd kk
theorem r_aald5 (hC : OKX X Y own cc nL rt rm) {a : Nat} {i : Int} (hi : inb i 10) (ha : 0 < a) (g : M0 0 a = kA 5 10) (hd : dec cc pc 1 pc' .aaload)
    (kk : WW X Y nL rm Qm M0 n k pc' lv (vR Y.1 (a + 18 + 2 * (bm i).toNat) :: st) M) : WW X Y nL rm Qm M0 n k pc lv (vI i :: vR Y.1 a :: st) M := r_aald (t := 5) hC (by decide) (by decide) rfl hi ha g (by decide) (by simp [abase, astr]) hd kk
theorem r_aald6 (hC : OKX X Y own cc nL rt rm) {a : Nat} {i : Int} (hi : inb i 10) (ha : 0 < a) (g : M0 0 a = kA 6 10) (hd : dec cc pc 1 pc' .aaload)
    (kk : WW X Y nL rm Qm M0 n k pc' lv (vR Y.1 (a + 37 + (bm i).toNat) :: st) M) : WW X Y nL rm Qm M0 n k pc lv (vI i :: vR Y.1 a :: st) M := r_aald (t := 6) hC (by decide) (by decide) rfl hi ha g (by decide) (by simp [abase, astr]) hd kk
theorem r_aald7 (hC : OKX X Y own cc nL rt rm) {a : Nat} {i : Int} (hi : inb i 8) (ha : 0 < a) (g : M0 0 a = kA 7 8) (hd : dec cc pc 1 pc' .aaload)
    (kk : WW X Y nL rm Qm M0 n k pc' lv (vR Y.1 (a + 45 + 4 * (bm i).toNat) :: st) M) : WW X Y nL rm Qm M0 n k pc lv (vI i :: vR Y.1 a :: st) M := r_aald (t := 7) hC (by decide) (by decide) rfl hi ha g (by decide) (by simp [abase, astr]) hd kk
theorem r_aald8 (hC : OKX X Y own cc nL rt rm) {a : Nat} {i : Int} (hi : inb i 8) (ha : 0 < a) (g : M0 0 a = kA 8 8) (hd : dec cc pc 1 pc' .aaload)
    (kk : WW X Y nL rm Qm M0 n k pc' lv (vR Y.1 (a + 46 + 4 * (bm i).toNat) :: st) M) : WW X Y nL rm Qm M0 n k pc lv (vI i :: vR Y.1 a :: st) M := r_aald (t := 8) hC (by decide) (by decide) rfl hi ha g (by decide) (by simp [abase, astr]) hd kk
theorem r_aald9 (hC : OKX X Y own cc nL rt rm) {a : Nat} {i : Int} (hi : inb i 4) (ha : 0 < a) (g : M0 0 a = kA 9 4) (hd : dec cc pc 1 pc' .aaload)
    (kk : WW X Y nL rm Qm M0 n k pc' lv (vR Y.1 (a + 32 + 2 * (bm i).toNat) :: st) M) : WW X Y nL rm Qm M0 n k pc lv (vI i :: vR Y.1 a :: st) M := r_aald (t := 9) hC (by decide) (by decide) rfl hi ha g (by decide) (by simp [abase, astr]) hd kk
end MoreRows
theorem inT0 : ∀ w ∈ u_ws RX0 TX0 14, w ∈ lw_tbl := by decide +kernel
theorem inW0 : (u_ws RX0 TX0 14).all goodWord = true := by decide +kernel
theorem inG0 : ∀ w ∈ u_ws RX0 TX0 14, w ∈ gtbl := fun w h => gt_in (inT0 w h) (List.all_eq_true.mp inW0 w h)
theorem inT1 : ∀ w ∈ u_ws RX1 TX1 7, w ∈ lw_tbl := by decide +kernel
theorem inW1 : (u_ws RX1 TX1 7).all goodWord = true := by decide +kernel
theorem inG1 : ∀ w ∈ u_ws RX1 TX1 7, w ∈ gtbl := fun w h => gt_in (inT1 w h) (List.all_eq_true.mp inW1 w h)
theorem inT2 : ∀ w ∈ u_ws RX2 TX2 4, w ∈ lw_tbl := by decide +kernel
theorem inW2 : (u_ws RX2 TX2 4).all goodWord = true := by decide +kernel
theorem inG2 : ∀ w ∈ u_ws RX2 TX2 4, w ∈ gtbl := fun w h => gt_in (inT2 w h) (List.all_eq_true.mp inW2 w h)
theorem inT3 : ∀ w ∈ u_ws RX3 TX3 6, w ∈ lw_tbl := by decide +kernel
theorem inW3 : (u_ws RX3 TX3 6).all goodWord = true := by decide +kernel
theorem inG3 : ∀ w ∈ u_ws RX3 TX3 6, w ∈ gtbl := fun w h => gt_in (inT3 w h) (List.all_eq_true.mp inW3 w h)
theorem inT4 : ∀ w ∈ u_ws RX4 TX4 8, w ∈ lw_tbl := by decide +kernel
theorem inW4 : (u_ws RX4 TX4 8).all goodWord = true := by decide +kernel
theorem inG4 : ∀ w ∈ u_ws RX4 TX4 8, w ∈ gtbl := fun w h => gt_in (inT4 w h) (List.all_eq_true.mp inW4 w h)
theorem inT5 : ∀ w ∈ u_ws RX5 TX5 3, w ∈ lw_tbl := by decide +kernel
theorem inW5 : (u_ws RX5 TX5 3).all goodWord = true := by decide +kernel
theorem inG5 : ∀ w ∈ u_ws RX5 TX5 3, w ∈ gtbl := fun w h => gt_in (inT5 w h) (List.all_eq_true.mp inW5 w h)
theorem inT6 : ∀ w ∈ u_ws RX6 TX6 14, w ∈ lw_tbl := by decide +kernel
theorem inW6 : (u_ws RX6 TX6 14).all goodWord = true := by decide +kernel
theorem inG6 : ∀ w ∈ u_ws RX6 TX6 14, w ∈ gtbl := fun w h => gt_in (inT6 w h) (List.all_eq_true.mp inW6 w h)
theorem inT7 : ∀ w ∈ u_ws RX7 TX7 8, w ∈ lw_tbl := by decide +kernel
theorem inW7 : (u_ws RX7 TX7 8).all goodWord = true := by decide +kernel
theorem inG7 : ∀ w ∈ u_ws RX7 TX7 8, w ∈ gtbl := fun w h => gt_in (inT7 w h) (List.all_eq_true.mp inW7 w h)
theorem inT8 : ∀ w ∈ u_ws RX8 TX8 3, w ∈ lw_tbl := by decide +kernel
theorem inW8 : (u_ws RX8 TX8 3).all goodWord = true := by decide +kernel
theorem inG8 : ∀ w ∈ u_ws RX8 TX8 3, w ∈ gtbl := fun w h => gt_in (inT8 w h) (List.all_eq_true.mp inW8 w h)
theorem inT9 : ∀ w ∈ u_ws RX9 TX9 7, w ∈ lw_tbl := by decide +kernel
theorem inW9 : (u_ws RX9 TX9 7).all goodWord = true := by decide +kernel
theorem inG9 : ∀ w ∈ u_ws RX9 TX9 7, w ∈ gtbl := fun w h => gt_in (inT9 w h) (List.all_eq_true.mp inW9 w h)
theorem inT10 : ∀ w ∈ u_ws RX10 TX10 15, w ∈ lw_tbl := by decide +kernel
theorem inW10 : (u_ws RX10 TX10 15).all goodWord = true := by decide +kernel
theorem inG10 : ∀ w ∈ u_ws RX10 TX10 15, w ∈ gtbl := fun w h => gt_in (inT10 w h) (List.all_eq_true.mp inW10 w h)
theorem inT11 : ∀ w ∈ u_ws RX11 TX11 13, w ∈ lw_tbl := by decide +kernel
theorem inW11 : (u_ws RX11 TX11 13).all goodWord = true := by decide +kernel
theorem inG11 : ∀ w ∈ u_ws RX11 TX11 13, w ∈ gtbl := fun w h => gt_in (inT11 w h) (List.all_eq_true.mp inW11 w h)
theorem inT12 : ∀ w ∈ u_ws RX12 TX12 40, w ∈ lw_tbl := by decide +kernel
theorem inW12 : (u_ws RX12 TX12 40).all goodWord = true := by decide +kernel
theorem inG12 : ∀ w ∈ u_ws RX12 TX12 40, w ∈ gtbl := fun w h => gt_in (inT12 w h) (List.all_eq_true.mp inW12 w h)
