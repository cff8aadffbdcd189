section Rows
variable {X : Cx} {Y : Yx} {own : String} {cc : ByteArray} {nL : Nat} {rt : Option FieldType} {rm : Room} {Qm : Option Value → Mem → Prop} {M0 M : Mem} {n k pc pc' : Nat} {lv : List (Nat × Value)} {st : List Value}
theorem r_iadd (hC : OKX X Y own cc nL rt rm) {a b : Int} (hd : dec cc pc 1 pc' .iadd) (kk : WW X Y nL rm Qm M0 n k pc' lv (vI (a + b) :: st) M) : WW X Y nL rm Qm M0 n k pc lv (vI b :: vI a :: st) M := by
  obtain ⟨p, l, e, R, s, m, args, below, meth, c⟩ := X
  obtain ⟨hx, hb, hml, hown, hts, hsp, hr, hlo, hrm⟩ := hC
  obtain ⟨hd, rfl⟩ := hd
  intro ls H locs hl hk hR hS
  have kk := kk ls H locs hl hk hR hS
  rw [show vI (a + b) = _ from congrArg Value.int (Int32.ofInt_add ..)] at kk
  exact lv_iadd hx hb hd kk
theorem r_isub (hC : OKX X Y own cc nL rt rm) {a b : Int} (hd : dec cc pc 1 pc' .isub) (kk : WW X Y nL rm Qm M0 n k pc' lv (vI (a - b) :: st) M) : WW X Y nL rm Qm M0 n k pc lv (vI b :: vI a :: st) M := by
  obtain ⟨p, l, e, R, s, m, args, below, meth, c⟩ := X
  obtain ⟨hx, hb, hml, hown, hts, hsp, hr, hlo, hrm⟩ := hC
  obtain ⟨hd, rfl⟩ := hd
  intro ls H locs hl hk hR hS
  have kk := kk ls H locs hl hk hR hS
  rw [show vI (a - b) = _ from congrArg Value.int (Int32.ofInt_sub ..)] at kk
  exact lv_isub hx hb hd kk
theorem r_imul (hC : OKX X Y own cc nL rt rm) {a b : Int} (hd : dec cc pc 1 pc' .imul) (kk : WW X Y nL rm Qm M0 n k pc' lv (vI (a * b) :: st) M) : WW X Y nL rm Qm M0 n k pc lv (vI b :: vI a :: st) M := by
  obtain ⟨p, l, e, R, s, m, args, below, meth, c⟩ := X
  obtain ⟨hx, hb, hml, hown, hts, hsp, hr, hlo, hrm⟩ := hC
  obtain ⟨hd, rfl⟩ := hd
  intro ls H locs hl hk hR hS
  have kk := kk ls H locs hl hk hR hS
  rw [show vI (a * b) = _ from congrArg Value.int (Int32.ofInt_mul ..)] at kk
  exact lv_imul hx hb hd kk
theorem r_ladd (hC : OKX X Y own cc nL rt rm) {a b : Int} (hd : dec cc pc 1 pc' .ladd) (kk : WW X Y nL rm Qm M0 n k pc' lv (vL (a + b) :: st) M) : WW X Y nL rm Qm M0 n k pc lv (vL b :: vL a :: st) M := by
  obtain ⟨p, l, e, R, s, m, args, below, meth, c⟩ := X
  obtain ⟨hx, hb, hml, hown, hts, hsp, hr, hlo, hrm⟩ := hC
  obtain ⟨hd, rfl⟩ := hd
  intro ls H locs hl hk hR hS
  have kk := kk ls H locs hl hk hR hS
  rw [show vL (a + b) = _ from congrArg Value.long (Int64.ofInt_add ..)] at kk
  exact lv_ladd hx hb hd kk
theorem r_lsub (hC : OKX X Y own cc nL rt rm) {a b : Int} (hd : dec cc pc 1 pc' .lsub) (kk : WW X Y nL rm Qm M0 n k pc' lv (vL (a - b) :: st) M) : WW X Y nL rm Qm M0 n k pc lv (vL b :: vL a :: st) M := by
  obtain ⟨p, l, e, R, s, m, args, below, meth, c⟩ := X
  obtain ⟨hx, hb, hml, hown, hts, hsp, hr, hlo, hrm⟩ := hC
  obtain ⟨hd, rfl⟩ := hd
  intro ls H locs hl hk hR hS
  have kk := kk ls H locs hl hk hR hS
  rw [show vL (a - b) = _ from congrArg Value.long (Int64.ofInt_sub ..)] at kk
  exact lv_lsub hx hb hd kk
theorem r_lmul (hC : OKX X Y own cc nL rt rm) {a b : Int} (hd : dec cc pc 1 pc' .lmul) (kk : WW X Y nL rm Qm M0 n k pc' lv (vL (a * b) :: st) M) : WW X Y nL rm Qm M0 n k pc lv (vL b :: vL a :: st) M := by
  obtain ⟨p, l, e, R, s, m, args, below, meth, c⟩ := X
  obtain ⟨hx, hb, hml, hown, hts, hsp, hr, hlo, hrm⟩ := hC
  obtain ⟨hd, rfl⟩ := hd
  intro ls H locs hl hk hR hS
  have kk := kk ls H locs hl hk hR hS
  rw [show vL (a * b) = _ from congrArg Value.long (Int64.ofInt_mul ..)] at kk
  exact lv_lmul hx hb hd kk
theorem r_ineg (hC : OKX X Y own cc nL rt rm) {a : Int} (hd : dec cc pc 1 pc' .ineg) (kk : WW X Y nL rm Qm M0 n k pc' lv (vI (-a) :: st) M) : WW X Y nL rm Qm M0 n k pc lv (vI a :: st) M := by
  obtain ⟨p, l, e, R, s, m, args, below, meth, c⟩ := X
  obtain ⟨hx, hb, hml, hown, hts, hsp, hr, hlo, hrm⟩ := hC
  obtain ⟨hd, rfl⟩ := hd
  intro ls H locs hl hk hR hS
  have kk := kk ls H locs hl hk hR hS
  rw [show vI (-a) = _ from congrArg Value.int (Int32.ofInt_neg ..)] at kk
  exact lv_ineg hx hb hd kk
theorem r_lneg (hC : OKX X Y own cc nL rt rm) {a : Int} (hd : dec cc pc 1 pc' .lneg) (kk : WW X Y nL rm Qm M0 n k pc' lv (vL (-a) :: st) M) : WW X Y nL rm Qm M0 n k pc lv (vL a :: st) M := by
  obtain ⟨p, l, e, R, s, m, args, below, meth, c⟩ := X
  obtain ⟨hx, hb, hml, hown, hts, hsp, hr, hlo, hrm⟩ := hC
  obtain ⟨hd, rfl⟩ := hd
  intro ls H locs hl hk hR hS
  have kk := kk ls H locs hl hk hR hS
  rw [show vL (-a) = _ from congrArg Value.long (Int64.ofInt_neg ..)] at kk
  exact lv_lneg hx hb hd kk
theorem r_iand (hC : OKX X Y own cc nL rt rm) {a b : Int} (hd : dec cc pc 1 pc' .iand) (kk : WW X Y nL rm Qm M0 n k pc' lv (vI (iAnd a b) :: st) M) : WW X Y nL rm Qm M0 n k pc lv (vI b :: vI a :: st) M := by
  obtain ⟨p, l, e, R, s, m, args, below, meth, c⟩ := X
  obtain ⟨hx, hb, hml, hown, hts, hsp, hr, hlo, hrm⟩ := hC
  obtain ⟨hd, rfl⟩ := hd
  intro ls H locs hl hk hR hS
  have kk := kk ls H locs hl hk hR hS
  rw [show vI (iAnd a b) = _ from vI_of _] at kk
  exact lv_iand hx hb hd kk
theorem r_ior (hC : OKX X Y own cc nL rt rm) {a b : Int} (hd : dec cc pc 1 pc' .ior) (kk : WW X Y nL rm Qm M0 n k pc' lv (vI (iOr a b) :: st) M) : WW X Y nL rm Qm M0 n k pc lv (vI b :: vI a :: st) M := by
  obtain ⟨p, l, e, R, s, m, args, below, meth, c⟩ := X
  obtain ⟨hx, hb, hml, hown, hts, hsp, hr, hlo, hrm⟩ := hC
  obtain ⟨hd, rfl⟩ := hd
  intro ls H locs hl hk hR hS
  have kk := kk ls H locs hl hk hR hS
  rw [show vI (iOr a b) = _ from vI_of _] at kk
  exact lv_ior hx hb hd kk
theorem r_ixor (hC : OKX X Y own cc nL rt rm) {a b : Int} (hd : dec cc pc 1 pc' .ixor) (kk : WW X Y nL rm Qm M0 n k pc' lv (vI (iXor a b) :: st) M) : WW X Y nL rm Qm M0 n k pc lv (vI b :: vI a :: st) M := by
  obtain ⟨p, l, e, R, s, m, args, below, meth, c⟩ := X
  obtain ⟨hx, hb, hml, hown, hts, hsp, hr, hlo, hrm⟩ := hC
  obtain ⟨hd, rfl⟩ := hd
  intro ls H locs hl hk hR hS
  have kk := kk ls H locs hl hk hR hS
  rw [show vI (iXor a b) = _ from vI_of _] at kk
  exact lv_ixor hx hb hd kk
theorem r_ishl (hC : OKX X Y own cc nL rt rm) {a b : Int} (hd : dec cc pc 1 pc' .ishl) (kk : WW X Y nL rm Qm M0 n k pc' lv (vI (iShl a b) :: st) M) : WW X Y nL rm Qm M0 n k pc lv (vI b :: vI a :: st) M := by
  obtain ⟨p, l, e, R, s, m, args, below, meth, c⟩ := X
  obtain ⟨hx, hb, hml, hown, hts, hsp, hr, hlo, hrm⟩ := hC
  obtain ⟨hd, rfl⟩ := hd
  intro ls H locs hl hk hR hS
  have kk := kk ls H locs hl hk hR hS
  rw [show vI (iShl a b) = _ from vI_of _] at kk
  exact lv_ishl hx hb hd kk
theorem r_ishr (hC : OKX X Y own cc nL rt rm) {a b : Int} (hd : dec cc pc 1 pc' .ishr) (kk : WW X Y nL rm Qm M0 n k pc' lv (vI (iShr a b) :: st) M) : WW X Y nL rm Qm M0 n k pc lv (vI b :: vI a :: st) M := by
  obtain ⟨p, l, e, R, s, m, args, below, meth, c⟩ := X
  obtain ⟨hx, hb, hml, hown, hts, hsp, hr, hlo, hrm⟩ := hC
  obtain ⟨hd, rfl⟩ := hd
  intro ls H locs hl hk hR hS
  have kk := kk ls H locs hl hk hR hS
  rw [show vI (iShr a b) = _ from vI_of _] at kk
  exact lv_ishr hx hb hd kk
theorem r_iushr (hC : OKX X Y own cc nL rt rm) {a b : Int} (hd : dec cc pc 1 pc' .iushr) (kk : WW X Y nL rm Qm M0 n k pc' lv (vI (iUshr a b) :: st) M) : WW X Y nL rm Qm M0 n k pc lv (vI b :: vI a :: st) M := by
  obtain ⟨p, l, e, R, s, m, args, below, meth, c⟩ := X
  obtain ⟨hx, hb, hml, hown, hts, hsp, hr, hlo, hrm⟩ := hC
  obtain ⟨hd, rfl⟩ := hd
  intro ls H locs hl hk hR hS
  have kk := kk ls H locs hl hk hR hS
  rw [show vI (iUshr a b) = _ from vI_of _] at kk
  exact lv_iushr hx hb hd rfl kk
theorem r_land (hC : OKX X Y own cc nL rt rm) {a b : Int} (hd : dec cc pc 1 pc' .land) (kk : WW X Y nL rm Qm M0 n k pc' lv (vL (lAnd a b) :: st) M) : WW X Y nL rm Qm M0 n k pc lv (vL b :: vL a :: st) M := by
  obtain ⟨p, l, e, R, s, m, args, below, meth, c⟩ := X
  obtain ⟨hx, hb, hml, hown, hts, hsp, hr, hlo, hrm⟩ := hC
  obtain ⟨hd, rfl⟩ := hd
  intro ls H locs hl hk hR hS
  have kk := kk ls H locs hl hk hR hS
  rw [show vL (lAnd a b) = _ from vL_of _] at kk
  exact lv_land hx hb hd kk
theorem r_lor (hC : OKX X Y own cc nL rt rm) {a b : Int} (hd : dec cc pc 1 pc' .lor) (kk : WW X Y nL rm Qm M0 n k pc' lv (vL (lOr a b) :: st) M) : WW X Y nL rm Qm M0 n k pc lv (vL b :: vL a :: st) M := by
  obtain ⟨p, l, e, R, s, m, args, below, meth, c⟩ := X
  obtain ⟨hx, hb, hml, hown, hts, hsp, hr, hlo, hrm⟩ := hC
  obtain ⟨hd, rfl⟩ := hd
  intro ls H locs hl hk hR hS
  have kk := kk ls H locs hl hk hR hS
  rw [show vL (lOr a b) = _ from vL_of _] at kk
  exact lv_lor hx hb hd kk
theorem r_lshl (hC : OKX X Y own cc nL rt rm) {a b : Int} (hd : dec cc pc 1 pc' .lshl) (kk : WW X Y nL rm Qm M0 n k pc' lv (vL (lShl a b) :: st) M) : WW X Y nL rm Qm M0 n k pc lv (vI b :: vL a :: st) M := by
  obtain ⟨p, l, e, R, s, m, args, below, meth, c⟩ := X
  obtain ⟨hx, hb, hml, hown, hts, hsp, hr, hlo, hrm⟩ := hC
  obtain ⟨hd, rfl⟩ := hd
  intro ls H locs hl hk hR hS
  have kk := kk ls H locs hl hk hR hS
  rw [show vL (lShl a b) = _ from vL_of _] at kk
  exact lv_lshl hx hb hd rfl kk
theorem r_lshr (hC : OKX X Y own cc nL rt rm) {a b : Int} (hd : dec cc pc 1 pc' .lshr) (kk : WW X Y nL rm Qm M0 n k pc' lv (vL (lShr a b) :: st) M) : WW X Y nL rm Qm M0 n k pc lv (vI b :: vL a :: st) M := by
  obtain ⟨p, l, e, R, s, m, args, below, meth, c⟩ := X
  obtain ⟨hx, hb, hml, hown, hts, hsp, hr, hlo, hrm⟩ := hC
  obtain ⟨hd, rfl⟩ := hd
  intro ls H locs hl hk hR hS
  have kk := kk ls H locs hl hk hR hS
  rw [show vL (lShr a b) = _ from vL_of _] at kk
  exact lv_lshr hx hb hd rfl kk
theorem r_idiv (hC : OKX X Y own cc nL rt rm) {a b : Int} (hz : ¬ bm b = 0) (hd : dec cc pc 1 pc' .idiv) (kk : WW X Y nL rm Qm M0 n k pc' lv (vI (iDiv a b) :: st) M) : WW X Y nL rm Qm M0 n k pc lv (vI b :: vI a :: st) M := by
  obtain ⟨p, l, e, R, s, m, args, below, meth, c⟩ := X
  obtain ⟨hx, hb, hml, hown, hts, hsp, hr, hlo, hrm⟩ := hC
  obtain ⟨hd, rfl⟩ := hd
  intro ls H locs hl hk hR hS
  have kk := kk ls H locs hl hk hR hS
  rw [show vI (iDiv a b) = _ from vI_of _] at kk
  exact lv_idiv hx hb hd (fun q => hz ((eq0_bm b).mp q)) kk
theorem r_irem (hC : OKX X Y own cc nL rt rm) {a b : Int} (hz : ¬ bm b = 0) (hd : dec cc pc 1 pc' .irem) (kk : WW X Y nL rm Qm M0 n k pc' lv (vI (iRem a b) :: st) M) : WW X Y nL rm Qm M0 n k pc lv (vI b :: vI a :: st) M := by
  obtain ⟨p, l, e, R, s, m, args, below, meth, c⟩ := X
  obtain ⟨hx, hb, hml, hown, hts, hsp, hr, hlo, hrm⟩ := hC
  obtain ⟨hd, rfl⟩ := hd
  intro ls H locs hl hk hR hS
  have kk := kk ls H locs hl hk hR hS
  rw [show vI (iRem a b) = _ from vI_of _] at kk
  exact lv_irem hx hb hd (fun q => hz ((eq0_bm b).mp q)) kk
theorem r_ldiv (hC : OKX X Y own cc nL rt rm) {a b : Int} (hz : ¬ bl b = 0) (hd : dec cc pc 1 pc' .ldiv) (kk : WW X Y nL rm Qm M0 n k pc' lv (vL (lDiv a b) :: st) M) : WW X Y nL rm Qm M0 n k pc lv (vL b :: vL a :: st) M := by
  obtain ⟨p, l, e, R, s, m, args, below, meth, c⟩ := X
  obtain ⟨hx, hb, hml, hown, hts, hsp, hr, hlo, hrm⟩ := hC
  obtain ⟨hd, rfl⟩ := hd
  intro ls H locs hl hk hR hS
  have kk := kk ls H locs hl hk hR hS
  rw [show vL (lDiv a b) = _ from vL_of _] at kk
  exact lv_ldiv hx hb hd (fun q => hz (by unfold bl; rw [q]; rfl)) kk
theorem r_lrem (hC : OKX X Y own cc nL rt rm) {a b : Int} (hz : ¬ bl b = 0) (hd : dec cc pc 1 pc' .lrem) (kk : WW X Y nL rm Qm M0 n k pc' lv (vL (lRem a b) :: st) M) : WW X Y nL rm Qm M0 n k pc lv (vL b :: vL a :: st) M := by
  obtain ⟨p, l, e, R, s, m, args, below, meth, c⟩ := X
  obtain ⟨hx, hb, hml, hown, hts, hsp, hr, hlo, hrm⟩ := hC
  obtain ⟨hd, rfl⟩ := hd
  intro ls H locs hl hk hR hS
  have kk := kk ls H locs hl hk hR hS
  rw [show vL (lRem a b) = _ from vL_of _] at kk
  exact lv_lrem hx hb hd (fun q => hz (by unfold bl; rw [q]; rfl)) kk
theorem r_i2l (hC : OKX X Y own cc nL rt rm) {a : Int} (hd : dec cc pc 1 pc' .i2l) (kk : WW X Y nL rm Qm M0 n k pc' lv (vL (bm a) :: st) M) : WW X Y nL rm Qm M0 n k pc lv (vI a :: st) M := by
  obtain ⟨p, l, e, R, s, m, args, below, meth, c⟩ := X
  obtain ⟨hx, hb, hml, hown, hts, hsp, hr, hlo, hrm⟩ := hC
  obtain ⟨hd, rfl⟩ := hd
  intro ls H locs hl hk hR hS
  have kk := kk ls H locs hl hk hR hS
  exact lv_i2l hx hb hd (vL_i2l a) kk
theorem r_l2i (hC : OKX X Y own cc nL rt rm) {a : Int} (hd : dec cc pc 1 pc' .l2i) (kk : WW X Y nL rm Qm M0 n k pc' lv (vI a :: st) M) : WW X Y nL rm Qm M0 n k pc lv (vL a :: st) M := by
  obtain ⟨p, l, e, R, s, m, args, below, meth, c⟩ := X
  obtain ⟨hx, hb, hml, hown, hts, hsp, hr, hlo, hrm⟩ := hC
  obtain ⟨hd, rfl⟩ := hd
  intro ls H locs hl hk hR hS
  have kk := kk ls H locs hl hk hR hS
  exact lv_l2i hx hb hd (vI_l2i a) kk
theorem r_i2b (hC : OKX X Y own cc nL rt rm) {a : Int} (hd : dec cc pc 1 pc' .i2b) (kk : WW X Y nL rm Qm M0 n k pc' lv (vI (iB a) :: st) M) : WW X Y nL rm Qm M0 n k pc lv (vI a :: st) M := by
  obtain ⟨p, l, e, R, s, m, args, below, meth, c⟩ := X
  obtain ⟨hx, hb, hml, hown, hts, hsp, hr, hlo, hrm⟩ := hC
  obtain ⟨hd, rfl⟩ := hd
  intro ls H locs hl hk hR hS
  have kk := kk ls H locs hl hk hR hS
  rw [show vI (iB a) = _ from vI_of _] at kk
  exact lv_i2b hx hb hd rfl kk
theorem r_i2c (hC : OKX X Y own cc nL rt rm) {a : Int} (hd : dec cc pc 1 pc' .i2c) (kk : WW X Y nL rm Qm M0 n k pc' lv (vI (iC a) :: st) M) : WW X Y nL rm Qm M0 n k pc lv (vI a :: st) M := by
  obtain ⟨p, l, e, R, s, m, args, below, meth, c⟩ := X
  obtain ⟨hx, hb, hml, hown, hts, hsp, hr, hlo, hrm⟩ := hC
  obtain ⟨hd, rfl⟩ := hd
  intro ls H locs hl hk hR hS
  have kk := kk ls H locs hl hk hR hS
  rw [show vI (iC a) = _ from vI_of _] at kk
  exact lv_i2c hx hb hd rfl kk
theorem r_lcmp (hC : OKX X Y own cc nL rt rm) {a b : Int} (hd : dec cc pc 1 pc' .lcmp) (kk : WW X Y nL rm Qm M0 n k pc' lv (vI (lCmp a b) :: st) M) : WW X Y nL rm Qm M0 n k pc lv (vL b :: vL a :: st) M := by
  obtain ⟨p, l, e, R, s, m, args, below, meth, c⟩ := X
  obtain ⟨hx, hb, hml, hown, hts, hsp, hr, hlo, hrm⟩ := hC
  obtain ⟨hd, rfl⟩ := hd
  intro ls H locs hl hk hR hS
  have kk := kk ls H locs hl hk hR hS
  rw [← vI_lcmp] at kk
  exact W.lcmp hx hb hd kk
theorem r_iconst (hC : OKX X Y own cc nL rt rm) {a : Int} (hd : dec cc pc 1 pc' (.iconst a)) (kk : WW X Y nL rm Qm M0 n k pc' lv (vI a :: st) M) : WW X Y nL rm Qm M0 n k pc lv st M := by
  obtain ⟨p, l, e, R, s, m, args, below, meth, c⟩ := X
  obtain ⟨hx, hb, hml, hown, hts, hsp, hr, hlo, hrm⟩ := hC
  obtain ⟨hd, rfl⟩ := hd
  intro ls H locs hl hk hR hS
  have kk := kk ls H locs hl hk hR hS
  exact lv_iconst hx hb hd rfl kk
theorem r_bipush (hC : OKX X Y own cc nL rt rm) {a : Int} (ha : (Int8.ofInt a).toInt32 = Int32.ofInt a) (hd : dec cc pc 2 pc' (.bipush a)) (kk : WW X Y nL rm Qm M0 n k pc' lv (vI a :: st) M) : WW X Y nL rm Qm M0 n k pc lv st M := by
  obtain ⟨p, l, e, R, s, m, args, below, meth, c⟩ := X
  obtain ⟨hx, hb, hml, hown, hts, hsp, hr, hlo, hrm⟩ := hC
  obtain ⟨hd, rfl⟩ := hd
  intro ls H locs hl hk hR hS
  have kk := kk ls H locs hl hk hR hS
  exact lv_bipush hx hb hd ha kk
theorem r_sipush (hC : OKX X Y own cc nL rt rm) {a : Int} (ha : (Int16.ofInt a).toInt32 = Int32.ofInt a) (hd : dec cc pc 3 pc' (.sipush a)) (kk : WW X Y nL rm Qm M0 n k pc' lv (vI a :: st) M) : WW X Y nL rm Qm M0 n k pc lv st M := by
  obtain ⟨p, l, e, R, s, m, args, below, meth, c⟩ := X
  obtain ⟨hx, hb, hml, hown, hts, hsp, hr, hlo, hrm⟩ := hC
  obtain ⟨hd, rfl⟩ := hd
  intro ls H locs hl hk hR hS
  have kk := kk ls H locs hl hk hR hS
  exact lv_sipush hx hb hd ha kk
theorem r_lconst (hC : OKX X Y own cc nL rt rm) {a : Int} {f : Fin 2} (ha : Int64.ofNat (f : Nat) = Int64.ofInt a) (hd : dec cc pc 1 pc' (.lconst f)) (kk : WW X Y nL rm Qm M0 n k pc' lv (vL a :: st) M) : WW X Y nL rm Qm M0 n k pc lv st M := by
  obtain ⟨p, l, e, R, s, m, args, below, meth, c⟩ := X
  obtain ⟨hx, hb, hml, hown, hts, hsp, hr, hlo, hrm⟩ := hC
  obtain ⟨hd, rfl⟩ := hd
  intro ls H locs hl hk hR hS
  have kk := kk ls H locs hl hk hR hS
  exact lv_lconst hx hb hd ha kk
theorem r_null (hC : OKX X Y own cc nL rt rm) (hd : dec cc pc 1 pc' .aconst_null) (kk : WW X Y nL rm Qm M0 n k pc' lv (.null :: st) M) : WW X Y nL rm Qm M0 n k pc lv st M := by
  obtain ⟨p, l, e, R, s, m, args, below, meth, c⟩ := X
  obtain ⟨hx, hb, hml, hown, hts, hsp, hr, hlo, hrm⟩ := hC
  obtain ⟨hd, rfl⟩ := hd
  intro ls H locs hl hk hR hS
  have kk := kk ls H locs hl hk hR hS
  exact lv_null hx hb hd kk
theorem r_dup (hC : OKX X Y own cc nL rt rm) {v : Value} (hv : v.category = 1) (hd : dec cc pc 1 pc' .dup) (kk : WW X Y nL rm Qm M0 n k pc' lv (v :: v :: st) M) : WW X Y nL rm Qm M0 n k pc lv (v :: st) M := by
  obtain ⟨p, l, e, R, s, m, args, below, meth, c⟩ := X
  obtain ⟨hx, hb, hml, hown, hts, hsp, hr, hlo, hrm⟩ := hC
  obtain ⟨hd, rfl⟩ := hd
  intro ls H locs hl hk hR hS
  have kk := kk ls H locs hl hk hR hS
  exact lv_dup hx hb hd hv kk
theorem r_dup_x1 (hC : OKX X Y own cc nL rt rm) {v w : Value} (hv : v.category = 1) (hw : w.category = 1) (hd : dec cc pc 1 pc' .dup_x1) (kk : WW X Y nL rm Qm M0 n k pc' lv (v :: w :: v :: st) M) : WW X Y nL rm Qm M0 n k pc lv (v :: w :: st) M := by
  obtain ⟨p, l, e, R, s, m, args, below, meth, c⟩ := X
  obtain ⟨hx, hb, hml, hown, hts, hsp, hr, hlo, hrm⟩ := hC
  obtain ⟨hd, rfl⟩ := hd
  intro ls H locs hl hk hR hS
  have kk := kk ls H locs hl hk hR hS
  exact lv_dup_x1 hx hb hd hv hw kk
theorem r_dup2 (hC : OKX X Y own cc nL rt rm) {v w : Value} (hv : v.category = 1) (hw : w.category = 1) (hd : dec cc pc 1 pc' .dup2) (kk : WW X Y nL rm Qm M0 n k pc' lv (v :: w :: v :: w :: st) M) : WW X Y nL rm Qm M0 n k pc lv (v :: w :: st) M := by
  obtain ⟨p, l, e, R, s, m, args, below, meth, c⟩ := X
  obtain ⟨hx, hb, hml, hown, hts, hsp, hr, hlo, hrm⟩ := hC
  obtain ⟨hd, rfl⟩ := hd
  intro ls H locs hl hk hR hS
  have kk := kk ls H locs hl hk hR hS
  exact lv_dup2_11 hx hb hd hv hw kk
theorem r_pop (hC : OKX X Y own cc nL rt rm) {v : Value} (hv : v.category = 1) (hd : dec cc pc 1 pc' .pop) (kk : WW X Y nL rm Qm M0 n k pc' lv st M) : WW X Y nL rm Qm M0 n k pc lv (v :: st) M := by
  obtain ⟨p, l, e, R, s, m, args, below, meth, c⟩ := X
  obtain ⟨hx, hb, hml, hown, hts, hsp, hr, hlo, hrm⟩ := hC
  obtain ⟨hd, rfl⟩ := hd
  intro ls H locs hl hk hR hS
  have kk := kk ls H locs hl hk hR hS
  exact lv_pop hx hb hd hv kk
theorem r_ldc (hC : OKX X Y own cc nL rt rm) {a : Int} {idx : Nat} (hw : Cond.constant own idx (Int32.ofInt a) ∈ gtbl) (hd : dec cc pc 2 pc' (.ldc idx)) (kk : WW X Y nL rm Qm M0 n k pc' lv (vI a :: st) M) : WW X Y nL rm Qm M0 n k pc lv st M := by
  obtain ⟨p, l, e, R, s, m, args, below, meth, c⟩ := X
  obtain ⟨hx, hb, hml, hown, hts, hsp, hr, hlo, hrm⟩ := hC
  obtain ⟨hd, rfl⟩ := hd
  intro ls H locs hl hk hR hS
  exact lv_ldc hx hb hown (hts _ hw) hd (kk ls H locs hl hk hR hS)
theorem r_ldcw (hC : OKX X Y own cc nL rt rm) {a : Int} {idx : Nat} (hw : Cond.constant own idx (Int32.ofInt a) ∈ gtbl) (hd : dec cc pc 3 pc' (.ldc_w idx)) (kk : WW X Y nL rm Qm M0 n k pc' lv (vI a :: st) M) : WW X Y nL rm Qm M0 n k pc lv st M := by
  obtain ⟨p, l, e, R, s, m, args, below, meth, c⟩ := X
  obtain ⟨hx, hb, hml, hown, hts, hsp, hr, hlo, hrm⟩ := hC
  obtain ⟨hd, rfl⟩ := hd
  intro ls H locs hl hk hR hS
  exact lv_ldcw hx hb hown (hts _ hw) hd (kk ls H locs hl hk hR hS)
theorem r_ldc2 (hC : OKX X Y own cc nL rt rm) {a : Int} {idx : Nat} (hw : Cond.constantLong own idx (Int64.ofInt a) ∈ gtbl) (hd : dec cc pc 3 pc' (.ldc2_w idx)) (kk : WW X Y nL rm Qm M0 n k pc' lv (vL a :: st) M) : WW X Y nL rm Qm M0 n k pc lv st M := by
  obtain ⟨p, l, e, R, s, m, args, below, meth, c⟩ := X
  obtain ⟨hx, hb, hml, hown, hts, hsp, hr, hlo, hrm⟩ := hC
  obtain ⟨hd, rfl⟩ := hd
  intro ls H locs hl hk hR hS
  exact lv_ldc2 hx hb hown (hts _ hw) hd (kk ls H locs hl hk hR hS)
theorem r_iload_n (hC : OKX X Y own cc nL rt rm) {i : Nat} {f : Fin 4} {x : Int} (q : Nat) (hd : dec cc pc 1 pc' (.iload_n f)) (hl : lv[q]? = some (i, vI x)) (hi : (f : Nat) = i) (kk : WW X Y nL rm Qm M0 n k pc' lv (vI x :: st) M) : WW X Y nL rm Qm M0 n k pc lv st M := by
  obtain ⟨p, l, e, R, s, m, args, below, meth, c⟩ := X
  obtain ⟨hx, hb, hml, hown, hts, hsp, hr, hlo, hrm⟩ := hC
  obtain ⟨hd, rfl⟩ := hd
  intro ls H locs h hk hR hS
  exact lv_iload_n hx hb hd hi (lv_at h q hl) (kk ls H locs h hk hR hS)
theorem r_iload (hC : OKX X Y own cc nL rt rm) {i : Nat} {x : Int} (q : Nat) (hd : dec cc pc 2 pc' (.iload i)) (hl : lv[q]? = some (i, vI x)) (kk : WW X Y nL rm Qm M0 n k pc' lv (vI x :: st) M) : WW X Y nL rm Qm M0 n k pc lv st M := by
  obtain ⟨p, l, e, R, s, m, args, below, meth, c⟩ := X
  obtain ⟨hx, hb, hml, hown, hts, hsp, hr, hlo, hrm⟩ := hC
  obtain ⟨hd, rfl⟩ := hd
  intro ls H locs h hk hR hS
  exact lv_iload hx hb hd (lv_at h q hl) (kk ls H locs h hk hR hS)
theorem r_lload_n (hC : OKX X Y own cc nL rt rm) {i : Nat} {f : Fin 4} {x : Int} (q : Nat) (hd : dec cc pc 1 pc' (.lload_n f)) (hl : lv[q]? = some (i, vL x)) (hi : (f : Nat) = i) (kk : WW X Y nL rm Qm M0 n k pc' lv (vL x :: st) M) : WW X Y nL rm Qm M0 n k pc lv st M := by
  obtain ⟨p, l, e, R, s, m, args, below, meth, c⟩ := X
  obtain ⟨hx, hb, hml, hown, hts, hsp, hr, hlo, hrm⟩ := hC
  obtain ⟨hd, rfl⟩ := hd
  intro ls H locs h hk hR hS
  exact lv_lload_n hx hb hd hi (lv_at h q hl) (kk ls H locs h hk hR hS)
theorem r_lload (hC : OKX X Y own cc nL rt rm) {i : Nat} {x : Int} (q : Nat) (hd : dec cc pc 2 pc' (.lload i)) (hl : lv[q]? = some (i, vL x)) (kk : WW X Y nL rm Qm M0 n k pc' lv (vL x :: st) M) : WW X Y nL rm Qm M0 n k pc lv st M := by
  obtain ⟨p, l, e, R, s, m, args, below, meth, c⟩ := X
  obtain ⟨hx, hb, hml, hown, hts, hsp, hr, hlo, hrm⟩ := hC
  obtain ⟨hd, rfl⟩ := hd
  intro ls H locs h hk hR hS
  exact lv_lload hx hb hd (lv_at h q hl) (kk ls H locs h hk hR hS)
theorem r_aload_n (hC : OKX X Y own cc nL rt rm) {i : Nat} {f : Fin 4} {b x : Nat} (q : Nat) (hd : dec cc pc 1 pc' (.aload_n f)) (hl : lv[q]? = some (i, vR b x)) (hi : (f : Nat) = i) (kk : WW X Y nL rm Qm M0 n k pc' lv (vR b x :: st) M) : WW X Y nL rm Qm M0 n k pc lv st M := by
  obtain ⟨p, l, e, R, s, m, args, below, meth, c⟩ := X
  obtain ⟨hx, hb, hml, hown, hts, hsp, hr, hlo, hrm⟩ := hC
  obtain ⟨hd, rfl⟩ := hd
  intro ls H locs h hk hR hS
  exact lv_aload_n hx hb hd hi (lv_at h q hl) (kk ls H locs h hk hR hS)
theorem r_aload (hC : OKX X Y own cc nL rt rm) {i : Nat} {b x : Nat} (q : Nat) (hd : dec cc pc 2 pc' (.aload i)) (hl : lv[q]? = some (i, vR b x)) (kk : WW X Y nL rm Qm M0 n k pc' lv (vR b x :: st) M) : WW X Y nL rm Qm M0 n k pc lv st M := by
  obtain ⟨p, l, e, R, s, m, args, below, meth, c⟩ := X
  obtain ⟨hx, hb, hml, hown, hts, hsp, hr, hlo, hrm⟩ := hC
  obtain ⟨hd, rfl⟩ := hd
  intro ls H locs h hk hR hS
  exact lv_aload hx hb hd (lv_at h q hl) (kk ls H locs h hk hR hS)
theorem r_istore_n (hC : OKX X Y own cc nL rt rm) {i : Nat} {f : Fin 4} {x : Int} {lv' : List (Nat × Value)} (hd : dec cc pc 1 pc' (.istore_n f)) (hi : (f : Nat) = i) (hn : i < nL) (hl : (i, vI x) :: lv.filter (fun q => !(q.1 == i) && !(q.1 + 1 == i && q.2.category == 2)) = lv') (kk : WW X Y nL rm Qm M0 n k pc' lv' st M) : WW X Y nL rm Qm M0 n k pc lv (vI x :: st) M := by
  obtain ⟨p, l, e, R, s, m, args, below, meth, c⟩ := X
  obtain ⟨hx, hb, hml, hown, hts, hsp, hr, hlo, hrm⟩ := hC
  obtain ⟨hd, rfl⟩ := hd
  intro ls H locs h hk hR hS
  exact lv_istore_n hx hb hd hi h hn hl (fun ls h => kk ls H locs h hk hR hS)
theorem r_istore (hC : OKX X Y own cc nL rt rm) {i : Nat} {x : Int} {lv' : List (Nat × Value)} (hd : dec cc pc 2 pc' (.istore i)) (hn : i < nL) (hl : (i, vI x) :: lv.filter (fun q => !(q.1 == i) && !(q.1 + 1 == i && q.2.category == 2)) = lv') (kk : WW X Y nL rm Qm M0 n k pc' lv' st M) : WW X Y nL rm Qm M0 n k pc lv (vI x :: st) M := by
  obtain ⟨p, l, e, R, s, m, args, below, meth, c⟩ := X
  obtain ⟨hx, hb, hml, hown, hts, hsp, hr, hlo, hrm⟩ := hC
  obtain ⟨hd, rfl⟩ := hd
  intro ls H locs h hk hR hS
  exact lv_istore hx hb hd h hn hl (fun ls h => kk ls H locs h hk hR hS)
theorem r_lstore_n (hC : OKX X Y own cc nL rt rm) {i : Nat} {f : Fin 4} {x : Int} {lv' : List (Nat × Value)} (hd : dec cc pc 1 pc' (.lstore_n f)) (hi : (f : Nat) = i) (hn : i + 1 < nL) (hl : (i, vL x) :: lv.filter (fun q => !(q.1 == i) && (!(q.1 == i + 1) && !(q.1 + 1 == i && q.2.category == 2))) = lv') (kk : WW X Y nL rm Qm M0 n k pc' lv' st M) : WW X Y nL rm Qm M0 n k pc lv (vL x :: st) M := by
  obtain ⟨p, l, e, R, s, m, args, below, meth, c⟩ := X
  obtain ⟨hx, hb, hml, hown, hts, hsp, hr, hlo, hrm⟩ := hC
  obtain ⟨hd, rfl⟩ := hd
  intro ls H locs h hk hR hS
  exact lv_lstore_n hx hb hd hi h hn hl (fun ls h => kk ls H locs h hk hR hS)
theorem r_lstore (hC : OKX X Y own cc nL rt rm) {i : Nat} {x : Int} {lv' : List (Nat × Value)} (hd : dec cc pc 2 pc' (.lstore i)) (hn : i + 1 < nL) (hl : (i, vL x) :: lv.filter (fun q => !(q.1 == i) && (!(q.1 == i + 1) && !(q.1 + 1 == i && q.2.category == 2))) = lv') (kk : WW X Y nL rm Qm M0 n k pc' lv' st M) : WW X Y nL rm Qm M0 n k pc lv (vL x :: st) M := by
  obtain ⟨p, l, e, R, s, m, args, below, meth, c⟩ := X
  obtain ⟨hx, hb, hml, hown, hts, hsp, hr, hlo, hrm⟩ := hC
  obtain ⟨hd, rfl⟩ := hd
  intro ls H locs h hk hR hS
  exact lv_lstore hx hb hd h hn hl (fun ls h => kk ls H locs h hk hR hS)
theorem r_astore_n (hC : OKX X Y own cc nL rt rm) {i : Nat} {f : Fin 4} {b x : Nat} {lv' : List (Nat × Value)} (hd : dec cc pc 1 pc' (.astore_n f)) (hi : (f : Nat) = i) (hn : i < nL) (hl : (i, vR b x) :: lv.filter (fun q => !(q.1 == i) && !(q.1 + 1 == i && q.2.category == 2)) = lv') (kk : WW X Y nL rm Qm M0 n k pc' lv' st M) : WW X Y nL rm Qm M0 n k pc lv (vR b x :: st) M := by
  obtain ⟨p, l, e, R, s, m, args, below, meth, c⟩ := X
  obtain ⟨hx, hb, hml, hown, hts, hsp, hr, hlo, hrm⟩ := hC
  obtain ⟨hd, rfl⟩ := hd
  intro ls H locs h hk hR hS
  exact lv_astore_n hx hb hd hi h hn hl (fun ls h => kk ls H locs h hk hR hS)
theorem r_astore (hC : OKX X Y own cc nL rt rm) {i : Nat} {b x : Nat} {lv' : List (Nat × Value)} (hd : dec cc pc 2 pc' (.astore i)) (hn : i < nL) (hl : (i, vR b x) :: lv.filter (fun q => !(q.1 == i) && !(q.1 + 1 == i && q.2.category == 2)) = lv') (kk : WW X Y nL rm Qm M0 n k pc' lv' st M) : WW X Y nL rm Qm M0 n k pc lv (vR b x :: st) M := by
  obtain ⟨p, l, e, R, s, m, args, below, meth, c⟩ := X
  obtain ⟨hx, hb, hml, hown, hts, hsp, hr, hlo, hrm⟩ := hC
  obtain ⟨hd, rfl⟩ := hd
  intro ls H locs h hk hR hS
  exact lv_astore hx hb hd h hn hl (fun ls h => kk ls H locs h hk hR hS)
theorem r_iinc (hC : OKX X Y own cc nL rt rm) {i : Nat} {a x x' : Int} {lv' : List (Nat × Value)} (q : Nat) (hd : dec cc pc 3 pc' (.iinc i a)) (hq : lv[q]? = some (i, vI x)) (hn : i < nL) (hx' : x + a = x') (hl : (i, vI x') :: lv.filter (fun q => !(q.1 == i) && !(q.1 + 1 == i && q.2.category == 2)) = lv') (kk : WW X Y nL rm Qm M0 n k pc' lv' st M) : WW X Y nL rm Qm M0 n k pc lv st M := by
  obtain ⟨p, l, e, R, s, m, args, below, meth, c⟩ := X
  obtain ⟨hx, hb, hml, hown, hts, hsp, hr, hlo, hrm⟩ := hC
  obtain ⟨hd, rfl⟩ := hd
  intro ls H locs h hk hR hS
  subst hx'
  exact lv_iinc (v := Int32.ofInt (x + a)) hx hb hd h hq (Int32.ofInt_add ..).symm hn hl (fun ls h => kk ls H locs h hk hR hS)
theorem r_icmp_eq (hC : OKX X Y own cc nL rt rm) {a b u w off : Int} (tgt : Nat) (eu : bm a = u) (ew : bm b = w) (hd : dec cc pc 3 pc' (.if_icmp .eq off)) (ht : (pc : Int) + off = (tgt : Int)) (kt : u = w → WW X Y nL rm Qm M0 n k tgt lv st M) (kf : ¬ (u = w) → WW X Y nL rm Qm M0 n k pc' lv st M) : WW X Y nL rm Qm M0 n k pc lv (vI b :: vI a :: st) M := by
  obtain ⟨p, l, e, R, s, m, args, below, meth, c⟩ := X
  obtain ⟨hx, hb, hml, hown, hts, hsp, hr, hlo, hrm⟩ := hC
  obtain ⟨hd, rfl⟩ := hd
  subst eu; subst ew
  intro ls H locs hl hk hR hS
  exact lv_icmp_eq hx hb hd ht (fun q => kt ((eq_bm a b).mp q) ls H locs hl hk hR hS) (fun q => kf (fun z => q ((eq_bm a b).mpr z)) ls H locs hl hk hR hS)
theorem r_if_eq (hC : OKX X Y own cc nL rt rm) {a u off : Int} (tgt : Nat) (eu : bm a = u) (hd : dec cc pc 3 pc' (.ifCond .eq off)) (ht : (pc : Int) + off = (tgt : Int)) (kt : u = 0 → WW X Y nL rm Qm M0 n k tgt lv st M) (kf : ¬ (u = 0) → WW X Y nL rm Qm M0 n k pc' lv st M) : WW X Y nL rm Qm M0 n k pc lv (vI a :: st) M := by
  obtain ⟨p, l, e, R, s, m, args, below, meth, c⟩ := X
  obtain ⟨hx, hb, hml, hown, hts, hsp, hr, hlo, hrm⟩ := hC
  obtain ⟨hd, rfl⟩ := hd
  subst eu
  intro ls H locs hl hk hR hS
  exact lv_if_eq hx hb hd ht (fun q => kt ((eq0_bm a).mp q) ls H locs hl hk hR hS) (fun q => kf (fun z => q ((eq0_bm a).mpr z)) ls H locs hl hk hR hS)
theorem r_icmp_ne (hC : OKX X Y own cc nL rt rm) {a b u w off : Int} (tgt : Nat) (eu : bm a = u) (ew : bm b = w) (hd : dec cc pc 3 pc' (.if_icmp .ne off)) (ht : (pc : Int) + off = (tgt : Int)) (kt : ¬ u = w → WW X Y nL rm Qm M0 n k tgt lv st M) (kf : u = w → WW X Y nL rm Qm M0 n k pc' lv st M) : WW X Y nL rm Qm M0 n k pc lv (vI b :: vI a :: st) M := by
  obtain ⟨p, l, e, R, s, m, args, below, meth, c⟩ := X
  obtain ⟨hx, hb, hml, hown, hts, hsp, hr, hlo, hrm⟩ := hC
  obtain ⟨hd, rfl⟩ := hd
  subst eu; subst ew
  intro ls H locs hl hk hR hS
  exact lv_icmp_ne hx hb hd ht (fun q => kt (fun z => q ((eq_bm a b).mpr z)) ls H locs hl hk hR hS) (fun q => kf ((eq_bm a b).mp q) ls H locs hl hk hR hS)
theorem r_if_ne (hC : OKX X Y own cc nL rt rm) {a u off : Int} (tgt : Nat) (eu : bm a = u) (hd : dec cc pc 3 pc' (.ifCond .ne off)) (ht : (pc : Int) + off = (tgt : Int)) (kt : ¬ u = 0 → WW X Y nL rm Qm M0 n k tgt lv st M) (kf : u = 0 → WW X Y nL rm Qm M0 n k pc' lv st M) : WW X Y nL rm Qm M0 n k pc lv (vI a :: st) M := by
  obtain ⟨p, l, e, R, s, m, args, below, meth, c⟩ := X
  obtain ⟨hx, hb, hml, hown, hts, hsp, hr, hlo, hrm⟩ := hC
  obtain ⟨hd, rfl⟩ := hd
  subst eu
  intro ls H locs hl hk hR hS
  exact lv_if_ne hx hb hd ht (fun q => kt (fun z => q ((eq0_bm a).mpr z)) ls H locs hl hk hR hS) (fun q => kf ((eq0_bm a).mp q) ls H locs hl hk hR hS)
theorem r_icmp_lt (hC : OKX X Y own cc nL rt rm) {a b u w off : Int} (tgt : Nat) (eu : bm a = u) (ew : bm b = w) (hd : dec cc pc 3 pc' (.if_icmp .lt off)) (ht : (pc : Int) + off = (tgt : Int)) (kt : u < w → WW X Y nL rm Qm M0 n k tgt lv st M) (kf : ¬ (u < w) → WW X Y nL rm Qm M0 n k pc' lv st M) : WW X Y nL rm Qm M0 n k pc lv (vI b :: vI a :: st) M := by
  obtain ⟨p, l, e, R, s, m, args, below, meth, c⟩ := X
  obtain ⟨hx, hb, hml, hown, hts, hsp, hr, hlo, hrm⟩ := hC
  obtain ⟨hd, rfl⟩ := hd
  subst eu; subst ew
  intro ls H locs hl hk hR hS
  exact lv_icmp_lt hx hb hd ht (fun q => kt ((lt_bm a b).mp q) ls H locs hl hk hR hS) (fun q => kf (fun z => q ((lt_bm a b).mpr z)) ls H locs hl hk hR hS)
theorem r_if_lt (hC : OKX X Y own cc nL rt rm) {a u off : Int} (tgt : Nat) (eu : bm a = u) (hd : dec cc pc 3 pc' (.ifCond .lt off)) (ht : (pc : Int) + off = (tgt : Int)) (kt : u < 0 → WW X Y nL rm Qm M0 n k tgt lv st M) (kf : ¬ (u < 0) → WW X Y nL rm Qm M0 n k pc' lv st M) : WW X Y nL rm Qm M0 n k pc lv (vI a :: st) M := by
  obtain ⟨p, l, e, R, s, m, args, below, meth, c⟩ := X
  obtain ⟨hx, hb, hml, hown, hts, hsp, hr, hlo, hrm⟩ := hC
  obtain ⟨hd, rfl⟩ := hd
  subst eu
  intro ls H locs hl hk hR hS
  exact lv_if_lt hx hb hd ht (fun q => kt ((lt0_bm a).mp q) ls H locs hl hk hR hS) (fun q => kf (fun z => q ((lt0_bm a).mpr z)) ls H locs hl hk hR hS)
theorem r_icmp_ge (hC : OKX X Y own cc nL rt rm) {a b u w off : Int} (tgt : Nat) (eu : bm a = u) (ew : bm b = w) (hd : dec cc pc 3 pc' (.if_icmp .ge off)) (ht : (pc : Int) + off = (tgt : Int)) (kt : w ≤ u → WW X Y nL rm Qm M0 n k tgt lv st M) (kf : ¬ (w ≤ u) → WW X Y nL rm Qm M0 n k pc' lv st M) : WW X Y nL rm Qm M0 n k pc lv (vI b :: vI a :: st) M := by
  obtain ⟨p, l, e, R, s, m, args, below, meth, c⟩ := X
  obtain ⟨hx, hb, hml, hown, hts, hsp, hr, hlo, hrm⟩ := hC
  obtain ⟨hd, rfl⟩ := hd
  subst eu; subst ew
  intro ls H locs hl hk hR hS
  exact lv_icmp_ge hx hb hd ht (fun q => kt ((le_bm b a).mp q) ls H locs hl hk hR hS) (fun q => kf (fun z => q ((le_bm b a).mpr z)) ls H locs hl hk hR hS)
theorem r_if_ge (hC : OKX X Y own cc nL rt rm) {a u off : Int} (tgt : Nat) (eu : bm a = u) (hd : dec cc pc 3 pc' (.ifCond .ge off)) (ht : (pc : Int) + off = (tgt : Int)) (kt : 0 ≤ u → WW X Y nL rm Qm M0 n k tgt lv st M) (kf : ¬ (0 ≤ u) → WW X Y nL rm Qm M0 n k pc' lv st M) : WW X Y nL rm Qm M0 n k pc lv (vI a :: st) M := by
  obtain ⟨p, l, e, R, s, m, args, below, meth, c⟩ := X
  obtain ⟨hx, hb, hml, hown, hts, hsp, hr, hlo, hrm⟩ := hC
  obtain ⟨hd, rfl⟩ := hd
  subst eu
  intro ls H locs hl hk hR hS
  exact lv_if_ge hx hb hd ht (fun q => kt ((ge0_bm a).mp q) ls H locs hl hk hR hS) (fun q => kf (fun z => q ((ge0_bm a).mpr z)) ls H locs hl hk hR hS)
theorem r_icmp_gt (hC : OKX X Y own cc nL rt rm) {a b u w off : Int} (tgt : Nat) (eu : bm a = u) (ew : bm b = w) (hd : dec cc pc 3 pc' (.if_icmp .gt off)) (ht : (pc : Int) + off = (tgt : Int)) (kt : w < u → WW X Y nL rm Qm M0 n k tgt lv st M) (kf : ¬ (w < u) → WW X Y nL rm Qm M0 n k pc' lv st M) : WW X Y nL rm Qm M0 n k pc lv (vI b :: vI a :: st) M := by
  obtain ⟨p, l, e, R, s, m, args, below, meth, c⟩ := X
  obtain ⟨hx, hb, hml, hown, hts, hsp, hr, hlo, hrm⟩ := hC
  obtain ⟨hd, rfl⟩ := hd
  subst eu; subst ew
  intro ls H locs hl hk hR hS
  exact lv_icmp_gt hx hb hd ht (fun q => kt ((lt_bm b a).mp q) ls H locs hl hk hR hS) (fun q => kf (fun z => q ((lt_bm b a).mpr z)) ls H locs hl hk hR hS)
theorem r_if_gt (hC : OKX X Y own cc nL rt rm) {a u off : Int} (tgt : Nat) (eu : bm a = u) (hd : dec cc pc 3 pc' (.ifCond .gt off)) (ht : (pc : Int) + off = (tgt : Int)) (kt : 0 < u → WW X Y nL rm Qm M0 n k tgt lv st M) (kf : ¬ (0 < u) → WW X Y nL rm Qm M0 n k pc' lv st M) : WW X Y nL rm Qm M0 n k pc lv (vI a :: st) M := by
  obtain ⟨p, l, e, R, s, m, args, below, meth, c⟩ := X
  obtain ⟨hx, hb, hml, hown, hts, hsp, hr, hlo, hrm⟩ := hC
  obtain ⟨hd, rfl⟩ := hd
  subst eu
  intro ls H locs hl hk hR hS
  exact lv_if_gt hx hb hd ht (fun q => kt ((gt0_bm a).mp q) ls H locs hl hk hR hS) (fun q => kf (fun z => q ((gt0_bm a).mpr z)) ls H locs hl hk hR hS)
theorem r_icmp_le (hC : OKX X Y own cc nL rt rm) {a b u w off : Int} (tgt : Nat) (eu : bm a = u) (ew : bm b = w) (hd : dec cc pc 3 pc' (.if_icmp .le off)) (ht : (pc : Int) + off = (tgt : Int)) (kt : u ≤ w → WW X Y nL rm Qm M0 n k tgt lv st M) (kf : ¬ (u ≤ w) → WW X Y nL rm Qm M0 n k pc' lv st M) : WW X Y nL rm Qm M0 n k pc lv (vI b :: vI a :: st) M := by
  obtain ⟨p, l, e, R, s, m, args, below, meth, c⟩ := X
  obtain ⟨hx, hb, hml, hown, hts, hsp, hr, hlo, hrm⟩ := hC
  obtain ⟨hd, rfl⟩ := hd
  subst eu; subst ew
  intro ls H locs hl hk hR hS
  exact lv_icmp_le hx hb hd ht (fun q => kt ((le_bm a b).mp q) ls H locs hl hk hR hS) (fun q => kf (fun z => q ((le_bm a b).mpr z)) ls H locs hl hk hR hS)
theorem r_if_le (hC : OKX X Y own cc nL rt rm) {a u off : Int} (tgt : Nat) (eu : bm a = u) (hd : dec cc pc 3 pc' (.ifCond .le off)) (ht : (pc : Int) + off = (tgt : Int)) (kt : u ≤ 0 → WW X Y nL rm Qm M0 n k tgt lv st M) (kf : ¬ (u ≤ 0) → WW X Y nL rm Qm M0 n k pc' lv st M) : WW X Y nL rm Qm M0 n k pc lv (vI a :: st) M := by
  obtain ⟨p, l, e, R, s, m, args, below, meth, c⟩ := X
  obtain ⟨hx, hb, hml, hown, hts, hsp, hr, hlo, hrm⟩ := hC
  obtain ⟨hd, rfl⟩ := hd
  subst eu
  intro ls H locs hl hk hR hS
  exact lv_if_le hx hb hd ht (fun q => kt ((le0_bm a).mp q) ls H locs hl hk hR hS) (fun q => kf (fun z => q ((le0_bm a).mpr z)) ls H locs hl hk hR hS)
theorem r_goto (hC : OKX X Y own cc nL rt rm) {off : Int} (tgt : Nat) (hd : dec cc pc 3 pc' (.goto off)) (ht : (pc : Int) + off = (tgt : Int)) (kk : WW X Y nL rm Qm M0 n k tgt lv st M) : WW X Y nL rm Qm M0 n k pc lv st M := by
  obtain ⟨p, l, e, R, s, m, args, below, meth, c⟩ := X
  obtain ⟨hx, hb, hml, hown, hts, hsp, hr, hlo, hrm⟩ := hC
  obtain ⟨hd, rfl⟩ := hd
  intro ls H locs hl hk hR hS
  exact lv_goto hx hb hd ht (kk ls H locs hl hk hR hS)
theorem r_ifnonnull (hC : OKX X Y own cc nL rt rm) {b : Nat} {z off : Int} (tgt : Nat) (hd : dec cc pc 3 pc' (.ifnonnull off)) (ht : (pc : Int) + off = (tgt : Int)) (kt : ¬ z = 0 → WW X Y nL rm Qm M0 n k tgt lv st M) (kf : z = 0 → WW X Y nL rm Qm M0 n k pc' lv st M) : WW X Y nL rm Qm M0 n k pc lv (vN b z :: st) M := by
  obtain ⟨p, l, e, R, s, m, args, below, meth, c⟩ := X
  obtain ⟨hx, hb, hml, hown, hts, hsp, hr, hlo, hrm⟩ := hC
  obtain ⟨hd, rfl⟩ := hd
  intro ls H locs hl hk hR hS
  unfold vN
  by_cases h : z = 0
  · rw [if_pos h]
    exact lv_ifnonnullN hx hb hd (kf h ls H locs hl hk hR hS)
  · rw [if_neg h]
    exact lv_ifnonnull hx hb hd ht (kt h ls H locs hl hk hR hS)
theorem r_tabOut (hC : OKX X Y own cc nL rt rm) {a dflt lo hi : Int} {offs : Array Int} {len : Nat} (tgt : Nat) (hd : dec cc pc len pc' (.tableswitch dflt lo hi offs)) (h : bm a < lo ∨ hi < bm a) (ht : (pc : Int) + dflt = (tgt : Int)) (kk : WW X Y nL rm Qm M0 n k tgt lv st M) : WW X Y nL rm Qm M0 n k pc lv (vI a :: st) M := by
  obtain ⟨p, l, e, R, s, m, args, below, meth, c⟩ := X
  obtain ⟨hx, hb, hml, hown, hts, hsp, hr, hlo, hrm⟩ := hC
  obtain ⟨hd, rfl⟩ := hd
  intro ls H locs hl hk hR hS
  exact lv_tableOut hx hb hd h ht (kk ls H locs hl hk hR hS)
theorem r_tabIn (hC : OKX X Y own cc nL rt rm) {a dflt lo hi off : Int} {offs : Array Int} {len : Nat} (tgt : Nat) (v : Int) (hd : dec cc pc len pc' (.tableswitch dflt lo hi offs)) (h : bm a = v) (h1 : ¬ v < lo) (h2 : ¬ hi < v) (ho : offs[(v - lo).toNat]? = some off) (ht : (pc : Int) + off = (tgt : Int)) (kk : WW X Y nL rm Qm M0 n k tgt lv st M) : WW X Y nL rm Qm M0 n k pc lv (vI a :: st) M := by
  obtain ⟨p, l, e, R, s, m, args, below, meth, c⟩ := X
  obtain ⟨hx, hb, hml, hown, hts, hsp, hr, hlo, hrm⟩ := hC
  obtain ⟨hd, rfl⟩ := hd
  intro ls H locs hl hk hR hS
  subst h
  exact lv_tableIn hx hb hd h1 h2 ho ht (kk ls H locs hl hk hR hS)
theorem r_lookup (hC : OKX X Y own cc nL rt rm) {a dflt off : Int} {ps : Array (Int × Int)} {len : Nat} (tgt : Nat) (hd : dec cc pc len pc' (.lookupswitch dflt ps)) (hp : (ps.toList.zip (ps.toList.drop 1)).all (fun (a, next) => a.1 < next.1) = true) (ho : Op.lookupswitch.offset ps.toList dflt (bm a) = off) (ht : (pc : Int) + off = (tgt : Int)) (kk : WW X Y nL rm Qm M0 n k tgt lv st M) : WW X Y nL rm Qm M0 n k pc lv (vI a :: st) M := by
  obtain ⟨p, l, e, R, s, m, args, below, meth, c⟩ := X
  obtain ⟨hx, hb, hml, hown, hts, hsp, hr, hlo, hrm⟩ := hC
  obtain ⟨hd, rfl⟩ := hd
  intro ls H locs hl hk hR hS
  exact lv_lookup hx hb hd hp ho ht (kk ls H locs hl hk hR hS)
theorem r_nameI {a : Int} {f : Int → Prop} (h : LET a f) (kk : ∀ x : Int, f x → WW X Y nL rm Qm M0 n k pc lv (vI x :: st) M) : WW X Y nL rm Qm M0 n k pc lv (vI a :: st) M := kk a h
theorem r_nameL {a : Int} {f : Int → Prop} (h : LET a f) (kk : ∀ x : Int, f x → WW X Y nL rm Qm M0 n k pc lv (vL x :: st) M) : WW X Y nL rm Qm M0 n k pc lv (vL a :: st) M := kk a h
theorem r_nameM {f : Mem → Prop} (h : LET M f) (kk : ∀ M : Mem, f M → WW X Y nL rm Qm M0 n k pc lv st M) : WW X Y nL rm Qm M0 n k pc lv st M := kk M h
theorem r_sub {lv' : List (Nat × Value)} (ks : List Nat) (hl : lv_pick lv ks = lv') (kk : WW X Y nL rm Qm M0 n k pc lv' st M) : WW X Y nL rm Qm M0 n k pc lv st M := fun ls H locs h hk hR hS => kk ls H locs (lv_sub h ks hl) hk hR hS
end Rows
