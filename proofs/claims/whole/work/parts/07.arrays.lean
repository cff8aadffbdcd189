/-! ROWS OF NUMBERS AND OF CELLS, FIXED TABLES -/
def inb (z : Int) (n : Nat) : Prop := 0 ≤ bm z ∧ bm z < (n : Int)
/-- what stands at a place of a row -/
def rd (M : Mem) (a : Nat) (i : Int) : Int := M a (bm i).toNat
def wr (M : Mem) (a : Nat) (i v : Int) : Mem := up M a (bm i).toNat v
theorem inb_vp {z : Int} {n : Nat} (h : inb z n) : ¬ (Int32.ofInt z < 0 ∨ n ≤ (Int32.ofInt z).toNatClampNeg) := by
  obtain ⟨h1, h2⟩ := h
  intro q
  rcases q with q | q
  · rw [lt0_bm] at q; omega
  · rw [cl_bm h1] at q; omega
theorem inb_lt {z : Int} {n : Nat} (h : inb z n) : (Int32.ofInt z).toNatClampNeg < n := by
  rw [cl_bm h.1]
  have := h.1
  have := h.2
  omega
section ArrayRows
variable {X : Cx} {Y : Yx} {own : String} {cc : ByteArray} {nL : Nat} {rt : Option FieldType} {rm : Room} {Qm : Option Value → Mem → Prop} {M0 M : Mem} {n k pc pc' : Nat} {lv : List (Nat × Value)} {st : List Value}
theorem kind_now {a : Nat} {v : Int} (hk : ∀ a : Nat, 0 < a → M0 0 a ≠ 0 → M 0 a = M0 0 a) (ha : 0 < a) (g : M0 0 a = v) (hv : v ≠ 0) : M 0 a = v := by rw [hk a ha (by rw [g]; exact hv)]; exact g
theorem tys_at {Y : Yx} {U : State} (h : va_K Y.2.1 classes (tysOf Y.2.2.2.1) U) (t : Nat) (ht : t < 10) : ArrOfT U (Y.2.2.2.1 t) (aty t) ∧ va_RA U (Y.2.2.2.1 t) (aty t) := by
  have : (tysOf Y.2.2.2.1)[t]? = some (Y.2.2.2.1 t, aty t) := by
    rcases (show t = 0 ∨ t = 1 ∨ t = 2 ∨ t = 3 ∨ t = 4 ∨ t = 5 ∨ t = 6 ∨ t = 7 ∨ t = 8 ∨ t = 9 by omega) with rfl | rfl | rfl | rfl | rfl | rfl | rfl | rfl | rfl | rfl <;> rfl
  exact h.2 t _ this
theorem r_iald (hC : OKX X Y own cc nL rt rm) {a len : Nat} {i : Int} (hi : inb i len) (ha : 0 < a) (g : M0 0 a = kA 0 len) (hn : len < 1000000) (hd : dec cc pc 1 pc' .iaload)
    (kk : WW X Y nL rm Qm M0 n k pc' lv (vI (rd M a i) :: st) M) : WW X Y nL rm Qm M0 n k pc lv (vI i :: vR Y.1 a :: st) M := by
  obtain ⟨p, l, e, R, s, m, args, below, meth, c⟩ := X
  obtain ⟨hx, hb, hml, hown, hts, hsp, hr, hlo, hrm⟩ := hC
  obtain ⟨hd, rfl⟩ := hd
  intro ls H locs hl hk hR hS
  have hg := kind_now hk ha g (kA_pos _ _)
  have hcell := hR.1.2.2 a _ len ha hn hg
  exact W.iald (v := vI (rd M a i)) hx hb hcell ((tys_at hsp.1 0 (by decide)).1 len _) (fun q => by cases q) (by rw [arrV_size]; exact inb_vp hi) (by rw [arrV_read _ _ (inb_lt hi), cl_bm hi.1]; rfl) rfl rfl hd (kk ls H locs hl hk hR hS)
theorem r_bald (hC : OKX X Y own cc nL rt rm) {a len : Nat} {i : Int} (hi : inb i len) (ha : 0 < a) (g : M0 0 a = kA 1 len) (hn : len < 1000000) (hd : dec cc pc 1 pc' .baload)
    (kk : WW X Y nL rm Qm M0 n k pc' lv (vI (rd M a i) :: st) M) : WW X Y nL rm Qm M0 n k pc lv (vI i :: vR Y.1 a :: st) M := by
  obtain ⟨p, l, e, R, s, m, args, below, meth, c⟩ := X
  obtain ⟨hx, hb, hml, hown, hts, hsp, hr, hlo, hrm⟩ := hC
  obtain ⟨hd, rfl⟩ := hd
  intro ls H locs hl hk hR hS
  have hg := kind_now hk ha g (kA_pos _ _)
  have hcell := hR.1.2.2 a _ len ha hn hg
  exact W.bald (v := vI (rd M a i)) hx hb hcell ((tys_at hsp.1 1 (by decide)).1 len _) (fun q => by cases q) (by rw [arrV_size]; exact inb_vp hi) (by rw [arrV_read _ _ (inb_lt hi), cl_bm hi.1]; rfl) rfl rfl hd (kk ls H locs hl hk hR hS)
theorem r_zald (hC : OKX X Y own cc nL rt rm) {a len : Nat} {i : Int} (hi : inb i len) (ha : 0 < a) (g : M0 0 a = kA 2 len) (hn : len < 1000000) (hd : dec cc pc 1 pc' .baload)
    (kk : WW X Y nL rm Qm M0 n k pc' lv (vI (rd M a i) :: st) M) : WW X Y nL rm Qm M0 n k pc lv (vI i :: vR Y.1 a :: st) M := by
  obtain ⟨p, l, e, R, s, m, args, below, meth, c⟩ := X
  obtain ⟨hx, hb, hml, hown, hts, hsp, hr, hlo, hrm⟩ := hC
  obtain ⟨hd, rfl⟩ := hd
  intro ls H locs hl hk hR hS
  have hg := kind_now hk ha g (kA_pos _ _)
  have hcell := hR.1.2.2 a _ len ha hn hg
  exact W.zald (v := vI (rd M a i)) hx hb hcell ((tys_at hsp.1 2 (by decide)).1 len _) (fun q => by cases q) (by rw [arrV_size]; exact inb_vp hi) (by rw [arrV_read _ _ (inb_lt hi), cl_bm hi.1]; rfl) rfl rfl hd (kk ls H locs hl hk hR hS)
theorem r_lald (hC : OKX X Y own cc nL rt rm) {a len : Nat} {i : Int} (hi : inb i len) (ha : 0 < a) (g : M0 0 a = kA 3 len) (hn : len < 1000000) (hd : dec cc pc 1 pc' .laload)
    (kk : WW X Y nL rm Qm M0 n k pc' lv (vL (rd M a i) :: st) M) : WW X Y nL rm Qm M0 n k pc lv (vI i :: vR Y.1 a :: st) M := by
  obtain ⟨p, l, e, R, s, m, args, below, meth, c⟩ := X
  obtain ⟨hx, hb, hml, hown, hts, hsp, hr, hlo, hrm⟩ := hC
  obtain ⟨hd, rfl⟩ := hd
  intro ls H locs hl hk hR hS
  have hg := kind_now hk ha g (kA_pos _ _)
  have hcell := hR.1.2.2 a _ len ha hn hg
  exact W.lald (v := vL (rd M a i)) hx hb hcell ((tys_at hsp.1 3 (by decide)).1 len _) (fun q => by cases q) (by rw [arrV_size]; exact inb_vp hi) (by rw [arrV_read _ _ (inb_lt hi), cl_bm hi.1]; rfl) rfl rfl hd (kk ls H locs hl hk hR hS)
theorem r_aald (hC : OKX X Y own cc nL rt rm) {a len t a' : Nat} {i : Int} (hF : Y.2.2.2.2 = true) (ht : 4 ≤ t) (ht' : t < 10) (hty : (aty t).isReference = true) (hi : inb i len) (ha : 0 < a) (g : M0 0 a = kA t len) (hn : len < 1000000) (he : a + abase t + astr t * (bm i).toNat = a') (hd : dec cc pc 1 pc' .aaload)
    (kk : WW X Y nL rm Qm M0 n k pc' lv (vR Y.1 a' :: st) M) : WW X Y nL rm Qm M0 n k pc lv (vI i :: vR Y.1 a :: st) M := by
  obtain ⟨p, l, e, R, s, m, args, below, meth, c⟩ := X
  obtain ⟨hx, hb, hml, hown, hts, hsp, hr, hlo, hrm⟩ := hC
  obtain ⟨hd, rfl⟩ := hd
  intro ls H locs hl hk hR hS
  have hg := kind_now hk ha g (kA_pos _ _)
  have hcell := hR.1.2.2 a _ len ha hn hg
  have hi1 := hi.1
  have hi2 := hi.2
  obtain ⟨q2, q3⟩ := (hR.2 hF).2 a t len (bm i).toNat ha hn hg ht (by omega)
  have hv : av Y.1 t (M a (bm i).toNat) = vR Y.1 a' := by
    have h4 : ∀ z, av Y.1 t z = vN Y.1 z := by
      intro z
      obtain ⟨d, rfl⟩ : ∃ d, t = d + 4 := ⟨t - 4, by omega⟩
      rfl
    rw [h4, vN_R (q := a') (by omega) (by rw [q2, he])]
  exact W.aald (v := vR Y.1 a') hx hb hcell ((tys_at hsp.1 t ht').1 len _) hty (fun q => by cases q) (by rw [arrV_size]; exact inb_vp hi) (by rw [arrV_read _ _ (inb_lt hi), cl_bm hi.1, hv]) rfl rfl hd (kk ls H locs hl hk hR hS)
theorem r_iast (hC : OKX X Y own cc nL rt rm) {a len : Nat} {i z : Int} (hi : inb i len) (ha : 0 < a) (g : M0 0 a = kA 0 len) (hn : len < 1000000) (hd : dec cc pc 1 pc' .iastore)
    (kk : WW X Y nL rm Qm M0 n k pc' lv st (wr M a i z)) : WW X Y nL rm Qm M0 n k pc lv (vI z :: vI i :: vR Y.1 a :: st) M := by
  obtain ⟨p, l, e, R, s, m, args, below, meth, c⟩ := X
  obtain ⟨hx, hb, hml, hown, hts, hsp, hr, hlo, hrm⟩ := hC
  obtain ⟨hd, rfl⟩ := hd
  intro ls H locs hl hk hR hS
  have hg := kind_now hk ha g (kA_pos _ _)
  have hcell := hR.1.2.2 a _ len ha hn hg
  refine W.iast hx hb hcell ((tys_at hsp.1 0 (by decide)).1 len _) (fun q => by cases q) (by rw [arrV_size]; exact inb_vp hi) rfl rfl hd fun H' e1 e2 e3 => ?_
  rw [cl_bm hi.1] at e1 ⊢
  have hRd : Rd Y (wr M a i z) H' := by
    refine rd_arr hR.1 ha hg hn ?_ e2 e3
    rw [e1, arrV_store]
    congr 3
  exact kk ls H' _ hl (fun a1 h1 h2 => by unfold wr; rw [up_0 M _ _ ha]; exact hk a1 h1 h2) ⟨hRd, fun hF => lay_arr (hR.2 hF) ha hg hn (by decide)⟩ (hS.put e2 e3 (by show Y.1 < Y.1 + a; omega))
theorem r_bast (hC : OKX X Y own cc nL rt rm) {a len : Nat} {i z : Int} (hi : inb i len) (ha : 0 < a) (g : M0 0 a = kA 1 len) (hn : len < 1000000) (hd : dec cc pc 1 pc' .bastore)
    (kk : WW X Y nL rm Qm M0 n k pc' lv st (wr M a i (iB z))) : WW X Y nL rm Qm M0 n k pc lv (vI z :: vI i :: vR Y.1 a :: st) M := by
  obtain ⟨p, l, e, R, s, m, args, below, meth, c⟩ := X
  obtain ⟨hx, hb, hml, hown, hts, hsp, hr, hlo, hrm⟩ := hC
  obtain ⟨hd, rfl⟩ := hd
  intro ls H locs hl hk hR hS
  have hg := kind_now hk ha g (kA_pos _ _)
  have hcell := hR.1.2.2 a _ len ha hn hg
  refine W.bast hx hb hcell ((tys_at hsp.1 1 (by decide)).1 len _) (fun q => by cases q) (by rw [arrV_size]; exact inb_vp hi) rfl rfl hd fun H' e1 e2 e3 => ?_
  rw [cl_bm hi.1] at e1 ⊢
  have hRd : Rd Y (wr M a i (iB z)) H' := by
    refine rd_arr hR.1 ha hg hn ?_ e2 e3
    rw [e1, arrV_store]
    congr 3
    exact (by show Value.int _ = vI (iB z); rw [show vI (iB z) = _ from vI_of _])
  exact kk ls H' _ hl (fun a1 h1 h2 => by unfold wr; rw [up_0 M _ _ ha]; exact hk a1 h1 h2) ⟨hRd, fun hF => lay_arr (hR.2 hF) ha hg hn (by decide)⟩ (hS.put e2 e3 (by show Y.1 < Y.1 + a; omega))
theorem r_zast (hC : OKX X Y own cc nL rt rm) {a len : Nat} {i z : Int} (hz : isB z) (hi : inb i len) (ha : 0 < a) (g : M0 0 a = kA 2 len) (hn : len < 1000000) (hd : dec cc pc 1 pc' .bastore)
    (kk : WW X Y nL rm Qm M0 n k pc' lv st (wr M a i z)) : WW X Y nL rm Qm M0 n k pc lv (vI z :: vI i :: vR Y.1 a :: st) M := by
  obtain ⟨p, l, e, R, s, m, args, below, meth, c⟩ := X
  obtain ⟨hx, hb, hml, hown, hts, hsp, hr, hlo, hrm⟩ := hC
  obtain ⟨hd, rfl⟩ := hd
  intro ls H locs hl hk hR hS
  have hg := kind_now hk ha g (kA_pos _ _)
  have hcell := hR.1.2.2 a _ len ha hn hg
  refine W.zast hx hb hcell ((tys_at hsp.1 2 (by decide)).1 len _) (fun q => by cases q) (by rw [arrV_size]; exact inb_vp hi) rfl rfl hd fun H' e1 e2 e3 => ?_
  rw [cl_bm hi.1] at e1 ⊢
  have hRd : Rd Y (wr M a i z) H' := by
    refine rd_arr hR.1 ha hg hn ?_ e2 e3
    rw [e1, arrV_store]
    congr 3
    exact (by rcases hz with rfl | rfl <;> rfl)
  exact kk ls H' _ hl (fun a1 h1 h2 => by unfold wr; rw [up_0 M _ _ ha]; exact hk a1 h1 h2) ⟨hRd, fun hF => lay_arr (hR.2 hF) ha hg hn (by decide)⟩ (hS.put e2 e3 (by show Y.1 < Y.1 + a; omega))
theorem r_last (hC : OKX X Y own cc nL rt rm) {a len : Nat} {i z : Int} (hi : inb i len) (ha : 0 < a) (g : M0 0 a = kA 3 len) (hn : len < 1000000) (hd : dec cc pc 1 pc' .lastore)
    (kk : WW X Y nL rm Qm M0 n k pc' lv st (wr M a i z)) : WW X Y nL rm Qm M0 n k pc lv (vL z :: vI i :: vR Y.1 a :: st) M := by
  obtain ⟨p, l, e, R, s, m, args, below, meth, c⟩ := X
  obtain ⟨hx, hb, hml, hown, hts, hsp, hr, hlo, hrm⟩ := hC
  obtain ⟨hd, rfl⟩ := hd
  intro ls H locs hl hk hR hS
  have hg := kind_now hk ha g (kA_pos _ _)
  have hcell := hR.1.2.2 a _ len ha hn hg
  refine W.last hx hb hcell ((tys_at hsp.1 3 (by decide)).1 len _) (fun q => by cases q) (by rw [arrV_size]; exact inb_vp hi) rfl rfl hd fun H' e1 e2 e3 => ?_
  rw [cl_bm hi.1] at e1 ⊢
  have hRd : Rd Y (wr M a i z) H' := by
    refine rd_arr hR.1 ha hg hn ?_ e2 e3
    rw [e1, arrV_store]
    congr 3
  exact kk ls H' _ hl (fun a1 h1 h2 => by unfold wr; rw [up_0 M _ _ ha]; exact hk a1 h1 h2) ⟨hRd, fun hF => lay_arr (hR.2 hF) ha hg hn (by decide)⟩ (hS.put e2 e3 (by show Y.1 < Y.1 + a; omega))
theorem r_alen (hC : OKX X Y own cc nL rt rm) {a len t : Nat} (ht' : t < 10) (ha : 0 < a) (g : M0 0 a = kA t len) (hn : len < 1000000) (hd : dec cc pc 1 pc' .arraylength)
    (kk : WW X Y nL rm Qm M0 n k pc' lv (vI (len : Int) :: st) M) : WW X Y nL rm Qm M0 n k pc lv (vR Y.1 a :: st) M := by
  obtain ⟨p, l, e, R, s, m, args, below, meth, c⟩ := X
  obtain ⟨hx, hb, hml, hown, hts, hsp, hr, hlo, hrm⟩ := hC
  obtain ⟨hd, rfl⟩ := hd
  intro ls H locs hl hk hR hS
  have hg := kind_now hk ha g (kA_pos _ _)
  have hcell := hR.1.2.2 a _ len ha hn hg
  exact W.alen (n := Int32.ofInt (len : Int)) hx hb hcell ((tys_at hsp.1 t ht').1 len _) (by rw [arrV_size]; rfl) rfl rfl hd (kk ls H locs hl hk hR hS)
/-- a static field that holds a fixed table -/
theorem r_tab (hC : OKX X Y own cc nL rt rm) {i idx : Nat} (hi : i < 3) (hw : Cond.fieldLink own idx (tabC i) (tabN i) "[I" ∈ gtbl) (hd : dec cc pc 3 pc' (.getstatic idx))
    (kk : WW X Y nL rm Qm M0 n k pc' lv (.ref (Y.2.2.1 (100 + i)) :: st) M) : WW X Y nL rm Qm M0 n k pc lv st M := by
  obtain ⟨p, l, e, R, s, m, args, below, meth, c⟩ := X
  obtain ⟨hx, hb, hml, hown, hts, hsp, hr, hlo, hrm⟩ := hC
  obtain ⟨hd, rfl⟩ := hd
  intro ls H locs hl hk hR hS
  exact va_gets hx hb (hsp.2.2.1 i hi).1 hS hown (hts _ hw) (fun _ h => h) hd (kk ls H locs hl hk hR hS)
def tabV (i : Nat) (z : Int) : Int := (tabL i).getD (bm z).toNat 0
theorem r_tabld (hC : OKX X Y own cc nL rt rm) {i : Nat} {z : Int} (hi : i < 3) (hz : inb z (tabL i).length) (hd : dec cc pc 1 pc' .iaload)
    (kk : WW X Y nL rm Qm M0 n k pc' lv (vI (tabV i z) :: st) M) : WW X Y nL rm Qm M0 n k pc lv (vI z :: .ref (Y.2.2.1 (100 + i)) :: st) M := by
  obtain ⟨p, l, e, R, s, m, args, below, meth, c⟩ := X
  obtain ⟨hx, hb, hml, hown, hts, hsp, hr, hlo, hrm⟩ := hC
  obtain ⟨hd, rfl⟩ := hd
  intro ls H locs hl hk hR hS
  exact va_ti hx hb (hsp.2.2.1 i hi).2 hS (inb_vp hz) (by rw [cl_bm hz.1]; rfl) hd (kk ls H locs hl hk hR hS)
theorem r_tablen (hC : OKX X Y own cc nL rt rm) {i : Nat} (hi : i < 3) (hd : dec cc pc 1 pc' .arraylength)
    (kk : WW X Y nL rm Qm M0 n k pc' lv (vI ((tabL i).length : Int) :: st) M) : WW X Y nL rm Qm M0 n k pc lv (.ref (Y.2.2.1 (100 + i)) :: st) M := by
  obtain ⟨p, l, e, R, s, m, args, below, meth, c⟩ := X
  obtain ⟨hx, hb, hml, hown, hts, hsp, hr, hlo, hrm⟩ := hC
  obtain ⟨hd, rfl⟩ := hd
  intro ls H locs hl hk hR hS
  exact va_tlen hx hb (hsp.2.2.1 i hi).2 hS rfl hd (kk ls H locs hl hk hR hS)
/-- the ends -/
theorem r_iret (hC : OKX X Y own cc nL (some .int) rm) {z : Int} (hn : n ≤ rm.cells) (hs : k ≤ rm.slots) (hd : dec cc pc 1 pc' .ireturn) (hq : Qm (some (vI z)) M) : WW X Y nL rm Qm M0 n k pc lv [vI z] M := by
  obtain ⟨p, l, e, R, s, m, args, below, meth, c⟩ := X
  obtain ⟨hx, hb, hml, hown, hts, hsp, hr, hlo, hrm⟩ := hC
  obtain ⟨hd, -⟩ := hd
  intro ls H locs hl hk hR hS
  refine W.widen hn hs ?_
  exact W.iret hx hb hr (fun t ht hW => ⟨⟨_, M, rfl, hq, hk, by rw [ht]; exact hR⟩, hS.F ht⟩) hS.2.2 hd hlo
theorem r_zret (hC : OKX X Y own cc nL (some .boolean) rm) {z : Int} (hz : isB z) (hn : n ≤ rm.cells) (hs : k ≤ rm.slots) (hd : dec cc pc 1 pc' .ireturn) (hq : Qm (some (vI z)) M) : WW X Y nL rm Qm M0 n k pc lv [vI z] M := by
  obtain ⟨p, l, e, R, s, m, args, below, meth, c⟩ := X
  obtain ⟨hx, hb, hml, hown, hts, hsp, hr, hlo, hrm⟩ := hC
  obtain ⟨hd, -⟩ := hd
  intro ls H locs hl hk hR hS
  refine W.widen hn hs ?_
  exact W.zret hx hb hr (by rcases hz with rfl | rfl <;> rfl) (fun t ht hW => ⟨⟨_, M, rfl, hq, hk, by rw [ht]; exact hR⟩, hS.F ht⟩) hS.2.2 hd hlo
theorem r_lret (hC : OKX X Y own cc nL (some .long) rm) {z : Int} (hn : n ≤ rm.cells) (hs : k ≤ rm.slots) (hd : dec cc pc 1 pc' .lreturn) (hq : Qm (some (vL z)) M) : WW X Y nL rm Qm M0 n k pc lv [vL z] M := by
  obtain ⟨p, l, e, R, s, m, args, below, meth, c⟩ := X
  obtain ⟨hx, hb, hml, hown, hts, hsp, hr, hlo, hrm⟩ := hC
  obtain ⟨hd, -⟩ := hd
  intro ls H locs hl hk hR hS
  refine W.widen hn hs ?_
  exact W.lret hx hb hr (fun t ht hW => ⟨⟨_, M, rfl, hq, hk, by rw [ht]; exact hR⟩, hS.F ht⟩) hS.2.2 hd hlo
theorem r_vret (hC : OKX X Y own cc nL none rm) (hn : n ≤ rm.cells) (hs : k ≤ rm.slots) (hd : dec cc pc 1 pc' .return_) (hq : Qm none M) : WW X Y nL rm Qm M0 n k pc lv [] M := by
  obtain ⟨p, l, e, R, s, m, args, below, meth, c⟩ := X
  obtain ⟨hx, hb, hml, hown, hts, hsp, hr, hlo, hrm⟩ := hC
  obtain ⟨hd, -⟩ := hd
  intro ls H locs hl hk hR hS
  refine W.widen hn hs ?_
  exact W.vret hx hb hr (fun t ht hW => ⟨⟨_, M, rfl, hq, hk, by rw [ht]; exact hR⟩, hS.F ht⟩) hS.2.2 hd hlo
theorem r_aret {ty : FieldType} (hC : OKX X Y own cc nL (some ty) rm) {a : Nat} (hty : (∃ n, ty = .object n) ∨ ∃ t, ty = .array t) (hn : n ≤ rm.cells) (hs : k ≤ rm.slots) (hd : dec cc pc 1 pc' .areturn) (hq : Qm (some (.ref a)) M) : WW X Y nL rm Qm M0 n k pc lv [.ref a] M := by
  obtain ⟨p, l, e, R, s, m, args, below, meth, c⟩ := X
  obtain ⟨hx, hb, hml, hown, hts, hsp, hr, hlo, hrm⟩ := hC
  obtain ⟨hd, -⟩ := hd
  intro ls H locs hl hk hR hS
  refine W.widen hn hs ?_
  exact W.aret hx hb hr hty (Or.inr ⟨_, rfl⟩) (fun t ht hW => ⟨⟨_, M, rfl, hq, hk, by rw [ht]; exact hR⟩, hS.F ht⟩) hS.2.2 hd hlo
end ArrayRows
