/-! OBJECTS ARE MADE: the world while not all cells lie where they must -/
abbrev offY (Y : Yx) : Yx := (Y.1, Y.2.1, Y.2.2.1, Y.2.2.2.1, false)
theorem okx_off {X : Cx} {Y : Yx} {own : String} {cc : ByteArray} {nL : Nat} {rt : Option FieldType} {rm : Room} (h : OKX X Y own cc nL rt rm) : OKX X (offY Y) own cc nL rt rm := h
/-- a field that is set once -/
def FF (own : String) (idx ci j : Nat) (ty : FieldType) : Prop := ∃ (C : String) (T : u_T) (N : Nat) (ty0 : Nat → FieldType), classes[ci]? = some (C, T, N) ∧ (∀ w ∈ u_ws C T N, w ∈ gtbl) ∧ j < N ∧ Cond.fieldLink own idx (T j).1 (T j).2.1 (T j).2.2.1 ∈ gtbl ∧ (∀ k, k < N → parseFieldDescriptor (T k).2.2.1 = some (ty0 k)) ∧ (∀ a, a < N → ∀ b, b < N → a ≠ b → (T a).2.1 ≠ (T b).2.1) ∧ (T j).2.2.2 = true ∧ ty0 j = ty ∧ (T j).1 = own
def nameX (X : Cx) : String := X.2.2.2.2.2.2.2.2.1.name
theorem ct_introI {Y : Yx} {l : Launch} {y : MethodName} {cc : ByteArray} {nL : Nat} {rt : Option FieldType} {rm : Room} {args : List Value} {M : Mem} {Qm : Option Value → Mem → Prop} (hy : plainName y.cls = true) (hlen : (lg_sl args).length ≤ nL)
    (body : ∀ X : Cx, X.2.1 = l → OKX X Y y.cls cc nL rt rm → nameX X = y.name → WW X Y nL rm Qm M 0 0 0 (lv_args 0 args) [] M) : CT Y l y cc nL rt rm args M Qm := by
  unfold CT
  refine Met.ofW (cc := cc) (maxL := nL) (ret := rt) hy rfl ?_
  intro p e s m a below meth c s₁ B hml hv
  obtain ⟨rfl, hR, hSp⟩ := hv
  have hts := atoms_spec (ws := codeW y cc nL rt) B.pre
  have K := body (p, l, e, rm, s, m, args.toArray, below, meth, c) rfl ⟨B.exec, B.bytes, hml, findClass_of_methodNamed B.named, fun w hw => hts w (List.mem_cons_of_mem _ hw), hSp, B.returns, B.notSynchronized, rfl⟩ (name_of_methodNamed B.named B.method).1
  rw [lg_entry_eq]
  exact K _ s.heap [] (lv_entry args hlen) (fun _ _ _ => rfl) hR va_S.rf
def obW (own : String) (idx : Nat) : Prop := Cond.methodLink own idx objectInit ∈ gtbl ∧ Cond.instanceMethod objectInit ∈ gtbl ∧ Cond.code objectInit ⟨#[0xb1]⟩ 1 none ∈ gtbl
def nwW (own : String) (idx ci : Nat) : Prop := ∃ (C : String) (T : u_T) (N : Nat) (ty0 : Nat → FieldType), classes[ci]? = some (C, T, N) ∧ (∀ w ∈ u_ws C T N, w ∈ gtbl) ∧ (∀ k, k < N → parseFieldDescriptor (T k).2.2.1 = some (ty0 k)) ∧ Cond.classLink own idx C ∈ gtbl ∧ Cond.instantiable C N ∈ gtbl ∧ Cond.initialized C ∈ gtbl ∧ (∀ (b : Nat) (sa : Nat → Nat) (j : Nat), j < N → defaultValue (ty0 j) = fv b sa (ftc ci j) 0)
def nqW (own : String) (idx t : Nat) : Prop := ∃ C : String, aty t = .object C ∧ Cond.classLink own idx C ∈ gtbl ∧ C ∈ refC
def CIw (own : String) (idx : Nat) (y : MethodName) (cc : ByteArray) (nL : Nat) (np : Nat) : Prop :=
  (Cond.methodLink own idx y ∈ gtbl ∨ ∃ host : String, Cond.methodLinkNest own idx y host ∈ nestW) ∧ Cond.instanceMethod y ∈ gtbl ∧ Cond.initialized y.cls ∈ gtbl ∧ Cond.code y cc nL none ∈ gtbl ∧ y.name = "<init>" ∧ (y.cls ≠ "java/lang/invoke/MethodHandle" ∧ y.cls ≠ "java/lang/invoke/VarHandle") ∧ (parseMethodDescriptor y.desc).map (fun d => d.parameters.length) = some np
theorem clsN {ci : Nat} {q : vw_C} (h : classes[ci]? = some q) : q.2.2 ≤ 40 := by
  have hm := List.mem_of_getElem? h
  have : ∀ q ∈ classes, q.2.2 ≤ 40 := by
    intro q hq
    simp only [classes, List.mem_cons, List.not_mem_nil, or_false] at hq
    rcases hq with rfl | rfl | rfl | rfl | rfl | rfl | rfl | rfl | rfl | rfl | rfl | rfl | rfl <;> decide
  exact this q hm
section CtorRows
variable {X : Cx} {Y : Yx} {own : String} {cc : ByteArray} {nL : Nat} {rt : Option FieldType} {rm : Room} {Qm : Option Value → Mem → Prop} {M0 M : Mem} {n k pc pc' : Nat} {lv : List (Nat × Value)} {st : List Value}
variable {y : MethodName} {cc' : ByteArray} {nL' np idx : Nat} {rt' : Option FieldType} {rm' : Room} {Qc : Option Value → Mem → Prop}
theorem r_off (kk : WW X (offY Y) nL rm (fun v M => Lay M ∧ Qm v M) M0 n k pc lv st M) : WW X Y nL rm Qm M0 n k pc lv st M := by
  intro ls H locs hl hk hR hS
  refine W_mono ?_ (kk ls H locs hl hk ⟨hR.1, fun q => by cases q⟩ hS)
  rintro t ⟨o, h1, h2, ⟨⟨v, M', e1, e2, e3, e4⟩, hF⟩, h4⟩
  exact ⟨o, h1, h2, ⟨⟨v, M', e1, e2.2, e3, e4.1, fun _ => e2.1⟩, hF⟩, h4⟩
theorem r_on (hF : Y.2.2.2.2 = true) (hL : Lay M) (kk : WW X Y nL rm Qm M0 n k pc lv st M) : WW X (offY Y) nL rm (fun v M => Lay M ∧ Qm v M) M0 n k pc lv st M := by
  intro ls H locs hl hk hR hS
  refine W_mono ?_ (kk ls H locs hl hk ⟨hR.1, fun _ => hL⟩ hS)
  rintro t ⟨o, h1, h2, ⟨⟨v, M', e1, e2, e3, e4⟩, hF'⟩, h4⟩
  exact ⟨o, h1, h2, ⟨⟨v, M', e1, ⟨e4.2 hF, e2⟩, e3, e4.1, fun q => by cases q⟩, hF'⟩, h4⟩
theorem r_objInit (hC : OKX X Y own cc nL rt rm) {a : Nat} (hw : obW own idx) (hfr : 1 ≤ rm.frames) (hlo' : 20 ≤ rm.locals) (hrest : (st.map fun v => v.category).sum ≤ 8) (hd : dec cc pc 3 pc' (.invokespecial idx))
    (kk : WW X Y nL rm Qm M0 n k pc' lv st M) : WW X Y nL rm Qm M0 n k pc lv (vR Y.1 a :: st) M := by
  obtain ⟨p, l, e, R, s, m, args, below, meth, c⟩ := X
  obtain ⟨hx, hb, hml, hown, hts, hsp, hr, hlo, hrm⟩ := hC
  obtain ⟨hd, rfl⟩ := hd
  dsimp only at hrm
  subst hrm
  intro ls H locs hl hk hR hS
  exact W.objInit hx hb hown (hts _ hw.1) (hts _ hw.2.1) (hts _ hw.2.2) rfl (by rw [hml]; exact hl.1) rfl hd hfr (by show 2 * 0 + _ + 12 ≤ R.locals; omega) (kk ls H locs hl hk hR hS)
theorem r_putF (hC : OKX X Y own cc nL rt rm) (hN : nameX X = "<init>") (hF : Y.2.2.2.2 = false) {ci j a b : Nat} {ty : FieldType} (hb0 : 0 < b) (hf : FF own idx ci j ty) (ht : ftc ci j = 2) (hty : (∃ c, ty = .object c) ∨ ∃ t, ty = .array t) (ha : 0 < a) (g : M0 0 a = kO ci) (hd : dec cc pc 3 pc' (.putfield idx))
    (kk : WW X Y nL rm Qm M0 n k pc' lv st (up M a j (b : Int))) : WW X Y nL rm Qm M0 n k pc lv (vR Y.1 b :: vR Y.1 a :: st) M := by
  obtain ⟨p, l, e, R, s, m, args, below, meth, c⟩ := X
  obtain ⟨hx, hb, hml, hown, hts, hsp, hr, hlo, hrm⟩ := hC
  obtain ⟨hd, rfl⟩ := hd
  intro ls H locs hl hk hR hS
  obtain ⟨C, T, N, ty0, hc, hin, hj, hlk, htyp, hnm, hfin, htj, hdecl⟩ := hf
  have hg : M 0 a = kO ci := kind_now hk ha g (kO_pos _)
  have hap := va_apart (own := own) hts hin ty0 htyp hnm hsp.1 hc
  obtain ⟨cell, q1, q2, q3, q4⟩ := hR.1.2.1 a ci _ ha hg hc
  obtain ⟨hSl, hfc, kC, hkC, hkind⟩ := hsp.1.1 ci _ hc
  obtain ⟨cf, kf, fi, f, hi, hsl⟩ := hSl j hj
  have hlay := hts _ (hin _ (u_in_lay hj))
  unfold u_lay at hlay
  rw [if_pos hfin] at hlay
  have hst := (u_facts hfc hkC (u_lays hts hin hj) hi).1
  have hcf : m.cls = cf := by
    obtain ⟨_, _, c', _, _, _, -, -, hf', -, -, -, hown2, -⟩ := Cond.laysFinal_spec hlay
    have e1 : c' = cf := by have := hi.symm.trans hf'; simp at this; exact this.1.symm
    rw [hdecl] at hown2
    rw [← e1]; exact Option.some.inj (hown.symm.trans hown2)
  have hv : fv Y.1 Y.2.2.1 (ftc ci j) (b : Int) = vR Y.1 b := by rw [ht]; exact vN_R hb0 rfl
  have hn1 : narrow ty (vR Y.1 b) = vR Y.1 b := by rcases hty with ⟨c, rfl⟩ | ⟨t, rfl⟩ <;> rfl
  have hn2 : fits ty (vR Y.1 b) = true := by rcases hty with ⟨c, rfl⟩ | ⟨t, rfl⟩ <;> rfl
  have h6 := u_fits hfc hkC hkind (Or.inr hlay) hi (by rw [htyp j hj, htj]) hn1 hn2
  refine W.putFinK hx hb hown (hts _ hlk) hi hst hcf hN (by rw [q2]; exact h6) q1 q3 (by rw [hsl]; exact k2_hasslot (q4 j hj)) rfl rfl hd fun H' e1 e2 e3 => ?_
  rw [hsl] at e1 ⊢
  have hRd : Rd Y (up M a j (b : Int)) H' := by
    refine rd_obj hR.1 ha hg (ci13 hc) hc ?_ e2 e3
    refine t_OB.to (V := updV (fun i => fv Y.1 Y.2.2.1 (ftc ci i) (M a i)) j (vR Y.1 b)) ⟨_, e1, q2, q3, t_set q4 hap hj _⟩ ?_
    intro i _
    unfold updV up
    by_cases hij : i = j
    · subst hij; simp [hv]
    · simp [hij]
  exact kk ls H' _ hl (fun a1 h1 h2 => by rw [up_0 M j _ ha]; exact hk a1 h1 h2) ⟨hRd, fun q => by rw [hF] at q; cases q⟩ (hS.put e2 e3 (by show Y.1 < Y.1 + a; omega))
theorem r_put0 (hC : OKX X Y own cc nL rt rm) {ci j a : Nat} {ty : FieldType} (hf : FP own idx ci j ty) (ht : ftc ci j = 2) (hty : (∃ c, ty = .object c) ∨ ∃ t, ty = .array t) (ha : 0 < a) (g : M0 0 a = kO ci) (hd : dec cc pc 3 pc' (.putfield idx))
    (kk : WW X Y nL rm Qm M0 n k pc' lv st (up M a j 0)) : WW X Y nL rm Qm M0 n k pc lv (.null :: vR Y.1 a :: st) M := by
  have hv : fv Y.1 Y.2.2.1 2 0 = .null := rfl
  have := r_putV (k := k) (n := n) (lv := lv) (st := st) (M := M) (Qm := Qm) (z := 0) hC hf (by rw [ht, hv]; rcases hty with ⟨c, rfl⟩ | ⟨t, rfl⟩ <;> rfl) (by rw [ht, hv]; rcases hty with ⟨c, rfl⟩ | ⟨t, rfl⟩ <;> rfl) ha g hd kk
  rw [ht, hv] at this
  exact this
theorem r_newobj (hC : OKX X Y own cc nL rt rm) (hF : Y.2.2.2.2 = false) {ci N : Nat} {C : String} {T : u_T} (hci : classes[ci]? = some (C, T, N)) (hw : nwW own idx ci) (hcell : n + 1 ≤ rm.cells ∧ k + N ≤ rm.slots) (hd : dec cc pc 3 pc' (.new idx))
    (kk : WW X Y nL rm Qm M0 (n + 1) (k + N) pc' lv (vR Y.1 (nx M) :: st) (al M (kO ci))) : WW X Y nL rm Qm M0 n k pc lv st M := by
  obtain ⟨p, l, e, R, s, m, args, below, meth, c⟩ := X
  obtain ⟨hx, hb, hml, hown, hts, hsp, hr, hlo, hrm⟩ := hC
  obtain ⟨hd, rfl⟩ := hd
  obtain ⟨C', T', N', ty0, hc', hin, hty, w1, w2, w3, hdef⟩ := hw
  cases hci.symm.trans hc'
  dsimp only at hrm
  subst hrm
  intro ls H locs hl hk hR hS
  have hsz := hR.1.1.2.1
  have hKn := hsp.1.1 ci _ hci
  refine W.newcK hx hb hown (hts _ w1) (hts _ w2) (hts _ w3) rfl hd hcell.1 hcell.2 hKn.2.1 rfl fun H1 kC hkC e1 z1 o1 => ?_
  have hRd : Rd Y (al M (kO ci)) H1 := rd_new hR.1 (kO_pos _) z1 o1 (fun c2 q h1 h2 => by
    have := kO_inj h1
    subst this
    cases hci.symm.trans h2
    exact (u_born ty0 hts hin hKn hkC e1 hty).to (fun j hj => hdef _ _ j hj)) (fun t' n' h1 h2 => absurd h2 (kO_kA (by have := ci13 hci; omega)))
  have := kk ls H1 locs hl (fun a h1 h2 => by rw [al_kind h1 (by rw [hk a h1 h2]; exact h2) hR.1.1.2.2]; exact hk a h1 h2) ⟨hRd, fun q => by rw [hF] at q; cases q⟩ ⟨by have := hS.1; omega, fun x h1 h2 => (o1 x (Nat.lt_of_lt_of_le h1 hS.1)).trans (hS.2.1 x h1 h2), hS.2.2⟩
  rw [hsz]
  exact this
theorem r_newref (hC : OKX X Y own cc nL rt rm) (hF : Y.2.2.2.2 = false) {t len : Nat} {z : Int} (ht : 4 ≤ t) (ht' : t < 10) (hw : nqW own idx t) (hz : z = (len : Int)) (hlen : len < 1000000) (hcell : n + 1 ≤ rm.cells ∧ k + len ≤ rm.slots) (hd : dec cc pc 3 pc' (.anewarray idx))
    (kk : WW X Y nL rm Qm M0 (n + 1) (k + len) pc' lv (vR Y.1 (nx M) :: st) (al M (kA t len))) : WW X Y nL rm Qm M0 n k pc lv (vI z :: st) M := by
  obtain ⟨p, l, e, R, s, m, args, below, meth, c⟩ := X
  obtain ⟨hx, hb, hml, hown, hts, hsp, hr, hlo, hrm⟩ := hC
  obtain ⟨hd, rfl⟩ := hd
  obtain ⟨C, hat, w1, w2⟩ := hw
  dsimp only at hrm
  subst hrm
  subst hz
  intro ls H locs hl hk hR hS
  have hbm : bm (len : Int) = (len : Int) := bm_id (by omega) (by omega)
  have hcl : (Int32.ofInt (len : Int)).toNatClampNeg = len := by rw [cl_bm (by omega), hbm]; omega
  have hsz := hR.1.1.2.1
  refine W.anew hx hb hown (hts _ w1) (hsp.2.2.2.2.2.2.2 _ w2).use rfl hd (n := Int32.ofInt (len : Int)) rfl (by rw [lt0_bm]; omega) (by rw [hcl]; omega) hcell.1 (by rw [hcl]; exact hcell.2) fun cA kA' comp f1 f2 f3 f4 => ?_
  rw [hcl]
  have hcA : cA = Y.2.2.2.1 t := by
    have h2 := (tys_at hsp.1 t ht').2
    rw [hat] at h2
    obtain ⟨_, _, _, _, _, h4⟩ := h2
    exact Option.some.inj (f1.symm.trans h4)
  subst hcA
  generalize hH1 : H.push ({ cls := Y.2.2.2.1 t, slots := Array.replicate len .null, vm := .none } : Cell) = H1
  have z1 : H1.size = H.size + 1 := by rw [← hH1, Array.size_push]
  have e1 : H1[H.size]? = some (arrV (Y.2.2.2.1 t) len (fun _ => .null)) := by rw [← hH1, Array.getElem?_push_size, ← arrV_new]
  have o1 : ∀ q : Nat, q < H.size → H1[q]? = H[q]? := fun q hq => by rw [← hH1, Array.getElem?_push, if_neg (Nat.ne_of_lt hq)]
  have hav : av Y.1 t 0 = .null := by
    obtain ⟨d, rfl⟩ : ∃ d, t = d + 4 := ⟨t - 4, by omega⟩
    rfl
  have hRd : Rd Y (al M (kA t len)) H1 := rd_new hR.1 (kA_pos _ _) z1 o1 (fun ci q h1 h2 => absurd h1.symm (kO_kA (by have := ci13 h2; omega))) (fun t' n' h1 h2 => by
    obtain ⟨rfl, rfl⟩ := kA_inj hlen h1 h2
    rw [hav]
    exact e1)
  have := kk ls H1 locs hl (fun a h1 h2 => by rw [al_kind h1 (by rw [hk a h1 h2]; exact h2) hR.1.1.2.2]; exact hk a h1 h2) ⟨hRd, fun q => by rw [hF] at q; cases q⟩ ⟨by have := hS.1; omega, fun x h1 h2 => (o1 x (Nat.lt_of_lt_of_le h1 hS.1)).trans (hS.2.1 x h1 h2), hS.2.2⟩
  rw [hsz]
  exact this
theorem r_aast (hC : OKX X Y own cc nL rt rm) (hF : Y.2.2.2.2 = false) {a len t b ci : Nat} {i : Int} {C : String} {T : u_T} {N : Nat} (ht : 4 ≤ t) (ht' : t < 10) (hci : classes[ci]? = some (C, T, N)) (hat : aty t = .object C) (hi : inb i len) (ha : 0 < a) (g : M0 0 a = kA t len) (hn : len < 1000000) (hb0 : 0 < b) (gb : M0 0 b = kO ci) (hd : dec cc pc 1 pc' .aastore)
    (kk : WW X Y nL rm Qm M0 n k pc' lv st (wr M a i (b : Int))) : WW X Y nL rm Qm M0 n k pc lv (vR Y.1 b :: vI i :: vR Y.1 a :: st) M := by
  obtain ⟨p, l, e, R, s, m, args, below, meth, c⟩ := X
  obtain ⟨hx, hb, hml, hown, hts, hsp, hr, hlo, hrm⟩ := hC
  obtain ⟨hd, rfl⟩ := hd
  intro ls H locs hl hk hR hS
  have hg := kind_now hk ha g (kA_pos _ _)
  have hgb := kind_now hk hb0 gb (kO_pos _)
  have hcell := hR.1.2.2 a _ len ha hn hg
  obtain ⟨cellV, g1, g2, g3, -⟩ := hR.1.2.1 b ci _ hb0 hgb hci
  have hcls := (hsp.1.1 ci _ hci).2
  have h2 := (tys_at hsp.1 t ht').2
  rw [hat] at h2
  obtain ⟨kA', comp, k1, k2, k3, -⟩ := h2
  have hcomp : comp = Y.2.1.1 ci := Option.some.inj (k3.symm.trans hcls.1)
  subst hcomp
  obtain ⟨kC, hkC, -⟩ := hcls.2
  refine W.aast hx hb hcell (fun q h => by cases h) (fun h => by cases h) k1 k2 rfl hkC ⟨fun q => (inb_vp hi) (Or.inl q), by rw [arrV_size]; exact inb_lt hi⟩ g1 (fun q h => by rw [g3] at h; cases h) (by rw [g2]; exact hkC) (by rw [g2]; exact va_assign hcls) rfl rfl hd fun H' e1 e2 e3 => ?_
  rw [cl_bm hi.1] at e1 ⊢
  have hav : av Y.1 t (b : Int) = vR Y.1 b := by
    obtain ⟨d, rfl⟩ : ∃ d, t = d + 4 := ⟨t - 4, by omega⟩
    exact vN_R hb0 rfl
  have hRd : Rd Y (wr M a i (b : Int)) H' := by
    refine rd_arr hR.1 ha hg hn ?_ e2 e3
    rw [e1, arrV_store, hav]
    rfl
  exact kk ls H' _ hl (fun a1 h1 h2 => by unfold wr; rw [up_0 M _ _ ha]; exact hk a1 h1 h2) ⟨hRd, fun q => by rw [hF] at q; cases q⟩ (hS.put e2 e3 (by show Y.1 < Y.1 + a; omega))
theorem r_callI (hC : OKX X Y own cc nL rt rm) {a : Nat} {As : List Value} {st0 : List Value} (hw : CIw own idx y cc' nL' np) (hst : st0 = As.reverse ++ vR Y.1 a :: st) (hnp : As.length = np) (hrest : (st.map fun v => v.category).sum ≤ 8)
    (hroom : rm'.frames + 1 ≤ rm.frames ∧ 8 + (nL' + 11) + rm'.locals ≤ rm.locals) (hcell : n + rm'.cells ≤ rm.cells ∧ k + rm'.slots ≤ rm.slots) (hd : dec cc pc 3 pc' (.invokespecial idx))
    (hm : KP M0 M → CT Y X.2.1 y cc' nL' none rm' (vR Y.1 a :: As) M Qc)
    (kk : ∀ (v : Option Value) (M' : Mem), Qc v M' → WW X Y nL rm Qm M0 (n + rm'.cells) (k + rm'.slots) pc' lv (v.toList ++ st) M') : WW X Y nL rm Qm M0 n k pc lv st0 M := by
  obtain ⟨p, l, e, R, s, m, args, below, meth, c⟩ := X
  obtain ⟨hx, hb, hml, hown, hts, hsp, hr, hlo, hrm⟩ := hC
  obtain ⟨hd, rfl⟩ := hd
  obtain ⟨w1, w2, w3, w4, w5, w6, w7⟩ := hw
  dsimp only at hrm hm
  subst hrm
  refine ww_run (as := (vR Y.1 a :: As).toArray) (mc := rm'.cells) (ms := rm'.slots) ?_ kk
  intro ls H locs hl hk hR hS
  rcases w1 with w1 | ⟨host, w1⟩
  · exact va_runI (Ts := gtbl) (As := As) (rest := st) ⟨hx, hb, hml, hown, hts⟩ (hm hk) (cwI np hts (good_code w4) rfl rfl rfl (hts _ w3) (hts _ w1) (hts _ w2) w5 ⟨w6.1, w6.2, w7⟩ hroom)
      ⟨ct_blind Y M _, fun U hU hW => ⟨rfl, by rw [hU]; exact hR, sp_to hsp hS hU hW⟩⟩ rfl hnp hl.1 hst (lv_room hrest) hd hcell
  · exact va_runIN (Ts := gtbl) (host := host) (As := As) (rest := st) ⟨hx, hb, hml, hown, hts⟩ (hm hk) ⟨va_cnB np hts (good_code w4) rfl rfl rfl (hsp.2.2.2.1 _ w1) (hts _ w3) ⟨w6.1, w6.2, w7⟩ hroom, w5, hts _ w2⟩
      ⟨ct_blind Y M _, fun U hU hW => ⟨rfl, by rw [hU]; exact hR, sp_to hsp hS hU hW⟩⟩ rfl hnp hl.1 hst (lv_room hrest) hd hcell
end CtorRows
