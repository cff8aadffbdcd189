/-! CONTRACTS AND CALLS -/
theorem nest_warm {w : Cond} (hw : isNest w = true) {s U : State} (hW : s.WarmedH U.vm) (h : va_Nw w s) : va_Nw w U := by
  cases w <;> first | exact va_Nw.warmM hW h | exact va_Nw.warmF hW h | cases hw
theorem nest_on {w : Cond} (hw : isNest w = true) : w.onTables = true := by
  cases w <;> first | rfl | cases hw
theorem nestW_is {w : Cond} (h : w ∈ nestW) : isNest w = true := (List.mem_filter.mp h).2
theorem sp_heap {Y : Yx} {s U : State} {H : Heap} {locs : List Loc} (h : Sp Y s) (hS : va_S (frA Y) s.heap H locs) (hU : U.heap = H) (hvm : s.vm.Alike U.vm) (hN : ∀ w ∈ nestW, va_Nw w U) (hT : ∀ q ∈ strW, vk_R q.1 q.2.1 q.2.2.1 (Y.2.2.1 q.2.2.2) U) : Sp Y U := by
  obtain ⟨h1, h2, h3, h4, h5, h6, h7, h8⟩ := h
  have hq : ∀ a : Nat, a < s.heap.size → ¬ frA Y a → U.heap[a]? = s.heap[a]? := fun a q1 q2 => by rw [hU]; exact hS.2.1 a q1 q2
  refine ⟨va_K.moved hvm h1, by rw [hU]; exact Nat.lt_of_lt_of_le h2 hS.1, fun i hi => ?_, hN, hT, vk_S.moved hvm (h6.kept hq), va_Z.moved hvm (h7.kept hq), fun C hC => va_AO.moved hvm (h8 C hC)⟩
  obtain ⟨z1, z2⟩ := h3 i hi
  exact ⟨va_Z.moved hvm (z1.kept hq), va_T.moved hvm (z2.kept hq)⟩
theorem sp_to {Y : Yx} {s U : State} {H : Heap} {locs : List Loc} (h : Sp Y s) (hS : va_S (frA Y) s.heap H locs) (hU : U.heap = H) (hW : s.WarmedH U.vm) : Sp Y U :=
  sp_heap h hS hU hW.alike (fun w hw => nest_warm (nestW_is hw) hW (h.2.2.2.1 w hw)) (fun q hq => vk_R.warm hW (h.2.2.2.2.1 q hq))
theorem sp_call {Y : Yx} {U : State} (h : Sp Y U) (g : JFrame) (mk : MethodId) (a : Array Value) : Sp Y (U.calling g mk a) :=
  sp_heap (H := U.heap) (locs := []) h va_S.rf rfl (Vm.Alike.refl U.vm) (fun w hw => va_Nw.same (u := U) (U := U.calling g mk a) (nest_on (nestW_is hw)) rfl (h.2.2.2.1 w hw)) (fun q hq => vk_R.same (u := U) (U := U.calling g mk a) rfl (h.2.2.2.2.1 q hq))
theorem ct_blind (Y : Yx) (M : Mem) (av : List Value) : FrameBlind (va_Pc av (fun U => Rz Y M U.heap ∧ Sp Y U)) := fun a U g mk q => ⟨q.1, q.2.1, sp_call q.2.2 g mk a⟩
theorem met_ofWF {l : Launch} {y : MethodName} {ws ws' : List Cond} {rm : Room} {Pc : Array Value → State → Prop} {Qc : Array Value → State → Outcome → State → Prop} {mc ms : Nat} {free : Addr → Prop} {cc : ByteArray} {maxL : Nat} {ret : Option FieldType}
    (hy : plainFor y = true) (hw : ws = Cond.code y cc maxL ret :: ws')
    (body : ∀ p e s m args below meth c s₁, BodyLoose p l y (headSpec ws rm) cc maxL ret e s m args below meth c s₁ → c.maxLocals = maxL → Pc args s →
      W p l e (headSpec ws rm).room s m args below meth c s.heap [] 0 0 (MQ below Qc args s mc ms free) (entryFrame m args maxL)) : Met l y ws rm Pc Qc mc ms free := by
  refine MetFree.of_bodySF (code := cc) (maxLocals := maxL) (ret := ret) hy ?_ ?_
  · intro args s m h hn
    obtain ⟨meth, c, h1, h2, h3, h4, h5, h6, -, -⟩ := Cond.code_spec hn (atoms_spec (ws := ws) h _ (by rw [hw]; exact List.mem_cons_self))
    exact ⟨meth, c, h1, h2, h3, h4, h5, h6⟩
  · intro p e s m args below meth c s₁ B hml hP _
    have hh0 : s₁.heap = s.heap := by rw [B.state]; rfl
    obtain ⟨t, a1, o, b1, b2, b3⟩ := body p e s m args below meth c s₁ B hml hP s₁ hh0 (Stand.of_body B)
    exact ⟨t, o, a1, b1, b2, ⟨b3.1, b3.2⟩⟩
theorem ct_intro {Y : Yx} {l : Launch} {y : MethodName} {cc : ByteArray} {nL : Nat} {rt : Option FieldType} {rm : Room} {args : List Value} {M : Mem} {Qm : Option Value → Mem → Prop} (hy : plainFor y = true) (hlen : (lg_sl args).length ≤ nL)
    (body : ∀ X : Cx, X.2.1 = l → OKX X Y y.cls cc nL rt rm → (Y.2.2.2.2 = true → Lay M) → WW X Y nL rm Qm M 0 0 0 (lv_args 0 args) [] M) : CT Y l y cc nL rt rm args M Qm := by
  unfold CT
  refine met_ofWF (cc := cc) (maxL := nL) (ret := rt) hy rfl ?_
  intro p e s m a below meth c s₁ B hml hv
  obtain ⟨rfl, hR, hSp⟩ := hv
  have hts := atoms_spec (ws := codeW y cc nL rt) B.pre
  have K := body (p, l, e, rm, s, m, args.toArray, below, meth, c) rfl ⟨B.exec, B.bytes, hml, findClass_of_methodNamed B.named, fun w hw => hts w (List.mem_cons_of_mem _ hw), hSp, B.returns, B.notSynchronized, rfl⟩ hR.2
  rw [lg_entry_eq]
  exact K _ s.heap [] (lv_entry args hlen) (fun _ _ _ => rfl) hR va_S.rf
/-- a weaker end -/
theorem ct_mono {Y : Yx} {l : Launch} {y : MethodName} {cc : ByteArray} {nL : Nat} {rt : Option FieldType} {rm : Room} {args : List Value} {M : Mem} {Q Q' : Option Value → Mem → Prop} (h : CT Y l y cc nL rt rm args M Q) (hq : ∀ v M', Q v M' → Q' v M') : CT Y l y cc nL rt rm args M Q' := by
  intro p e ha hc hk s m a below hf happ hP htr
  obtain ⟨k, o, h1, h2, h3, ⟨⟨v, M', e1, e2, e3⟩, hF⟩, h5⟩ := h p e ha hc hk s m a below hf happ hP htr
  exact ⟨k, o, h1, h2, h3, ⟨⟨v, M', e1, hq _ _ e2, e3⟩, hF⟩, h5⟩
/-- the kinds of old cells stay -/
def KP (M0 M : Mem) : Prop := ∀ a : Nat, 0 < a → M0 0 a ≠ 0 → M 0 a = M0 0 a
theorem kqO {M0 M : Mem} {a ci : Nat} (hk : KP M0 M) (q : 0 < a ∧ M0 0 a = kO ci) : 0 < a ∧ M 0 a = kO ci := ⟨q.1, kind_now hk q.1 q.2 (kO_pos _)⟩
theorem kqA {M0 M : Mem} {a t n : Nat} (hk : KP M0 M) (q : 0 < a ∧ M0 0 a = kA t n) : 0 < a ∧ M 0 a = kA t n := ⟨q.1, kind_now hk q.1 q.2 (kA_pos _ _)⟩
def QI (Q : Int → Mem → Prop) : Option Value → Mem → Prop := fun v M => ∃ r : Int, v = some (vI r) ∧ Q r M
def QL (Q : Int → Mem → Prop) : Option Value → Mem → Prop := fun v M => ∃ r : Int, v = some (vL r) ∧ Q r M
def QV (Q : Mem → Prop) : Option Value → Mem → Prop := fun v M => v = none ∧ Q M
def QA (b : Nat) (Q : Nat → Mem → Prop) : Option Value → Mem → Prop := fun v M => ∃ a : Nat, v = some (vR b a) ∧ Q a M
def QS (sa : Nat → Nat) (Q : Int → Mem → Prop) : Option Value → Mem → Prop := fun v M => ∃ r : Int, 0 < r ∧ v = some (vS sa r) ∧ Q r M
/-- how a call names its method: by its own class, by a nest mate -/
def CVw (own : String) (idx : Nat) (y : MethodName) (cc : ByteArray) (nL : Nat) (rt : Option FieldType) (np : Nat) : Prop :=
  Cond.methodLink own idx y ∈ gtbl ∧ Cond.instanceMethod y ∈ gtbl ∧ Cond.selects y.cls y y ∈ gtbl ∧ Cond.initialized y.cls ∈ gtbl ∧ Cond.code y cc nL rt ∈ gtbl ∧ (y.cls ≠ "java/lang/invoke/MethodHandle" ∧ y.cls ≠ "java/lang/invoke/VarHandle") ∧ (parseMethodDescriptor y.desc).map (fun d => d.parameters.length) = some np
def CSw (own : String) (idx : Nat) (y : MethodName) (cc : ByteArray) (nL : Nat) (rt : Option FieldType) (np : Nat) : Prop :=
  Cond.methodLink own idx y ∈ gtbl ∧ Cond.static y ∈ gtbl ∧ Cond.initialized y.cls ∈ gtbl ∧ Cond.code y cc nL rt ∈ gtbl ∧ (y.cls ≠ "java/lang/invoke/MethodHandle" ∧ y.cls ≠ "java/lang/invoke/VarHandle") ∧ (parseMethodDescriptor y.desc).map (fun d => d.parameters.length) = some np
def CNw (own : String) (idx : Nat) (y : MethodName) (cc : ByteArray) (nL : Nat) (rt : Option FieldType) (np : Nat) : Prop :=
  (∃ host : String, Cond.methodLinkNest own idx y host ∈ nestW) ∧ Cond.static y ∈ gtbl ∧ Cond.initialized y.cls ∈ gtbl ∧ Cond.code y cc nL rt ∈ gtbl ∧ (y.cls ≠ "java/lang/invoke/MethodHandle" ∧ y.cls ≠ "java/lang/invoke/VarHandle") ∧ (parseMethodDescriptor y.desc).map (fun d => d.parameters.length) = some np
theorem good_code {y : MethodName} {cc : ByteArray} {nL : Nat} {rt : Option FieldType} (h : Cond.code y cc nL rt ∈ gtbl) : GoodIn gtbl (codeW y cc nL rt) := by
  intro w hw
  rcases List.mem_cons.mp hw with rfl | hw
  · exact ⟨h, good_of_word (List.mem_filter.mp h).2⟩
  · exact ⟨hw, good_of_word (List.mem_filter.mp hw).2⟩
theorem good_app {a b : List Cond} (ha : ∀ w ∈ a, w ∈ gtbl) (hb : GoodIn gtbl b) : GoodIn gtbl (a ++ b) := by
  intro w hw
  rcases List.mem_append.mp hw with h | h
  · exact ⟨ha w h, good_of_word (List.mem_filter.mp (ha w h)).2⟩
  · exact hb w h
section CallRows
variable {X : Cx} {Y : Yx} {own : String} {cc : ByteArray} {nL : Nat} {rt : Option FieldType} {rm : Room} {Qm : Option Value → Mem → Prop} {M0 M : Mem} {n k pc pc' : Nat} {lv : List (Nat × Value)} {st : List Value}
variable {y : MethodName} {cc' : ByteArray} {nL' np idx : Nat} {rt' : Option FieldType} {rm' : Room} {Qc : Option Value → Mem → Prop}
theorem ww_run {as : Array Value} {st0 : List Value} {mc ms : Nat}
    (hrun : ∀ (ls : Array Slot) (H : Heap) (locs : List Loc), lv_has ls nL lv → (∀ a : Nat, 0 < a → M0 0 a ≠ 0 → M 0 a = M0 0 a) → Rz Y M H → va_S (frA Y) X.2.2.2.2.1.heap H locs → va_Run X.1 X.2.1 X.2.2.1 X.2.2.2.1 X.2.2.2.2.1 X.2.2.2.2.2.1 X.2.2.2.2.2.2.1 X.2.2.2.2.2.2.2.1 X.2.2.2.2.2.2.2.2.1 X.2.2.2.2.2.2.2.2.2 H locs n k mc ms (F0 X.2.2.2.2.2.1 pc ls st0) st (QC Y M Qc as) (frA Y))
    (kk : ∀ (v : Option Value) (M' : Mem), Qc v M' → WW X Y nL rm Qm M0 (n + mc) (k + ms) (pc + 3) lv (v.toList ++ st) M') : WW X Y nL rm Qm M0 n k pc lv st0 M := by
  intro ls H locs hl hk hR hS T hT Xs
  obtain ⟨v, st₀, t, T', L, h0, X', hL, e1, e2, ⟨⟨v', M', hv, hq, hkk, hR'⟩, hz, hkp⟩, go⟩ := hrun ls H locs hl hk hR hS T hT Xs
  cases hv
  rw [h0] at hz hkp
  obtain ⟨t2, a1, b1⟩ := kk v M' hq ls T'.heap (locs ++ L) hl (fun a q1 q2 => by rw [hkk a q1 (by rw [hk a q1 q2]; exact q2)]; exact hk a q1 q2) (by rw [e1]; exact hR')
    ⟨Nat.le_trans hS.1 (by rw [e1]; exact hz), fun q h1 h2 => by rw [e1, hkp q (Nat.lt_of_lt_of_le h1 hS.1) h2]; exact hS.2.1 q h1 h2, fun q hq => by
      rcases List.mem_append.mp hq with h | h
      · exact hS.2.2 q h
      · exact hL q h⟩ T' rfl X'
  exact ⟨t2, go t2 a1, b1⟩
theorem r_callV (hC : OKX X Y own cc nL rt rm) {a ci : Nat} {T : u_T} {N : Nat} {As : List Value} {st0 : List Value} (hw : CVw own idx y cc' nL' rt' np) (hci : classes[ci]? = some (y.cls, T, N)) (ha : 0 < a) (g : M0 0 a = kO ci) (hst : st0 = As.reverse ++ vR Y.1 a :: st) (hnp : As.length = np) (hrest : (st.map fun v => v.category).sum ≤ 8)
    (hroom : rm'.frames + 1 ≤ rm.frames ∧ 8 + (nL' + 11) + rm'.locals ≤ rm.locals) (hcell : n + rm'.cells ≤ rm.cells ∧ k + rm'.slots ≤ rm.slots) (hd : dec cc pc 3 pc' (.invokevirtual idx))
    (hm : KP M0 M → CT Y X.2.1 y cc' nL' rt' rm' (vR Y.1 a :: As) M Qc)
    (kk : ∀ (v : Option Value) (M' : Mem), Qc v M' → WW X Y nL rm Qm M0 (n + rm'.cells) (k + rm'.slots) pc' lv (v.toList ++ st) M') : WW X Y nL rm Qm M0 n k pc lv st0 M := by
  obtain ⟨p, l, e, R, s, m, args, below, meth, c⟩ := X
  obtain ⟨hx, hb, hml, hown, hts, hsp, hr, hlo, hrm⟩ := hC
  obtain ⟨hd, rfl⟩ := hd
  obtain ⟨w1, w2, w3, w4, w5, w6, w7⟩ := hw
  dsimp only at hrm hm
  subst hrm
  refine ww_run (as := (vR Y.1 a :: As).toArray) (mc := rm'.cells) (ms := rm'.slots) ?_ kk
  intro ls H locs hl hk hR hS
  have hg := kind_now hk ha g (kO_pos _)
  obtain ⟨cell, q1, q2, q3, q4⟩ := hR.1.2.1 a ci _ ha hg hci
  have hG : GoodIn gtbl (wsV own idx y.cls y (codeW y cc' nL' rt')) := good_app (fun w hw => by
    simp only [List.mem_cons, List.not_mem_nil, or_false] at hw
    rcases hw with rfl | rfl | rfl | rfl <;> assumption) (good_code w5)
  exact va_runV (Ts := gtbl) (As := As) (rest := st) ⟨hx, hb, hml, hown, hts⟩ (hm hk) (cwV np hts hG rfl rfl rfl ⟨rfl, w6.1, w6.2, w7⟩ hroom)
    ⟨ct_blind Y M _, ⟨cell, q1, by rw [q3]; rfl, by rw [q2]; exact (hsp.1.1 ci _ hci).2.1⟩, fun U hU hW => ⟨rfl, by rw [hU]; exact hR, sp_to hsp hS hU hW⟩⟩ rfl hnp hl.1 hst (lv_room hrest) hd hcell
theorem r_callS (hC : OKX X Y own cc nL rt rm) {As : List Value} {st0 : List Value} (hw : CSw own idx y cc' nL' rt' np) (hst : st0 = As.reverse ++ st) (hnp : As.length = np) (hrest : (st.map fun v => v.category).sum ≤ 8)
    (hroom : rm'.frames + 1 ≤ rm.frames ∧ 8 + (nL' + 11) + rm'.locals ≤ rm.locals) (hcell : n + rm'.cells ≤ rm.cells ∧ k + rm'.slots ≤ rm.slots) (hd : dec cc pc 3 pc' (.invokestatic idx))
    (hm : KP M0 M → CT Y X.2.1 y cc' nL' rt' rm' As M Qc)
    (kk : ∀ (v : Option Value) (M' : Mem), Qc v M' → WW X Y nL rm Qm M0 (n + rm'.cells) (k + rm'.slots) pc' lv (v.toList ++ st) M') : WW X Y nL rm Qm M0 n k pc lv st0 M := by
  obtain ⟨p, l, e, R, s, m, args, below, meth, c⟩ := X
  obtain ⟨hx, hb, hml, hown, hts, hsp, hr, hlo, hrm⟩ := hC
  obtain ⟨hd, rfl⟩ := hd
  obtain ⟨w1, w2, w3, w4, w5, w6⟩ := hw
  dsimp only at hrm hm
  subst hrm
  refine ww_run (as := As.toArray) (mc := rm'.cells) (ms := rm'.slots) ?_ kk
  intro ls H locs hl hk hR hS
  exact va_runS (Ts := gtbl) (As := As) (rest := st) ⟨hx, hb, hml, hown, hts⟩ (hm hk) ⟨callB_of np hts (good_code w4) rfl rfl rfl (hts _ w3) (hts _ w1) ⟨w5.1, w5.2, w6⟩ hroom, hts _ w2⟩
    ⟨ct_blind Y M _, fun U hU hW => ⟨rfl, by rw [hU]; exact hR, sp_to hsp hS hU hW⟩⟩ rfl hnp hl.1 hst (lv_room hrest) hd hcell
theorem r_callN (hC : OKX X Y own cc nL rt rm) {As : List Value} {st0 : List Value} (hw : CNw own idx y cc' nL' rt' np) (hst : st0 = As.reverse ++ st) (hnp : As.length = np) (hrest : (st.map fun v => v.category).sum ≤ 8)
    (hroom : rm'.frames + 1 ≤ rm.frames ∧ 8 + (nL' + 11) + rm'.locals ≤ rm.locals) (hcell : n + rm'.cells ≤ rm.cells ∧ k + rm'.slots ≤ rm.slots) (hd : dec cc pc 3 pc' (.invokestatic idx))
    (hm : KP M0 M → CT Y X.2.1 y cc' nL' rt' rm' As M Qc)
    (kk : ∀ (v : Option Value) (M' : Mem), Qc v M' → WW X Y nL rm Qm M0 (n + rm'.cells) (k + rm'.slots) pc' lv (v.toList ++ st) M') : WW X Y nL rm Qm M0 n k pc lv st0 M := by
  obtain ⟨p, l, e, R, s, m, args, below, meth, c⟩ := X
  obtain ⟨hx, hb, hml, hown, hts, hsp, hr, hlo, hrm⟩ := hC
  obtain ⟨hd, rfl⟩ := hd
  obtain ⟨⟨host, w1⟩, w2, w3, w4, w5, w6⟩ := hw
  dsimp only at hrm hm
  subst hrm
  refine ww_run (as := As.toArray) (mc := rm'.cells) (ms := rm'.slots) ?_ kk
  intro ls H locs hl hk hR hS
  exact va_runSN (Ts := gtbl) (host := host) (As := As) (rest := st) ⟨hx, hb, hml, hown, hts⟩ (hm hk) ⟨va_cnB np hts (good_code w4) rfl rfl rfl (hsp.2.2.2.1 _ w1) (hts _ w3) ⟨w5.1, w5.2, w6⟩ hroom, hts _ w2, trivial⟩
    ⟨ct_blind Y M _, fun U hU hW => ⟨rfl, by rw [hU]; exact hR, sp_to hsp hS hU hW⟩⟩ rfl hnp hl.1 hst (lv_room hrest) hd hcell
theorem let_elim {α : Type} {e : α} {f : α → Prop} {P : Prop} (h : LET e f) (k : ∀ x : α, e = x → f x → P) : P := k e rfl h
theorem lay_f {M0 : Mem} (hL : Lay M0) {a ci j add sub : Nat} {kd : Int} (q : 0 < a ∧ M0 0 a = kO ci) (hm : (j, add, sub, kd) ∈ fin ci) : 0 < a + add - sub ∧ M0 0 (a + add - sub) = kd := by
  obtain ⟨h1, h2, h3⟩ := hL.1 a ci j add sub kd q.1 q.2 hm
  exact ⟨by omega, h3⟩
theorem lay_a {M0 : Mem} (hL : Lay M0) {a t n i : Nat} (q : 0 < a ∧ M0 0 a = kA t n) (hn : n < 1000000) (ht : 4 ≤ t) (hi : i < n) : 0 < a + abase t + astr t * i ∧ M0 0 (a + abase t + astr t * i) = akd t := ⟨by have := q.1; omega, (hL.2 a t n i q.1 hn q.2 ht hi).2⟩
theorem inb_nat {z : Int} {n : Nat} (h : inb z n) : (bm z).toNat < n := by have := h.1; have := h.2; omega
end CallRows
