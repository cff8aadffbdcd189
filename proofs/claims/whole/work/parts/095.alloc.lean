/-! NEW CELLS, REFERENCES THAT MAY BE NULL, a new ground for what is known of kinds -/
def QT (sa : Nat → Nat) (Q : Int → Mem → Prop) : Option Value → Mem → Prop := fun v M => ∃ r : Int, isS r ∧ v = some (vS sa r) ∧ Q r M
/-- a new cell of a kind: its number is M 0 0 -/
def nx (M : Mem) : Nat := (M 0 0).toNat
def al (M : Mem) (kd : Int) : Mem := fun a j => if a = 0 then (if j = 0 then M 0 0 + 1 else if j = nx M then kd else M 0 j) else if a = nx M then 0 else M a j
theorem W_mono {p : Program} {l : Launch} {e : Env} {R : Room} {s : State} {m : MethodId} {args : Array Value} {below : List Frame} {meth : Method} {c : Code} {H : Heap} {locs : List Loc} {n k : Nat} {Q Q' : State → Prop} {g : JFrame} (hq : ∀ t, Q t → Q' t) (h : W p l e R s m args below meth c H locs n k Q g) : W p l e R s m args below meth c H locs n k Q' g := by
  intro T hT X
  obtain ⟨t, a, b⟩ := h T hT X
  exact ⟨t, a, hq t b⟩
section AllocRows
variable {X : Cx} {Y : Yx} {own : String} {cc : ByteArray} {nL : Nat} {rt : Option FieldType} {rm : Room} {Qm : Option Value → Mem → Prop} {M0 M : Mem} {n k pc pc' : Nat} {lv : List (Nat × Value)} {st : List Value}
theorem r_base (kk : KP M0 M → (Y.2.2.2.2 = true → Lay M) → WW X Y nL rm Qm M n k pc lv st M) : WW X Y nL rm Qm M0 n k pc lv st M := by
  intro ls H locs hl hk hR hS
  refine W_mono ?_ (kk hk hR.2 ls H locs hl (fun _ _ _ => rfl) hR hS)
  rintro t ⟨o, h1, h2, ⟨⟨v, M', e1, e2, e3, e4⟩, hF⟩, h4⟩
  exact ⟨o, h1, h2, ⟨⟨v, M', e1, e2, fun a q1 q2 => by rw [e3 a q1 (by rw [hk a q1 q2]; exact q2)]; exact hk a q1 q2, e4⟩, hF⟩, h4⟩
theorem rd_new {Y : Yx} {M : Mem} {H H' : Heap} {kd : Int} (hR : Rd Y M H) (hkd : kd ≠ 0) (hz : H'.size = H.size + 1) (ho : ∀ p : Nat, p < H.size → H'[p]? = H[p]?)
    (hob : ∀ (ci : Nat) (q : vw_C), kd = kO ci → classes[ci]? = some q → t_OB H.size (Y.2.1.1 ci) q.2.2 (Y.2.1.2 ci) H' (fun j => fv Y.1 Y.2.2.1 (ftc ci j) 0))
    (har : ∀ (t n : Nat), n < 1000000 → kd = kA t n → H'[H.size]? = some (arrV (Y.2.2.2.1 t) n (fun _ => av Y.1 t 0))) : Rd Y (al M kd) H' := by
  obtain ⟨⟨h1, h2, h3⟩, h4, h5⟩ := hR
  have hnx : 0 < nx M := by unfold nx; omega
  have hsz : H.size = Y.1 + nx M := h2
  have e00 : al M kd 0 0 = M 0 0 + 1 := by simp [al]
  have e0 : ∀ j : Nat, 0 < j → al M kd 0 j = if j = nx M then kd else M 0 j := fun j hj => by
    simp only [al, if_true]
    rw [if_neg (by omega)]
  have ea : ∀ a j : Nat, 0 < a → a ≠ nx M → al M kd a j = M a j := fun a j h h' => by simp only [al]; rw [if_neg (by omega), if_neg h']
  have en : ∀ j : Nat, al M kd (nx M) j = 0 := fun j => by simp only [al]; rw [if_neg (by omega)]; simp
  refine ⟨⟨by rw [e00]; omega, by rw [e00, hz, hsz]; unfold nx; omega, ?_⟩, ?_, ?_⟩
  · intro a ha
    rw [e00] at ha
    have : nx M < a := by unfold nx; omega
    rw [e0 a (by omega), if_neg (by omega)]
    exact h3 a (by unfold nx at this; omega)
  · intro a ci q ha hc hq
    rw [e0 a ha] at hc
    by_cases hax : a = nx M
    · subst hax
      rw [if_pos rfl] at hc
      rw [← hsz]
      exact (hob ci q hc hq).to (fun j _ => by rw [en])
    · rw [if_neg hax] at hc
      have hlt : a < nx M := by
        rcases Nat.lt_or_ge a (nx M) with h | h
        · exact h
        · exact absurd (hc.symm.trans (h3 a h)) (kO_pos ci)
      exact ((h4 a ci q ha hc hq).kept (ho _ (by omega))).to (fun j _ => by rw [ea a j ha hax])
  · intro a t n ha hn hc
    rw [e0 a ha] at hc
    by_cases hax : a = nx M
    · subst hax
      rw [if_pos rfl] at hc
      rw [← hsz, har t n hn hc]
      congr 2
      funext j
      rw [en]
    · rw [if_neg hax] at hc
      have hlt : a < nx M := by
        rcases Nat.lt_or_ge a (nx M) with h | h
        · exact h
        · exact absurd (hc.symm.trans (h3 a h)) (kA_pos t n)
      rw [ho _ (by omega), h5 a t n ha hn hc]
      congr 2
      funext j
      rw [ea a j ha hax]
theorem al_kind {M : Mem} {kd : Int} {a : Nat} (ha : 0 < a) (h : M 0 a ≠ 0) (hfree : ∀ k : Nat, nx M ≤ k → M 0 k = 0) : al M kd 0 a = M 0 a := by
  simp only [al, if_true]
  rw [if_neg (by omega), if_neg]
  intro e
  exact h (hfree a (by omega))
/-- cells that are no cells of cells leave the others where they lie -/
theorem lay_new {M : Mem} {t n : Nat} (hL : Lay M) (ht : t < 4) (hn : n < 1000000) (hp : 0 < nx M) (hfree : ∀ k : Nat, nx M ≤ k → M 0 k = 0) : Lay (al M (kA t n)) := by
  have e0 : ∀ j : Nat, 0 < j → al M (kA t n) 0 j = if j = nx M then kA t n else M 0 j := fun j hj => by
    simp only [al, if_true]
    rw [if_neg (by omega)]
  have ea : ∀ a j : Nat, 0 < a → a ≠ nx M → al M (kA t n) a j = M a j := fun a j h h' => by simp only [al]; rw [if_neg (by omega), if_neg h']
  refine ⟨?_, ?_⟩
  · intro a c i add sub kd ha hc hm
    rw [e0 a ha] at hc
    have hc13 : c < 13 := by
      rcases Nat.lt_or_ge c 13 with h | h
      · exact h
      · obtain ⟨d, rfl⟩ : ∃ d, c = d + 13 := ⟨c - 13, by omega⟩
        simp [fin] at hm
    by_cases hax : a = nx M
    · rw [if_pos hax] at hc
      exact absurd hc.symm (kO_kA (by omega))
    · rw [if_neg hax] at hc
      obtain ⟨q1, q2, q3⟩ := hL.1 a c i add sub kd ha hc hm
      refine ⟨q1, by rw [ea a i ha hax]; exact q2, ?_⟩
      rw [e0 _ (by omega), if_neg]
      · exact q3
      · intro e
        rw [e, hfree _ (Nat.le_refl _)] at q3
        have hkd : kd ≠ 0 := by
          have : ∀ c, c < 13 → (fin c).all (fun e => e.2.2.2 != 0) = true := by decide +kernel
          have := List.all_eq_true.mp (this c hc13) _ hm
          simpa using this
        exact hkd q3.symm
  · intro a t' n' i ha hn' hc ht' hi
    rw [e0 a ha] at hc
    by_cases hax : a = nx M
    · rw [if_pos hax] at hc
      obtain ⟨rfl, rfl⟩ := kA_inj hn hn' hc
      omega
    · rw [if_neg hax] at hc
      obtain ⟨q2, q3⟩ := hL.2 a t' n' i ha hn' hc ht' hi
      refine ⟨by rw [ea a i ha hax]; exact q2, ?_⟩
      rw [e0 _ (by omega), if_neg]
      · exact q3
      · intro e
        rw [e, hfree _ (Nat.le_refl _)] at q3
        have : akd t' ≠ 0 := by
          unfold akd
          split <;> exact kO_pos _
        exact this q3.symm
/-- a row of numbers is made -/
theorem r_newarr (hC : OKX X Y own cc nL rt rm) {t len : Nat} {at_ : ArrayType} {z : Int} (ht : t < 4) (hat : newarray.typeOf at_ = aty t) (hw : Cond.arrayClass (aty t) ∈ gtbl) (hz : z = (len : Int)) (hlen : len < 1000000) (hby : len * componentBytes (aty t) ≤ 536870912) (hcell : n + 1 ≤ rm.cells ∧ k + len ≤ rm.slots) (hd : dec cc pc 2 pc' (.newarray at_))
    (kk : WW X Y nL rm Qm M0 (n + 1) (k + len) pc' lv (vR Y.1 (nx M) :: st) (al M (kA t len))) : WW X Y nL rm Qm M0 n k pc lv (vI z :: st) M := by
  obtain ⟨p, l, e, R, s, m, args, below, meth, c⟩ := X
  obtain ⟨hx, hb, hml, hown, hts, hsp, hr, hlo, hrm⟩ := hC
  obtain ⟨hd, rfl⟩ := hd
  dsimp only at hrm
  subst hrm
  subst hz
  intro ls H locs hl hk hR hS
  have hbm : bm (len : Int) = (len : Int) := bm_id (by omega) (by omega)
  have hcl : (Int32.ofInt (len : Int)).toNatClampNeg = len := by rw [cl_bm (by omega), hbm]; omega
  have hsz := hR.1.1.2.1
  have hpos : 0 < nx M := by have := hR.1.1.1; unfold nx; omega
  refine va_newaK hx hb (by rw [hat]; exact hts _ hw) rfl hd (n := Int32.ofInt (len : Int)) (N := len) rfl (by rw [lt0_bm]; omega) hcl (by rw [hat]; exact hby) hcell.1 hcell.2 rfl fun H' cA e1 z1 o1 hAr hNm => ?_
  rw [hat] at e1 hNm
  have hcA : cA = Y.2.2.2.1 t := by
    have h2 := (tys_at hsp.1 t (by omega)).2
    rcases (show t = 0 ∨ t = 1 ∨ t = 2 ∨ t = 3 by omega) with rfl | rfl | rfl | rfl <;> exact Option.some.inj (hNm.symm.trans h2)
  subst hcA
  have hdv : (fun _ : Nat => defaultValue (aty t)) = (fun _ => av Y.1 t 0) := by
    rcases (show t = 0 ∨ t = 1 ∨ t = 2 ∨ t = 3 by omega) with rfl | rfl | rfl | rfl <;> rfl
  rw [hdv] at e1
  have hRd : Rd Y (al M (kA t len)) H' := rd_new hR.1 (kA_pos _ _) z1 o1 (fun ci q h1 h2 => absurd h1.symm (kO_kA (by have := ci13 h2; omega))) (fun t' n' h1 h2 => by
    obtain ⟨rfl, rfl⟩ := kA_inj hlen h1 h2
    exact e1)
  have := kk ls H' locs hl (fun a h1 h2 => by rw [al_kind h1 (by rw [hk a h1 h2]; exact h2) hR.1.1.2.2]; exact hk a h1 h2) ⟨hRd, fun hF => lay_new (hR.2 hF) ht hlen hpos hR.1.1.2.2⟩ ⟨by have := hS.1; omega, fun x h1 h2 => (o1 x (Nat.lt_of_lt_of_le h1 hS.1)).trans (hS.2.1 x h1 h2), hS.2.2⟩
  rw [hsz]
  exact this
theorem r_putN (hC : OKX X Y own cc nL rt rm) {idx ci j a b : Nat} {ty : FieldType} (hb : 0 < b) (hf : FP own idx ci j ty) (ht : ftc ci j = 2) (hty : (∃ c, ty = .object c) ∨ ∃ t, ty = .array t) (ha : 0 < a) (g : M0 0 a = kO ci) (hd : dec cc pc 3 pc' (.putfield idx))
    (kk : WW X Y nL rm Qm M0 n k pc' lv st (up M a j (b : Int))) : WW X Y nL rm Qm M0 n k pc lv (vR Y.1 b :: vR Y.1 a :: st) M := by
  have hv : fv Y.1 Y.2.2.1 2 (b : Int) = vR Y.1 b := vN_R hb rfl
  have := r_putV (k := k) (n := n) (lv := lv) (st := st) (M := M) (Qm := Qm) (z := (b : Int)) hC hf (by rw [ht, hv]; rcases hty with ⟨c, rfl⟩ | ⟨t, rfl⟩ <;> rfl) (by rw [ht, hv]; rcases hty with ⟨c, rfl⟩ | ⟨t, rfl⟩ <;> rfl) ha g hd kk
  rw [ht, hv] at this
  exact this
end AllocRows
section LateRows
variable {X : Cx} {Y : Yx} {own : String} {cc : ByteArray} {nL : Nat} {rt : Option FieldType} {rm : Room} {Qm : Option Value → Mem → Prop} {M0 M : Mem} {n k pc pc' : Nat} {lv : List (Nat × Value)} {st : List Value}
variable {y : MethodName} {cc' : ByteArray} {nL' np idx : Nat} {rt' : Option FieldType} {rm' : Room} {Qc : Option Value → Mem → Prop}
theorem r_widen {n' k' : Nat} (h1 : n ≤ n') (h2 : k ≤ k') (kk : WW X Y nL rm Qm M0 n' k' pc lv st M) : WW X Y nL rm Qm M0 n k pc lv st M := fun ls H locs hl hk hR hS => W.widen h1 h2 (kk ls H locs hl hk hR hS)
/-- a text's own method -/
theorem r_callT (hC : OKX X Y own cc nL rt rm) {z : Int} {As : List Value} {st0 : List Value} (hz : isS z) (hw : CVw own idx y cc' nL' rt' np) (hcls : y.cls = "java/lang/String") (hst : st0 = As.reverse ++ vS Y.2.2.1 z :: st) (hnp : As.length = np) (hrest : (st.map fun v => v.category).sum ≤ 8)
    (hroom : rm'.frames + 1 ≤ rm.frames ∧ 8 + (nL' + 11) + rm'.locals ≤ rm.locals) (hcell : n + rm'.cells ≤ rm.cells ∧ k + rm'.slots ≤ rm.slots) (hd : dec cc pc 3 pc' (.invokevirtual idx))
    (hm : KP M0 M → CT Y X.2.1 y cc' nL' rt' rm' (vS Y.2.2.1 z :: As) M Qc)
    (kk : ∀ (v : Option Value) (M' : Mem), Qc v M' → WW X Y nL rm Qm M0 (n + rm'.cells) (k + rm'.slots) pc' lv (v.toList ++ st) M') : WW X Y nL rm Qm M0 n k pc lv st0 M := by
  obtain ⟨p, l, e, R, s, m, args, below, meth, c⟩ := X
  obtain ⟨hx, hb, hml, hown, hts, hsp, hr, hlo, hrm⟩ := hC
  obtain ⟨hd, rfl⟩ := hd
  obtain ⟨w1, w2, w3, w4, w5, w6, w7⟩ := hw
  dsimp only at hrm hm
  subst hrm
  have hz1 := hz.1
  have hz2 := hz.2
  rw [vS_R hz] at hst hm
  refine ww_run (as := (.ref (Y.2.2.1 (z.toNat - 1 + 1)) :: As).toArray) (mc := rm'.cells) (ms := rm'.slots) ?_ kk
  intro ls H locs hl hk hR hS
  have hG : GoodIn gtbl (wsV own idx y.cls y (codeW y cc' nL' rt')) := good_app (fun w hw => by
    simp only [List.mem_cons, List.not_mem_nil, or_false] at hw
    rcases hw with rfl | rfl | rfl | rfl <;> assumption) (good_code w5)
  have hrv := vk_recv (i := z.toNat - 1) hsp.2.2.2.2.2.1 (by omega) hS
  rw [← hcls] at hrv
  exact va_runV (Ts := gtbl) (As := As) (rest := st) ⟨hx, hb, hml, hown, hts⟩ (hm hk) (cwV np hts hG rfl rfl rfl ⟨rfl, w6.1, w6.2, w7⟩ hroom)
    ⟨ct_blind Y M _, hrv, fun U hU hW => ⟨rfl, by rw [hU]; exact hR, sp_to hsp hS hU hW⟩⟩ rfl hnp hl.1 hst (lv_room hrest) hd hcell
end LateRows
