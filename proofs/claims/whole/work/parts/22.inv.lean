/-! WHAT HOLDS BETWEEN CALLS -/
/-- the flat row without what rows of pieces don't hang on -/
def vw (s : Fl) : Fl := fun i => if i ≤ 2 ∨ (6 ≤ i ∧ i < 1240) then s i else 0
def mems (k : Nat) : Nat → List Nat
  | 0 => []
  | n + 1 => mems k n ++ (if k.testBit n then [n] else [])
abbrev Cand : Type := List Nat × Nat
def cwo (z : Fl) (n : Nat) (c : Cand) : Int := worth z c.2 n c.1.reverse
def goodb (z : Fl) (v n : Nat) (l : List Nat) : Bool := decide (mt z v l ≤ z 9) && decide (bk z v n l = 0)
def candsOf (z : Fl) (n : Nat) (A : List (List Nat)) (V : List Nat) : List Cand := (A.flatMap fun r => V.map fun v => (r, v)).filter fun c => goodb z c.2 n c.1.reverse
def cands (z : Fl) (k : Nat) : List Cand := candsOf z (pop k) (ords (pop k) (mems k 12)) (List.range (pop k))
def cLt (c d : Cand) : Prop := lexLt c.1 d.1 ∨ (c.1 = d.1 ∧ c.2 < d.2)
def IsBest (z : Fl) (n : Nat) (Ls : List Cand) (c : Cand) : Prop := c ∈ Ls ∧ ∀ d ∈ Ls, cwo z n d < cwo z n c ∨ (cwo z n d = cwo z n c ∧ (d = c ∨ cLt c d))
def cnt {α : Type} (p : α → Bool) : List α → Nat
  | [] => 0
  | a :: l => cnt p l + (if p a then 1 else 0)
/-- the pieces of c that stand where they do in all of Ls that are worth as much -/
def fixb (z : Fl) (n : Nat) (Ls : List Cand) (c : Cand) (i : Nat) : Bool := Ls.all fun d => !decide (cwo z n d = cwo z n c) || decide (d.1.getD i 0 = c.1.getD i 0)
def fixs (z : Fl) (n : Nat) (Ls : List Cand) (c : Cand) : Nat → Nat
  | 0 => 0
  | i + 1 => fixs z n Ls c i ||| (if fixb z n Ls c i then 2 ^ (c.1.getD i 0) else 0)
def SR (z : Fl) (n : Nat) (Ls : List Cand) (G E F W V : Int) (P : Nat → Int) : Prop :=
  G = (Ls.length : Int) ∧ (Ls = [] → E = 0 ∧ F = 0) ∧ ∀ c, IsBest z n Ls c → E = (cnt (fun d => decide (cwo z n d = cwo z n c)) Ls : Int) ∧ W = cwo z n c ∧ V = (c.2 : Int) ∧ (∀ i, i < n → P i = (c.1.getD i 0 : Nat)) ∧ F = (fixs z n Ls c n : Int)
def setIn (z : Fl) (k most : Nat) : Prop := k < 2 ^ (z 0).toNat ∧ 1 ≤ pop k ∧ pop k ≤ most
def SrHas (z : Fl) (k : Nat) (M : Mem) : Prop := M 103 5 = (pop k : Int) ∧ (∀ i, i < pop k → M 104 i = ((mems k 12).getD i 0 : Nat)) ∧ SR z (pop k) (cands z k) (M 103 6) (M 103 7) (M 103 8) (M 103 9) (M 105 2) (M 106)
def SeOk (z : Fl) (M : Mem) : Prop := isB (M 103 3) ∧ (M 103 3 ≠ 0 → ∃ k : Nat, M 103 4 = (k : Int) ∧ setIn z k 6 ∧ SrHas z k M)
/-- the fewest carried, by tables -/
def rmb (st j : Nat) : Nat := and_not st (2 ^ j)
def mnl (f : Nat → Int) (p : Nat → Bool) : Nat → Int
  | 0 => 1000000
  | n + 1 => if p n = true ∧ f n < mnl f p n then f n else mnl f p n
def fcs (z : Fl) (L : List Nat) : Nat → Nat → Nat → Int
  | 0, _, _ => 0
  | f + 1, st, i => if st = 0 then 0 else mnl (fun j => (car z (L.getD i 0) (L.getD j 0) : Int) + fcs z L f (rmb st j) j) (fun j => st.testBit j) L.length
def amn (f : Nat → Int) (p : Nat → Bool) : Nat → Option Nat
  | 0 => none
  | n + 1 => if p n then (match amn f p n with
    | none => some n
    | some b => if f n < f b then some n else some b) else amn f p n
def stepc (z : Fl) (L : List Nat) (last : Option Nat) (j : Nat) : Int := match last with
  | none => 0
  | some i => (car z (L.getD i 0) (L.getD j 0) : Int)
def ford (z : Fl) (L : List Nat) : Nat → Nat → Option Nat → List Nat
  | 0, _, _ => []
  | f + 1, st, last => match amn (fun j => stepc z L last j + fcs z L 12 (rmb st j) j) (fun j => st.testBit j) L.length with
    | none => []
    | some j => j :: ford z L f (rmb st j) (some j)
def fewCost (z : Fl) (k : Nat) : Int := mnl (fun j => fcs z (mems k 12) 12 (rmb (2 ^ pop k - 1) j) j) (fun _ => true) (pop k)
def fewOrd (z : Fl) (k : Nat) : List Nat := (ford z (mems k 12) (pop k) (2 ^ pop k - 1) none).map fun j => (mems k 12).getD j 0
def SsHas (z : Fl) (k : Nat) (M : Mem) : Prop := M 108 4 = fewCost z k ∧ ∀ i, i < pop k → M 109 i = ((fewOrd z k).getD i 0 : Nat)
def SsOk (z : Fl) (M : Mem) : Prop := isB (M 108 1) ∧ (M 108 1 ≠ 0 → ∃ k : Nat, M 108 2 = (k : Int) ∧ setIn z k 10 ∧ SsHas z k M)
/-- the image -/
def KpOk (t : Int) (M : Mem) : Prop := M 1 2 = M 125 2 ∧ 0 ≤ M 125 2 ∧ M 125 2 ≤ t ∧ ((M 1 1 = 0 ∧ M 125 2 = 0) ∨ (148 ≤ M 1 1 ∧ M 1 1 + 83 ≤ M 0 0 ∧ M 0 (M 1 1).toNat = kO 0 ∧ 0 < M 125 2 ∧ FlOk (M 127) ∧ Bk (M 1 1).toNat M (M 127)))
/-- rows made when first needed -/
def NwOk (M : Mem) : Prop := 148 ≤ M 0 0 ∧ (M 103 13 = 0 ∨ (148 ≤ M 103 13 ∧ M 103 13 < M 0 0 ∧ M 0 (M 103 13).toNat = kA 2 1024)) ∧ (M 108 7 = 0 ∨ (148 ≤ M 108 7 ∧ M 108 7 < M 0 0 ∧ M 0 (M 108 7).toNat = kA 1 10240)) ∧
  (M 1 1 = 0 ∨ M 103 13 < M 1 1 ∨ M 1 1 + 82 < M 103 13) ∧ (M 1 1 = 0 ∨ M 108 7 < M 1 1 ∨ M 1 1 + 82 < M 108 7) ∧ (M 103 13 = 0 ∨ M 103 13 ≠ M 108 7)
def ShOk1 (M : Mem) (k : Nat) : Prop := M (117 + 2 * k) 1 = M 144 k ∧ M (117 + 2 * k) 2 = M 145 k ∧ (M 144 k = 0 ∨ M 144 k = 8 ∨ M 144 k = 16 ∨ M 144 k = 32) ∧ 0 ≤ M 145 k ∧ M 145 k ≤ 24 ∧ ∀ i, i < 24 → M (118 + 2 * k) i = M 146 (24 * k + i) ∧ bm (M 146 (24 * k + i)) = M 146 (24 * k + i)
def ShOk (M : Mem) : Prop := ∀ k, k < 4 → ShOk1 M k
def VoOk (M : Mem) : Prop := M 114 1 = M 125 33 ∧ 0 ≤ M 125 33 ∧ M 125 33 ≤ 30 ∧ ∀ i : Nat, (i : Int) < M 125 33 → M 115 i = M 143 i
def ErOk (M : Mem) : Prop := ∀ k, M 86 k = M 128 k
/-- what stands ahead of a row is 0 -/
def WzOk (M : Mem) : Prop := M 94 0 = 0 ∧ M 95 0 = 0 ∧ M 96 0 = 0 ∧ M 97 0 = 0 ∧ M 98 0 = 0 ∧ (∀ p, p < 8 → M 99 p = 0) ∧ (∀ l, l < 10 → M 100 l = 0)
def Inv (t : Int) (M : Mem) : Prop := FlOk (M 126) ∧ Bk 2 M (M 126) ∧ KpOk t M ∧ NwOk M ∧ ShOk M ∧ VoOk M ∧ ErOk M ∧ SeOk (vw (M 126)) M ∧ SsOk (vw (M 126)) M ∧ WzOk M
/-- cells that are alike -/
def Fr (S : Nat → Prop) (M M' : Mem) : Prop := ∀ a, ¬ S a → M' a = M a
theorem Fr.rf {S : Nat → Prop} {M : Mem} : Fr S M M := fun _ _ => rfl
theorem Fr.tr {S S' T : Nat → Prop} {M M' M'' : Mem} (h : Fr S M M') (h' : Fr S' M' M'') (h1 : ∀ a, S a → T a) (h2 : ∀ a, S' a → T a) : Fr T M M'' := fun a ha => by rw [h' a (fun q => ha (h2 a q)), h a (fun q => ha (h1 a q))]
theorem Fr.up {S : Nat → Prop} {M : Mem} {k i : Nat} {v : Int} (h : S k) : Fr S M (up M k i v) := fun a ha => up_c (fun e => ha (e ▸ h))
theorem KpOk.congr {t : Int} {M M' : Mem} (h : KpOk t M) (h1 : M' 1 = M 1) (h0 : M' 0 = M 0) (h125 : M' 125 2 = M 125 2) (h127 : M' 127 = M 127) (hk : ∀ a, (M 1 1).toNat ≤ a → a ≤ (M 1 1).toNat + 82 → 148 ≤ a → M' a = M a) : KpOk t M' := by
  obtain ⟨q1, q2, q3, q4⟩ := h
  refine ⟨by rw [h1, h125]; exact q1, by rw [h125]; exact q2, by rw [h125]; exact q3, ?_⟩
  rw [h1, h0, h125, h127]
  rcases q4 with q4 | ⟨a1, a2, a3, a4, a5, a6⟩
  · exact Or.inl q4
  · exact Or.inr ⟨a1, a2, a3, a4, a5, a6.congr a5.1 (fun a r1 r2 => hk a r1 r2 (by omega))⟩
theorem NwOk.congr {M M' : Mem} (h : NwOk M) (h1 : M' 1 1 = M 1 1) (h0 : M' 0 = M 0) (h3 : M' 103 13 = M 103 13) (h8 : M' 108 7 = M 108 7) : NwOk M' := by
  unfold NwOk
  rw [h1, h0, h3, h8]
  exact h
theorem ShOk.congr {M M' : Mem} (h : ShOk M) (hc : ∀ a, 117 ≤ a → a ≤ 124 → M' a = M a) (h4 : M' 144 = M 144) (h5 : M' 145 = M 145) (h6 : M' 146 = M 146) : ShOk M' := by
  intro k hk
  unfold ShOk1
  rw [hc (117 + 2 * k) (by omega) (by omega), hc (118 + 2 * k) (by omega) (by omega), h4, h5, h6]
  exact h k hk
theorem VoOk.congr {M M' : Mem} (h : VoOk M) (h1 : M' 114 1 = M 114 1) (h2 : M' 125 33 = M 125 33) (h3 : M' 115 = M 115) (h4 : M' 143 = M 143) : VoOk M' := by
  unfold VoOk
  rw [h1, h2, h3, h4]
  exact h
theorem SrHas.congr {z : Fl} {k : Nat} {M M' : Mem} (h : SrHas z k M) (h1 : ∀ j, j ≠ 3 → j ≠ 13 → M' 103 j = M 103 j) (h2 : M' 104 = M 104) (h3 : M' 105 = M 105) (h4 : M' 106 = M 106) : SrHas z k M' := by
  unfold SrHas
  rw [h1 5 (by decide) (by decide), h1 6 (by decide) (by decide), h1 7 (by decide) (by decide), h1 8 (by decide) (by decide), h1 9 (by decide) (by decide), h2, h3, h4]
  exact h
theorem SeOk.congr {z : Fl} {M M' : Mem} (h : SeOk z M) (h1 : ∀ j, j ≠ 13 → M' 103 j = M 103 j) (h2 : M' 104 = M 104) (h3 : M' 105 = M 105) (h4 : M' 106 = M 106) : SeOk z M' := by
  obtain ⟨q1, q2⟩ := h
  refine ⟨by rw [h1 3 (by decide)]; exact q1, fun hn => ?_⟩
  rw [h1 3 (by decide)] at hn
  obtain ⟨k, a, b, c⟩ := q2 hn
  exact ⟨k, by rw [h1 4 (by decide)]; exact a, b, c.congr (fun j _ hj => h1 j hj) h2 h3 h4⟩
theorem SsHas.congr {z : Fl} {k : Nat} {M M' : Mem} (h : SsHas z k M) (h1 : M' 108 4 = M 108 4) (h2 : M' 109 = M 109) : SsHas z k M' := by
  unfold SsHas
  rw [h1, h2]
  exact h
theorem SsOk.congr {z : Fl} {M M' : Mem} (h : SsOk z M) (h1 : ∀ j, j ≠ 7 → M' 108 j = M 108 j) (h2 : M' 109 = M 109) : SsOk z M' := by
  obtain ⟨q1, q2⟩ := h
  refine ⟨by rw [h1 1 (by decide)]; exact q1, fun hn => ?_⟩
  rw [h1 1 (by decide)] at hn
  obtain ⟨k, a, b, c⟩ := q2 hn
  exact ⟨k, by rw [h1 2 (by decide)]; exact a, b, c.congr (h1 4 (by decide)) h2⟩
theorem SeOk.off {z : Fl} {M : Mem} (h : M 103 3 = 0) : SeOk z M := ⟨Or.inl h, fun q => absurd h q⟩
theorem SsOk.off {z : Fl} {M : Mem} (h : M 108 1 = 0) : SsOk z M := ⟨Or.inl h, fun q => absurd h q⟩
theorem WzOk.congr {M M' : Mem} (h : WzOk M) (hc : ∀ a, 94 ≤ a → a ≤ 100 → M' a = M a) : WzOk M' := by
  unfold WzOk
  rw [hc 94 (by decide) (by decide), hc 95 (by decide) (by decide), hc 96 (by decide) (by decide), hc 97 (by decide) (by decide), hc 98 (by decide) (by decide), hc 99 (by decide) (by decide), hc 100 (by decide) (by decide)]
  exact h
/-- calls that leave what lasts: scratch alone is written (the class's 87 .. 102, 107, 111 .. 113, 116; the reference's but for what lasts) -/
def scr (a : Nat) : Prop := a = 87 ∨ a = 88 ∨ a = 89 ∨ a = 90 ∨ a = 91 ∨ a = 92 ∨ a = 93 ∨ a = 101 ∨ a = 102 ∨ a = 107 ∨ (111 ≤ a ∧ a ≤ 113) ∨ a = 116 ∨ (129 ≤ a ∧ a ≤ 142) ∨ a = 147
/-- an error is told -/
def erk (k : Nat) (M : Mem) : Mem := up (up M 86 k (M 86 k + 1)) 128 k (M 128 k + 1)
theorem lf_error11 {k : Nat} {i : Int} (hi : i = (k : Int)) (h1 : 1 ≤ k) (h6 : k ≤ 6) {M : Mem} {Q : Int → Mem → Prop} (hQ : Q (-1000000 - (k : Int)) (up M 86 k (M 86 k + 1))) : wX11_error 1 i M Q := by
  subst hi
  unfold wX11_error
  rw [lf_within, if_pos (by rw [bm_nat (by omega), bm_id (z := 1) (by decide) (by decide), bm_id (z := 6) (by decide) (by decide)]; omega)]
  refine BR_f (by rw [bm1]; decide) ⟨inb_of rfl (by omega) (by decide), inb_of rfl (by omega) (by decide), ?_⟩
  rw [LET_eq, wr_up rfl (by omega), rd_at rfl (by omega)]
  exact hQ
theorem lf_error12 {k : Nat} {i : Int} (hi : i = (k : Int)) (h6 : k ≤ 6) {M : Mem} {Q : Int → Mem → Prop} (hQ : Q (-1000000 - (k : Int)) (up M 128 k (M 128 k + 1))) : wX12_error 125 i M Q := by
  subst hi
  unfold wX12_error
  refine ⟨inb_of rfl (by omega) (by decide), inb_of rfl (by omega) (by decide), ?_⟩
  rw [LET_eq, wr_up rfl (by omega), rd_at rfl (by omega)]
  exact hQ
/-- what lasts, lasts -/
theorem Inv.keep {t : Int} {M M' : Mem} (h : Inv t M) (hc : ∀ a, a ≤ 85 → M' a = M a) (hwz : WzOk M') (hc3 : ∀ j, M' 103 j = M 103 j) (h104 : M' 104 = M 104) (h105 : M' 105 = M 105) (h106 : M' 106 = M 106) (h108 : M' 108 = M 108) (h109 : M' 109 = M 109) (h114 : M' 114 1 = M 114 1) (h115 : M' 115 = M 115) (hsh : ∀ a, 117 ≤ a → a ≤ 124 → M' a = M a)
    (h2 : M' 125 2 = M 125 2) (h33 : M' 125 33 = M 125 33) (h126 : M' 126 = M 126) (h127 : M' 127 = M 127) (h143 : ∀ a, 143 ≤ a → a ≤ 146 → M' a = M a) (hbig : ∀ a, 148 ≤ a → M' a = M a) (her : ErOk M') : Inv t M' := by
  obtain ⟨i1, i2, i3, i4, i5, i6, i7, i8, i9, i10⟩ := h
  refine ⟨by rw [h126]; exact i1, ?_, ?_, ?_, ?_, ?_, her, ?_, ?_, ?_⟩
  · rw [h126]
    exact i2.congr i1.1 (fun a q1 q2 => hc a (by omega))
  · exact i3.congr (hc 1 (by decide)) (hc 0 (by decide)) h2 h127 (fun a _ _ q => hbig a q)
  · exact i4.congr (by rw [hc 1 (by decide)]) (hc 0 (by decide)) (hc3 13) (by rw [h108])
  · exact i5.congr hsh (h143 144 (by decide) (by decide)) (h143 145 (by decide) (by decide)) (h143 146 (by decide) (by decide))
  · exact i6.congr h114 h33 h115 (h143 143 (by decide) (by decide))
  · rw [h126]
    exact i8.congr (fun j _ => hc3 j) h104 h105 h106
  · rw [h126]
    exact i9.congr (fun j _ => by rw [h108]) h109
  · exact hwz
theorem dp_cg {f g : Nat → Int} : ∀ {n : Nat}, (∀ k, k < n → f k = g k) → dp f n = dp g n
  | 0, _ => rfl
  | n + 1, h => by rw [dp, dp, dp_cg (n := n) (fun k hk => h k (by omega)), h n (by omega)]
theorem PieceOk.cg {s s' : Fl} {p : Nat} (h : PieceOk s p) (e : ∀ i, 20 + 6 * p ≤ i → i < 26 + 6 * p → s' i = s i) : PieceOk s' p := by
  unfold PieceOk pMin pKey pLoud pPla pThi pEff at *
  rw [e (20 + 6 * p) (by omega) (by omega), e (21 + 6 * p) (by omega) (by omega), e (22 + 6 * p) (by omega) (by omega), e (23 + 6 * p) (by omega) (by omega), e (24 + 6 * p) (by omega) (by omega), e (25 + 6 * p) (by omega) (by omega)]
  exact h
theorem LikOk.cg {s s' : Fl} {l : Nat} (h : LikOk s l) (e : ∀ i, 100 + 4 * l ≤ i → i < 104 + 4 * l → s' i = s i) (e2 : ∀ i, 150 + 105 * l ≤ i → i < 255 + 105 * l → s' i = s i) : LikOk s' l := by
  obtain ⟨h1, h2, h3, h4, t1, t2, t3, t4⟩ := h
  have ek : lK s' l = lK s l := e _ (by omega) (by omega)
  have eu : lU s' l = lU s l := e _ (by omega) (by omega)
  have ed : lD s' l = lD s l := e _ (by omega) (by omega)
  have eo : lO s' l = lO s l := e _ (by omega) (by omega)
  have en : tN s' l = tN s l := e2 _ (by omega) (by omega)
  refine ⟨by rw [ek]; exact h1, by rw [eu]; exact h2, by rw [ed]; exact h3, by rw [eo]; exact h4, by rw [en]; exact t1, by rw [en]; exact t2, fun k hk => ?_, fun hn => ?_⟩
  · rw [en] at hk
    have ew : tW s' l k = tW s l k := e2 _ (by omega) (by omega)
    have evv : tV s' l k = tV s l k := e2 _ (by omega) (by omega)
    rw [ek, ew, evv]
    exact t3 k hk
  · rw [en] at hn ⊢
    rw [← t4 hn]
    exact dp_cg (fun k hk => e2 _ (by omega) (by omega))
theorem MustOk.cg {s s' : Fl} {m : Nat} (h : MustOk s m) (h0 : s 0 ≤ s' 0) (e : ∀ i, 1200 + 4 * m ≤ i → i < 1204 + 4 * m → s' i = s i) : MustOk s' m := by
  unfold MustOk mS mA mB mM at *
  rw [e (1200 + 4 * m) (by omega) (by omega), e (1201 + 4 * m) (by omega) (by omega), e (1202 + 4 * m) (by omega) (by omega), e (1203 + 4 * m) (by omega) (by omega)]
  omega
theorem RowIn.cg {s s' : Fl} {f f' : Nat → Int} {n : Nat} (h : RowIn s f n) (h0 : s 0 ≤ s' 0) (e : ∀ i, i < n → f' i = f i) : RowIn s' f' n := by
  refine ⟨fun i hi => ?_, fun i j hi hj => ?_⟩
  · have := h.1 i hi
    rw [e i hi]
    omega
  · rw [e i (by omega), e j hj]
    exact h.2 i j hi hj
theorem PastOk.cg {s s' : Fl} {p : Nat} (h : PastOk s p) (h0 : s 0 ≤ s' 0) (e : ∀ i, 1240 + 27 * p ≤ i → i < 1267 + 27 * p → s' i = s i) : PastOk s' p := by
  obtain ⟨h1, h2, h3, h4, h5⟩ := h
  unfold PastOk
  rw [e (1240 + 27 * p) (by omega) (by omega), e (1241 + 27 * p) (by omega) (by omega), e (1254 + 27 * p) (by omega) (by omega)]
  exact ⟨h1, h2, h3, h4.cg h0 (fun i hi => e _ (by omega) (by omega)), h5.cg h0 (fun i hi => e _ (by omega) (by omega))⟩
theorem TapOk.cg {s s' : Fl} (h : TapOk s) (h4 : s' 4 = s 4) (hm : s 4 ≤ 50) (e : ∀ i, 1460 ≤ i → i < 1510 → s' i = s i) : TapOk s' := by
  intro i hi
  rw [h4] at hi
  rw [e _ (by omega) (by omega)]
  exact h i hi
theorem BkPiece.cg {B p : Nat} {M M' : Mem} {s s' : Fl} (h : BkPiece B M s p) (hc : M' (B + 9 + p) = M (B + 9 + p)) (e : ∀ i, 20 + 6 * p ≤ i → i < 26 + 6 * p → s' i = s i) : BkPiece B M' s' p := by
  unfold BkPiece pMin pKey pLoud pPla pThi pEff at *
  rw [hc, e (20 + 6 * p) (by omega) (by omega), e (21 + 6 * p) (by omega) (by omega), e (22 + 6 * p) (by omega) (by omega), e (23 + 6 * p) (by omega) (by omega), e (24 + 6 * p) (by omega) (by omega), e (25 + 6 * p) (by omega) (by omega)]
  exact h
theorem BkLik.cg {B l : Nat} {M M' : Mem} {s s' : Fl} (h : BkLik B M s l) (hn : tN s l ≤ 50) (hc : M' (B + 21 + 2 * l) = M (B + 21 + 2 * l)) (hc2 : M' (B + 22 + 2 * l) = M (B + 22 + 2 * l)) (e : ∀ i, 100 + 4 * l ≤ i → i < 104 + 4 * l → s' i = s i) (e2 : ∀ i, 150 + 105 * l ≤ i → i < 255 + 105 * l → s' i = s i) : BkLik B M' s' l := by
  obtain ⟨h1, h2, h3, h4, h5, h6, h7⟩ := h
  have ek : lK s' l = lK s l := e _ (by omega) (by omega)
  have eu : lU s' l = lU s l := e _ (by omega) (by omega)
  have ed : lD s' l = lD s l := e _ (by omega) (by omega)
  have eo : lO s' l = lO s l := e _ (by omega) (by omega)
  have en : tN s' l = tN s l := e2 _ (by omega) (by omega)
  unfold BkLik wgt at *
  rw [hc, hc2, ek, eu, ed, eo, en]
  refine ⟨h1, h2, h3, h4, h5, h6, fun k hk => ?_⟩
  have ew : tW s' l k = tW s l k := e2 _ (by omega) (by omega)
  have evv : tV s' l k = tV s l k := e2 _ (by omega) (by omega)
  rw [ew, evv]
  exact h7 k hk
theorem BkMust.cg {B m : Nat} {M M' : Mem} {s s' : Fl} (h : BkMust B M s m) (hc : M' (B + 41 + m) = M (B + 41 + m)) (e : ∀ i, 1200 + 4 * m ≤ i → i < 1204 + 4 * m → s' i = s i) : BkMust B M' s' m := by
  unfold BkMust mS mA mB mM at *
  rw [hc, e (1200 + 4 * m) (by omega) (by omega), e (1201 + 4 * m) (by omega) (by omega), e (1202 + 4 * m) (by omega) (by omega), e (1203 + 4 * m) (by omega) (by omega)]
  exact h
theorem BkPast.cg {B p : Nat} {M M' : Mem} {s s' : Fl} (h : BkPast B M s p) (hn : s (1241 + 27 * p) ≤ 12 ∧ s (1254 + 27 * p) ≤ 12) (hc : ∀ a, B + 51 + 4 * p ≤ a → a ≤ B + 54 + 4 * p → M' a = M a) (e : ∀ i, 1240 + 27 * p ≤ i → i < 1267 + 27 * p → s' i = s i) : BkPast B M' s' p := by
  obtain ⟨h1, h2, h3, h4, h5, h6⟩ := h
  unfold BkPast
  rw [hc (B + 51 + 4 * p) (by omega) (by omega), hc (B + 52 + 4 * p) (by omega) (by omega), hc (B + 53 + 4 * p) (by omega) (by omega), hc (B + 54 + 4 * p) (by omega) (by omega), e (1240 + 27 * p) (by omega) (by omega), e (1241 + 27 * p) (by omega) (by omega), e (1254 + 27 * p) (by omega) (by omega)]
  refine ⟨h1, h2, fun i hi => ?_, h4, h5, fun i hi => ?_⟩
  · rw [e _ (by omega) (by omega)]
    exact h3 i hi
  · rw [e _ (by omega) (by omega)]
    exact h6 i hi
theorem Inv.mono {t t' : Int} {M : Mem} (h : Inv t M) (ht : t ≤ t') : Inv t' M := by
  obtain ⟨i1, i2, ⟨q1, q2, q3, q4⟩, i4, i5, i6, i7, i8, i9, i10⟩ := h
  exact ⟨i1, i2, ⟨q1, q2, by omega, q4⟩, i4, i5, i6, i7, i8, i9, i10⟩
theorem Inv.wz {t : Int} {M : Mem} (h : Inv t M) : WzOk M := h.2.2.2.2.2.2.2.2.2
theorem Inv.er {t : Int} {M : Mem} {k : Nat} (h : Inv t M) : Inv t (erk k M) := by
  have e : ∀ a, a ≠ 86 → a ≠ 128 → erk k M a = M a := fun a h1 h2 => by unfold erk; rw [up_c h2, up_c h1]
  refine h.keep (fun a ha => e a (by omega) (by omega)) ?_ (fun j => by rw [e 103 (by decide) (by decide)]) (e _ (by decide) (by decide)) (e _ (by decide) (by decide)) (e _ (by decide) (by decide)) (e _ (by decide) (by decide)) (e _ (by decide) (by decide)) (by rw [e 114 (by decide) (by decide)]) (e _ (by decide) (by decide)) (fun a q1 q2 => e a (by omega) (by omega))
    (by rw [e 125 (by decide) (by decide)]) (by rw [e 125 (by decide) (by decide)]) (e _ (by decide) (by decide)) (e _ (by decide) (by decide)) (fun a q1 q2 => e a (by omega) (by omega)) (fun a q1 => e a (by omega) (by omega)) ?_
  · exact h.wz.congr (fun a q1 q2 => e a (by omega) (by omega))
  · intro j
    have h7 : ErOk M := h.2.2.2.2.2.2.1
    unfold erk
    rw [up_c (a := 86) (k := 128) (by decide), up_k, up_k, h7 k]
    split
    · rfl
    · exact h7 j
/-- a call of the class, then the same of the reference: the same answer, what holds between calls holds again -/
def Step (t : Int) (M : Mem) (A B : Mem → (Int → Mem → Prop) → Prop) : Prop := ∀ Q1 : Int → Mem → Prop, (∀ r M1, (∀ Q2 : Int → Mem → Prop, (∀ r2 M2, bm r = bm r2 → Inv (t + 1) M2 → Q2 r2 M2) → B M1 Q2) → Q1 r M1) → A M Q1
def StepL (t : Int) (M : Mem) (A B : Mem → (Int → Mem → Prop) → Prop) : Prop := ∀ Q1 : Int → Mem → Prop, (∀ r M1, (∀ Q2 : Int → Mem → Prop, (∀ r2 M2, bl r = bl r2 → Inv (t + 1) M2 → Q2 r2 M2) → B M1 Q2) → Q1 r M1) → A M Q1
/-- an error on both sides -/
theorem st_err {t : Int} {M : Mem} {k : Nat} {i : Int} (hI : Inv t M) (hi : i = (k : Int)) (h6 : k ≤ 6) {Q2 : Int → Mem → Prop} (hQ : ∀ r2 M2, bm (-1000000 - (k : Int)) = bm r2 → Inv (t + 1) M2 → Q2 r2 M2) : wX12_error 125 i (up M 86 k (M 86 k + 1)) Q2 := by
  refine lf_error12 hi h6 (hQ _ _ rfl ?_)
  have e : up (up M 86 k (M 86 k + 1)) 128 k (up M 86 k (M 86 k + 1) 128 k + 1) = erk k M := by unfold erk; rw [up_c (a := 128) (k := 86) (by decide)]
  rw [e]
  exact (hI.er).mono (by omega)
