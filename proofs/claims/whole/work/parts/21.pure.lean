/-! WHAT BOTH SIDES COUNT, over the reference's flat row of numbers -/
abbrev Fl : Type := Nat → Int
def pMin (s : Fl) (p : Nat) : Int := s (20 + 6 * p)
def pKey (s : Fl) (p : Nat) : Int := s (21 + 6 * p)
def pLoud (s : Fl) (p : Nat) : Int := s (22 + 6 * p)
def pPla (s : Fl) (p : Nat) : Int := s (23 + 6 * p)
def pThi (s : Fl) (p : Nat) : Int := s (24 + 6 * p)
def pEff (s : Fl) (p : Nat) : Int := s (25 + 6 * p)
def car (s : Fl) (a b : Nat) : Nat := pop ((pThi s a).toNat ^^^ (pThi s b).toNat)
/-- what goes by ahead of a piece q behind l (the latest first), the interval behind v of them -/
def gp (s : Fl) (v q : Nat) : List Nat → Int
  | [] => 0
  | p :: l => if l.length + 1 = v then s 8 else (car s p q : Int) * s 6
def en (s : Fl) (v : Nat) : List Nat → Int
  | [] => 0
  | q :: l => en s v l + gp s v q l + pMin s q
def cr (s : Fl) : List Nat → Int
  | [] => 0
  | q :: l => cr s l + (match l with
    | [] => 0
    | p :: _ => (car s p q : Int))
def plays (s : Fl) (p i : Nat) : Bool := (pPla s p).toNat.testBit i
def mx (a b : Int) : Int := if a < b then b else a
def ti (s : Fl) (v i : Nat) : List Nat → Int
  | [] => 0
  | q :: l => if plays s q i then mx 0 (ti s v i l - gp s v q l * s 7) + pEff s q else mx 0 (ti s v i l - (gp s v q l + pMin s q) * s 7)
def mxn (f : Nat → Int) (a : Int) : Nat → Int
  | 0 => a
  | n + 1 => mx (mxn f a n) (f n)
def mt (s : Fl) (v : Nat) : List Nat → Int
  | [] => 0
  | q :: l => mxn (fun i => ti s v i (q :: l)) (mt s v l) 8
def stb : List Nat → Nat
  | [] => 0
  | q :: l => stb l ||| 2 ^ q
def hd : List Nat → Int
  | [] => -1
  | p :: _ => (p : Int)
def mS (s : Fl) (m : Nat) : Int := s (1200 + 4 * m)
def mA (s : Fl) (m : Nat) : Int := s (1201 + 4 * m)
def mB (s : Fl) (m : Nat) : Int := s (1202 + 4 * m)
def mM (s : Fl) (m : Nat) : Int := s (1203 + 4 * m)
def bkAt (s : Fl) (v n m q : Nat) (l : List Nat) : Bool :=
  if mS s m = 1 then
    (decide ((q : Int) = mA s m) || decide ((q : Int) = mB s m)) && ((stb l).testBit (if (q : Int) = mA s m then mB s m else mA s m).toNat && (decide (l.length = v) || !decide (hd l = if (q : Int) = mA s m then mB s m else mA s m)))
  else if (q : Int) = mA s m then
    if mS s m = 0 then decide (hd l = mB s m)
    else if mS s m = 2 then decide (mM s m < en s v (q :: l))
    else if mS s m = 3 then decide (l.length = 0)
    else if mS s m = 4 then decide (l.length + 1 = n)
    else if mS s m = 5 then (stb l).testBit (mB s m).toNat
    else if mS s m = 6 then decide (0 < v ∧ l.length = v)
    else decide (0 < v ∧ v ≤ l.length)
  else false
def bits (f : Nat → Bool) : Nat → Nat
  | 0 => 0
  | m + 1 => bits f m ||| (if f m then 2 ^ m else 0)
def bk (s : Fl) (v n : Nat) : List Nat → Nat
  | [] => 0
  | q :: l => bk s v n l ||| bits (fun m => bkAt s v n m q l) (s 2).toNat
def notTired (s : Fl) (v : Nat) (l : List Nat) : Prop := mt s v l ≤ s 9
def good (s : Fl) (v n : Nat) (l : List Nat) : Prop := mt s v l ≤ s 9 ∧ bk s v n l = 0
/-- texts -/
def jn (c x y : Int) : Int := if c = 43 then bm (x + y) else if c = 45 then bm (x - y) else if c = 42 then bm (x * y) else if c = 47 then (if y = 0 then 0 else iDiv x y) else if c = 60 then (if x < y then 1 else 0) else (if x = y then 1 else 0)
def evS (nm : Int → Int) (w v : Int) (st : List Int) : List Int :=
  if w = 0 then v :: st
  else if w = 1 then nm v :: st
  else if w = 2 then (match st with
    | x :: r => bm (-x) :: r
    | r => r)
  else if w = 3 then (match st with
    | y :: x :: r => jn v x y :: r
    | r => r)
  else (match st with
    | z :: y :: x :: r => (if x ≠ 0 then y else z) :: r
    | r => r)
def tN (s : Fl) (l : Nat) : Int := s (150 + 105 * l)
def tW (s : Fl) (l k : Nat) : Int := s (151 + 105 * l + 2 * k)
def tV (s : Fl) (l k : Nat) : Int := s (152 + 105 * l + 2 * k)
def ev (s : Fl) (l : Nat) (nm : Int → Int) : Nat → List Int
  | 0 => []
  | k + 1 => evS nm (tW s l k) (tV s l k) (ev s l nm k)
def txt (s : Fl) (l : Nat) (nm : Int → Int) (dflt : Int) : Int := if tN s l = 0 then dflt else (ev s l nm (tN s l).toNat).headD 0
def lK (s : Fl) (l : Nat) : Int := s (100 + 4 * l)
def lU (s : Fl) (l : Nat) : Int := s (101 + 4 * l)
def lD (s : Fl) (l : Nat) : Int := s (102 + 4 * l)
def lO (s : Fl) (l : Nat) : Int := s (103 + 4 * l)
def wy (k o : Int) : Int := if 6 < (if k < o then o - k else k - o) then 12 - (if k < o then o - k else k - o) else (if k < o then o - k else k - o)
def nmPair (s : Fl) (p q : Nat) (c : Int) : Int := if c = 97 then pLoud s p else if c = 98 then pLoud s q else if c = 107 then wy (pKey s p) (pKey s q) else (car s p q : Int)
def nmPlace (s : Fl) (v n q : Nat) (i : Nat) (c : Int) : Int := if c = 112 then (i : Int) else if c = 110 then (n : Int) else if c = 108 then pLoud s q else if c = 105 then (if i + 1 = n ∨ i + 1 = v then 1 else 0) else (if i = 0 ∨ i = v then 1 else 0)
/-- the end of the latest one of a key -/
def since (s : Fl) (v : Nat) (key : Int) : List Nat → Option Int
  | [] => none
  | p :: l => if pKey s p = key then some (en s v (p :: l)) else since s v key l
def tiMost (s : Fl) (v q : Nat) (l : List Nat) : Int := mxn (fun i => if plays s q i then ti s v i (q :: l) else 0) 0 8
def term (s : Fl) (v n l q : Nat) (L : List Nat) : Int :=
  if lK s l = 1 ∨ lK s l = 5 then (match L with
    | [] => 0
    | p :: r => if r.length + 1 = v then 0 else bm (txt s l (nmPair s p q) 0 - (if lK s l = 5 then (car s p q : Int) else 0)))
  else if lK s l = 2 then (match since s v (pKey s q) L with
    | none => 0
    | some e => txt s l (fun _ => en s v L + gp s v q L - e) (en s v L + gp s v q L - e))
  else if lK s l = 3 then txt s l (nmPlace s v n q L.length) 0
  else if lK s l = 4 then txt s l (fun _ => tiMost s v q L) (tiMost s v q L)
  else 0
def sm (s : Fl) (v n l : Nat) : List Nat → Int
  | [] => 0
  | q :: L => bm (sm s v n l L + term s v n l q L)
def by1 (s : Fl) (v n l : Nat) (L : List Nat) : Int := if lK s l = 6 then -(pop (bk s v n L) : Int) else sm s v n l L
def wgt (s : Fl) (l : Nat) : Int := lU s l * (2520 / lD s l)
def wsum (s : Fl) (v n : Nat) (L : List Nat) (on : Nat → Bool) : Nat → Int
  | 0 => 0
  | l + 1 => wsum s v n L on l + (if on l then by1 s v n l L * wgt s l else 0)
def isOn (s : Fl) (l : Nat) : Bool := decide (lO s l = 1)
def worth (s : Fl) (v n : Nat) (L : List Nat) : Int := wsum s v n L (isOn s) (s 1).toNat
/-- the row r up to place i, the latest first -/
def rl (r : Nat → Nat) : Nat → List Nat
  | 0 => []
  | i + 1 => r i :: rl r i
theorem rl_len (r : Nat → Nat) : ∀ i, (rl r i).length = i
  | 0 => rfl
  | i + 1 => by simp [rl, rl_len r i]
theorem rl_congr {r r' : Nat → Nat} : ∀ {i : Nat}, (∀ k, k < i → r k = r' k) → rl r i = rl r' i
  | 0, _ => rfl
  | i + 1, h => by rw [rl, rl, h i (by omega), rl_congr (fun k hk => h k (by omega))]
/-- all orders of a row of pieces, the first ones first -/
def ords : Nat → List Nat → List (List Nat)
  | 0, _ => [[]]
  | n + 1, L => L.flatMap fun x => (ords n (L.erase x)).map (x :: ·)
def lexLt : List Nat → List Nat → Prop
  | a :: r, b :: t => a < b ∨ (a = b ∧ lexLt r t)
  | _, _ => False
/-! WHAT HOLDS OF THE FLAT ROW -/
def nmI (k c : Int) : Int :=
  if k = 1 ∨ k = 5 then (if c = 97 then 0 else if c = 98 then 1 else if c = 107 then 2 else if c = 115 then 3 else -1)
  else if k = 2 then (if c = 109 then 0 else -1)
  else if k = 3 then (if c = 112 then 0 else if c = 110 then 1 else if c = 108 then 2 else if c = 105 then 3 else if c = 106 then 4 else -1)
  else if k = 4 then (if c = 116 then 0 else -1)
  else -1
/-- how high the pile stands behind so many steps; none, if it can't -/
def dpS (w : Int) (d : Nat) : Option Nat := if w = 0 ∨ w = 1 then some (d + 1) else if w = 2 then (if 1 ≤ d then some d else none) else if w = 3 then (if 2 ≤ d then some (d - 1) else none) else (if 3 ≤ d then some (d - 2) else none)
def dp (f : Nat → Int) : Nat → Option Nat
  | 0 => some 0
  | k + 1 => (dp f k).bind (dpS (f k))
def stepOk (k w v : Int) : Prop := (w = 0 ∧ 0 ≤ v ∧ v ≤ 99) ∨ (w = 1 ∧ 0 ≤ nmI k v) ∨ w = 2 ∨ (w = 3 ∧ (v = 42 ∨ v = 43 ∨ v = 45 ∨ v = 47 ∨ v = 60 ∨ v = 61)) ∨ w = 4
def TxOk (s : Fl) (l : Nat) : Prop := 0 ≤ tN s l ∧ tN s l ≤ 50 ∧ (∀ k : Nat, (k : Int) < tN s l → stepOk (lK s l) (tW s l k) (tV s l k)) ∧ (tN s l ≠ 0 → dp (tW s l) (tN s l).toNat = some 1)
def PieceOk (s : Fl) (p : Nat) : Prop := (1 ≤ pMin s p ∧ pMin s p ≤ 60) ∧ (0 ≤ pKey s p ∧ pKey s p ≤ 11) ∧ (0 ≤ pLoud s p ∧ pLoud s p ≤ 9) ∧ (0 ≤ pPla s p ∧ pPla s p ≤ 255) ∧ (0 ≤ pThi s p ∧ pThi s p ≤ 255) ∧ (0 ≤ pEff s p ∧ pEff s p ≤ 99)
def LikOk (s : Fl) (l : Nat) : Prop := (0 ≤ lK s l ∧ lK s l ≤ 6) ∧ (-9 ≤ lU s l ∧ lU s l ≤ 9) ∧ (1 ≤ lD s l ∧ lD s l ≤ 9) ∧ isB (lO s l) ∧ TxOk s l
def MustOk (s : Fl) (m : Nat) : Prop := (0 ≤ mS s m ∧ mS s m ≤ 7) ∧ (0 ≤ mA s m ∧ mA s m < s 0) ∧ (0 ≤ mB s m ∧ mB s m < s 0) ∧ mA s m ≠ mB s m ∧ (0 ≤ mM s m ∧ mM s m ≤ 999)
/-- a row of n pieces stands in f -/
def RowIn (s : Fl) (f : Nat → Int) (n : Nat) : Prop := (∀ i, i < n → 0 ≤ f i ∧ f i < s 0) ∧ ∀ i j, i < j → j < n → f i ≠ f j
def PastOk (s : Fl) (p : Nat) : Prop := (0 ≤ s (1240 + 27 * p)) ∧ (s (1240 + 27 * p) < s (1241 + 27 * p) ∧ s (1241 + 27 * p) ≤ 12) ∧ (s (1240 + 27 * p) < s (1254 + 27 * p) ∧ s (1254 + 27 * p) ≤ 12) ∧
  RowIn s (fun i => s (1242 + 27 * p + i)) (s (1241 + 27 * p)).toNat ∧ RowIn s (fun i => s (1255 + 27 * p + i)) (s (1254 + 27 * p)).toNat
def CntOk (s : Fl) : Prop := (0 ≤ s 0 ∧ s 0 ≤ 12) ∧ (0 ≤ s 1 ∧ s 1 ≤ 10) ∧ (0 ≤ s 2 ∧ s 2 ≤ 10) ∧ (0 ≤ s 3 ∧ s 3 ≤ 8) ∧ (0 ≤ s 4 ∧ s 4 ≤ 50) ∧ (0 ≤ s 5 ∧ s 5 ≤ 12)
def RulOk (s : Fl) : Prop := (0 ≤ s 6 ∧ s 6 ≤ 9) ∧ (0 ≤ s 7 ∧ s 7 ≤ 9) ∧ (0 ≤ s 8 ∧ s 8 ≤ 60) ∧ (0 ≤ s 9 ∧ s 9 ≤ 999)
def TapOk (s : Fl) : Prop := ∀ i : Nat, (i : Int) < s 4 → 0 ≤ s (1460 + i) ∧ s (1460 + i) ≤ 255
def FlOk (s : Fl) : Prop := CntOk s ∧ RulOk s ∧ (∀ p : Nat, (p : Int) < s 0 → PieceOk s p) ∧ (∀ l : Nat, (l : Int) < s 1 → LikOk s l) ∧ (∀ m : Nat, (m : Int) < s 2 → MustOk s m) ∧ (∀ p : Nat, (p : Int) < s 3 → PastOk s p) ∧ TapOk s
/-- the class's book at B holds the flat row -/
def cdOf (k w v : Int) : Int := if w = 0 then v else if w = 1 then 100 + nmI k v else if w = 2 then 326 else if w = 3 then 200 + v else 263
def BkPiece (B : Nat) (M : Mem) (s : Fl) (p : Nat) : Prop := M (B + 9 + p) 0 = pMin s p ∧ M (B + 9 + p) 1 = pKey s p ∧ M (B + 9 + p) 2 = pLoud s p ∧ M (B + 9 + p) 3 = pPla s p ∧ M (B + 9 + p) 4 = pThi s p ∧ M (B + 9 + p) 5 = pEff s p
def BkLik (B : Nat) (M : Mem) (s : Fl) (l : Nat) : Prop := M (B + 21 + 2 * l) 0 = lK s l ∧ M (B + 21 + 2 * l) 1 = lU s l ∧ M (B + 21 + 2 * l) 2 = lD s l ∧ M (B + 21 + 2 * l) 3 = wgt s l ∧ M (B + 21 + 2 * l) 4 = lO s l ∧ M (B + 21 + 2 * l) 5 = tN s l ∧ ∀ k : Nat, (k : Int) < tN s l → M (B + 22 + 2 * l) k = cdOf (lK s l) (tW s l k) (tV s l k)
def BkMust (B : Nat) (M : Mem) (s : Fl) (m : Nat) : Prop := M (B + 41 + m) 0 = mS s m ∧ M (B + 41 + m) 1 = mA s m ∧ M (B + 41 + m) 2 = mB s m ∧ M (B + 41 + m) 3 = mM s m
def BkPast (B : Nat) (M : Mem) (s : Fl) (p : Nat) : Prop := M (B + 51 + 4 * p) 1 = s (1241 + 27 * p) ∧ M (B + 51 + 4 * p) 2 = s (1240 + 27 * p) ∧ (∀ i : Nat, (i : Int) < s (1241 + 27 * p) → M (B + 52 + 4 * p) i = s (1242 + 27 * p + i)) ∧
  M (B + 53 + 4 * p) 1 = s (1254 + 27 * p) ∧ M (B + 53 + 4 * p) 2 = s (1240 + 27 * p) ∧ (∀ i : Nat, (i : Int) < s (1254 + 27 * p) → M (B + 54 + 4 * p) i = s (1255 + 27 * p + i))
def BkCnt (B : Nat) (M : Mem) (s : Fl) : Prop := M B 1 = s 0 ∧ M B 4 = s 1 ∧ M B 6 = s 2 ∧ M B 11 = s 3 ∧ M B 8 = s 4 ∧ M B 13 = s 5
def BkTap (B : Nat) (M : Mem) (s : Fl) : Prop := (∀ i : Nat, i < 50 → -128 ≤ M (B + 5) i ∧ M (B + 5) i < 128) ∧ ∀ i : Nat, (i : Int) < s 4 → s (1460 + i) = M (B + 5) i % 256
def Bk (B : Nat) (M : Mem) (s : Fl) : Prop := BkCnt B M s ∧ (∀ i, i < 4 → M (B + 2) i = s (6 + i)) ∧ (∀ p : Nat, (p : Int) < s 0 → BkPiece B M s p) ∧ (∀ l : Nat, (l : Int) < s 1 → BkLik B M s l) ∧ (∀ m : Nat, (m : Int) < s 2 → BkMust B M s m) ∧ (∀ p : Nat, (p : Int) < s 3 → BkPast B M s p) ∧ BkTap B M s ∧ (∀ i : Nat, (i : Int) < s 5 → M (B + 8) i = s (1510 + i))
/-- a book hangs on its own cells alone -/
theorem Bk.congr {B : Nat} {M M' : Mem} {s : Fl} (hs : CntOk s) (h : ∀ a, B ≤ a → a ≤ B + 82 → M' a = M a) (hb : Bk B M s) : Bk B M' s := by
  obtain ⟨⟨c1, c2, c3, c4, c5, c6⟩, hr, hp, hl, hm, hq, ht, hw⟩ := hb
  obtain ⟨n0, n1, n2, n3, n4, n5⟩ := hs
  refine ⟨?_, ?_, ?_, ?_, ?_, ?_, ?_, ?_⟩
  · unfold BkCnt
    rw [h B (by omega) (by omega)]
    exact ⟨c1, c2, c3, c4, c5, c6⟩
  · rw [h (B + 2) (by omega) (by omega)]
    exact hr
  · intro p hp'
    unfold BkPiece
    rw [h (B + 9 + p) (by omega) (by omega)]
    exact hp p hp'
  · intro l hl'
    unfold BkLik
    rw [h (B + 21 + 2 * l) (by omega) (by omega), h (B + 22 + 2 * l) (by omega) (by omega)]
    exact hl l hl'
  · intro m hm'
    unfold BkMust
    rw [h (B + 41 + m) (by omega) (by omega)]
    exact hm m hm'
  · intro p hp'
    unfold BkPast
    rw [h (B + 51 + 4 * p) (by omega) (by omega), h (B + 52 + 4 * p) (by omega) (by omega), h (B + 53 + 4 * p) (by omega) (by omega), h (B + 54 + 4 * p) (by omega) (by omega)]
    exact hq p hp'
  · unfold BkTap
    rw [h (B + 5) (by omega) (by omega)]
    exact ht
  · rw [h (B + 8) (by omega) (by omega)]
    exact hw
