/-! THE WORLD AS NUMBERS. A cell of the world is a number k (its address is b + k); what it holds is M k 0, M k 1 ..; M 0 k is the kind of the cell k, M 0 0 the number of the next cell. -/
abbrev Mem : Type := Nat → Nat → Int
def bm (z : Int) : Int := (Int32.ofInt z).toInt
def bl (z : Int) : Int := (Int64.ofInt z).toInt
def vI (z : Int) : Value := .int (Int32.ofInt z)
def vL (z : Int) : Value := .long (Int64.ofInt z)
def vR (b k : Nat) : Value := .ref (b + k)
def vN (b : Nat) (z : Int) : Value := if z = 0 then .null else .ref (b + z.toNat)
def vS (sa : Nat → Nat) (z : Int) : Value := if z = 0 then .null else .ref (sa z.toNat)
/-- the kinds: objects of the class ci; rows of a type t, of length n -/
def kO (ci : Nat) : Int := (ci : Int) + 1
def kA (t n : Nat) : Int := 1000000 * ((t : Int) + 1) + (n : Int)
abbrev classes : List vw_C := [(RX0, TX0, 14), (RX1, TX1, 7), (RX2, TX2, 4), (RX3, TX3, 6), (RX4, TX4, 8), (RX5, TX5, 3), (RX6, TX6, 14), (RX7, TX7, 8), (RX8, TX8, 3), (RX9, TX9, 7), (RX10, TX10, 15), (RX11, TX11, 13), (RX12, TX12, 40)]
/-- what a field is: 0 a number (or a truth value), 1 a long, 2 a reference to a cell, 3 a text -/
def ftc (ci j : Nat) : Nat := match (match ci with | 0 => tyX0 j | 1 => tyX1 j | 2 => tyX2 j | 3 => tyX3 j | 4 => tyX4 j | 5 => tyX5 j | 6 => tyX6 j | 7 => tyX7 j | 8 => tyX8 j | 9 => tyX9 j | 10 => tyX10 j | 11 => tyX11 j | _ => tyX12 j) with
  | .long => 1
  | .array _ => 2
  | .object "java/lang/String" => 3
  | .object _ => 2
  | _ => 0
def fv (b : Nat) (sa : Nat → Nat) (t : Nat) (z : Int) : Value := match t with
  | 0 => vI z
  | 1 => vL z
  | 2 => vN b z
  | _ => vS sa z
def aty (t : Nat) : FieldType := match t with
  | 0 => .int
  | 1 => .byte
  | 2 => .boolean
  | 3 => .long
  | 4 => .object "EveningOrder$Piece"
  | 5 => .object "EveningOrder$Liking"
  | 6 => .object "EveningOrder$Must"
  | 7 => .object "EveningOrder$Row"
  | 8 => .object "EveningOrder$Row"
  | _ => .object "EveningOrder$Sheet"
def av (b t : Nat) (z : Int) : Value := match t with
  | 0 => vI z
  | 1 => vI z
  | 2 => vI z
  | 3 => vL z
  | _ => vN b z
/-- the final fields that are cells: the field, how far its cell lies (so much on, so much back), what it is -/
def fin (ci : Nat) : List (Nat × Nat × Nat × Int) := match ci with
  | 0 => [(0, 1, 0, kA 4 12), (2, 2, 0, kA 0 4), (3, 3, 0, kA 5 10), (5, 4, 0, kA 6 10), (7, 5, 0, kA 1 50), (9, 6, 0, kA 7 8), (10, 7, 0, kA 8 8), (12, 8, 0, kA 0 12)]
  | 1 => [(6, 1, 0, kA 0 50)]
  | 4 => [(0, 1, 0, kA 0 50), (2, 2, 0, kA 1 50)]
  | 5 => [(0, 1, 0, kA 0 12)]
  | 6 => [(0, 0, 101, kO 0), (1, 0, 12, kO 10), (2, 1, 0, kA 0 12), (11, 2, 0, kO 5), (12, 4, 0, kA 0 12)]
  | 7 => [(0, 0, 106, kO 0), (5, 1, 0, kA 0 12), (6, 2, 0, kA 0 12)]
  | 8 => [(0, 1, 0, kA 0 24)]
  | 9 => [(0, 1, 0, kA 0 30)]
  | 10 => [(0, 0, 89, kO 0), (4, 1, 0, kA 0 12), (5, 2, 0, kA 0 12), (6, 3, 0, kA 0 13), (7, 4, 0, kA 0 13), (8, 5, 0, kA 0 13), (9, 6, 0, kA 0 13), (10, 7, 0, kA 0 13), (11, 8, 0, kA 0 104), (12, 9, 0, kA 0 130), (13, 10, 0, kA 0 5), (14, 11, 0, kA 0 50)]
  | 11 => [(0, 1, 0, kO 0), (3, 84, 0, kA 9 4), (4, 85, 0, kA 0 7), (5, 86, 0, kO 5), (6, 88, 0, kO 5), (7, 90, 0, kO 10), (8, 102, 0, kO 6), (9, 107, 0, kO 7), (10, 110, 0, kO 4), (11, 113, 0, kO 9), (12, 115, 0, kA 3 80)]
  | 12 => [(0, 1, 0, kA 0 1522), (1, 2, 0, kA 0 1522), (3, 3, 0, kA 0 7), (9, 4, 0, kA 0 104), (10, 5, 0, kA 0 128), (11, 6, 0, kA 0 60), (12, 7, 0, kA 0 12), (15, 8, 0, kA 0 12), (16, 9, 0, kA 0 12), (17, 10, 0, kA 0 96), (18, 11, 0, kA 0 12), (24, 12, 0, kA 2 12), (25, 13, 0, kA 2 1024), (26, 14, 0, kA 0 10240), (27, 15, 0, kA 0 10), (30, 16, 0, kA 0 12), (31, 17, 0, kA 3 80), (32, 18, 0, kA 0 30), (36, 19, 0, kA 0 4), (37, 20, 0, kA 0 4), (38, 21, 0, kA 0 96), (39, 22, 0, kA 0 24)]
  | _ => []
/-- rows of cells: how far the first lies, how far they are apart, what they are -/
def abase (t : Nat) : Nat := match t with
  | 4 => 8
  | 5 => 18
  | 6 => 37
  | 7 => 45
  | 8 => 46
  | _ => 32
def astr (t : Nat) : Nat := match t with
  | 4 => 1
  | 5 => 2
  | 6 => 1
  | 7 => 4
  | 8 => 4
  | _ => 2
def akd (t : Nat) : Int := match t with
  | 4 => kO 3
  | 5 => kO 1
  | 6 => kO 2
  | 7 => kO 5
  | 8 => kO 5
  | _ => kO 8
def up (M : Mem) (k i : Nat) (v : Int) : Mem := fun a j => if a = k ∧ j = i then v else M a j
theorem up_s (M : Mem) (k i : Nat) (v : Int) : up M k i v k i = v := by simp [up]
theorem up_0 (M : Mem) {k : Nat} (i : Nat) (v : Int) (hk : 0 < k) (j : Nat) : up M k i v 0 j = M 0 j := by simp [up]; omega
theorem up_n (M : Mem) {k i a j : Nat} (v : Int) (h : a ≠ k ∨ j ≠ i) : up M k i v a j = M a j := by simp [up]; omega
/-- the cells of a kind lie where they must -/
def Lay (M : Mem) : Prop :=
  (∀ (k ci j add sub : Nat) (kd : Int), 0 < k → M 0 k = kO ci → (j, add, sub, kd) ∈ fin ci → sub < k + add ∧ M k j = ((k + add - sub : Nat) : Int) ∧ M 0 (k + add - sub) = kd) ∧
  (∀ (k t n i : Nat), 0 < k → n < 1000000 → M 0 k = kA t n → 4 ≤ t → i < n → M k i = ((k + abase t + astr t * i : Nat) : Int) ∧ M 0 (k + abase t + astr t * i) = akd t)
/-- what is fixed for a run: the base, the classes' numbers and slots, the texts' addresses, the row classes; whether all cells lie where they must (not while an object is made) -/
abbrev Yx : Type := Nat × va_G × (Nat → Nat) × (Nat → ClassId) × Bool
/-- the heap holds M -/
def Rd (Y : Yx) (M : Mem) (H : Heap) : Prop :=
  (0 < M 0 0 ∧ H.size = Y.1 + (M 0 0).toNat ∧ ∀ k : Nat, (M 0 0).toNat ≤ k → M 0 k = 0) ∧
  (∀ (k ci : Nat) (q : vw_C), 0 < k → M 0 k = kO ci → classes[ci]? = some q → t_OB (Y.1 + k) (Y.2.1.1 ci) q.2.2 (Y.2.1.2 ci) H (fun j => fv Y.1 Y.2.2.1 (ftc ci j) (M k j))) ∧
  (∀ (k t n : Nat), 0 < k → n < 1000000 → M 0 k = kA t n → H[Y.1 + k]? = some (arrV (Y.2.2.2.1 t) n (fun j => av Y.1 t (M k j))))
def Rz (Y : Yx) (M : Mem) (H : Heap) : Prop := Rd Y M H ∧ (Y.2.2.2.2 = true → Lay M)
theorem kO_inj {a b : Nat} (h : kO a = kO b) : a = b := by unfold kO at h; omega
theorem kA_inj {t n t' n' : Nat} (hn : n < 1000000) (hn' : n' < 1000000) (h : kA t n = kA t' n') : t = t' ∧ n = n' := by unfold kA at h; omega
theorem kO_kA {a t n : Nat} (ha : a < 999999) : kO a ≠ kA t n := by unfold kO kA; omega
theorem kO_pos (a : Nat) : kO a ≠ 0 := by unfold kO; omega
theorem kA_pos (t n : Nat) : kA t n ≠ 0 := by unfold kA; omega
abbrev tysOf (cA : Nat → ClassId) : List (ClassId × FieldType) := [(cA 0, aty 0), (cA 1, aty 1), (cA 2, aty 2), (cA 3, aty 3), (cA 4, aty 4), (cA 5, aty 5), (cA 6, aty 6), (cA 7, aty 7), (cA 8, aty 8), (cA 9, aty 9)]
/-- the words that every method has -/
def gtbl : List Cond := lw_tbl.filter goodWord
theorem gt_in {w : Cond} (h : w ∈ lw_tbl) (hg : goodWord w = true) : w ∈ gtbl := List.mem_filter.mpr ⟨h, hg⟩
theorem gt_good {big : List Cond} (h : ∀ w ∈ gtbl, w ∈ big) : GoodIn big gtbl := fun w hw => ⟨h w hw, good_of_word (List.mem_filter.mp hw).2⟩
def codeW (y : MethodName) (cc : ByteArray) (nL : Nat) (rt : Option FieldType) : List Cond := .code y cc nL rt :: gtbl
/-- the fixed tables: three rows of numbers, held by static fields -/
def tabC (i : Nat) : String := match i with
  | 0 => "EveningOrder"
  | 1 => "EveningOrder"
  | _ => "EveningOrder$Voices"
def tabN (i : Nat) : String := match i with
  | 0 => "RULE_MOST"
  | 1 => "KIND_ABOVE"
  | _ => "BODIES"
def tabL (i : Nat) : List Int := match i with
  | 0 => [9, 9, 60, 999]
  | 1 => [-1, 0, 0, 0, 0, 1, 0]
  | _ => [10, 11, 12, 13, 0, 20, 0, 21, 30, 0, 0, 0, 0, 0, 40, 0, 50, 0, 51, 0, 60, 0, 61, 62, 0, 70, 0, 0]
/-- the context of a walk -/
abbrev Cx : Type := Program × Launch × Env × Room × State × MethodId × Array Value × List Frame × Method × Code
abbrev frA (Y : Yx) : Nat → Prop := fun q => Y.1 < q
/-- words of nest mates -/
def isNest : Cond → Bool
  | .methodLinkNest _ _ _ _ => true
  | .fieldLinkNest _ _ _ _ _ _ => true
  | _ => false
def nestW : List Cond := tables_1.filter isNest
/-- texts: whose constant, which entry, the text, its number -/
def strW : List (String × Nat × String × Nat) := [("EveningOrder$Liking", 54, "abks", 1), ("EveningOrder$Liking", 56, "m", 2), ("EveningOrder$Liking", 58, "pnlij", 3), ("EveningOrder$Liking", 60, "t", 4), ("EveningOrder$Liking", 62, "", 5), ("EveningOrder$Reader", 19, "", 5)]
def strL : List Nat := [4, 1, 5, 1, 0]
def strB : List (List Int32) := [[97, 98, 107, 115], [109], [112, 110, 108, 105, 106], [116], []]
/-- the classes of whose objects there are rows -/
def refC : List String := ["EveningOrder$Piece", "EveningOrder$Liking", "EveningOrder$Must", "EveningOrder$Row", "EveningOrder$Sheet"]
/-- what is told of a start, beside the world: classes, fixed tables, words of nest mates, texts -/
def Sp (Y : Yx) (U : State) : Prop := va_K Y.2.1 classes (tysOf Y.2.2.2.1) U ∧ Y.1 < U.heap.size ∧
  (∀ i, i < 3 → va_Z (tabC i) (tabN i) "[I" (.ref (Y.2.2.1 (100 + i))) (frA Y) U U.heap ∧ va_T .int (Y.2.2.1 (100 + i)) (tabL i).length (fun j => vI ((tabL i).getD j 0)) (frA Y) U U.heap) ∧
  (∀ w ∈ nestW, va_Nw w U) ∧ (∀ q ∈ strW, vk_R q.1 q.2.1 q.2.2.1 (Y.2.2.1 q.2.2.2) U) ∧ vk_S 5 strL strB (fun i => Y.2.2.1 (i + 1)) (fun i => Y.2.2.1 (i + 11)) (frA Y) U U.heap ∧
  va_Z "java/lang/String" "COMPACT_STRINGS" "Z" (.int 1) (frA Y) U U.heap ∧ (∀ C ∈ refC, va_AO C U)
def OKX (X : Cx) (Y : Yx) (own : String) (cc : ByteArray) (nL : Nat) (rt : Option FieldType) (rm : Room) : Prop :=
  X.1.tables.exec = Jvm.exec ∧ X.2.2.2.2.2.2.2.2.2.code = cc ∧ X.2.2.2.2.2.2.2.2.2.maxLocals = nL ∧ X.2.2.2.2.1.vm.findClass own = some X.2.2.2.2.2.1.cls ∧ (∀ w ∈ gtbl, w.before X.2.2.2.2.2.2.1 X.2.2.2.2.1 = true) ∧ Sp Y X.2.2.2.2.1 ∧ X.2.2.2.2.2.2.2.2.1.sig.returnType = rt ∧ X.2.2.2.2.2.2.2.2.1.locks = false ∧ X.2.2.2.1 = rm
/-- a method's end -/
def QC (Y : Yx) (M0 : Mem) (Qm : Option Value → Mem → Prop) : Array Value → State → Outcome → State → Prop := fun _ st o t =>
  (∃ (v : Option Value) (M' : Mem), o = .returned v ∧ Qm v M' ∧ (∀ a : Nat, 0 < a → M0 0 a ≠ 0 → M' 0 a = M0 0 a) ∧ Rz Y M' t.heap) ∧ va_F (frA Y) st t
/-- a method's contract, from the world M and the arguments on -/
def CT (Y : Yx) (l : Launch) (y : MethodName) (cc : ByteArray) (nL : Nat) (rt : Option FieldType) (rm : Room) (args : List Value) (M : Mem) (Qm : Option Value → Mem → Prop) : Prop :=
  Met l y (codeW y cc nL rt) rm (va_Pc args (fun U => Rz Y M U.heap ∧ Sp Y U)) (QC Y M Qm) rm.cells rm.slots (frA Y)
/-- the machine, at a place of a method that began with the world M0, with the world M now, comes to the method's end with Qm; n cells of k slots were made -/
def WW (X : Cx) (Y : Yx) (nL : Nat) (rm : Room) (Qm : Option Value → Mem → Prop) (M0 : Mem) (n k : Nat) (pc : Nat) (lv : List (Nat × Value)) (st : List Value) (M : Mem) : Prop :=
  ∀ (ls : Array Slot) (H : Heap) (locs : List Loc), lv_has ls nL lv → (∀ a : Nat, 0 < a → M0 0 a ≠ 0 → M 0 a = M0 0 a) → Rz Y M H → va_S (frA Y) X.2.2.2.2.1.heap H locs →
    W X.1 X.2.1 X.2.2.1 X.2.2.2.1 X.2.2.2.2.1 X.2.2.2.2.2.1 X.2.2.2.2.2.2.1 X.2.2.2.2.2.2.2.1 X.2.2.2.2.2.2.2.2.1 X.2.2.2.2.2.2.2.2.2 H locs n k
      (MQ X.2.2.2.2.2.2.2.1 (QC Y M0 Qm) X.2.2.2.2.2.2.1 X.2.2.2.2.1 rm.cells rm.slots (frA Y)) (F0 X.2.2.2.2.2.1 pc ls st)
/-- an instruction at its place, its length, the next place -/
def dec (cc : ByteArray) (pc n pc' : Nat) (i : Instr) : Prop := decode cc pc = .ok (i, n) ∧ pc + n = pc'
def LET {α : Type} (e : α) (f : α → Prop) : Prop := f e
def BR (c A B : Prop) : Prop := (c → A) ∧ (¬ c → B)
