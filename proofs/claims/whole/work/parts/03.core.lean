/-! ===== the layout: object codes 1..14 (class number + 1), array codes 20.. ===== -/
abbrev classes : List vw_C := [(RX0, TX0, 3), (RX1, TX1, 7), (RX2, TX2, 12), (RX3, TX3, 4), (RX4, TX4, 14), (RX5, TX5, 4), (RX6, TX6, 9), (RX7, TX7, 2), (RX8, TX8, 8), (RX9, TX9, 18), (RX10, TX10, 8), (RX11, TX11, 18), (RX12, TX12, 6), (RX13, TX13, 92)]
def oc (c : Nat) : Option Nat := if 1 ≤ c ∧ c ≤ 14 then some (c - 1) else none
def nf (ci : Nat) : Nat := match ci with
  | 0 => 3
  | 1 => 7
  | 2 => 12
  | 3 => 4
  | 4 => 14
  | 5 => 4
  | 6 => 9
  | 7 => 2
  | 8 => 8
  | 9 => 18
  | 10 => 8
  | 11 => 18
  | 12 => 6
  | 13 => 92
  | _ => 0
def fr (c k i : Nat) : Option (Nat × Nat) := match c, k with
  | 1, 1 => some (20, i)
  | 1, 2 => some (21, i)
  | 2, 0 => some (10, i)
  | 2, 1 => some (4, i)
  | 2, 2 => some (5, i)
  | 2, 3 => some (22, i)
  | 3, 0 => some (8, 0)
  | 3, 1 => some (10, 2)
  | 4, 0 => some (23, i)
  | 4, 1 => some (24, i)
  | 4, 2 => some (25, i)
  | 4, 3 => some (26, i)
  | 5, 1 => some (27, i)
  | 5, 2 => some (28, i)
  | 5, 3 => some (29, i)
  | 5, 4 => some (30, i)
  | 5, 5 => some (31, i)
  | 5, 6 => some (32, i)
  | 5, 7 => some (33, i)
  | 5, 8 => some (34, i)
  | 5, 9 => some (35, i)
  | 5, 10 => some (36, i)
  | 6, 0 => some (37, i)
  | 6, 1 => some (38, i)
  | 6, 2 => some (39, i)
  | 7, 3 => some (40, i)
  | 7, 4 => some (41, i)
  | 7, 5 => some (42, i)
  | 7, 6 => some (43, i)
  | 7, 7 => some (44, i)
  | 7, 8 => some (45, i)
  | 8, 0 => some (46, i)
  | 9, 1 => some (47, i)
  | 9, 2 => some (48, i)
  | 9, 3 => some (49, i)
  | 9, 4 => some (50, i)
  | 9, 5 => some (51, i)
  | 9, 6 => some (52, i)
  | 9, 7 => some (53, i)
  | 10, 5 => some (54, i)
  | 10, 6 => some (55, i)
  | 10, 7 => some (56, i)
  | 10, 8 => some (57, i)
  | 10, 14 => some (58, i)
  | 10, 15 => some (59, i)
  | 10, 16 => some (60, i)
  | 10, 17 => some (61, i)
  | 11, 6 => some (62, i)
  | 12, 0 => some (8, 0)
  | 12, 1 => some (3, 0)
  | 12, 2 => some (2, 0)
  | 12, 3 => some (2, 1)
  | 12, 4 => some (6, 0)
  | 12, 5 => some (6, 1)
  | 12, 6 => some (9, 0)
  | 12, 7 => some (1, 0)
  | 12, 8 => some (11, 0)
  | 12, 9 => some (11, 1)
  | 12, 10 => some (7, 0)
  | 12, 11 => some (63, i)
  | 12, 12 => some (64, i)
  | 12, 13 => some (65, i)
  | 14, 0 => some (13, 0)
  | 14, 1 => some (66, i)
  | 14, 24 => some (67, i)
  | 14, 25 => some (68, i)
  | 14, 26 => some (69, i)
  | 14, 27 => some (70, i)
  | 14, 28 => some (71, i)
  | 14, 29 => some (72, i)
  | 14, 30 => some (73, i)
  | 14, 31 => some (74, i)
  | 14, 32 => some (75, i)
  | 14, 33 => some (76, i)
  | 14, 34 => some (77, i)
  | 14, 38 => some (78, i)
  | 14, 39 => some (79, i)
  | 14, 40 => some (80, i)
  | 14, 41 => some (81, i)
  | 14, 42 => some (82, i)
  | 14, 43 => some (83, i)
  | 14, 44 => some (84, i)
  | 14, 45 => some (85, i)
  | 14, 46 => some (86, i)
  | 14, 47 => some (87, i)
  | 14, 48 => some (88, i)
  | 14, 49 => some (89, i)
  | 14, 52 => some (90, i)
  | 14, 53 => some (91, i)
  | 14, 56 => some (92, i)
  | 14, 57 => some (93, i)
  | 14, 58 => some (94, i)
  | 14, 59 => some (95, i)
  | 14, 60 => some (96, i)
  | 14, 61 => some (97, i)
  | 14, 66 => some (98, i)
  | 14, 67 => some (99, i)
  | 14, 68 => some (100, i)
  | 14, 69 => some (101, i)
  | 14, 70 => some (102, i)
  | 14, 77 => some (103, i)
  | 14, 86 => some (104, i)
  | 14, 87 => some (105, i)
  | 14, 88 => some (106, i)
  | 14, 89 => some (107, i)
  | 14, 90 => some (108, i)
  | 14, 91 => some (109, i)
  | _, _ => none
def lg (c k : Nat) : Bool := match c, k with
  | 11, 7 => true
  | 14, 72 => true
  | _, _ => false
def ak (c : Nat) : Nat := match c with
  | 23 => 1
  | 46 => 1
  | 66 => 1
  | 75 => 2
  | 76 => 2
  | 78 => 1
  | 88 => 2
  | 89 => 2
  | 100 => 1
  | _ => 0
def al (c : Nat) : Nat := match c with
  | 20 => 1024
  | 21 => 1024
  | 22 => 144
  | 23 => 10240
  | 24 => 10
  | 25 => 10
  | 26 => 4
  | 27 => 1024
  | 28 => 1024
  | 29 => 1024
  | 30 => 1025
  | 31 => 1024
  | 32 => 1024
  | 33 => 1024
  | 34 => 1024
  | 35 => 1024
  | 36 => 1024
  | 37 => 1024
  | 38 => 1024
  | 39 => 1024
  | 40 => 20
  | 41 => 20
  | 42 => 20
  | 43 => 20
  | 44 => 20
  | 45 => 20
  | 46 => 700
  | 47 => 12
  | 48 => 12
  | 49 => 144
  | 50 => 144
  | 51 => 12
  | 52 => 12
  | 53 => 12
  | 54 => 16
  | 55 => 4
  | 56 => 10
  | 57 => 10
  | 58 => 40
  | 59 => 40
  | 60 => 11
  | 61 => 1024
  | 62 => 10
  | 63 => 1024
  | 64 => 4
  | 65 => 4
  | 66 => 700
  | 67 => 16
  | 68 => 16
  | 69 => 10
  | 70 => 10
  | 71 => 10
  | 72 => 10
  | 73 => 4
  | 74 => 4
  | 75 => 16
  | 76 => 4
  | 77 => 11
  | 78 => 10240
  | 79 => 1024
  | 80 => 1024
  | 81 => 1024
  | 82 => 1024
  | 83 => 1024
  | 84 => 1024
  | 85 => 1024
  | 86 => 1024
  | 87 => 1024
  | 88 => 1024
  | 89 => 1024
  | 90 => 1024
  | 91 => 1025
  | 92 => 144
  | 93 => 144
  | 94 => 144
  | 95 => 12
  | 96 => 12
  | 97 => 12
  | 98 => 144
  | 99 => 12
  | 100 => 10240
  | 101 => 1024
  | 102 => 1024
  | 103 => 10
  | 104 => 20
  | 105 => 20
  | 106 => 20
  | 107 => 20
  | 108 => 20
  | 109 => 20
  | _ => 0
/-- calls of the private fillTo from nest mates -/
def nwL : List Cond := [.methodLinkNest "CustomValley$Rests" 66 yX11_fillTo "CustomValley", .methodLinkNest "CustomValley$Search" 34 yX11_fillTo "CustomValley", .methodLinkNest "CustomValley$Flow" 48 yX11_fillTo "CustomValley"]
/-- the string constants: class, entry, text, place -/
def strL : List (String × Nat × String × Nat) := [("CustomValley$Reader", 108, "people", 0), ("CustomValley$Reader", 117, "habits", 1), ("CustomValley$Reader", 122, "worth", 2), ("CustomValley$Reader", 127, "meets", 3), ("CustomValley$Reader", 132, "answer", 4), ("CustomValley$Reader", 185, "best", 8), ("CustomValley$Reader", 189, "most", 9), ("CustomValley$Reader", 191, "copy", 10), ("CustomValley$Reader", 137, "stays", 5), ("CustomValley$Reader", 145, "keeps", 6), ("CustomValley$Reader", 150, "slip", 7), ("CustomValleyModel", 145, "people", 0), ("CustomValleyModel", 149, "habits", 1), ("CustomValleyModel", 153, "answer", 4), ("CustomValleyModel", 135, "best", 8), ("CustomValleyModel", 141, "most", 9), ("CustomValleyModel", 143, "copy", 10), ("CustomValleyModel", 157, "stays", 5), ("CustomValleyModel", 159, "worth", 2), ("CustomValleyModel", 161, "meets", 3), ("CustomValleyModel", 163, "keeps", 6), ("CustomValleyModel", 165, "slip", 7)]
/-! ===== the core: an abstract heap, values, and the weakest precondition over the kit's W ===== -/
def TB : List Cond := lw_tbl.filter goodWord
theorem tb_at {w : Cond} (i : Nat) (h : lw_tbl[i]? = some w) (hg : goodWord w = true) : w ∈ TB := List.mem_filter.mpr ⟨List.mem_of_getElem? h, hg⟩
theorem tb_good : GoodIn TB TB := fun w hw => ⟨hw, good_of_word (List.mem_filter.mp hw).2⟩
/-- a value: an int, a long, a cell (code, instance); code 0: unset -/
abbrev AV : Type := Int ⊕ (Int ⊕ (Nat × Nat))
abbrev vI (x : Int) : AV := .inl x
abbrev vL (x : Int) : AV := .inr (.inl x)
abbrev vR (c i : Nat) : AV := .inr (.inr (c, i))
abbrev vU : AV := .inr (.inr (0, 0))
abbrev St : Type := Nat → Nat → Nat → Int
abbrev Res : Type := Option AV ⊕ (Nat × Nat)
abbrev MI : Type := MethodName × ByteArray × Nat × Option FieldType × Nat
/-- tables, array classes, addresses, the cells that are there, the fields of the one Stop, the strings' bytes -/
abbrev GG : Type := va_G × (Nat → ClassId) × (Nat → Nat → Nat) × List (Nat × Nat) × (Nat → Value) × (Nat → Nat)
def up (σ : St) (c i j : Nat) (x : Int) : St := fun c' i' j' => if c' = c ∧ i' = i ∧ j' = j then x else σ c' i' j'
theorem up_s (σ : St) (c i j : Nat) (x : Int) : up σ c i j x c i j = x := by simp [up]
theorem up_c {σ : St} {c i j c' i' j' : Nat} {x : Int} (h : c' ≠ c) : up σ c i j x c' i' j' = σ c' i' j' := by simp [up, h]
theorem up_i {σ : St} {c i j c' i' j' : Nat} {x : Int} (h : i' ≠ i) : up σ c i j x c' i' j' = σ c' i' j' := by simp [up, h]
theorem up_j {σ : St} {c i j c' i' j' : Nat} {x : Int} (h : j' ≠ j) : up σ c i j x c' i' j' = σ c' i' j' := by simp [up, h]
def fv (G : GG) (σ : St) (c i k : Nat) : Value := if c = 13 then G.2.2.2.2.1 k else match fr c k i with
  | some q => .ref (G.2.2.1 q.1 q.2)
  | none => if lg c k = true then .long (Int64.ofInt (σ c i k)) else .int (Int32.ofInt (σ c i k))
def ce (G : GG) (σ : St) (q : Nat × Nat) : va_E := match oc q.1 with
  | some ci => .inr (ci, (List.range (nf ci)).map (fv G σ q.1 q.2))
  | none => .inl (G.2.1 (ak q.1), al q.1, .inl (fun j => Int32.ofInt (σ q.1 q.2 j)))
def ww (G : GG) (σ : St) : va_W := G.2.2.2.1.map (fun q => (G.2.2.1 q.1 q.2, ce G σ q))
def tyL (G : GG) : List (ClassId × FieldType) := [(G.2.1 0, .int), (G.2.1 1, .byte), (G.2.1 2, .boolean)]
def in32 (x : Int) : Prop := -2147483648 ≤ x ∧ x < 2147483648
def in64 (x : Int) : Prop := -9223372036854775808 ≤ x ∧ x < 9223372036854775808
def RO (σ : St) : Prop := ∀ c i k, in64 (σ c i k) ∧ (lg c k = false → in32 (σ c i k))
def CD (G : GG) : Prop := ∀ q ∈ G.2.2.2.1, ∀ k q', fr q.1 k q.2 = some q' → q' ∈ G.2.2.2.1
def WD (G : GG) (A : Nat → Prop) (σ : St) (s : State) (H : Heap) (locs : List Loc) : Prop :=
  va_P G.1 classes (ww G σ) H ∧ va_D A (ww G σ) ∧ va_S A s.heap H locs ∧ RO σ ∧ CD G
def rv (G : GG) (v : Value) (a : AV) : Prop := match a with
  | .inl x => ∃ y : Int32, v = .int y ∧ y.toInt = x
  | .inr (.inl x) => ∃ y : Int64, v = .long y ∧ y.toInt = x
  | .inr (.inr q) => v = .ref (G.2.2.1 q.1 q.2) ∧ (q ∈ G.2.2.2.1 ∨ 1000 ≤ q.1)
def rs (G : GG) : List Value → List AV → Prop
  | [], [] => True
  | v :: st, a :: ast => rv G v a ∧ rs G st ast
  | _, _ => False
def rl (G : GG) (n : Nat) (ls : Array Slot) (als : List AV) : Prop := ∃ lv : List (Nat × Value), lv_has ls n lv ∧ ∀ (i : Nat) (a : AV), als[i]? = some a → a ≠ vU → ∃ v, (i, v) ∈ lv ∧ rv G v a
/-- the strings of the two programs: by their places -/
def strTx : List String := ["people", "habits", "worth", "meets", "answer", "stays", "keeps", "slip", "best", "most", "copy"]
def strLen : List Nat := [6, 6, 5, 5, 6, 5, 5, 4, 4, 4, 4]
def strByt : List (List Int32) := [[112, 101, 111, 112, 108, 101], [104, 97, 98, 105, 116, 115], [119, 111, 114, 116, 104], [109, 101, 101, 116, 115], [97, 110, 115, 119, 101, 114], [115, 116, 97, 121, 115], [107, 101, 101, 112, 115], [115, 108, 105, 112], [98, 101, 115, 116], [109, 111, 115, 116], [99, 111, 112, 121]]
def SX (G : GG) (A : Nat → Prop) (s : State) : Prop := (vk_S 11 strLen strByt (fun i => G.2.2.1 1001 i) G.2.2.2.2.2 A s s.heap ∧ va_Z "java/lang/String" "COMPACT_STRINGS" "Z" (.int 1) A s s.heap ∧ ∃ w : Value, w.category = 1 ∧ va_Z "jdk/internal/util/Preconditions" "SIOOBE_FORMATTER" "Ljava/util/function/BiFunction;" w A s s.heap) ∧ ∀ q ∈ strL, vk_R q.1 q.2.1 q.2.2.1 (G.2.2.1 1001 q.2.2.2) s
def SC (G : GG) (A : Nat → Prop) (s : State) : Prop := ∃ (L : Nat) (xs : Nat → Int32), L ≤ 3072 ∧ va_X (G.2.2.1 1000 0) L xs s s.heap ∧ G.2.2.1 1000 0 < s.heap.size ∧ ¬ A (G.2.2.1 1000 0)
def CX (M : MI) (G : GG) (A : Nat → Prop) (p : Program) (R : Room) (s : State) (mid : MethodId) (args : Array Value) (meth : Method) (c : Code) : Prop :=
  p.tables.exec = Jvm.exec ∧ c.code = M.2.1 ∧ c.maxLocals = M.2.2.1 ∧ s.vm.findClass M.1.cls = some mid.cls ∧ (∀ w ∈ TB, w.before args s = true) ∧ meth.locks = false ∧ meth.sig.returnType = M.2.2.2.1 ∧ va_K G.1 classes (tyL G) s ∧ M.2.2.2.2 ≤ R.frames ∧ 39 * M.2.2.2.2 ≤ R.locals ∧ (∀ w ∈ nwL, va_Nw w s) ∧ SX G A s
/-- what the end of the frame gives: the four ways out -/
def EN (M : MI) (G : GG) (A : Nat → Prop) (p : Program) (l : Launch) (e : Env) (R : Room) (s : State) (mid : MethodId) (args : Array Value) (below : List Frame) (meth : Method) (c : Code) (cells slots : Nat) (Z : State → Prop) (Q : Res → St → Prop) : Prop :=
  (∀ H locs σ pc ls (y : Int32), WD G A σ s H locs → decode M.2.1 pc = .ok (.ireturn, 1) → Q (.inl (some (vI y.toInt))) σ → (M.2.2.2.1 = some .int ∨ M.2.2.2.1 = some .boolean ∧ (y = 0 ∨ y = 1)) → W p l e R s mid args below meth c H locs cells slots Z (F0 mid pc ls [.int y])) ∧
  (∀ H locs σ pc ls, WD G A σ s H locs → decode M.2.1 pc = .ok (.return_, 1) → Q (.inl none) σ → M.2.2.2.1 = none → W p l e R s mid args below meth c H locs cells slots Z (F0 mid pc ls [])) ∧
  (∀ H locs σ pc ls q, WD G A σ s H locs → q ∈ G.2.2.2.1 → decode M.2.1 pc = .ok (.areturn, 1) → Q (.inl (some (.inr (.inr q)))) σ → (∃ n, M.2.2.2.1 = some (.object n)) → W p l e R s mid args below meth c H locs cells slots Z (F0 mid pc ls [.ref (G.2.2.1 q.1 q.2)])) ∧
  (∀ T H locs σ pc ls st q, T.heap = H → Stand p l e R s mid args below meth c T locs cells slots → WD G A σ s H locs → q ∈ G.2.2.2.1 → Q (.inr q) σ → (∀ x ∈ c.exceptionTable.toList, covers x pc = false) → ∃ t, Steps p.tables e below ((T.setTop (F0 mid pc ls st)).pushFrame (.throwing (G.2.2.1 q.1 q.2))) t ∧ Z t)
/-- the law has its script; of any other method the name is known -/
def SQ (M : MI) (G : GG) (A : Nat → Prop) (s : State) (mid : MethodId) : Prop := (M.2.2.2.2 = 12 → SC G A s) ∧ (M.2.2.2.2 ≠ 12 → s.methodNamed? M.1 = some mid)
def WP (M : MI) (pc : Nat) (als ast : List AV) (σ : St) (Q : Res → St → Prop) : Prop :=
  ∀ (G : GG) (A : Nat → Prop) (p : Program) (l : Launch) (e : Env) (R : Room) (s : State) (mid : MethodId) (args : Array Value) (below : List Frame) (meth : Method) (c : Code) (cells slots : Nat) (Z : State → Prop),
  CX M G A p R s mid args meth c → (SQ M G A s mid ∧ cells ≤ R.cells ∧ slots ≤ R.slots) → EN M G A p l e R s mid args below meth c cells slots Z Q →
  ∀ (H : Heap) (locs : List Loc) (ls : Array Slot) (st : List Value), WD G A σ s H locs → rl G M.2.2.1 ls als → rs G st ast → W p l e R s mid args below meth c H locs cells slots Z (F0 mid pc ls st)
theorem WP.mono {M : MI} {pc : Nat} {als ast : List AV} {σ : St} {Q Q' : Res → St → Prop} (h : WP M pc als ast σ Q) (hq : ∀ r σ', Q r σ' → Q' r σ') : WP M pc als ast σ Q' := by
  intro G A p l e R s mid args below meth c cells slots Z hC hX hE
  refine h G A p l e R s mid args below meth c cells slots Z hC hX ⟨?_, ?_, ?_, ?_⟩
  · intro H locs σ pc ls y h1 h2 h3 h4
    exact hE.1 H locs σ pc ls y h1 h2 (hq _ _ h3) h4
  · intro H locs σ pc ls h1 h2 h3 h4
    exact hE.2.1 H locs σ pc ls h1 h2 (hq _ _ h3) h4
  · intro H locs σ pc ls q h1 h2 h3 h4 h5
    exact hE.2.2.1 H locs σ pc ls q h1 h2 h3 (hq _ _ h4) h5
  · intro T H locs σ pc ls st q h0 h1 h2 h3 h4 h5
    exact hE.2.2.2 T H locs σ pc ls st q h0 h1 h2 h3 (hq _ _ h4) h5
theorem WP.ro {M : MI} {pc : Nat} {als ast : List AV} {σ : St} {Q : Res → St → Prop} (h : RO σ → WP M pc als ast σ Q) : WP M pc als ast σ Q := by
  intro G A p l e R s mid args below meth c cells slots Z hC hX hE H locs ls st hW hl hs
  exact h hW.2.2.2.1 G A p l e R s mid args below meth c cells slots Z hC hX hE H locs ls st hW hl hs
/-! small facts -/
theorem rs_cons {G : GG} {st : List Value} {a : AV} {ast : List AV} (h : rs G st (a :: ast)) : ∃ v st', st = v :: st' ∧ rv G v a ∧ rs G st' ast := by
  cases st with
  | nil => exact h.elim
  | cons v st' => exact ⟨v, st', rfl, h.1, h.2⟩
theorem rs_nil {G : GG} {st : List Value} (h : rs G st []) : st = [] := by
  cases st with
  | nil => rfl
  | cons v st' => exact h.elim
theorem rs_I {G : GG} {st : List Value} {x : Int} {ast : List AV} (h : rs G st (vI x :: ast)) : ∃ (y : Int32) (st' : List Value), st = .int y :: st' ∧ y.toInt = x ∧ rs G st' ast := by
  obtain ⟨v, st', rfl, ⟨y, rfl, e⟩, h2⟩ := rs_cons h
  exact ⟨y, st', rfl, e, h2⟩
theorem rs_L {G : GG} {st : List Value} {x : Int} {ast : List AV} (h : rs G st (vL x :: ast)) : ∃ (y : Int64) (st' : List Value), st = .long y :: st' ∧ y.toInt = x ∧ rs G st' ast := by
  obtain ⟨v, st', rfl, ⟨y, rfl, e⟩, h2⟩ := rs_cons h
  exact ⟨y, st', rfl, e, h2⟩
theorem rs_R {G : GG} {st : List Value} {c i : Nat} {ast : List AV} (h : rs G st (vR c i :: ast)) : ∃ (st' : List Value), st = .ref (G.2.2.1 c i) :: st' ∧ ((c, i) ∈ G.2.2.2.1 ∨ 1000 ≤ c) ∧ rs G st' ast := by
  obtain ⟨v, st', rfl, ⟨rfl, e⟩, h2⟩ := rs_cons h
  exact ⟨st', rfl, e, h2⟩
theorem i32_of {x : Int} (h1 : -2147483648 ≤ x) (h2 : x < 2147483648) : (Int32.ofInt x).toInt = x := Int32.toInt_ofInt_of_le h1 h2
theorem i64_of {x : Int} (h1 : -9223372036854775808 ≤ x) (h2 : x < 9223372036854775808) : (Int64.ofInt x).toInt = x := Int64.toInt_ofInt_of_le h1 h2
theorem i32_in (y : Int32) : in32 y.toInt := ⟨y.le_toInt, y.toInt_lt⟩
theorem bm32 {z : Int} (h1 : -2147483648 ≤ z) (h2 : z < 2147483648) : z.bmod (2 ^ 32) = z := Int.bmod_eq_of_le (by omega) (by omega)
theorem bm64 {z : Int} (h1 : -9223372036854775808 ≤ z) (h2 : z < 9223372036854775808) : z.bmod (2 ^ 64) = z := Int.bmod_eq_of_le (by omega) (by omega)
