/-! the abstract machine: cells by numbers with known types, ints by a table; its steps -/
abbrev St : Type := Nat → Nat → Int32
abbrev AV : Type := (Nat × Nat) ⊕ (Int32 ⊕ Int64)
abbrev rf (t i : Nat) : AV := .inl (t, i)
abbrev iv (x : Int32) : AV := .inr (.inl x)
abbrev jv (x : Int64) : AV := .inr (.inr x)
def up (σ : St) (k j : Nat) (v : Int32) : St := fun a => if a = k then upd (σ k) j v else σ a
def upr (σ : St) (k : Nat) (f : Nat → Int32) : St := fun a => if a = k then f else σ a
def sh (t : Nat) : Nat × Nat × List (Nat × Nat × Nat) := (lnth shl t).getD (9, 0, [])
def tab (k : Nat) : Nat := (lnth tabl k).getD 999
abbrev nCells : Nat := 141
/-- a method: its place in mtab, locals, answer; the frames and words of locals that its calls may need; whether static; how many arguments; its words' places: code, initialized, instanceMethod (or static), selects; its class -/
abbrev HD : Type := Nat × Nat × Option FieldType × Nat × Nat × Bool × Nat × (Nat × Nat × Nat × Nat × Nat)
abbrev HD.mi (h : HD) : Nat := h.1
def HD.mt (h : HD) : MethodName × ByteArray × Nat × Option FieldType := (lnth mtab h.1).getD (⟨"", "", ""⟩, ⟨#[]⟩, 0, none)
def HD.y (h : HD) : MethodName := h.mt.1
def HD.by (h : HD) : ByteArray := h.mt.2.1
abbrev HD.ml (h : HD) : Nat := h.2.1
abbrev HD.rt (h : HD) : Option FieldType := h.2.2.1
abbrev HD.fr (h : HD) : Nat := h.2.2.2.1
abbrev HD.lo (h : HD) : Nat := h.2.2.2.2.1
abbrev HD.st (h : HD) : Bool := h.2.2.2.2.2.1
abbrev HD.na (h : HD) : Nat := h.2.2.2.2.2.2.1
abbrev HD.pl (h : HD) : Nat × Nat × Nat × Nat × Nat := h.2.2.2.2.2.2.2
abbrev Od : Type := (Nat × Nat × Nat) ⊕ ((HD × Nat) ⊕ ((Int32 × Nat) ⊕ (Int64 × Nat)))
/-- an instruction: pc, length, itself, where walks stop: which locals are kept; what it names -/
abbrev Ent : Type := Nat × Nat × Instr × List Bool × Od
/-- the script: its length and one (0: none is there), its ints -/
abbrev Ro : Type := Nat × (Nat → Int32)
def lget : List (Option AV) → Nat → Option AV
  | [], _ => none
  | a :: _, 0 => a
  | _ :: l, n + 1 => lget l n
def nolong : Option AV → Option AV
  | some (.inr (.inr _)) => none
  | x => x
def lset : List (Option AV) → Nat → AV → List (Option AV)
  | [], _, _ => []
  | _ :: l, 0, v => some v :: l
  | a :: l, n + 1, v => match n with
    | 0 => nolong a :: lset l 0 v
    | k + 1 => a :: lset l (k + 1) v
def lset2 : List (Option AV) → Nat → AV → List (Option AV)
  | [], _, _ => []
  | _ :: l, 0, v => match l with
    | [] => []
    | _ :: l' => some v :: none :: l'
  | a :: l, n + 1, v => match n with
    | 0 => nolong a :: lset2 l 0 v
    | k + 1 => a :: lset2 l (k + 1) v
def lkeep : List Bool → List (Option AV) → List (Option AV)
  | _, [] => []
  | [], _ :: l => none :: lkeep [] l
  | true :: b, a :: l => a :: lkeep b l
  | false :: b, _ :: l => none :: lkeep b l
def vcat : AV → Nat
  | .inr (.inr _) => 2
  | _ => 1
def scat : List AV → Nat
  | [] => 0
  | v :: l => vcat v + scat l
def lent : List AV → Nat → List (Option AV)
  | _, 0 => []
  | [], n + 1 => none :: lent [] n
  | v :: l, n + 1 => match vcat v with
    | 2 => match n with
      | 0 => []
      | k + 1 => some v :: none :: lent l k
    | _ => some v :: lent l n
def sk (code : List Ent) (t : Nat) : List Ent := match code with
  | [] => []
  | e :: es => match Nat.beq e.1 t with
    | true => e :: es
    | false => sk es t
def tgt (pc : Nat) (off : Int) : Nat := ((pc : Int) + off).toNat
def poprev : Nat → List AV → List AV → Option (List AV × List AV)
  | 0, acc, S => some (acc, S)
  | n + 1, acc, v :: S => poprev n (v :: acc) S
  | _ + 1, _, [] => none
/-! what stands for the machine -/
abbrev Gh : Type := (Nat → Nat) × (Nat → ClassId) × (Nat → Nat → Nat) × (Nat → ClassId)
abbrev Gh.ad (g : Gh) : Nat → Nat := g.1
abbrev Gh.D (g : Gh) : va_G := (g.2.1, g.2.2.1)
abbrev Gh.dA (g : Gh) : Nat → ClassId := g.2.2.2
def cv (g : Gh) : AV → Value
  | .inl q => .ref (g.ad q.2)
  | .inr (.inl x) => .int x
  | .inr (.inr x) => .long x
def tyl (g : Gh) : List (ClassId × FieldType) := [(g.dA 0, .int), (g.dA 1, .byte), (g.dA 2, .boolean), (g.dA 3, .object "FireRows$Sheet"), (g.dA 4, .object "FireRows$World")]
def fval (g : Gh) (σ : St) (k j : Nat) (f : Nat × Nat × Nat) : Value := match f.1 with
  | 1 => .int (Int32.ofNat f.2.1)
  | 2 => .ref (g.ad (k + f.2.2))
  | 3 => .ref (g.ad f.2.2)
  | _ => .int (σ k j)
def fvals (g : Gh) (σ : St) (k : Nat) : Nat → List (Nat × Nat × Nat) → List Value
  | _, [] => []
  | j, f :: fs => fval g σ k j f :: fvals g σ k (j + 1) fs
def cellS (g : Gh) (σ : St) (k : Nat) (q : Nat × Nat × List (Nat × Nat × Nat)) : va_E := match q.1 with
  | 0 => .inl (g.dA 0, q.2.1, .inl (σ k))
  | 1 => .inl (g.dA 1, q.2.1, .inl (σ k))
  | 2 => .inl (g.dA 2, q.2.1, .inl (σ k))
  | 3 => match q.2.2 with
    | (t, b, d) :: _ => .inl (g.dA (if t = 45 then 3 else 4), q.2.1, .inr (.inr (.inr (.inr (fun i => some (g.ad (b + d * i)))))))
    | [] => .inr (99, [])
  | _ => .inr (q.2.1, fvals g σ k 0 q.2.2)
def cellOf (g : Gh) (σ : St) (k : Nat) : va_E := cellS g σ k (sh (tab k))
def wl (g : Gh) (σ : St) : va_W := (List.range nCells).map fun k => (g.ad k, cellOf g σ k)
/-- the cells that methods may change -/
def WA (g : Gh) : Nat → Prop := fun q => ∃ k, k < nCells ∧ q = g.ad k
def inj (g : Gh) : Prop := ∀ i j, i < nCells → j < nCells → g.ad i = g.ad j → i = j
/-- given rows and texts -/
def Sx (g : Gh) (A : Nat → Prop) (U : State) (H : Heap) : Prop :=
  (∀ j, j < 11 → va_T .int (g.ad (1000 + j)) (stl.getD j []).length (fun i => .int ((stl.getD j []).getD i 0)) A U H) ∧
  va_Z "FireRows$Asks" "ABOVE" "[I" (.ref (g.ad 1010)) A U H ∧ va_Z "java/lang/String" "COMPACT_STRINGS" "Z" (.int 1) A U H ∧
  (∀ i, i < 8 → va_O "java/lang/String" (g.ad (1100 + i)) A U H ∧ va_OF "java/lang/String" "coder" "B" (.int 0) (g.ad (1100 + i)) A U H ∧ va_OF "java/lang/String" "value" "[B" (.ref (g.ad (1200 + i))) (g.ad (1100 + i)) A U H ∧ va_T .byte (g.ad (1200 + i)) (stx.getD i []).length (fun j => .int ((stx.getD i []).getD j 0)) A U H) ∧
  va_Zq "jdk/internal/util/Preconditions" "SIOOBE_FORMATTER" "Ljava/util/function/BiFunction;" A U H
def strk : List (Nat × String × Nat × Nat) := [(0, "FireRows$Floor", 11, 143), (1, "FireRows$Floor", 29, 186), (2, "FireRows$Floor", 40, 191), (3, "FireRows$Floor", 51, 196), (4, "FireRows$Floor", 62, 201), (5, "FireRows$Reader", 107, 687), (6, "FireRows$Reader", 109, 688), (7, "FireRows$Reader", 111, 689), (3, "FireRows$Reader", 113, 690)]
def Sr (g : Gh) (U : State) : Prop := ∀ q ∈ strk, vk_R q.2.1 q.2.2.1 ((["floor", "fire", "house", "crack", "story", "stays", "wanders", "late"] : List String).getD q.1 "") (g.ad (1100 + q.1)) U
def wfv : AV → Prop
  | .inl q => (q.2 < nCells ∧ tab q.2 = q.1) ∨ ((sh q.1).1 = 5 ∧ q.2 = 1000 + (sh q.1).2.1 ∧ (sh q.1).2.1 < 11) ∨ ((sh q.1).1 = 6 ∧ q.2 = 1100 + (sh q.1).2.1 ∧ (sh q.1).2.1 < 8) ∨ ((sh q.1).1 = 7 ∧ q.2 = 2000)
  | _ => True
def Wd (g : Gh) (σ : St) (U : State) (H : Heap) : Prop := va_P g.D cls (wl g σ) H ∧ inj g ∧ va_K g.D cls (tyl g) U ∧ Sx g (WA g) U H ∧ Sr g U
/-- the tables' words that stay -/
def gtbl : List Cond := lw_tbl.filter goodWord
def HD.ws (h : HD) : List Cond := .code h.y h.by h.ml h.rt :: gtbl
def HD.rm (h : HD) : Room := { frames := h.fr, cells := 0, slots := 0, locals := h.lo }
def QcG (g : Gh) (Q : Option AV → St → Prop) : Array Value → State → Outcome → State → Prop := fun _ st oc t => (∃ (v : Option AV) (σ' : St), oc = .returned (v.map (cv g)) ∧ (∀ w, v = some w → wfv w) ∧ Q v σ' ∧ Wd g σ' t t.heap) ∧ va_F (WA g) st t
/-- a call of h with these arguments in this world ends, with Q -/
def CallOk (h : HD) (as : List AV) (σ : St) (Q : Option AV → St → Prop) : Prop :=
  ∀ (l : Launch) (g : Gh), (∀ a ∈ as, wfv a) → Met l h.y h.ws h.rm (va_Pc (as.map (cv g)) (fun U => Wd g σ U U.heap)) (QcG g Q) 0 0 (WA g)
def Cx (h : HD) (X : Ro) (g : Gh) (A : Nat → Prop) (p : Program) (R : Room) (s : State) (m : MethodId) (args : Array Value) (meth : Method) (c : Code) (cells slots : Nat) : Prop :=
  p.tables.exec = Jvm.exec ∧ c.code = h.by ∧ c.maxLocals = h.ml ∧ s.vm.findClass h.y.cls = some m.cls ∧ (∀ w ∈ gtbl, w.before args s = true) ∧ va_K g.D cls (tyl g) s ∧ inj g ∧ (∀ k, k < nCells → A (g.ad k)) ∧ Sx g A s s.heap ∧ Sr g s ∧ h.fr ≤ R.frames ∧ h.lo ≤ R.locals ∧ cells ≤ R.cells ∧ slots ≤ R.slots ∧
  (X.1 = 0 ∨ (va_X (g.ad 2000) (X.1 - 1) X.2 s s.heap ∧ g.ad 2000 < s.heap.size ∧ ¬ A (g.ad 2000)))
def lpairs (g : Gh) : Nat → List (Option AV) → List (Nat × Value)
  | _, [] => []
  | i, none :: l => lpairs g (i + 1) l
  | i, some v :: l => (i, cv g v) :: lpairs g (i + 1) l
def lwf (L : List (Option AV)) : Prop := ∀ v, some v ∈ L → wfv v
def swf (S : List AV) : Prop := ∀ v ∈ S, wfv v
def isB (x : Int32) : Prop := x = 0 ∨ x = 1
def rtok (rt : Option FieldType) (v : Option AV) : Prop := match v with
  | none => rt = none
  | some (.inr (.inl x)) => rt = some .int ∨ (rt = some .boolean ∧ isB x)
  | some (.inr (.inr _)) => rt = some .long
  | some (.inl _) => rt = some (.array .int)
def rins (i : Instr) (v : Option AV) : Prop := match v with
  | none => i = .return_
  | some (.inr (.inl _)) => i = .ireturn
  | some (.inr (.inr _)) => i = .lreturn
  | some (.inl _) => i = .areturn
/-- from pc, with these locals, this stack, in this world, the method ends, with Q -/
def At (h : HD) (X : Ro) (pc : Nat) (L : List (Option AV)) (S : List AV) (σ : St) (Q : Option AV → St → Prop) : Prop :=
  ∀ (p : Program) (l : Launch) (e : Env) (R : Room) (s : State) (m : MethodId) (args : Array Value) (below : List Frame) (meth : Method) (c : Code) (cells slots : Nat) (g : Gh) (A : Nat → Prop) (Z : State → Prop),
    Cx h X g A p R s m args meth c cells slots →
    (∀ (v : Option AV) (σ' : St) (H : Heap) (locs : List Loc) (ls : Array Slot) (k : Nat) (i : Instr), decode h.by k = .ok (i, 1) → rins i v → rtok h.rt v → (∀ w, v = some w → wfv w) → Q v σ' → va_P g.D cls (wl g σ') H → va_S A s.heap H locs → W p l e R s m args below meth c H locs cells slots Z (F0 m k ls (v.toList.map (cv g)))) →
    lwf L → swf S → ∀ (H : Heap) (locs : List Loc) (ls : Array Slot), va_P g.D cls (wl g σ) H → va_S A s.heap H locs → lv_has ls h.ml (lpairs g 0 L) →
    W p l e R s m args below meth c H locs cells slots Z (F0 m pc ls (S.map (cv g)))
def retI (F : Int32 → St → Prop) : Option AV → St → Prop := fun v σ => match v with
  | some (.inr (.inl r)) => F r σ
  | _ => False
def retJ (F : Int64 → St → Prop) : Option AV → St → Prop := fun v σ => match v with
  | some (.inr (.inr r)) => F r σ
  | _ => False
def retR (F : Nat → St → Prop) : Option AV → St → Prop := fun v σ => match v with
  | some (.inl r) => r.1 = 2 ∧ F r.2 σ
  | _ => False
def retV (F : St → Prop) : Option AV → St → Prop := fun v σ => match v with
  | none => F σ
  | _ => False
abbrev CallI (h : HD) (as : List AV) (σ : St) (F : Int32 → St → Prop) : Prop := CallOk h as σ (retI F)
abbrev CallJ (h : HD) (as : List AV) (σ : St) (F : Int64 → St → Prop) : Prop := CallOk h as σ (retJ F)
abbrev CallR (h : HD) (as : List AV) (σ : St) (F : Nat → St → Prop) : Prop := CallOk h as σ (retR F)
abbrev CallV (h : HD) (as : List AV) (σ : St) (F : St → Prop) : Prop := CallOk h as σ (retV F)
/-- a call, with what is to hold behind it for the answer on the stack -/
def cal (f : HD) (as : List AV) (σ : St) (K : List AV → St → Prop) (S : List AV) : Prop := match f.rt with
  | some .int => CallI f as σ (fun r σ' => K (.inr (.inl r) :: S) σ')
  | some .boolean => CallI f as σ (fun r σ' => K (.inr (.inl r) :: S) σ')
  | some .char => CallI f as σ (fun r σ' => K (.inr (.inl r) :: S) σ')
  | some .long => CallJ f as σ (fun r σ' => K (.inr (.inr r) :: S) σ')
  | some (.array .int) => CallR f as σ (fun r σ' => K (.inl (2, r) :: S) σ')
  | none => CallV f as σ (fun σ' => K S σ')
  | _ => False
def icmp (c : ClassFile.Cond) (x y : Int32) (P N : Prop) : Prop := match c with
  | .eq => (x = y → P) ∧ (¬ x = y → N)
  | .ne => (¬ x = y → P) ∧ (x = y → N)
  | .lt => (x < y → P) ∧ (¬ x < y → N)
  | .ge => (y ≤ x → P) ∧ (¬ y ≤ x → N)
  | .gt => (y < x → P) ∧ (¬ y < x → N)
  | .le => (x ≤ y → P) ∧ (¬ x ≤ y → N)
def tsw (x : Int32) (F : Int → Prop) : Int → List Int → Prop
  | _, [] => True
  | v, o :: os => (x.toInt = v → F o) ∧ tsw x F (v + 1) os
/-- one step, with what is to hold behind it -/
def stp (h : HD) (X : Ro) (code : List Ent) (K : List Ent → List (Option AV) → List AV → St → Prop) (Q : Option AV → St → Prop) (e : Ent) (es : List Ent) (L : List (Option AV)) (S : List AV) (σ : St) : Prop :=
  match e.2.2.1 with
  | .aload_n k => (match lget L k.val with | some (.inl r) => K es L (.inl r :: S) σ | _ => False)
  | .aload k => (match lget L k with | some (.inl r) => K es L (.inl r :: S) σ | _ => False)
  | .iload_n k => (match lget L k.val with | some (.inr (.inl x)) => K es L (.inr (.inl x) :: S) σ | _ => False)
  | .iload k => (match lget L k with | some (.inr (.inl x)) => K es L (.inr (.inl x) :: S) σ | _ => False)
  | .lload_n k => (match lget L k.val with | some (.inr (.inr x)) => K es L (.inr (.inr x) :: S) σ | _ => False)
  | .lload k => (match lget L k with | some (.inr (.inr x)) => K es L (.inr (.inr x) :: S) σ | _ => False)
  | .istore_n k => (match S with | .inr (.inl x) :: S' => K es (lset L k.val (.inr (.inl x))) S' σ | _ => False)
  | .istore k => (match S with | .inr (.inl x) :: S' => K es (lset L k (.inr (.inl x))) S' σ | _ => False)
  | .astore_n k => (match S with | .inl x :: S' => K es (lset L k.val (.inl x)) S' σ | _ => False)
  | .astore k => (match S with | .inl x :: S' => K es (lset L k (.inl x)) S' σ | _ => False)
  | .lstore_n k => (match S with | .inr (.inr x) :: S' => K es (lset2 L k.val (.inr (.inr x))) S' σ | _ => False)
  | .lstore k => (match S with | .inr (.inr x) :: S' => K es (lset2 L k (.inr (.inr x))) S' σ | _ => False)
  | .iinc k _ => (match lget L k, e.2.2.2.2 with | some (.inr (.inl x)), .inr (.inr (.inl (d, _))) => K es (lset L k (.inr (.inl (x + d)))) S σ | _, _ => False)
  | .iconst _ => (match e.2.2.2.2 with | .inr (.inr (.inl (v, _))) => K es L (.inr (.inl v) :: S) σ | _ => False)
  | .bipush _ => (match e.2.2.2.2 with | .inr (.inr (.inl (v, _))) => K es L (.inr (.inl v) :: S) σ | _ => False)
  | .sipush _ => (match e.2.2.2.2 with | .inr (.inr (.inl (v, _))) => K es L (.inr (.inl v) :: S) σ | _ => False)
  | .ldc _ => (match e.2.2.2.2 with | .inr (.inr (.inl (v, _))) => K es L (.inr (.inl v) :: S) σ | .inl (t, i, _) => K es L (.inl (t, i) :: S) σ | _ => False)
  | .ldc_w _ => (match e.2.2.2.2 with | .inr (.inr (.inl (v, _))) => K es L (.inr (.inl v) :: S) σ | _ => False)
  | .lconst _ => (match e.2.2.2.2 with | .inr (.inr (.inr (v, _))) => K es L (.inr (.inr v) :: S) σ | _ => False)
  | .ldc2_w _ => (match e.2.2.2.2 with | .inr (.inr (.inr (v, _))) => K es L (.inr (.inr v) :: S) σ | _ => False)
  | .iadd => (match S with | .inr (.inl y) :: .inr (.inl x) :: S' => K es L (.inr (.inl (x + y)) :: S') σ | _ => False)
  | .isub => (match S with | .inr (.inl y) :: .inr (.inl x) :: S' => K es L (.inr (.inl (x - y)) :: S') σ | _ => False)
  | .imul => (match S with | .inr (.inl y) :: .inr (.inl x) :: S' => K es L (.inr (.inl (x * y)) :: S') σ | _ => False)
  | .iand => (match S with | .inr (.inl y) :: .inr (.inl x) :: S' => K es L (.inr (.inl (x &&& y)) :: S') σ | _ => False)
  | .ior => (match S with | .inr (.inl y) :: .inr (.inl x) :: S' => K es L (.inr (.inl (x ||| y)) :: S') σ | _ => False)
  | .ixor => (match S with | .inr (.inl y) :: .inr (.inl x) :: S' => K es L (.inr (.inl (x ^^^ y)) :: S') σ | _ => False)
  | .ishl => (match S with | .inr (.inl y) :: .inr (.inl x) :: S' => K es L (.inr (.inl (x <<< (y &&& 31))) :: S') σ | _ => False)
  | .ishr => (match S with | .inr (.inl y) :: .inr (.inl x) :: S' => K es L (.inr (.inl (x >>> (y &&& 31))) :: S') σ | _ => False)
  | .iushr => (match S with | .inr (.inl y) :: .inr (.inl x) :: S' => K es L (.inr (.inl (x.toUInt32 >>> (y.toUInt32 &&& Int32.toUInt32 31)).toInt32) :: S') σ | _ => False)
  | .idiv => (match S with | .inr (.inl y) :: .inr (.inl x) :: S' => ¬ y = 0 ∧ K es L (.inr (.inl (x / y)) :: S') σ | _ => False)
  | .irem => (match S with | .inr (.inl y) :: .inr (.inl x) :: S' => ¬ y = 0 ∧ K es L (.inr (.inl (x - x / y * y)) :: S') σ | _ => False)
  | .ineg => (match S with | .inr (.inl x) :: S' => K es L (.inr (.inl (-x)) :: S') σ | _ => False)
  | .ladd => (match S with | .inr (.inr y) :: .inr (.inr x) :: S' => K es L (.inr (.inr (x + y)) :: S') σ | _ => False)
  | .lmul => (match S with | .inr (.inr y) :: .inr (.inr x) :: S' => K es L (.inr (.inr (x * y)) :: S') σ | _ => False)
  | .land => (match S with | .inr (.inr y) :: .inr (.inr x) :: S' => K es L (.inr (.inr (x &&& y)) :: S') σ | _ => False)
  | .lor => (match S with | .inr (.inr y) :: .inr (.inr x) :: S' => K es L (.inr (.inr (x ||| y)) :: S') σ | _ => False)
  | .lneg => (match S with | .inr (.inr x) :: S' => K es L (.inr (.inr (-x)) :: S') σ | _ => False)
  | .lshl => (match S with | .inr (.inl y) :: .inr (.inr x) :: S' => K es L (.inr (.inr (x <<< (y.toInt64 &&& 63))) :: S') σ | _ => False)
  | .lshr => (match S with | .inr (.inl y) :: .inr (.inr x) :: S' => K es L (.inr (.inr (x >>> (y.toInt64 &&& 63))) :: S') σ | _ => False)
  | .lcmp => (match S with | .inr (.inr y) :: .inr (.inr x) :: S' => K es L (.inr (.inl (lg_cmp x y)) :: S') σ | _ => False)
  | .i2l => (match S with | .inr (.inl x) :: S' => K es L (.inr (.inr x.toInt64) :: S') σ | _ => False)
  | .l2i => (match S with | .inr (.inr x) :: S' => K es L (.inr (.inl x.toInt32) :: S') σ | _ => False)
  | .i2b => (match S with | .inr (.inl x) :: S' => K es L (.inr (.inl x.toInt8.toInt32) :: S') σ | _ => False)
  | .i2s => (match S with | .inr (.inl x) :: S' => K es L (.inr (.inl x.toInt16.toInt32) :: S') σ | _ => False)
  | .dup => (match S with | .inr (.inl x) :: S' => K es L (.inr (.inl x) :: .inr (.inl x) :: S') σ | .inl x :: S' => K es L (.inl x :: .inl x :: S') σ | _ => False)
  | .dup2 => (match S with | .inr (.inl y) :: .inl x :: S' => K es L (.inr (.inl y) :: .inl x :: .inr (.inl y) :: .inl x :: S') σ | _ => False)
  | .goto off => K (sk code (tgt e.1 off)) L S σ
  | .if_icmp c off => (match S with | .inr (.inl y) :: .inr (.inl x) :: S' => icmp c x y (K (sk code (tgt e.1 off)) L S' σ) (K es L S' σ) | _ => False)
  | .ifCond c off => (match S with | .inr (.inl x) :: S' => icmp c x 0 (K (sk code (tgt e.1 off)) L S' σ) (K es L S' σ) | _ => False)
  | .tableswitch d lo hi offs => (match S with | .inr (.inl x) :: S' => (x.toInt < lo ∨ hi < x.toInt → K (sk code (tgt e.1 d)) L S' σ) ∧ tsw x (fun o => K (sk code (tgt e.1 o)) L S' σ) lo offs.toList | _ => False)
  | .getfield _ => (match S, e.2.2.2.2 with
    | .inl r :: S', .inl (ci, k, _) => (match sh r.1 with
      | (4, c, fs) => (match Nat.beq c ci with
        | true => (match lnth fs k with
          | some (1, x, _) => K es L (.inr (.inl (Int32.ofNat x)) :: S') σ
          | some (2, t, d) => K es L (.inl (t, r.2 + d) :: S') σ
          | some (3, t, i) => K es L (.inl (t, i) :: S') σ
          | some _ => K es L (.inr (.inl (σ r.2 k)) :: S') σ
          | none => False)
        | false => False)
      | _ => False)
    | _, _ => False)
  | .putfield _ => (match S, e.2.2.2.2 with
    | .inr (.inl v) :: .inl r :: S', .inl (ci, k, _) => (match sh r.1 with
      | (4, c, fs) => (match Nat.beq c ci with
        | true => (match lnth fs k with
          | some (0, _, _) => K es L S' (up σ r.2 k v)
          | some (4, _, _) => isB v ∧ K es L S' (up σ r.2 k v)
          | _ => False)
        | false => False)
      | _ => False)
    | _, _ => False)
  | .getstatic _ => (match e.2.2.2.2 with | .inl (t, i, _) => K es L (.inl (t, i) :: S) σ | _ => False)
  | .iaload => (match S with
    | .inr (.inl i) :: .inl r :: S' => (match sh r.1 with
      | (0, n, _) => vp_in i n ∧ K es L (.inr (.inl (σ r.2 i.toNatClampNeg)) :: S') σ
      | (5, j, _) => vp_in i (stl.getD j []).length ∧ K es L (.inr (.inl ((stl.getD j []).getD i.toNatClampNeg 0)) :: S') σ
      | (7, _, _) => vp_in i (X.1 - 1) ∧ K es L (.inr (.inl (X.2 i.toNatClampNeg)) :: S') σ
      | _ => False)
    | _ => False)
  | .baload => (match S with
    | .inr (.inl i) :: .inl r :: S' => (match sh r.1 with
      | (1, n, _) => vp_in i n ∧ K es L (.inr (.inl (σ r.2 i.toNatClampNeg)) :: S') σ
      | (2, n, _) => vp_in i n ∧ K es L (.inr (.inl (σ r.2 i.toNatClampNeg)) :: S') σ
      | _ => False)
    | _ => False)
  | .aaload => (match S with
    | .inr (.inl i) :: .inl r :: S' => (match sh r.1 with
      | (3, n, (t, b, d) :: _) => vp_in i n ∧ K es L (.inl (t, b + d * i.toNatClampNeg) :: S') σ
      | _ => False)
    | _ => False)
  | .iastore => (match S with
    | .inr (.inl v) :: .inr (.inl i) :: .inl r :: S' => (match sh r.1 with
      | (0, n, _) => vp_in i n ∧ K es L S' (up σ r.2 i.toNatClampNeg v)
      | _ => False)
    | _ => False)
  | .bastore => (match S with
    | .inr (.inl v) :: .inr (.inl i) :: .inl r :: S' => (match sh r.1 with
      | (1, n, _) => vp_in i n ∧ K es L S' (up σ r.2 i.toNatClampNeg (vp_nar .byte v))
      | (2, n, _) => vp_in i n ∧ K es L S' (up σ r.2 i.toNatClampNeg (vp_nar .boolean v))
      | _ => False)
    | _ => False)
  | .arraylength => (match S with
    | .inl r :: S' => (match sh r.1 with
      | (0, n, _) => K es L (.inr (.inl (Int32.ofNat n)) :: S') σ
      | (7, _, _) => ¬ X.1 = 0 ∧ K es L (.inr (.inl (Int32.ofNat (X.1 - 1))) :: S') σ
      | _ => False)
    | _ => False)
  | .invokestatic _ => (match e.2.2.2.2 with
    | .inr (.inl (f, _)) => (match poprev f.na [] S with
      | some (as, S') => (match Nat.ble (scat S') 8 with
        | true => cal f as σ (fun S σ' => K es L S σ') S'
        | false => False)
      | none => False)
    | .inl (1, _, _) => (match S with
      | .inr (.inl x) :: S' => (match Nat.ble (scat S') 8 with
        | true => K es L (.inr (.inl (if 0 ≤ x then x else 0 - x)) :: S') σ
        | false => False)
      | _ => False)
    | .inl (2, _, _) => (match S with
      | .inr (.inl y) :: .inr (.inl x) :: S' => (match Nat.ble (scat S') 8 with
        | true => K es L (.inr (.inl (if y < x then y else x)) :: S') σ
        | false => False)
      | _ => False)
    | .inl (3, _, _) => (match S with
      | .inr (.inl y) :: .inr (.inl x) :: S' => (match Nat.ble (scat S') 8 with
        | true => K es L (.inr (.inl (if x < y then y else x)) :: S') σ
        | false => False)
      | _ => False)
    | .inl (0, _, _) => (match S with
      | .inr (.inl n) :: .inr (.inl dp) :: .inl b :: .inr (.inl sp) :: .inl a :: S' => (match sh a.1, sh b.1, S' with
        | (0, n0, _), (0, n1, _), [] => (¬ sp < 0 ∧ ¬ dp < 0 ∧ ¬ n < 0 ∧ sp.toNatClampNeg + n.toNatClampNeg ≤ n0 ∧ dp.toNatClampNeg + n.toNatClampNeg ≤ n1) ∧ ∀ τ : St, τ = upr σ b.2 (va_cpy (σ a.2) (σ b.2) sp.toNatClampNeg dp.toNatClampNeg n.toNatClampNeg) → K es L [] τ
        | (2, n0, _), (2, n1, _), [] => (¬ sp < 0 ∧ ¬ dp < 0 ∧ ¬ n < 0 ∧ sp.toNatClampNeg + n.toNatClampNeg ≤ n0 ∧ dp.toNatClampNeg + n.toNatClampNeg ≤ n1 ∧ ∀ i, i < n.toNatClampNeg → fits .boolean (.int (σ a.2 (sp.toNatClampNeg + i))) = true) ∧ ∀ τ : St, τ = upr σ b.2 (va_cpy (σ a.2) (σ b.2) sp.toNatClampNeg dp.toNatClampNeg n.toNatClampNeg) → K es L [] τ
        | _, _, _ => False)
      | _ => False)
    | _ => False)
  | .invokevirtual _ => (match e.2.2.2.2 with
    | .inr (.inl (f, _)) => (match poprev f.na [] S with
      | some (as, S') => (match as with
        | .inl r :: _ => (match sh r.1 with
          | (4, c, _) => (match Nat.beq c f.pl.2.2.2.2, Nat.ble (scat S') 8 with
            | true, true => cal f as σ (fun S σ' => K es L S σ') S'
            | _, _ => False)
          | (6, _, _) => (match Nat.beq 98 f.pl.2.2.2.2, Nat.ble (scat S') 8 with
            | true, true => cal f as σ (fun S σ' => K es L S σ') S'
            | _, _ => False)
          | _ => False)
        | _ => False)
      | none => False)
    | _ => False)
  | .ireturn => (match S with
    | .inr (.inl x) :: [] => (match h.rt with
      | some .int => Q (some (.inr (.inl x))) σ
      | some .boolean => isB x ∧ Q (some (.inr (.inl x))) σ
      | _ => False)
    | _ => False)
  | .lreturn => (match S with
    | .inr (.inr x) :: [] => (match h.rt with
      | some .long => Q (some (.inr (.inr x))) σ
      | _ => False)
    | _ => False)
  | .areturn => (match S with
    | .inl r :: [] => (match h.rt with
      | some (.array .int) => Q (some (.inl r)) σ
      | _ => False)
    | _ => False)
  | .return_ => (match S with
    | [] => (match h.rt with
      | none => Q none σ
      | _ => False)
    | _ => False)
  | _ => False
def wp (h : HD) (X : Ro) (code : List Ent) (Q : Option AV → St → Prop) : Nat → List Ent → List (Option AV) → List AV → St → Prop
  | 0, _, _, _, _ => False
  | n + 1, es, L, S, σ => match es with
    | [] => False
    | e :: es' => match e.2.2.2.1 with
      | b :: m => At h X e.1 (lkeep (b :: m) L) S σ Q
      | [] => stp h X code (wp h X code Q n) Q e es' L S σ
/-- a walk from an entry: its own mark does not stop it -/
def wp1 (h : HD) (X : Ro) (code : List Ent) (Q : Option AV → St → Prop) (n : Nat) (es : List Ent) (L : List (Option AV)) (S : List AV) (σ : St) : Prop := match es with
  | [] => False
  | e :: es' => stp h X code (wp h X code Q n) Q e es' L S σ
def X0 : Ro := (0, fun _ => 0)
def eP (pc ln : Nat) (i : Instr) : Ent := (pc, ln, i, [], .inr (.inr (.inr (0, 0))))
def eM (pc ln : Nat) (i : Instr) (b : List Bool) : Ent := (pc, ln, i, b, .inr (.inr (.inr (0, 0))))
def eF (pc ln : Nat) (i : Instr) (b : List Bool) (c k p : Nat) : Ent := (pc, ln, i, b, .inl (c, k, p))
def eH (pc ln : Nat) (i : Instr) (b : List Bool) (h : HD) (p : Nat) : Ent := (pc, ln, i, b, .inr (.inl (h, p)))
def eI (pc ln : Nat) (i : Instr) (b : List Bool) (v : Int32) (p : Nat) : Ent := (pc, ln, i, b, .inr (.inr (.inl (v, p))))
def eJ (pc ln : Nat) (i : Instr) (b : List Bool) (v : Int64) (p : Nat) : Ent := (pc, ln, i, b, .inr (.inr (.inr (v, p))))
