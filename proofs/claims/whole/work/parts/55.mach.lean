/-! the making of the two objects: a machine over cells in the order of their making -/
/-- a cell: a row of numbers (kind, length, what was put), a row of cells, an object (class, fields) -/
abbrev CE : Type := (Nat × Nat × List (Nat × Int32)) ⊕ ((Nat × Nat × List (Nat × Nat)) ⊕ (Nat × List (Option AV)))
def zv (g : Gh) : Option AV → Value
  | none => .null
  | some v => cv g v
def zrI : List (Nat × Int32) → Nat → Int32
  | [] => fun _ => 0
  | q :: l => upd (zrI l) q.1 q.2
def zrR (g : Gh) : List (Nat × Nat) → Nat → Option Nat
  | [] => fun _ => none
  | q :: l => va_up (zrR g l) q.1 (some (g.ad q.2))
def zce (g : Gh) : CE → va_E
  | .inl (t, n, l) => .inl (g.dA t, n, .inl (zrI l))
  | .inr (.inl (t, n, l)) => .inl (g.dA t, n, .inr (.inr (.inr (.inr (zrR g l)))))
  | .inr (.inr (ci, fs)) => .inr (ci, fs.map (zv g))
def zel (g : Gh) : Nat → List CE → va_W
  | _, [] => []
  | i, c :: cs => (g.ad i, zce g c) :: zel g (i + 1) cs
def zslot : CE → Nat
  | .inl (_, n, _) => n
  | .inr (.inl (_, n, _)) => n
  | .inr (.inr (_, fs)) => fs.length
def zsl : List CE → Nat
  | [] => 0
  | c :: cs => zslot c + zsl cs
/-- a method: name, bytes, locals, frames and words of locals that its calls need, arguments beside the receiver, its words -/
abbrev ZD : Type := MethodName × ByteArray × Nat × Nat × Nat × Nat × (Nat × Nat × Nat)
abbrev ZD.y (h : ZD) : MethodName := h.1
abbrev ZD.by (h : ZD) : ByteArray := h.2.1
abbrev ZD.ml (h : ZD) : Nat := h.2.2.1
abbrev ZD.fr (h : ZD) : Nat := h.2.2.2.1
abbrev ZD.lo (h : ZD) : Nat := h.2.2.2.2.1
abbrev ZD.np (h : ZD) : Nat := h.2.2.2.2.2.1
abbrev ZD.pl (h : ZD) : Nat × Nat × Nat := h.2.2.2.2.2.2
def ztyp : Nat → FieldType
  | 0 => .int
  | 1 => .byte
  | _ => .boolean
def zrcl : Nat → String
  | 3 => "FireRows$Sheet"
  | _ => "FireRows$World"
def zrci : Nat → Nat
  | 3 => 6
  | _ => 10
def zdef (T : u_T) (N : Nat) : List (Option AV) := (List.range N).map fun k => match (T k).2.2.1 == "I" || (T k).2.2.1 == "Z" with
  | true => some (iv 0)
  | false => none
/-- whether a value may stand in a field -/
def zfit (d : String) : AV → Bool
  | .inl _ => (match parseFieldDescriptor d with
    | some (.object _) => true
    | some (.array _) => true
    | _ => false)
  | .inr (.inl _) => d == "I"
  | _ => false
abbrev ZS : Type := Nat × List (Option AV) × List AV × List CE
/-- one step, but calls -/
def zst (h : ZD) (e : Ent) (L : List (Option AV)) (S : List AV) (cs : List CE) : Option ZS := match e.2.2.1 with
  | .aload_n k => (match lget L k.val with | some (.inl r) => some (e.1 + 1, L, .inl r :: S, cs) | _ => none)
  | .aload k => (match lget L k with | some (.inl r) => some (e.1 + 2, L, .inl r :: S, cs) | _ => none)
  | .astore_n k => (match S, Nat.blt k.val h.ml with | .inl r :: S', true => some (e.1 + 1, lset L k.val (.inl r), S', cs) | _, _ => none)
  | .iload_n k => (match lget L k.val with | some (.inr (.inl x)) => some (e.1 + 1, L, iv x :: S, cs) | _ => none)
  | .istore_n k => (match S, Nat.blt k.val h.ml with | .inr (.inl x) :: S', true => some (e.1 + 1, lset L k.val (iv x), S', cs) | _, _ => none)
  | .iinc k d => (match lget L k, Nat.blt k h.ml with | some (.inr (.inl x)), true => some (e.1 + 3, lset L k (iv (x + Int32.ofInt d)), S, cs) | _, _ => none)
  | .iconst n => some (e.1 + 1, L, iv (Int32.ofInt n) :: S, cs)
  | .bipush n => some (e.1 + 2, L, iv (Int8.ofInt n).toInt32 :: S, cs)
  | .sipush n => some (e.1 + 3, L, iv (Int16.ofInt n).toInt32 :: S, cs)
  | .dup => (match S with | .inl r :: S' => some (e.1 + 1, L, .inl r :: .inl r :: S', cs) | _ => none)
  | .imul => (match S with | .inr (.inl y) :: .inr (.inl x) :: S' => some (e.1 + 1, L, iv (x * y) :: S', cs) | _ => none)
  | .goto o => (match decide (0 ≤ (e.1 : Int) + o) with | true => some (tgt e.1 o, L, S, cs) | false => none)
  | .if_icmp .ge o => (match S, decide (0 ≤ (e.1 : Int) + o) with | .inr (.inl y) :: .inr (.inl x) :: S', true => some (match decide (y ≤ x) with | true => tgt e.1 o | false => e.1 + 3, L, S', cs) | _, _ => none)
  | .new _ => (match e.2.2.2.2 with
    | .inl (ci, _, _) => (match cls[ci]? with
      | some (_, T, N) => (match Nat.blt cs.length 999 with
        | true => some (e.1 + 3, L, rf 0 cs.length :: S, cs ++ [.inr (.inr (ci, zdef T N))])
        | false => none)
      | none => none)
    | _ => none)
  | .newarray _ => (match e.2.2.2.2, S with
    | .inl (t, _, _), .inr (.inl n) :: S' => (match Nat.blt t 3 && !decide (n < 0) && decide (n.toNatClampNeg * componentBytes (ztyp t) ≤ 536870912) && Nat.blt cs.length 999 with
      | true => some (e.1 + 2, L, rf 0 cs.length :: S', cs ++ [.inl (t, n.toNatClampNeg, [])])
      | false => none)
    | _, _ => none)
  | .anewarray _ => (match e.2.2.2.2, S with
    | .inl (t, _, _), .inr (.inl n) :: S' => (match (Nat.beq t 3 || Nat.beq t 4) && !decide (n < 0) && decide (n.toNatClampNeg * 4 ≤ 536870912) && Nat.blt cs.length 999 with
      | true => some (e.1 + 3, L, rf 0 cs.length :: S', cs ++ [.inr (.inl (t, n.toNatClampNeg, []))])
      | false => none)
    | _, _ => none)
  | .getfield _ => (match e.2.2.2.2, S with
    | .inl (ci, k, _), .inl r :: S' => (match cs[r.2]? with
      | some (.inr (.inr (c9, fs))) => (match Nat.beq c9 ci, fs[k]? with
        | true, some (some v) => some (e.1 + 3, L, v :: S', cs)
        | _, _ => none)
      | _ => none)
    | _, _ => none)
  | .putfield _ => (match e.2.2.2.2, S with
    | .inl (ci, k, _), v :: .inl r :: S' => (match cs[r.2]?, cls[ci]? with
      | some (.inr (.inr (c9, fs))), some (_, T, _) => (match Nat.beq c9 ci && Nat.blt k fs.length && zfit (T k).2.2.1 v with
        | true => some (e.1 + 3, L, S', cs.set r.2 (.inr (.inr (ci, fs.set k (some v)))))
        | false => none)
      | _, _ => none)
    | _, _ => none)
  | .getstatic _ => (match e.2.2.2.2 with
    | .inl (j, _, _) => (match Nat.blt j 10 with | true => some (e.1 + 3, L, rf 0 (1000 + j) :: S, cs) | false => none)
    | _ => none)
  | .ldc _ => (match e.2.2.2.2 with
    | .inl (j, _, _) => some (e.1 + 2, L, rf 0 (1100 + j) :: S, cs)
    | _ => none)
  | .arraylength => (match S with
    | .inl r :: S' => (match Nat.ble 1000 r.2 && Nat.blt r.2 1011 with
      | true => some (e.1 + 1, L, iv (Int32.ofNat (stl.getD (r.2 - 1000) []).length) :: S', cs)
      | false => none)
    | _ => none)
  | .iastore => (match S with
    | .inr (.inl v) :: .inr (.inl i) :: .inl r :: S' => (match cs[r.2]? with
      | some (.inl (t, n, l)) => (match Nat.beq t 0 && !decide (i < 0) && Nat.blt i.toNatClampNeg n with
        | true => some (e.1 + 1, L, S', cs.set r.2 (.inl (t, n, (i.toNatClampNeg, v) :: l)))
        | false => none)
      | _ => none)
    | _ => none)
  | .aastore => (match S with
    | .inl q :: .inr (.inl i) :: .inl r :: S' => (match cs[r.2]?, cs[q.2]? with
      | some (.inr (.inl (t, n, l))), some (.inr (.inr (ci, _))) => (match (Nat.beq t 3 || Nat.beq t 4) && Nat.beq ci (zrci t) && !decide (i < 0) && Nat.blt i.toNatClampNeg n with
        | true => some (e.1 + 1, L, S', cs.set r.2 (.inr (.inl (t, n, (i.toNatClampNeg, q.2) :: l))))
        | false => none)
      | _, _ => none)
    | _ => none)
  | .invokestatic _ => (match e.2.2.2.2, S with
    | .inl _, .inr (.inl y) :: .inr (.inl x) :: S' => (match Nat.ble (scat S') 8 with
      | true => some (e.1 + 3, L, iv (if y < x then y else x) :: S', cs)
      | false => none)
    | _, _ => none)
  | _ => none
def zini : List Nat := [93, 85, 89, 86, 84, 91, 94, 90, 83, 92, 88, 82, 95]
def zfl : List String := ["FLOOR_LEAST", "FLOOR_MOST", "FIRE_LEAST", "FIRE_MOST", "HOUSE_LEAST", "HOUSE_MOST", "CRACK_LEAST", "CRACK_MOST", "STORY_LEAST", "STORY_MOST"]
def znst : List (String × Nat × MethodName) := [("FireRows", 17, ⟨"FireRows$Tape", "<init>", "()V"⟩), ("FireRows$Reader", 9, ⟨"FireRows$Floor", "<init>", "()V"⟩), ("FireRows", 33, ⟨"FireRows$World", "<init>", "()V"⟩), ("FireRows$World", 9, ⟨"FireRows$Floor", "<init>", "()V"⟩), ("FireRows$World", 18, ⟨"FireRows$Hills", "<init>", "()V"⟩), ("FireRows", 73, ⟨"FireRows$Asks", "<init>", "()V"⟩), ("FireRows", 78, ⟨"FireRows$Sheet", "<init>", "()V"⟩)]
def zw (p : Nat) (w : Cond) : Bool := decide (lnth lw_tbl p = some w) && goodWord w
