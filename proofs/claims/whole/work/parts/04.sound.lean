def chk (h : HD) (e : Ent) : Bool := decide (decode h.by e.1 = .ok (e.2.2.1, e.2.1)) && (match e.2.2.1, e.2.2.2.2 with
  | .iconst n, .inr (.inr (.inl (v, _))) => decide (Int32.ofInt n = v)
  | .bipush n, .inr (.inr (.inl (v, _))) => decide ((Int8.ofInt n).toInt32 = v)
  | .sipush n, .inr (.inr (.inl (v, _))) => decide ((Int16.ofInt n).toInt32 = v)
  | .lconst n, .inr (.inr (.inr (v, _))) => decide (Int64.ofNat n.val = v)
  | .iinc k n, .inr (.inr (.inl (v, _))) => decide (Int32.ofInt n = v) && decide (k < h.ml)
  | .ldc i, .inr (.inr (.inl (v, p))) => decide (lw_tbl[p]? = some (.constant h.y.cls i v))
  | .ldc i, .inl (t, j, p) => decide ((j - 1100, h.y.cls, i, p) ∈ strk) && decide (sh t = (6, j - 1100, [])) && decide (1100 ≤ j) && decide (j < 1108)
  | .ldc_w i, .inr (.inr (.inl (v, p))) => decide (lw_tbl[p]? = some (.constant h.y.cls i v))
  | .ldc2_w i, .inr (.inr (.inr (v, p))) => decide (lw_tbl[p]? = some (.constantLong h.y.cls i v))
  | .istore_n k, _ => decide (k.val < h.ml)
  | .istore k, _ => decide (k < h.ml)
  | .astore_n k, _ => decide (k.val < h.ml)
  | .astore k, _ => decide (k < h.ml)
  | .lstore_n k, _ => decide (k.val + 1 < h.ml)
  | .lstore k, _ => decide (k + 1 < h.ml)
  | .getfield i, .inl (ci, k, p) => (match cls[ci]? with
    | some (C, T, N) => decide (k < N) && decide (lw_tbl[p]? = some (.fieldLink h.y.cls i C (T k).2.1 (T k).2.2.1)) && decide ((T k).1 = C)
    | none => true)
  | .putfield i, .inl (ci, k, p) => (match cls[ci]? with
    | some (C, T, N) => decide (k < N) && decide (lw_tbl[p]? = some (.fieldLink h.y.cls i C (T k).2.1 (T k).2.2.1)) && decide ((T k).1 = C) && decide ((T k).2.2.2 = false)
    | none => true)
  | .getstatic i, .inl (t, j, p) => decide (t = 28) && decide (j = 1010) && decide (lw_tbl[p]? = some (.fieldLink h.y.cls i "FireRows$Asks" "ABOVE" "[I"))
  | .invokestatic i, .inr (.inl (f, p)) => f.st && decide (lw_tbl[p]? = some (.methodLink h.y.cls i f.y)) && decide (lw_tbl[f.pl.1]? = some (.code f.y f.by f.ml f.rt)) && decide (lw_tbl[f.pl.2.1]? = some (.initialized f.y.cls)) && decide (lw_tbl[f.pl.2.2.1]? = some (.static f.y)) && decide (f.fr + 1 ≤ h.fr) && decide (8 + (f.ml + 11) + f.lo ≤ h.lo) && decide ((parseMethodDescriptor f.y.desc).map (fun d => d.parameters.length) = some f.na) && decide (f.y.cls ≠ "java/lang/invoke/MethodHandle") && decide (f.y.cls ≠ "java/lang/invoke/VarHandle")
  | .invokestatic i, .inl (0, _, p) => decide (lw_tbl[p]? = some (.methodLink h.y.cls i arraycopyName)) && decide (1 ≤ h.fr) && decide (nativeFrameWords "java/lang/System" "arraycopy" 5 + 11 ≤ h.lo)
  | .invokestatic i, .inl (1, _, p) => decide (lw_tbl[p]? = some (.methodLink h.y.cls i Lib.Math.abs.name)) && decide (1 ≤ h.fr) && decide (21 ≤ h.lo)
  | .invokestatic i, .inl (2, _, p) => decide (lw_tbl[p]? = some (.methodLink h.y.cls i Lib.Math.min.name)) && decide (1 ≤ h.fr) && decide (21 ≤ h.lo)
  | .invokestatic i, .inl (3, _, p) => decide (lw_tbl[p]? = some (.methodLink h.y.cls i Lib.Math.max.name)) && decide (1 ≤ h.fr) && decide (21 ≤ h.lo)
  | .invokevirtual i, .inr (.inl (f, p)) => !f.st && decide (lw_tbl[p]? = some (.methodLink h.y.cls i f.y)) && decide (lw_tbl[f.pl.1]? = some (.code f.y f.by f.ml f.rt)) && decide (lw_tbl[f.pl.2.1]? = some (.initialized f.y.cls)) && decide (lw_tbl[f.pl.2.2.1]? = some (.instanceMethod f.y)) && decide (lw_tbl[f.pl.2.2.2.1]? = some (.selects f.y.cls f.y f.y)) && decide (f.fr + 1 ≤ h.fr) && decide (8 + (f.ml + 11) + f.lo ≤ h.lo) && decide ((parseMethodDescriptor f.y.desc).map (fun d => d.parameters.length + 1) = some f.na) && decide (f.y.cls ≠ "java/lang/invoke/MethodHandle") && decide (f.y.cls ≠ "java/lang/invoke/VarHandle") && (match cls[f.pl.2.2.2.2]? with
    | some (C, _, _) => decide (C = f.y.cls)
    | none => decide (f.pl.2.2.2.2 = 98) && decide (f.y.cls = "java/lang/String"))
  | _, _ => true)
def chkn : List Ent → Bool
  | [] => true
  | e :: es => (match es with
    | [] => true
    | f :: _ => decide (f.1 = e.1 + e.2.1)) && chkn es
/-- what a method's list of instructions must keep: the code's own instructions, one behind the other, the words that they need among the tables' -/
def okc (h : HD) (code : List Ent) : Bool := code.all (chk h) && chkn code && decide (plainName h.y.cls = true) && (match code with | e :: _ => decide (e.1 = 0) | [] => false)
theorem call_of {h : HD} {code : List Ent} {as : List AV} {σ : St} {Q : Option AV → St → Prop} (ho : okc h code = true) (n : Nat) (hw : wp1 h X0 code Q n code (lent as h.ml) [] σ) : CallOk h as σ Q := by
  sorry
theorem at_of {h : HD} {X : Ro} {code : List Ent} {pc : Nat} {L : List (Option AV)} {S : List AV} {σ : St} {Q : Option AV → St → Prop} (ho : okc h code = true) (n : Nat) (hw : wp1 h X code Q n (sk code pc) L S σ) : At h X pc L S σ Q := by
  sorry
