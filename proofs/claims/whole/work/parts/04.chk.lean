def mcl : List Nat := [0, 0, 20, 7, 0, 0, 13, 13, 13, 13, 7, 7, 7, 0, 13, 0, 13, 7, 0, 13, 0, 9, 0, 13, 2, 9, 5, 5, 5, 5, 16, 16, 16, 21, 16, 17, 18, 18, 18, 18, 16, 5, 4, 5, 4, 4, 5, 4, 4, 5, 5, 5, 5, 5, 4, 2, 2, 11, 0, 13, 13, 13, 13, 13, 13, 13, 13, 13, 13, 13, 13, 13, 13, 13, 13, 13, 13, 0, 13, 0, 11, 0, 13, 13, 0, 2, 2, 0, 2, 2, 2, 2, 0, 13, 13, 13, 13, 13, 13, 13, 0, 3, 3, 0, 13, 13, 13, 0, 13, 0, 0, 3, 3, 3, 0, 13, 13, 13, 0, 13, 3, 0, 13, 13, 13, 13, 2, 2, 8, 8, 0, 13, 13, 13, 8, 0, 13, 13, 14, 8, 0, 0, 13, 13, 13, 13, 8, 0, 13, 0, 13, 3, 0, 13, 13, 13, 13, 6, 0, 6, 0, 13, 13, 13, 6, 0, 13, 3, 6, 0, 13, 13, 6, 0, 13, 3, 10, 10, 10, 0, 13, 13, 13, 2, 8, 0, 13, 0, 13, 3, 0, 13, 13, 20, 20, 6, 6, 0, 13, 3, 3, 0, 13, 8, 8, 0, 13, 8, 0, 13, 3, 11, 0, 13, 0, 13, 8, 0, 0, 13, 13, 1, 0, 13, 13, 1, 1, 1, 1, 1, 1, 1, 1, 1, 1, 1, 1, 1, 1, 0, 13, 13, 13, 13, 13, 0, 13, 0, 3, 0, 13, 0, 13, 19, 15, 15, 15, 12]
def npar : List Nat := [2, 1, 2, 2, 1, 3, 3, 1, 1, 3, 0, 2, 2, 3, 3, 5, 5, 0, 1, 1, 3, 2, 2, 2, 0, 1, 1, 1, 0, 0, 0, 0, 0, 3, 2, 2, 1, 2, 2, 2, 1, 1, 0, 1, 1, 2, 0, 2, 2, 2, 1, 2, 0, 0, 1, 0, 1, 1, 0, 1, 1, 1, 0, 0, 0, 1, 1, 2, 3, 1, 0, 0, 0, 0, 0, 0, 0, 0, 0, 1, 0, 2, 1, 2, 1, 1, 1, 2, 3, 3, 2, 4, 4, 1, 1, 1, 2, 3, 3, 4, 1, 1, 2, 2, 1, 2, 2, 3, 3, 1, 1, 1, 2, 4, 3, 1, 1, 3, 3, 3, 1, 2, 1, 3, 1, 2, 1, 2, 4, 2, 3, 1, 2, 3, 1, 1, 2, 1, 1, 1, 3, 2, 1, 1, 3, 2, 2, 2, 2, 3, 3, 2, 3, 1, 1, 2, 3, 3, 4, 2, 3, 4, 2, 3, 0, 3, 3, 2, 0, 3, 2, 3, 0, 3, 3, 0, 2, 2, 0, 1, 0, 2, 1, 1, 1, 1, 1, 3, 3, 2, 3, 2, 3, 3, 4, 1, 0, 0, 0, 3, 0, 0, 0, 1, 0, 0, 0, 1, 2, 2, 1, 1, 1, 1, 1, 1, 1, 1, 1, 1, 1, 2, 2, 2, 2, 4, 1, 0, 0, 0, 0, 0, 0, 0, 0, 0, 0, 0, 0, 2, 1, 1, 2, 2, 2, 1, 1, 0, 0, 1, 1, 0, 0, 5, 1, 2, 2, 1]
def fidl : List (List Nat) := [[13, 12, 15, 16, 14, 17], [32, 31, 33, 28, 35, 29, 30, 34], [45, 46, 37, 39, 43, 36, 41, 40, 42, 38, 44], [53, 47, 51, 48, 49, 50, 52], [56, 55, 58, 59, 57, 60, 54], [62, 64, 61, 65, 63], [66, 68, 67], [72, 73, 70, 69, 74, 71], [75, 76], [77, 78, 80, 81, 79], [82, 83], [7, 9, 5, 10, 2, 8, 6, 1, 0, 3, 4], [116, 113, 102, 107, 98, 101, 90, 97, 111, 114, 115, 103, 104, 84, 118, 91, 117, 124, 88, 89, 85, 86, 105, 92, 94, 109, 108, 110, 95, 112, 87, 106, 93, 122, 123, 121, 125, 96, 99, 100, 119, 120]]
def clc : List Nat := [1, 2, 3, 4, 5, 6, 7, 8, 9, 10, 11, 0, 13]
def mclN (i : Nat) : Nat := (lnth mcl i).getD 0
def nparN (i : Nat) : Nat := (lnth npar i).getD 0
def fid (ci k : Nat) : Nat := (lnth ((lnth fidl ci).getD []) k).getD 999
def clcN (ci : Nat) : Nat := (lnth clc ci).getD 0
theorem mcl_all : (List.range 258).all (fun i => decide ((mnm i).1.cls = cnm (mclN i)) && decide ((parseMethodDescriptor (mnm i).1.desc).map (fun d => d.parameters.length) = some (nparN i)) && decide (mclN i < 22)) = true := by decide +kernel
theorem cn_all : (List.range 22).all (fun c => decide (cnm c ≠ "java/lang/invoke/MethodHandle") && decide (cnm c ≠ "java/lang/invoke/VarHandle") && (c == 15 || plainName (cnm c))) = true := by decide +kernel
theorem fid_all : (List.range 13).all (fun ci => match cls[ci]? with
  | some (C, T, N) => decide (C = cnm (clcN ci)) && (List.range N).all (fun k => (fid ci k == 999 || decide (fnn (fid ci k) = (C, (T k).2.1, (T k).2.2.1))) && decide ((T k).1 = C))
  | none => false) = true := by decide +kernel
theorem spec_all : cnm 16 = "java/lang/String" ∧ fnn 11 = ("FireRows$Asks", "ABOVE", "[I") ∧ (mnm 253).1 = arraycopyName ∧ (mnm 254).1 = Lib.Math.abs.name ∧ (mnm 255).1 = Lib.Math.min.name ∧ (mnm 256).1 = Lib.Math.max.name := by decide +kernel
def wat (p a b c d : Nat) : Bool := match lnth wcs p with
  | some x => Nat.beq x.1 a && (Nat.beq x.2.1 b && (Nat.beq x.2.2.1 c && Nat.beq x.2.2.2 d))
  | none => false
def ilen : Instr → Nat
  | .aload_n _ | .iload_n _ | .lload_n _ | .istore_n _ | .astore_n _ | .lstore_n _ | .iconst _ | .lconst _ => 1
  | .aload _ | .iload _ | .lload _ | .istore _ | .astore _ | .lstore _ | .bipush _ | .ldc _ => 2
  | .iinc _ _ | .sipush _ | .ldc_w _ | .ldc2_w _ | .goto _ | .if_icmp _ _ | .ifCond _ _ | .getfield _ | .putfield _ | .getstatic _ | .invokestatic _ | .invokevirtual _ => 3
  | .iadd | .isub | .imul | .iand | .ior | .ixor | .ishl | .ishr | .iushr | .idiv | .irem | .ineg | .ladd | .lmul | .land | .lor | .lneg | .lshl | .lshr | .lcmp | .i2l | .l2i | .i2b | .i2s | .dup | .dup2 => 1
  | .iaload | .baload | .aaload | .iastore | .bastore | .arraylength | .ireturn | .lreturn | .areturn | .return_ => 1
  | _ => 0
def hdok (f : HD) : Bool := Nat.blt f.mi 257 && wat f.pl.1 6 f.mi 0 0 && (Nat.beq (mnm f.mi).2.2.1 f.ml && decide ((mnm f.mi).2.2.2 = f.rt)) && wat f.pl.2.1 5 (mclN f.mi) 0 0
def chk (h : HD) (e : Ent) : Bool := decide (decode h.by e.1 = .ok (e.2.2.1, e.2.1)) && (ilen e.2.2.1 == 0 || ilen e.2.2.1 == e.2.1) && (match e.2.2.1, e.2.2.2.2 with
  | .iconst n, .inr (.inr (.inl (v, _))) => decide (Int32.ofInt n = v)
  | .bipush n, .inr (.inr (.inl (v, _))) => decide ((Int8.ofInt n).toInt32 = v)
  | .sipush n, .inr (.inr (.inl (v, _))) => decide ((Int16.ofInt n).toInt32 = v)
  | .lconst n, .inr (.inr (.inr (v, _))) => decide (Int64.ofNat n.val = v)
  | .iinc k n, .inr (.inr (.inl (v, _))) => decide (Int32.ofInt n = v) && decide (k < h.ml)
  | .ldc i, .inr (.inr (.inl (v, p))) => (match lnth wcs p with
    | some x => Nat.beq x.1 7 && Nat.beq x.2.1 (mclN h.mi) && Nat.beq x.2.2.1 i && decide ((lnth ki x.2.2.2).getD 0 = v)
    | none => false)
  | .ldc i, .inl (t, j, p) => decide ((j - 1100, h.y.cls, i, p) ∈ strk) && decide (sh t = (6, j - 1100, [])) && decide (1100 ≤ j) && decide (j < 1108)
  | .ldc_w i, .inr (.inr (.inl (v, p))) => (match lnth wcs p with
    | some x => Nat.beq x.1 7 && Nat.beq x.2.1 (mclN h.mi) && Nat.beq x.2.2.1 i && decide ((lnth ki x.2.2.2).getD 0 = v)
    | none => false)
  | .ldc2_w i, .inr (.inr (.inr (v, p))) => (match lnth wcs p with
    | some x => Nat.beq x.1 8 && Nat.beq x.2.1 (mclN h.mi) && Nat.beq x.2.2.1 i && decide ((lnth kj x.2.2.2).getD 0 = v)
    | none => false)
  | .istore_n k, _ => decide (k.val < h.ml)
  | .istore k, _ => decide (k < h.ml)
  | .astore_n k, _ => decide (k.val < h.ml)
  | .astore k, _ => decide (k < h.ml)
  | .lstore_n k, _ => decide (k.val + 1 < h.ml)
  | .lstore k, _ => decide (k + 1 < h.ml)
  | .goto o, _ => decide (0 ≤ (e.1 : Int) + o)
  | .if_icmp _ o, _ => decide (0 ≤ (e.1 : Int) + o)
  | .ifCond _ o, _ => decide (0 ≤ (e.1 : Int) + o)
  | .tableswitch d lo hi os, _ => decide (0 ≤ (e.1 : Int) + d) && os.toList.all (fun o => decide (0 ≤ (e.1 : Int) + o)) && decide (hi - lo + 1 = os.toList.length)
  | .getfield i, .inl (ci, k, p) => (match cls[ci]? with
    | some (_, _, N) => Nat.blt ci 13 && Nat.blt k N && Nat.blt (fid ci k) 999 && wat p 0 (mclN h.mi) i (fid ci k)
    | none => false)
  | .putfield i, .inl (ci, k, p) => (match cls[ci]? with
    | some (_, T, N) => Nat.blt ci 13 && Nat.blt k N && Nat.blt (fid ci k) 999 && wat p 0 (mclN h.mi) i (fid ci k) && !(T k).2.2.2
    | none => false)
  | .getstatic i, .inl (t, j, p) => Nat.beq t 28 && Nat.beq j 1010 && wat p 0 (mclN h.mi) i 11
  | .invokestatic i, .inr (.inl (f, p)) => f.st && hdok f && wat p 1 (mclN h.mi) i f.mi && wat f.pl.2.2.1 3 f.mi 0 0 && decide (f.fr + 1 ≤ h.fr) && decide (8 + (f.ml + 11) + f.lo ≤ h.lo) && Nat.beq (nparN f.mi) f.na
  | .invokestatic i, .inl (0, _, p) => wat p 1 (mclN h.mi) i 253 && decide (1 ≤ h.fr) && decide (nativeFrameWords "java/lang/System" "arraycopy" 5 + 11 ≤ h.lo)
  | .invokestatic i, .inl (1, _, p) => wat p 1 (mclN h.mi) i 254 && decide (1 ≤ h.fr) && decide (21 ≤ h.lo)
  | .invokestatic i, .inl (2, _, p) => wat p 1 (mclN h.mi) i 255 && decide (1 ≤ h.fr) && decide (21 ≤ h.lo)
  | .invokestatic i, .inl (3, _, p) => wat p 1 (mclN h.mi) i 256 && decide (1 ≤ h.fr) && decide (21 ≤ h.lo)
  | .invokevirtual i, .inr (.inl (f, p)) => !f.st && hdok f && wat p 1 (mclN h.mi) i f.mi && wat f.pl.2.2.1 2 f.mi 0 0 && wat f.pl.2.2.2.1 4 f.mi 0 0 && decide (f.fr + 1 ≤ h.fr) && decide (8 + (f.ml + 11) + f.lo ≤ h.lo) && Nat.beq (nparN f.mi + 1) f.na && (match Nat.beq f.pl.2.2.2.2 98 with
    | true => Nat.beq (mclN f.mi) 16
    | false => Nat.blt f.pl.2.2.2.2 13 && Nat.beq (mclN f.mi) (clcN f.pl.2.2.2.2))
  | _, _ => true)
def chkn : List Ent → Bool
  | [] => true
  | e :: es => (match es with
    | [] => true
    | f :: _ => Nat.beq f.1 (e.1 + e.2.1)) && chkn es
/-- what a method's list of instructions must keep: the code's own instructions, one behind the other, the words that they need among the tables' -/
def okc (h : HD) (code : List Ent) : Bool := hdok h && Nat.blt (mclN h.mi) 22 && !Nat.beq (mclN h.mi) 15 && chkn code && (match code with | e :: _ => Nat.beq e.1 0 | [] => false) && code.all (chk h)
/-- the same of a body alone: it need not be among the tables' methods -/
def okb (h : HD) (code : List Ent) : Bool := Nat.blt h.mi 258 && chkn code && code.all (chk h)
theorem okc_b {h : HD} {code : List Ent} (ho : okc h code = true) : okb h code = true := by
  unfold okc at ho
  simp only [Bool.and_eq_true] at ho
  obtain ⟨⟨⟨⟨⟨hhd, -⟩, -⟩, hcn⟩, -⟩, hall⟩ := ho
  unfold hdok at hhd
  simp only [Bool.and_eq_true] at hhd
  have h1 : h.mi < 257 := Nat.blt_eq.mp hhd.1.1.1
  unfold okb
  rw [Nat.blt_eq.mpr (show h.mi < 258 by omega), hcn, hall]; rfl
