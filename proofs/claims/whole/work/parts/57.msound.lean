/-! the machine of the making is sound -/
theorem zw_ok {p : Nat} {w : Cond} (h : zw p w = true) : w ∈ gtbl := by
  unfold zw at h
  rw [Bool.and_eq_true, decide_eq_true_eq, lnth_eq] at h
  exact gt_in (List.mem_of_getElem? h.1) h.2
theorem zel_at {g : Gh} : ∀ (cs : List CE) (i k : Nat), (zel g i cs)[k]? = (cs[k]?).map fun c => (g.ad (i + k), zce g c)
  | [], i, k => by simp [zel]
  | c :: cs, i, 0 => by simp [zel]
  | c :: cs, i, k + 1 => by
    show (zel g (i + 1) cs)[k]? = (cs[k]?).map fun c => (g.ad (i + (k + 1)), zce g c)
    rw [zel_at cs (i + 1) k, Nat.add_assoc, Nat.add_comm 1 k]
theorem zel_app {g : Gh} (c : CE) : ∀ (cs : List CE) (i : Nat), zel g i (cs ++ [c]) = zel g i cs ++ [(g.ad (i + cs.length), zce g c)]
  | [], i => rfl
  | d :: cs, i => by
    show (g.ad i, zce g d) :: zel g (i + 1) (cs ++ [c]) = (g.ad i, zce g d) :: (zel g (i + 1) cs ++ [(g.ad (i + (cs.length + 1)), zce g c)])
    rw [zel_app c cs (i + 1), Nat.add_assoc, Nat.add_comm 1 cs.length]
theorem zel_set {g : Gh} (c : CE) : ∀ (cs : List CE) (i k : Nat), zel g i (cs.set k c) = (zel g i cs).set k (g.ad (i + k), zce g c)
  | [], i, k => rfl
  | d :: cs, i, 0 => rfl
  | d :: cs, i, k + 1 => by
    show (g.ad i, zce g d) :: zel g (i + 1) (cs.set k c) = (g.ad i, zce g d) :: (zel g (i + 1) cs).set k (g.ad (i + (k + 1)), zce g c)
    rw [zel_set c cs (i + 1) k, Nat.add_assoc, Nat.add_comm 1 k]
theorem zel_len {g : Gh} : ∀ (cs : List CE) (i : Nat), (zel g i cs).length = cs.length
  | [], _ => rfl
  | _ :: cs, i => by show (zel g (i + 1) cs).length + 1 = cs.length + 1; rw [zel_len cs (i + 1)]
theorem zsl_app (c : CE) : ∀ (cs : List CE), zsl (cs ++ [c]) = zsl cs + zslot c
  | [] => by show zslot c + 0 = 0 + zslot c; omega
  | d :: cs => by show zslot d + zsl (cs ++ [c]) = zslot d + zsl cs + zslot c; rw [zsl_app c cs]; omega
theorem zsl_set {c d : CE} (hz : zslot d = zslot c) : ∀ {cs : List CE} {k : Nat}, cs[k]? = some d → zsl (cs.set k c) = zsl cs
  | [], k, h => by cases h
  | e :: cs, 0, h => by
    have : e = d := by simpa using h
    subst this
    show zslot c + zsl cs = zslot e + zsl cs
    rw [hz]
  | e :: cs, k + 1, h => by
    show zslot e + zsl (cs.set k c) = zslot e + zsl cs
    rw [zsl_set hz (cs := cs) (k := k) (by simpa using h)]
/-- what is known of the given things while the objects are made -/
def ZW (g : Gh) (b : Nat) (s : State) : Prop := va_K g.D cls (tyl g) s ∧ Sx g (fun q => b ≤ q) s s.heap ∧ Sr g s ∧ (va_AO "FireRows$Sheet" s ∧ va_AO "FireRows$World" s) ∧ (∀ j, j < 10 → va_Z "FireRows$Floor" (zfl.getD j "") "[I" (.ref (g.ad (1000 + j))) (fun q => b ≤ q) s s.heap) ∧ (∀ q ∈ znst, va_Nw (.methodLinkNest q.1 q.2.1 q.2.2 "FireRows") s) ∧ ∀ i, i < 1000 → g.ad i = b + i
def Zx (h : ZD) (g : Gh) (b c0 : Nat) (p : Program) (R : Room) (s : State) (m : MethodId) (args : Array Value) (meth : Method) (c : Code) : Prop :=
  p.tables.exec = Jvm.exec ∧ c.code = h.by ∧ c.maxLocals = h.ml ∧ s.vm.findClass h.y.cls = some m.cls ∧ (∀ w ∈ gtbl, w.before args s = true) ∧ ZW g b s ∧ s.heap.size = b + c0 ∧ h.fr ≤ R.frames ∧ h.lo ≤ R.locals ∧ (h.y.name = "<init>" → meth.name = "<init>")
theorem zD {g : Gh} {b : Nat} (hgb : ∀ i, i < 1000 → g.ad i = b + i) {cs : List CE} (hlen : cs.length ≤ 1000) : va_D (fun q => b ≤ q) (zel g 0 cs) := by
  have key : ∀ (k : Nat) (q : Nat × va_E), (zel g 0 cs)[k]? = some q → q.1 = b + k := by
    intro k q hq
    have hk := (List.getElem?_eq_some_iff.mp hq).1
    rw [zel_len] at hk
    rw [zel_at, Nat.zero_add] at hq
    cases hc : cs[k]? with
    | none => rw [hc] at hq; cases hq
    | some c =>
      rw [hc] at hq
      have : (g.ad k, zce g c) = q := by simpa using hq
      rw [← this]
      exact hgb k (by omega)
  refine ⟨fun i j p q hi hj e => ?_, fun k q hk => ?_⟩
  · have h1 := key i p hi
    have h2 := key j q hj
    omega
  · have := key k q hk
    show b ≤ q.1
    omega
section ZSND
variable {p : Program} {l : Launch} {e : Env} {R : Room} {s : State} {m : MethodId} {args : Array Value} {below : List Frame} {meth : Method} {c : Code} {g : Gh} {b c0 s0 : Nat} {Z : State → Prop}
theorem zsz {H : Heap} {locs : List Loc} {x y : Nat} {fr : JFrame} (k : H.size ≤ s.heap.size + x → W p l e R s m args below meth c H locs x y Z fr) : W p l e R s m args below meth c H locs x y Z fr := fun T hT X => k (by
  have h : (T.setVm s.vm).heap.size ≤ s.heap.size + x := X.same.2.2.1
  rw [← hT]; exact h) T hT X
theorem zfresh {cs : List CE} {q : Nat} {v : va_E} {H1 : Heap} (hgb : ∀ i, i < 1000 → g.ad i = b + i) (hlen : cs.length < 1000) (hP1 : va_P g.D cls (zel g 0 cs ++ [(q, v)]) H1) (hD1 : va_D (fun q => b ≤ q) (zel g 0 cs ++ [(q, v)])) (hsz : H1.size ≤ b + cs.length + 1) : q = g.ad cs.length := by
  have hat : (zel g 0 cs ++ [(q, v)])[cs.length]? = some (q, v) := by
    rw [List.getElem?_append_right (by rw [zel_len]; exact Nat.le_refl _), zel_len, Nat.sub_self]; rfl
  have h1 : b ≤ q := hD1.2 _ _ hat
  have h2 : q < H1.size := (hP1 _ _ hat).lt
  rw [hgb _ hlen]
  by_cases h3 : q = b + cs.length
  · exact h3
  · exfalso
    have hi : q - b < cs.length := by omega
    have hat2 : (zel g 0 cs ++ [(q, v)])[q - b]? = some (g.ad (q - b), zce g (cs[q - b]'hi)) := by
      rw [List.getElem?_append_left (by rw [zel_len]; exact hi), zel_at, Nat.zero_add, List.getElem?_eq_getElem hi]; rfl
    have h4 : g.ad (q - b) = q := by rw [hgb _ (by omega)]; omega
    have := hD1.1 _ _ _ _ hat2 hat h4
    omega
theorem zst_sound {h : ZD} {en : Ent} {L : List (Option AV)} {S : List AV} {cs : List CE} {q : ZS} (C : Zx h g b c0 p R s m args meth c) (hc : zchk h en = true) (hst : zst h en L S cs = some q) {x y : Nat} (hx0 : x + c0 = cs.length) (hy0 : y + s0 = zsl cs) (hR1 : q.2.2.2.length ≤ R.cells + c0) (hR2 : zsl q.2.2.2 ≤ R.slots + s0) (hR3 : cs.length ≤ R.cells + c0) (hR4 : zsl cs ≤ R.slots + s0) (hlen : cs.length ≤ 1000)
    (kk : ∀ (H' : Heap) (locs' : List Loc) (ls' : Array Slot) (x' y' : Nat), x' + c0 = q.2.2.2.length → y' + s0 = zsl q.2.2.2 → va_P g.D cls (zel g 0 q.2.2.2) H' → va_S (fun q => b ≤ q) s.heap H' locs' → lv_has ls' h.ml (lpairs g 0 q.2.1) → W p l e R s m args below meth c H' locs' x' y' Z (F0 m q.1 ls' (q.2.2.1.map (cv g))))
    {H : Heap} {locs : List Loc} {ls : Array Slot} (hP : va_P g.D cls (zel g 0 cs) H) (hS : va_S (fun q => b ≤ q) s.heap H locs) (hl : lv_has ls h.ml (lpairs g 0 L)) : W p l e R s m args below meth c H locs x y Z (F0 m en.1 ls (S.map (cv g))) := by
  obtain ⟨pc, ln, ins, fl, od⟩ := en
  obtain ⟨hx, hb, hml, hown, hts, ⟨hK, hSx, hSr, hAO, hZl, hNs, hgb⟩, hsz, hfr, hlo, hnm⟩ := C
  unfold zchk at hc
  rw [Bool.and_eq_true, Bool.and_eq_true, decide_eq_true_eq] at hc
  obtain ⟨⟨hd0, hln0⟩, hc⟩ := hc
  have hd : decode h.by pc = .ok (ins, ln) := hd0
  have hln : (ilen ins == 0 || ilen ins == ln) = true := hln0
  clear hd0 hln0
  have hD := zD hgb hlen
  have hA : ∀ q, s.heap.size ≤ q → b ≤ q := fun q hq => by omega
  have tg : ∀ {o : Int}, 0 ≤ (pc : Int) + o → (pc : Int) + o = (tgt pc o : Int) := fun h0 => by unfold tgt; omega
  have tys : ∀ {cA : ClassId} {ty : FieldType} {t : Nat}, va_K g.D cls (tyl g ++ [(cA, ty)]) s → (tyl g)[t]? = some (g.dA t, ty) → cA = g.dA t := by
    intro cA ty t h1 h2
    have r1 := (h1.2 5 (cA, ty) rfl).2
    have r2 := (hK.2 t _ h2).2
    cases ty with
    | object C9 =>
      obtain ⟨_, _, -, -, -, e1⟩ := r1
      obtain ⟨_, _, -, -, -, e2⟩ := r2
      exact Option.some.inj (e1.symm.trans e2)
    | _ => exact Option.some.inj (Eq.trans (Eq.symm r1) r2)
  cases ins
  case aload_n k =>
    have e0 : ln = 1 := by simp [ilen] at hln; omega
    subst e0
    dsimp only [zst] at hst
    split at hst
    · next hg => cases hst; exact lv_aload_n hx hb hd rfl (lh_g hl hg) (kk H locs ls x y hx0 hy0 hP hS hl)
    · cases hst
  case aload k =>
    have e0 : ln = 2 := by simp [ilen] at hln; omega
    subst e0
    dsimp only [zst] at hst
    split at hst
    · next hg => cases hst; exact lv_aload hx hb hd (lh_g hl hg) (kk H locs ls x y hx0 hy0 hP hS hl)
    · cases hst
  case astore_n k =>
    have e0 : ln = 1 := by simp [ilen] at hln; omega
    subst e0
    dsimp only [zst] at hst
    split at hst
    · next hk => cases hst; exact lv_astore_n hx hb hd rfl hl (Nat.blt_eq.mp hk) rfl (fun ls' hl' => kk H locs ls' x y hx0 hy0 hP hS (lh_s rfl hl'))
    · cases hst
  case iload_n k =>
    have e0 : ln = 1 := by simp [ilen] at hln; omega
    subst e0
    dsimp only [zst] at hst
    split at hst
    · next hg => cases hst; exact lv_iload_n hx hb hd rfl (lh_g hl hg) (kk H locs ls x y hx0 hy0 hP hS hl)
    · cases hst
  case istore_n k =>
    have e0 : ln = 1 := by simp [ilen] at hln; omega
    subst e0
    dsimp only [zst] at hst
    split at hst
    · next hk => cases hst; exact lv_istore_n hx hb hd rfl hl (Nat.blt_eq.mp hk) rfl (fun ls' hl' => kk H locs ls' x y hx0 hy0 hP hS (lh_s rfl hl'))
    · cases hst
  case iinc k d =>
    have e0 : ln = 3 := by simp [ilen] at hln; omega
    subst e0
    dsimp only [zst] at hst
    split at hst
    · next hg hk =>
      cases hst
      obtain ⟨j, hj⟩ := lh_n hl hg
      exact lv_iinc hx hb hd hl hj rfl (Nat.blt_eq.mp hk) rfl (fun ls' hl' => kk H locs ls' x y hx0 hy0 hP hS (lh_s rfl hl'))
    · cases hst
  case iconst n =>
    have e0 : ln = 1 := by simp [ilen] at hln; omega
    subst e0
    cases hst
    exact lv_iconst hx hb hd rfl (kk H locs ls x y hx0 hy0 hP hS hl)
  case bipush n =>
    have e0 : ln = 2 := by simp [ilen] at hln; omega
    subst e0
    cases hst
    exact lv_bipush hx hb hd rfl (kk H locs ls x y hx0 hy0 hP hS hl)
  case sipush n =>
    have e0 : ln = 3 := by simp [ilen] at hln; omega
    subst e0
    cases hst
    exact lv_sipush hx hb hd rfl (kk H locs ls x y hx0 hy0 hP hS hl)
  case dup =>
    have e0 : ln = 1 := by simp [ilen] at hln; omega
    subst e0
    dsimp only [zst] at hst
    split at hst
    · cases hst; exact lv_dup hx hb hd rfl (kk H locs ls x y hx0 hy0 hP hS hl)
    · cases hst
  case imul =>
    have e0 : ln = 1 := by simp [ilen] at hln; omega
    subst e0
    dsimp only [zst] at hst
    split at hst
    · cases hst; exact lv_imul hx hb hd (kk H locs ls x y hx0 hy0 hP hS hl)
    · cases hst
  case goto o =>
    have e0 : ln = 3 := by simp [ilen] at hln; omega
    subst e0
    dsimp only [zst] at hst
    split at hst
    · next h0 => cases hst; exact lv_goto hx hb hd (tg (of_decide_eq_true h0)) (kk H locs ls x y hx0 hy0 hP hS hl)
    · cases hst
  case if_icmp cnd o =>
    have e0 : ln = 3 := by simp [ilen] at hln; omega
    subst e0
    cases cnd
    case ge =>
      dsimp only [zst] at hst
      split at hst
      · next y9 x9 S9 h0 =>
        cases hst
        have k9 := kk H locs ls x y hx0 hy0 hP hS hl
        refine lv_icmp_ge hx hb hd (tg (of_decide_eq_true h0)) (fun z => ?_) (fun z => ?_)
        · dsimp only at k9
          rw [decide_eq_true (show y9 ≤ x9 from z)] at k9
          exact k9
        · dsimp only at k9
          rw [decide_eq_false (show ¬ y9 ≤ x9 from z)] at k9
          exact k9
      · cases hst
    all_goals (cases hst)
  case new i =>
    dsimp only [zst] at hst
    split at hst
    · next ci p9 q9 =>
      split at hst
      · next C9 T9 N9 hC9 =>
        split at hst
        · next h9 =>
          cases hst
          have h9 := Nat.blt_eq.mp h9
          have hc : (match cls[ci]? with
            | some (C, _, N) => Nat.beq ln 3 && zw p9 (.classLink h.y.cls i C) && zw q9 (.instantiable C N) && zw (zini.getD ci 0) (.initialized C) && Nat.blt ci 13
            | none => false) = true := hc
          rw [hC9] at hc
          simp only [Bool.and_eq_true] at hc
          obtain ⟨⟨⟨⟨c1, c2⟩, c3⟩, c4⟩, c5⟩ := hc
          have e0 : ln = 3 := Nat.eq_of_beq_eq_true c1
          subst e0
          obtain ⟨hin9, ⟨ty0, hty0⟩, hnm9⟩ := cls_in hC9
          have hdl : (zdef T9 N9).length = N9 := by unfold zdef; rw [List.length_map, List.length_range]
          have hdf := List.all_eq_true.mp zd_ok ci (List.mem_range.mpr (Nat.blt_eq.mp c5))
          rw [hC9] at hdf
          have hfs : ∀ j, j < N9 → defaultValue (ty0 j) = vp_V ((zdef T9 N9).map (zv g)) j := by
            intro j hj
            have h1 := List.all_eq_true.mp hdf j (List.mem_range.mpr hj)
            rw [hty0 j hj] at h1
            have h2 : vp_V ((zdef T9 N9).map (zv g)) j = zv g (match (T9 j).2.2.1 == "I" || (T9 j).2.2.1 == "Z" with
              | true => some (iv 0)
              | false => none) := by
              unfold vp_V zdef
              rw [List.getD_eq_getElem?_getD, List.getElem?_map, List.getElem?_map, List.getElem?_range hj]
              rfl
            rw [h2]
            cases hb9 : ((T9 j).2.2.1 == "I" || (T9 j).2.2.1 == "Z") with
            | true => simp only [hb9] at h1; exact of_decide_eq_true h1
            | false => simp only [hb9] at h1; exact of_decide_eq_true h1
          dsimp only at hR1 hR2
          rw [List.length_append] at hR1
          rw [zsl_app] at hR2
          have hR1 : cs.length + 1 ≤ R.cells + c0 := hR1
          have hR2 : zsl cs + (zdef T9 N9).length ≤ R.slots + s0 := hR2
          rw [hdl] at hR2
          refine va_new (ci := ci) (fs := (zdef T9 N9).map (zv g)) (C := C9) (T := T9) (N := N9) hx hb hts hin9 ty0 hty0 hown (hts _ (zw_ok c2)) (hts _ (zw_ok c3)) (hts _ (zw_ok c4)) hK hP hD hS hA hC9 hfs (by omega) (by omega) hd (fun q H1 hP1 hD1 hS1 => ?_)
          refine zsz fun hz => ?_
          have eq := zfresh hgb (by omega) hP1 hD1 (by omega)
          subst eq
          have k9 := kk H1 locs ls (x + 1) (y + N9) (by dsimp only; rw [List.length_append]; show x + 1 + c0 = cs.length + 1; omega) (by dsimp only; rw [zsl_app]; show y + N9 + s0 = zsl cs + (zdef T9 N9).length; omega) (by dsimp only; rw [zel_app, Nat.zero_add]; exact hP1) hS1 hl
          exact k9
        · cases hst
      · cases hst
    · cases hst
  case newarray a9 =>
    dsimp only [zst] at hst
    split at hst
    · next t p9 q9 n S9 =>
      split at hst
      · next h9 =>
        cases hst
        simp only [Bool.and_eq_true, decide_eq_true_eq, Bool.not_eq_true', decide_eq_false_iff_not] at h9
        obtain ⟨⟨⟨d1, d2⟩, d3⟩, d4⟩ := h9
        have d1 := Nat.blt_eq.mp d1
        have d4 := Nat.blt_eq.mp d4
        have hc : (Nat.beq ln 2 && decide (newarray.typeOf a9 = ztyp t) && zw p9 (.arrayClass (ztyp t))) = true := hc
        simp only [Bool.and_eq_true, decide_eq_true_eq] at hc
        obtain ⟨⟨c1, c2⟩, c3⟩ := hc
        have e0 : ln = 2 := Nat.eq_of_beq_eq_true c1
        subst e0
        dsimp only at hR1 hR2
        rw [List.length_append] at hR1
        rw [zsl_app] at hR2
        have hR1 : cs.length + 1 ≤ R.cells + c0 := hR1
        have hR2 : zsl cs + n.toNatClampNeg ≤ R.slots + s0 := hR2
        have ht3 : t = 0 ∨ t = 1 ∨ t = 2 := by omega
        have hty : (tyl g)[t]? = some (g.dA t, ztyp t) := by rcases ht3 with e | e | e <;> subst e <;> rfl
        refine va_newa (ty := ztyp t) (a0 := (n.toNatClampNeg, .inl (zrI []))) hx hb (by rw [c2]; exact hts _ (zw_ok c3)) c2 hK hP hD hS hA (fun cA => by rcases ht3 with e | e | e <;> subst e <;> rfl) d2 rfl d3 (by omega) (by omega) hd (fun q cA H1 hK1 hP1 hD1 hS1 => ?_)
        refine zsz fun hz => ?_
        have eq := zfresh hgb (by omega) hP1 hD1 (by omega)
        subst eq
        have eA := tys hK1 hty
        subst eA
        have k9 := kk H1 locs ls (x + 1) (y + n.toNatClampNeg) (by dsimp only; rw [List.length_append]; show x + 1 + c0 = cs.length + 1; omega) (by dsimp only; rw [zsl_app]; show y + n.toNatClampNeg + s0 = zsl cs + n.toNatClampNeg; omega) (by dsimp only; rw [zel_app, Nat.zero_add]; exact hP1) hS1 hl
        exact k9
      · cases hst
    · cases hst
  case anewarray i =>
    dsimp only [zst] at hst
    split at hst
    · next t p9 q9 n S9 =>
      split at hst
      · next h9 =>
        cases hst
        simp only [Bool.and_eq_true, Bool.or_eq_true, decide_eq_true_eq, Bool.not_eq_true', decide_eq_false_iff_not] at h9
        obtain ⟨⟨⟨d1, d2⟩, d3⟩, d4⟩ := h9
        have d4 := Nat.blt_eq.mp d4
        have hc : (Nat.beq ln 3 && zw p9 (.classLink h.y.cls i (zrcl t))) = true := hc
        simp only [Bool.and_eq_true] at hc
        obtain ⟨c1, c3⟩ := hc
        have e0 : ln = 3 := Nat.eq_of_beq_eq_true c1
        subst e0
        dsimp only at hR1 hR2
        rw [List.length_append] at hR1
        rw [zsl_app] at hR2
        have hR1 : cs.length + 1 ≤ R.cells + c0 := hR1
        have hR2 : zsl cs + n.toNatClampNeg ≤ R.slots + s0 := hR2
        have ht3 : t = 3 ∨ t = 4 := by rcases d1 with e | e <;> have := Nat.eq_of_beq_eq_true e <;> omega
        have hty : (tyl g)[t]? = some (g.dA t, .object (zrcl t)) := by rcases ht3 with e | e <;> subst e <;> rfl
        have hao : va_AO (zrcl t) s := by
          rcases ht3 with e | e <;> subst e
          · exact hAO.1
          · exact hAO.2
        refine va_newq hx hb hown (hts _ (zw_ok c3)) hao hK hP hD hS hA d2 rfl d3 (by omega) (by omega) hd (fun q cA H1 hK1 hP1 hD1 hS1 => ?_)
        refine zsz fun hz => ?_
        have eq := zfresh hgb (by omega) hP1 hD1 (by omega)
        subst eq
        have eA := tys hK1 hty
        subst eA
        have k9 := kk H1 locs ls (x + 1) (y + n.toNatClampNeg) (by dsimp only; rw [List.length_append]; show x + 1 + c0 = cs.length + 1; omega) (by dsimp only; rw [zsl_app]; show y + n.toNatClampNeg + s0 = zsl cs + n.toNatClampNeg; omega) (by dsimp only; rw [zel_app, Nat.zero_add]; exact hP1) hS1 hl
        exact k9
      · cases hst
    · cases hst
  case getfield i =>
    have e0 : ln = 3 := by simp [ilen] at hln; omega
    subst e0
    dsimp only [zst] at hst
    split at hst
    · next ci k p9 r S9 =>
      split at hst
      · next c9 fs hcs =>
        split at hst
        · next v hb9 hfk =>
          cases hst
          have e9 : c9 = ci := Nat.eq_of_beq_eq_true hb9
          subst e9
          have hc : (match cls[c9]? with
            | some (C, T, N) => Nat.blt k N && zw p9 (.fieldLink h.y.cls i C (T k).2.1 (T k).2.2.1) && decide ((T k).1 = C)
            | none => false) = true := hc
          split at hc
          · next C9 T9 N9 hC9 =>
            simp only [Bool.and_eq_true, decide_eq_true_eq] at hc
            obtain ⟨⟨c1, c2⟩, c3⟩ := hc
            obtain ⟨hin9, -, -⟩ := cls_in hC9
            refine va_get (D := g.D) (ci := c9) (v := cv g v) (C := C9) (T := T9) (N := N9) (ws := zel g 0 cs) (fs := fs.map (zv g)) hx hb hts hin9 hown hK hP r.2 (by rw [zel_at, hcs, Nat.zero_add]; rfl) hC9 k (Nat.blt_eq.mp c1) (hts _ (zw_ok c2)) (fun z hz => by rw [c3] at hz; exact hz) (by rw [List.getElem?_map, hfk]; rfl) hd (kk H locs ls x y hx0 hy0 hP hS hl)
          · cases hc
        · cases hst
      · cases hst
    · cases hst
  case putfield i =>
    have e0 : ln = 3 := by simp [ilen] at hln; omega
    subst e0
    dsimp only [zst] at hst
    split at hst
    · next ci k p9 v r S9 =>
      split at hst
      · next c9 fs C9 T9 N9 hcs hC9 =>
        split at hst
        · next h9 =>
          cases hst
          simp only [Bool.and_eq_true] at h9
          obtain ⟨⟨d1, d2⟩, d3⟩ := h9
          have e9 : c9 = ci := Nat.eq_of_beq_eq_true d1
          subst e9
          have hc : (match cls[c9]? with
            | some (C, T, N) => Nat.blt k N && zw p9 (.fieldLink h.y.cls i C (T k).2.1 (T k).2.2.1) && decide ((T k).1 = C) && (!(T k).2.2.2 || (decide (h.y.name = "<init>") && decide ((T k).1 = h.y.cls)))
            | none => false) = true := hc
          rw [hC9] at hc
          simp only [Bool.and_eq_true, decide_eq_true_eq] at hc
          obtain ⟨⟨⟨c1, c2⟩, c3⟩, c4⟩ := hc
          obtain ⟨hin9, ⟨ty0, hty0⟩, hnm9⟩ := cls_in hC9
          have hk := Nat.blt_eq.mp c1
          have he : (zel g 0 cs)[r.2]? = some (g.ad r.2, .inr (c9, fs.map (zv g))) := by rw [zel_at, hcs, Nat.zero_add]; rfl
          have hkl : k < (fs.map (zv g)).length := by rw [List.length_map]; exact Nat.blt_eq.mp d2
          have hfit : narrow (ty0 k) (cv g v) = cv g v ∧ fits (ty0 k) (cv g v) = true := by
            have ht := hty0 k hk
            rcases v with r9 | x9 | x9
            · unfold zfit at d3
              dsimp only at d3
              rw [ht] at d3
              cases hq : ty0 k <;> rw [hq] at d3 <;> first | exact ⟨rfl, rfl⟩ | cases d3
            · have d3 : ((T9 k).2.2.1 == "I") = true := d3
              have d3 := eq_of_beq d3
              rw [d3] at ht
              have : parseFieldDescriptor "I" = some .int := by decide +kernel
              rw [this] at ht
              rw [← Option.some.inj ht]
              exact ⟨rfl, rfl⟩
            · cases d3
          have fin : ∀ (H1 : Heap) (locs1 : List Loc), va_P g.D cls ((zel g 0 cs).set r.2 (g.ad r.2, .inr (c9, (fs.map (zv g)).set k (cv g v)))) H1 → va_S (fun q => b ≤ q) s.heap H1 locs1 → W p l e R s m args below meth c H1 locs1 x y Z (F0 m (pc + 3) ls (S9.map (cv g))) := by
            intro H1 locs1 hP1 hS1
            refine kk H1 locs1 ls x y (by dsimp only; rw [List.length_set]; exact hx0) (by dsimp only; rw [zsl_set (d := .inr (.inr (c9, fs))) (by show fs.length = (fs.set k (some v)).length; rw [List.length_set]) hcs]; exact hy0) ?_ hS1 hl
            dsimp only
            rw [zel_set, Nat.zero_add]
            have : (fs.map (zv g)).set k (cv g v) = (fs.set k (some v)).map (zv g) := by rw [List.map_set]; rfl
            rw [this] at hP1
            exact hP1
          by_cases hfin : (T9 k).2.2.2 = true
          · rw [hfin] at c4
            simp only [Bool.not_true, Bool.false_or, Bool.and_eq_true, decide_eq_true_eq] at c4
            exact va_putF (D := g.D) (ci := c9) (v := cv g v) (ty := ty0 k) (C := C9) (T := T9) (N := N9) (ws := zel g 0 cs) hx hb hts hin9 ty0 hty0 hnm9 hown hK hP hD hS r.2 he hC9 k hk (hts _ (zw_ok c2)) (fun z hz => by rw [c3] at hz; exact hz) hfin (hnm c4.1) c4.2 (hty0 k hk) hfit.1 hfit.2 hkl hd (fun H1 locs1 hP1 _ hS1 => fin H1 locs1 hP1 hS1)
          · exact va_put (D := g.D) (ci := c9) (v := cv g v) (ty := ty0 k) (C := C9) (T := T9) (N := N9) (ws := zel g 0 cs) hx hb hts hin9 ty0 hty0 hnm9 hown hK hP hD hS r.2 he hC9 k hk (hts _ (zw_ok c2)) (fun z hz => by rw [c3] at hz; exact hz) (by simpa using hfin) (hty0 k hk) hfit.1 hfit.2 hkl hd (fun H1 locs1 hP1 _ hS1 => fin H1 locs1 hP1 hS1)
        · cases hst
      · cases hst
    · cases hst
  case getstatic i =>
    have e0 : ln = 3 := by simp [ilen] at hln; omega
    subst e0
    dsimp only [zst] at hst
    split at hst
    · next j p9 q9 =>
      split at hst
      · next h9 =>
        cases hst
        have hc : zw p9 (.fieldLink h.y.cls i "FireRows$Floor" (zfl.getD j "") "[I") = true := hc
        exact va_gets hx hb (hZl j (Nat.blt_eq.mp h9)) hS hown (hts _ (zw_ok hc)) (fun _ z => z) hd (kk H locs ls x y hx0 hy0 hP hS hl)
      · cases hst
    · cases hst
  case ldc i =>
    have e0 : ln = 2 := by simp [ilen] at hln; omega
    subst e0
    dsimp only [zst] at hst
    split at hst
    · next j p9 q9 =>
      cases hst
      have hc : (j, h.y.cls, i, p9) ∈ strk := of_decide_eq_true hc
      exact va_ldcS hx hb hown (hSr _ hc) hd (kk H locs ls x y hx0 hy0 hP hS hl)
    · cases hst
  case arraylength =>
    have e0 : ln = 1 := by simp [ilen] at hln; omega
    subst e0
    dsimp only [zst] at hst
    split at hst
    · next r S9 =>
      split at hst
      · next h9 =>
        cases hst
        simp only [Bool.and_eq_true] at h9
        have d1 := Nat.le_of_ble_eq_true h9.1
        have d2 := Nat.blt_eq.mp h9.2
        have hT := hSx.1 (r.2 - 1000) (by omega)
        have e9 : 1000 + (r.2 - 1000) = r.2 := by omega
        rw [e9] at hT
        exact va_tlen hx hb hT hS rfl hd (kk H locs ls x y hx0 hy0 hP hS hl)
      · cases hst
    · cases hst
  case iastore =>
    have e0 : ln = 1 := by simp [ilen] at hln; omega
    subst e0
    dsimp only [zst] at hst
    split at hst
    · next v i r S9 =>
      split at hst
      · next t n l9 hcs =>
        split at hst
        · next h9 =>
          cases hst
          simp only [Bool.and_eq_true, Bool.not_eq_true', decide_eq_false_iff_not] at h9
          obtain ⟨⟨d1, d2⟩, d3⟩ := h9
          have e9 : t = 0 := Nat.eq_of_beq_eq_true d1
          subst e9
          have d3 := Nat.blt_eq.mp d3
          have he : (zel g 0 cs)[r.2]? = some (g.ad r.2, .inl (g.dA 0, n, .inl (zrI l9))) := by rw [zel_at, hcs, Nat.zero_add]; rfl
          refine va_iast hx hb hK hP hD hS r.2 0 he rfl (fun z => by rcases z with z | z; exact d2 z; omega) hd (fun H1 locs1 hP1 _ hS1 => ?_)
          refine kk H1 locs1 ls x y (by dsimp only; rw [List.length_set]; exact hx0) (by dsimp only; rw [zsl_set (d := .inl (0, n, l9)) (by rfl) hcs]; exact hy0) ?_ hS1 hl
          dsimp only
          rw [zel_set, Nat.zero_add]
          exact hP1
        · cases hst
      · cases hst
    · cases hst
  case aastore =>
    have hc : Nat.beq ln 1 = true := hc
    have e0 : ln = 1 := Nat.eq_of_beq_eq_true hc
    subst e0
    dsimp only [zst] at hst
    split at hst
    · next q9 i r S9 =>
      split at hst
      · next t n l9 ci f9 hcs hcq =>
        split at hst
        · next h9 =>
          cases hst
          simp only [Bool.and_eq_true, Bool.or_eq_true, Bool.not_eq_true', decide_eq_false_iff_not] at h9
          obtain ⟨⟨⟨d1, d2⟩, d3⟩, d4⟩ := h9
          have d4 := Nat.blt_eq.mp d4
          have d2 := Nat.eq_of_beq_eq_true d2
          subst d2
          have ht3 : t = 3 ∨ t = 4 := by rcases d1 with e | e <;> have := Nat.eq_of_beq_eq_true e <;> omega
          have he : (zel g 0 cs)[r.2]? = some (g.ad r.2, .inl (g.dA t, n, .inr (.inr (.inr (.inr (zrR g l9)))))) := by rw [zel_at, hcs, Nat.zero_add]; rfl
          have hv : (zel g 0 cs)[q9.2]? = some (g.ad q9.2, .inr (zrci t, f9.map (zv g))) := by rw [zel_at, hcq, Nat.zero_add]; rfl
          have hty : ∃ r9 : vw_C, cls[zrci t]? = some r9 ∧ (tyl g)[t]? = some (g.dA t, .object r9.1) := by rcases ht3 with e | e <;> subst e <;> exact ⟨_, rfl, rfl⟩
          obtain ⟨r9, hr1, hr2⟩ := hty
          refine va_astq hx hb hK hP hD hS r.2 t q9.2 (zrci t) he hr2 hv hr1 (fun z => by rcases z with z | z; exact d3 z; omega) hd (fun H1 locs1 hP1 _ hS1 => ?_)
          refine kk H1 locs1 ls x y (by dsimp only; rw [List.length_set]; exact hx0) (by dsimp only; rw [zsl_set (d := .inr (.inl (t, n, l9))) (by rfl) hcs]; exact hy0) ?_ hS1 hl
          dsimp only
          rw [zel_set, Nat.zero_add]
          exact hP1
        · cases hst
      · cases hst
    · cases hst
  case invokestatic i =>
    have e0 : ln = 3 := by simp [ilen] at hln; omega
    subst e0
    dsimp only [zst] at hst
    split at hst
    · next z y9 x9 S9 =>
      split at hst
      · next h9 =>
        cases hst
        obtain ⟨z1, p9, z2⟩ := z
        have hc : (zw p9 (.methodLink h.y.cls i Lib.Math.min.name) && Nat.ble 1 h.fr && Nat.ble 21 h.lo) = true := hc
        simp only [Bool.and_eq_true] at hc
        obtain ⟨⟨c1, c2⟩, c3⟩ := hc
        have c2 := Nat.le_of_ble_eq_true c2
        have c3 := Nat.le_of_ble_eq_true c3
        refine va_mmin hx hb (hml.trans hl.1.symm) hown (hts _ (zw_ok c1)) (hts _ math_w.2.2.2.1) (hts _ math_w.2.1) (hts _ math_w.2.2.2.2.1) (Nat.le_trans c2 hfr) ?_ (by omega) (by omega) hd (kk H locs ls x y hx0 hy0 hP hS hl)
        rw [sc_sum]
        have := Nat.le_of_ble_eq_true h9
        omega
      · cases hst
    · cases hst
  all_goals (cases hst)
end ZSND
