/-! words -/
def wln (k : Nat) : Nat := (stx.getD k []).length
def wch (k i : Nat) : Nat := ((stx.getD k []).getD i 0).toInt.toNat
/-- a walk of a text's own method, with plain values -/
def TxW (h : HD) (g : Gh) (σ : St) (vs : List Value) (Q : Option AV → St → Prop) : Prop :=
  ∀ (p : Program) (l : Launch) (e : Env) (R : Room) (s : State) (m : MethodId) (args : Array Value) (below : List Frame) (meth : Method) (c : Code) (Z : State → Prop),
    Cx h X0 g (WA g) p R s m args meth c 0 0 →
    (∀ (x : Int32) (H : Heap) (locs : List Loc) (ls : Array Slot) (k : Nat), decode h.by k = .ok (.ireturn, 1) → (∃ ty, h.rt = some ty ∧ narrow ty (.int x) = .int x) → Q (some (iv x)) σ → va_P g.D cls (wl g σ) H → va_S (WA g) s.heap H locs → W p l e R s m args below meth c H locs 0 0 Z (F0 m k ls [.int x])) →
    (∀ (H : Heap) (locs : List Loc) (ls : Array Slot) (k : Nat), decode h.by k = .ok (.return_, 1) → h.rt = none → Q none σ → va_P g.D cls (wl g σ) H → va_S (WA g) s.heap H locs → W p l e R s m args below meth c H locs 0 0 Z (F0 m k ls [])) →
    ∀ (H : Heap) (locs : List Loc) (ls : Array Slot), va_P g.D cls (wl g σ) H → va_S (WA g) s.heap H locs → lv_has ls h.ml (lv_args 0 vs) → W p l e R s m args below meth c H locs 0 0 Z (F0 m 0 ls [])
/-- a call, with plain values -/
def TxM (h : HD) (g : Gh) (σ : St) (vs : List Value) (Q : Option AV → St → Prop) : Prop := ∀ l : Launch, Met l h.y h.ws h.rm (va_Pc vs (fun U => Wd g σ U U.heap)) (QcG g Q) 0 0 (WA g)
theorem tx_of {h : HD} {g : Gh} {σ : St} {vs : List Value} {Q : Option AV → St → Prop} (hhd : hdok h = true) (hnc : Nat.blt (mclN h.mi) 22 = true) (hnm : Nat.beq (mclN h.mi) 15 = false) (hle : (lg_sl vs).length ≤ h.ml) (hw : TxW h g σ vs Q) : TxM h g σ vs Q := by
  intro l
  obtain ⟨hmi, hcode, -, hycl⟩ := hd_ok hhd
  have hpl : plainName h.y.cls = true := by
    rw [hycl]
    rcases (ci_ok (Nat.blt_eq.mp hnc)).2.2 with e | e
    · rw [e] at hnm; cases hnm
    · exact e
  refine Met.ofW (cc := h.by) (maxL := h.ml) (ret := h.rt) hpl rfl ?_
  intro p e s m args below meth c s₁ B hml hv
  obtain ⟨rfl, hP, hi, hK, hSx, hSr⟩ := hv
  have hts0 := atoms_spec (ws := h.ws) B.pre
  have hts : ∀ w ∈ gtbl, w.before vs.toArray s = true := fun w hw => hts0 w (List.mem_cons_of_mem _ hw)
  have hown : s.vm.findClass h.y.cls = some m.cls := findClass_of_methodNamed B.named
  have hlocks := B.notSynchronized
  have C : Cx h X0 g (WA g) p (headSpec h.ws h.rm).room s m vs.toArray meth c 0 0 := ⟨B.exec, B.bytes, hml, hown, hts, hK, hi, fun k hk => ⟨k, hk, rfl⟩, hSx, hSr, Nat.le_refl _, Nat.le_refl _, Nat.le_refl _, Nat.le_refl _, Or.inl rfl⟩
  rw [lg_entry_eq]
  have hl := lv_entry vs hle
  have post : ∀ (v : Option AV) (H : Heap) (locs : List Loc), (∀ w, v = some w → wfv w) → Q v σ → va_P g.D cls (wl g σ) H → va_S (WA g) s.heap H locs → ∀ t : State, t.heap = H → s.WarmedH t.vm → QcG g Q vs.toArray s (.returned (v.map (cv g))) t := fun v H locs hwf hQ hP' hS' t ht hW => ⟨⟨v, σ, rfl, hwf, hQ, by rw [ht]; exact hP', hi, va_K.moved hW.alike hK, by rw [ht]; exact (hSx.kept fun a h1 h2 => hS'.2.1 a h1 h2).moved hW.alike, fun q hq => (hSr q hq).warm hW⟩, hS'.F ht⟩
  refine hw p l e _ s m vs.toArray below meth c (MQ below (QcG g Q) vs.toArray s 0 0 (WA g)) C ?_ ?_ s.heap [] _ hP va_S.rf hl
  · intro x H locs ls k hd ⟨ty, hrt, hn⟩ hQ hP' hS'
    have hr := B.returns
    rw [hrt] at hr
    exact W.zret B.exec B.bytes hr hn (post (some (iv x)) H locs (fun w hw' => by cases hw'; trivial) hQ hP' hS') hS'.2.2 hd
  · intro H locs ls k hd hrt hQ hP' hS'
    have hr := B.returns
    rw [hrt] at hr
    exact W.vret B.exec B.bytes hr (post none H locs (fun w hw' => by cases hw') hQ hP' hS') hS'.2.2 hd
theorem tx_blind {g : Gh} {vs : List Value} {σ : St} : FrameBlind (va_Pc vs (fun U => Wd g σ U U.heap)) := by
  intro a U j mk ⟨h1, h2, h3, h4, h5, h6⟩
  exact ⟨h1, h2, h3, va_K.moved (u := U) (U := U.calling j mk a) (Vm.Alike.refl U.vm) h4, Sx.moved (u := U) (U := U.calling j mk a) (Vm.Alike.refl U.vm) h5, fun q hq => vk_R.same (u := U) (U := U.calling j mk a) rfl (h6 q hq)⟩
section TX
variable {p : Program} {l : Launch} {e : Env} {R : Room} {s : State} {m : MethodId} {args : Array Value} {below : List Frame} {meth : Method} {c : Code} {g : Gh} {Z : State → Prop}
theorem tx_cb {f : HD} {h : HD} {i n : Nat} (C : Cx h X0 g (WA g) p R s m args meth c 0 0) (hf : hdok f = true) (hlk : Cond.methodLink h.y.cls i f.y ∈ gtbl) (c4 : f.fr + 1 ≤ h.fr) (c5 : 8 + (f.ml + 11) + f.lo ≤ h.lo) (hn : n = nparN f.mi) : CallB R s args h.y.cls i f.y f.by f.ml f.rt f.ws f.rm 0 0 n := by
  obtain ⟨hx, hb, hml, hown, hts, hK, hi, hA, hSx, hSr, hfr, hlo, -⟩ := C
  obtain ⟨g1, g2, g3, g4⟩ := hd_ok hf
  obtain ⟨n1, n2, n3⟩ := mi_ok (show f.mi < 258 by omega)
  obtain ⟨n4, n5, -⟩ := ci_ok n3
  have hG : GoodIn gtbl f.ws := fun w hw' => by
    rcases List.mem_cons.mp hw' with rfl | hw'
    · exact ⟨g2, tbl_good _ g2⟩
    · exact ⟨hw', tbl_good _ hw'⟩
  exact callB_of n hts hG rfl rfl rfl (hts _ g3) (hts _ hlk) ⟨by rw [g4]; exact n4, by rw [g4]; exact n5, by rw [hn]; exact n2⟩ ⟨Nat.le_trans c4 hfr, Nat.le_trans c5 hlo⟩
theorem tx_runS {f h : HD} {vs : List Value} {rest : List Value} {i pc : Nat} {ls : Array Slot} {H : Heap} {locs : List Loc} {σ : St} {Q' : Option AV → St → Prop} (C : Cx h X0 g (WA g) p R s m args meth c 0 0) (hM : TxM f g σ vs Q') (hf : hdok f = true) (hlk : Cond.methodLink h.y.cls i f.y ∈ gtbl) (hst : Cond.static f.y ∈ gtbl) (c4 : f.fr + 1 ≤ h.fr) (c5 : 8 + (f.ml + 11) + f.lo ≤ h.lo) (hn : vs.length = nparN f.mi) (hcat : (rest.map fun v => v.category).sum ≤ 8) (hd : decode h.by pc = .ok (.invokestatic i, 3)) (hP : va_P g.D cls (wl g σ) H) (hS : va_S (WA g) s.heap H locs) (hl : ls.size = h.ml)
    (kk : ∀ (v : Option AV) (σ' : St) (H1 : Heap) (locs1 : List Loc), Q' v σ' → va_P g.D cls (wl g σ') H1 → va_S (WA g) s.heap H1 locs1 → W p l e R s m args below meth c H1 locs1 0 0 Z (F0 m (pc + 3) ls ((v.map (cv g)).toList ++ rest))) : W p l e R s m args below meth c H locs 0 0 Z (F0 m pc ls (vs.reverse ++ rest)) := by
  have cb := tx_cb C hf hlk c4 c5 hn
  have C0 := C
  obtain ⟨hx, hb, hml, hown, hts, hK, hi, hA, hSx, hSr, hfr, hlo, hce, hsl, -⟩ := C
  have hrun := va_runS (g := F0 m pc ls (vs.reverse ++ rest)) (H := H) (locs := locs) (cells := 0) (slots := 0) (As := vs) (rest := rest) (below := below) (meth := meth) (e := e) ⟨hx, hb, hml, hown, hts⟩ (hM l) ⟨cb, hts _ hst⟩ ⟨tx_blind, fun U hU hW => ⟨rfl, wd_call C0 hP hS hU hW⟩⟩ rfl rfl hl rfl (lv_room hcat) hd ⟨Nat.zero_le _, Nat.zero_le _⟩
  exact w_call (Q' := _) (a := _) hrun hS (fun q hq => hq) fun v σ' H1 locs1 _ hq hP1 hS1 => kk v σ' H1 locs1 hq hP1 hS1
theorem tx_runV {f h : HD} {b : Nat} {vs : List Value} {rest : List Value} {i pc : Nat} {ls : Array Slot} {H : Heap} {locs : List Loc} {σ : St} {Q' : Option AV → St → Prop} (C : Cx h X0 g (WA g) p R s m args meth c 0 0) (hM : TxM f g σ (.ref b :: vs) Q') (hf : hdok f = true) (hlk : Cond.methodLink h.y.cls i f.y ∈ gtbl) (hst : Cond.instanceMethod f.y ∈ gtbl) (hse : Cond.selects f.y.cls f.y f.y ∈ gtbl) (hrecv : ∃ cell : Cell, H[b]? = some cell ∧ cell.vm.isStatics = false ∧ s.vm.findClass f.y.cls = some cell.cls) (c4 : f.fr + 1 ≤ h.fr) (c5 : 8 + (f.ml + 11) + f.lo ≤ h.lo) (hn : vs.length = nparN f.mi) (hcat : (rest.map fun v => v.category).sum ≤ 8) (hd : decode h.by pc = .ok (.invokevirtual i, 3)) (hP : va_P g.D cls (wl g σ) H) (hS : va_S (WA g) s.heap H locs) (hl : ls.size = h.ml)
    (kk : ∀ (v : Option AV) (σ' : St) (H1 : Heap) (locs1 : List Loc), Q' v σ' → va_P g.D cls (wl g σ') H1 → va_S (WA g) s.heap H1 locs1 → W p l e R s m args below meth c H1 locs1 0 0 Z (F0 m (pc + 3) ls ((v.map (cv g)).toList ++ rest))) : W p l e R s m args below meth c H locs 0 0 Z (F0 m pc ls (vs.reverse ++ .ref b :: rest)) := by
  have cb := tx_cb C hf hlk c4 c5 hn
  have C0 := C
  obtain ⟨hx, hb, hml, hown, hts, hK, hi, hA, hSx, hSr, hfr, hlo, hce, hsl, -⟩ := C
  have hrun := va_runV (g := F0 m pc ls (vs.reverse ++ .ref b :: rest)) (H := H) (locs := locs) (cells := 0) (slots := 0) (b := b) (As := vs) (rest := rest) (below := below) (meth := meth) (e := e) ⟨hx, hb, hml, hown, hts⟩ (hM l) ⟨cb, hts _ hst, hts _ hse⟩ ⟨tx_blind, hrecv, fun U hU hW => ⟨rfl, wd_call C0 hP hS hU hW⟩⟩ rfl rfl hl rfl (lv_room hcat) hd ⟨Nat.zero_le _, Nat.zero_le _⟩
  exact w_call (Q' := _) (a := _) hrun hS (fun q hq => hq) fun v σ' H1 locs1 _ hq hP1 hS1 => kk v σ' H1 locs1 hq hP1 hS1
theorem tx_recv {h f : HD} {k : Nat} (hk : k < 8) {H : Heap} {locs : List Loc} (C : Cx h X0 g (WA g) p R s m args meth c 0 0) (hS : va_S (WA g) s.heap H locs) (hy : f.y.cls = "java/lang/String") : ∃ cell : Cell, H[g.ad (1100 + k)]? = some cell ∧ cell.vm.isStatics = false ∧ s.vm.findClass f.y.cls = some cell.cls := by
  obtain ⟨cell, o1, o2, o3, o4⟩ := (C.2.2.2.2.2.2.2.2.1.2.2.2.1 k hk).1
  exact ⟨cell, by rw [hS.2.1 _ (Array.getElem?_eq_some_iff.mp o1).1 o4]; exact o1, o2, by rw [hy]; exact o3⟩
end TX
/-- the answers of the texts' methods -/
abbrev rI (x : Int32) (σ : St) : Option AV → St → Prop := fun v σ' => v = some (iv x) ∧ σ' = σ
abbrev rV (σ : St) : Option AV → St → Prop := fun v σ' => v = none ∧ σ' = σ
theorem tx_names : hd_st_coder.y.cls = "java/lang/String" ∧ hd_st_length.y.cls = "java/lang/String" ∧ hd_st_isLatin1.y.cls = "java/lang/String" ∧ hd_st_checkIndex.y.cls = "java/lang/String" ∧ hd_st_charAt.y.cls = "java/lang/String" ∧ hd_sl_charAt.y.cls = "java/lang/StringLatin1" := by decide +kernel
theorem tx_lk : Cond.fieldLink "java/lang/String" 9 "java/lang/String" "value" "[B" ∈ gtbl ∧ Cond.fieldLink "java/lang/String" 15 "java/lang/String" "coder" "B" ∈ gtbl ∧ Cond.fieldLink "java/lang/String" 38 "java/lang/String" "COMPACT_STRINGS" "Z" ∈ gtbl ∧ Cond.fieldLink "java/lang/String" 1053 "jdk/internal/util/Preconditions" "SIOOBE_FORMATTER" "Ljava/util/function/BiFunction;" ∈ gtbl :=
  ⟨gt_in (List.mem_of_getElem? (i := 1728) (by decide +kernel)) rfl, gt_in (List.mem_of_getElem? (i := 1729) (by decide +kernel)) rfl, gt_in (List.mem_of_getElem? (i := 627) (by decide +kernel)) rfl, gt_in (List.mem_of_getElem? (i := 643) (by decide +kernel)) rfl⟩
theorem tx_ml : Cond.methodLink hd_st_length.y.cls 335 hd_st_coder.y ∈ gtbl ∧ Cond.methodLink hd_st_charAt.y.cls 492 hd_st_isLatin1.y ∈ gtbl ∧ Cond.methodLink hd_st_charAt.y.cls 495 hd_sl_charAt.y ∈ gtbl ∧ Cond.methodLink hd_sl_charAt.y.cls 9 hd_st_checkIndex.y ∈ gtbl ∧ Cond.methodLink hd_st_checkIndex.y.cls 1059 hd_pr_checkIndex.y ∈ gtbl :=
  ⟨gt_in (List.mem_of_getElem? (i := 623) (by decide +kernel)) rfl, gt_in (List.mem_of_getElem? (i := 633) (by decide +kernel)) rfl, gt_in (List.mem_of_getElem? (i := 637) (by decide +kernel)) rfl, gt_in (List.mem_of_getElem? (i := 640) (by decide +kernel)) rfl, gt_in (List.mem_of_getElem? (i := 645) (by decide +kernel)) rfl⟩
theorem tx_st : Cond.static hd_sl_charAt.y ∈ gtbl ∧ Cond.static hd_st_checkIndex.y ∈ gtbl ∧ Cond.static hd_pr_checkIndex.y ∈ gtbl :=
  ⟨gt_in (List.mem_of_getElem? (i := 638) (by decide +kernel)) rfl, gt_in (List.mem_of_getElem? (i := 641) (by decide +kernel)) rfl, gt_in (List.mem_of_getElem? (i := 646) (by decide +kernel)) rfl⟩
theorem tx_in : Cond.instanceMethod hd_st_coder.y ∈ gtbl ∧ Cond.instanceMethod hd_st_isLatin1.y ∈ gtbl ∧ Cond.selects hd_st_coder.y.cls hd_st_coder.y hd_st_coder.y ∈ gtbl ∧ Cond.selects hd_st_isLatin1.y.cls hd_st_isLatin1.y hd_st_isLatin1.y ∈ gtbl :=
  ⟨gt_in (List.mem_of_getElem? (i := 624) (by decide +kernel)) rfl, gt_in (List.mem_of_getElem? (i := 634) (by decide +kernel)) rfl, gt_in (List.mem_of_getElem? (i := 625) (by decide +kernel)) rfl, gt_in (List.mem_of_getElem? (i := 635) (by decide +kernel)) rfl⟩
theorem tx_coder {g : Gh} {σ : St} {k : Nat} (hk : k < 8) : TxM hd_st_coder g σ [.ref (g.ad (1100 + k))] (rI 0 σ) := by
  refine tx_of (by decide +kernel) (by decide +kernel) (by decide +kernel) (Nat.le_of_ble_eq_true rfl) ?_
  intro p l e R s m args below meth c Z C ri rv H locs ls hP hS hl
  obtain ⟨hx, hb, hml, hown, hts, hK, hi, hA, hSx, hSr, -⟩ := C
  rw [tx_names.1] at hown
  refine va_gets hx hb hSx.2.2.1 hS hown (hts _ tx_lk.2.2.1) (fun _ h => h) (by decide +kernel) ?_
  refine lv_if_eq hx hb (tgt := 13) (off := 10) (by decide +kernel) (by decide) (fun h => absurd h (by decide)) fun _ => ?_
  refine lv_aload_n hx hb (k := 0) (by decide +kernel) rfl (lv_at hl 0 rfl) ?_
  refine vk_getf hx hb (hSx.2.2.2.1 k hk).2.1 hS hown (hts _ tx_lk.2.1) (fun _ h => h) (by decide +kernel) ?_
  refine lv_goto hx hb (tgt := 14) (off := 4) (by decide +kernel) (by decide) ?_
  exact ri 0 H locs ls 14 (by decide +kernel) ⟨_, rfl, by decide⟩ ⟨rfl, rfl⟩ hP hS
theorem tx_latin {g : Gh} {σ : St} {k : Nat} (hk : k < 8) : TxM hd_st_isLatin1 g σ [.ref (g.ad (1100 + k))] (rI 1 σ) := by
  refine tx_of (by decide +kernel) (by decide +kernel) (by decide +kernel) (Nat.le_of_ble_eq_true rfl) ?_
  intro p l e R s m args below meth c Z C ri rv H locs ls hP hS hl
  obtain ⟨hx, hb, hml, hown, hts, hK, hi, hA, hSx, hSr, -⟩ := C
  rw [tx_names.2.2.1] at hown
  refine va_gets hx hb hSx.2.2.1 hS hown (hts _ tx_lk.2.2.1) (fun _ h => h) (by decide +kernel) ?_
  refine lv_if_eq hx hb (tgt := 17) (off := 14) (by decide +kernel) (by decide) (fun h => absurd h (by decide)) fun _ => ?_
  refine lv_aload_n hx hb (k := 0) (by decide +kernel) rfl (lv_at hl 0 rfl) ?_
  refine vk_getf hx hb (hSx.2.2.2.1 k hk).2.1 hS hown (hts _ tx_lk.2.1) (fun _ h => h) (by decide +kernel) ?_
  refine lv_if_ne hx hb (tgt := 17) (off := 7) (by decide +kernel) (by decide) (fun h => absurd rfl h) fun _ => ?_
  refine lv_iconst hx hb (n := 1) (v := 1) (by decide +kernel) (by decide) ?_
  refine lv_goto hx hb (tgt := 18) (off := 4) (by decide +kernel) (by decide) ?_
  exact ri 1 H locs ls 18 (by decide +kernel) ⟨_, rfl, by decide⟩ ⟨rfl, rfl⟩ hP hS
theorem tx_prec {g : Gh} {σ : St} {a n : Int32} {v : Value} (hv : v.category = 1) (h0 : ¬ a < 0) (h1 : a < n) : TxM hd_pr_checkIndex g σ [.int a, .int n, v] (rI a σ) := by
  refine tx_of (by decide +kernel) (by decide +kernel) (by decide +kernel) (by cases v <;> first | exact Nat.le_of_ble_eq_true rfl | cases hv) ?_
  intro p l e R s m args below meth c Z C ri rv H locs ls hP hS hl
  obtain ⟨hx, hb, hml, hown, hts, hK, hi, hA, hSx, hSr, -⟩ := C
  refine lv_iload_n hx hb (k := 0) (by decide +kernel) rfl (lv_at hl 0 rfl) ?_
  refine lv_if_lt hx hb (tgt := 9) (off := 8) (by decide +kernel) (by decide) (fun h => absurd h h0) fun _ => ?_
  refine lv_iload_n hx hb (k := 0) (by decide +kernel) rfl (lv_at hl 0 rfl) ?_
  refine lv_iload_n hx hb (k := 1) (by decide +kernel) rfl (lv_at hl 1 rfl) ?_
  refine lv_icmp_lt hx hb (tgt := 16) (off := 10) (by decide +kernel) (by decide) (fun _ => ?_) fun h => absurd h1 h
  refine lv_iload_n hx hb (k := 0) (by decide +kernel) rfl (lv_at hl 0 rfl) ?_
  exact ri a H locs ls 17 (by decide +kernel) ⟨_, rfl, rfl⟩ ⟨rfl, rfl⟩ hP hS
theorem tx_chk {g : Gh} {σ : St} {a n : Int32} (h0 : ¬ a < 0) (h1 : a < n) : TxM hd_st_checkIndex g σ [.int a, .int n] (rV σ) := by
  refine tx_of (by decide +kernel) (by decide +kernel) (by decide +kernel) (Nat.le_of_ble_eq_true rfl) ?_
  intro p l e R s m args below meth c Z C ri rv H locs ls hP hS hl
  have C0 := C
  obtain ⟨hx, hb, hml, hown, hts, hK, hi, hA, hSx, hSr, -⟩ := C
  rw [tx_names.2.2.2.1] at hown
  have key : ∀ v : Value, v.category = 1 → va_Z "jdk/internal/util/Preconditions" "SIOOBE_FORMATTER" "Ljava/util/function/BiFunction;" v (WA g) s s.heap → W p l e R s m args below meth c H locs 0 0 Z (F0 m 0 ls []) := by
    intro v hv hz
    refine lv_iload_n hx hb (k := 0) (by decide +kernel) rfl (lv_at hl 0 rfl) ?_
    refine lv_iload_n hx hb (k := 1) (by decide +kernel) rfl (lv_at hl 1 rfl) ?_
    refine va_gets hx hb hz hS hown (hts _ tx_lk.2.2.2) (fun _ h => h) (by decide +kernel) ?_
    refine tx_runS (h := hd_st_checkIndex) (f := hd_pr_checkIndex) (vs := [.int a, .int n, v]) (rest := []) (i := 1059) C0 (tx_prec hv h0 h1) (by decide +kernel) tx_ml.2.2.2.2 tx_st.2.2 (by decide) (by decide) rfl (Nat.le_of_ble_eq_true rfl) (by decide +kernel) hP hS hl.1 fun v σ' H1 locs1 hq hP1 hS1 => ?_
    obtain ⟨rfl, rfl⟩ := hq
    refine lv_pop hx hb (by decide +kernel) rfl ?_
    exact rv H1 locs1 ls 9 (by decide +kernel) rfl ⟨rfl, rfl⟩ hP1 hS1
  rcases hSx.2.2.2.2 with hz | ⟨t, hz⟩
  · exact key _ rfl hz
  · exact key _ rfl hz
theorem tx_len : ∀ k, k < 8 → nI (wln k) >>> ((0 : Int32) &&& 31) = nI (wln k) ∧ Int32.ofNat (stx.getD k []).length = nI (wln k) ∧ wln k < 10 := by decide +kernel
theorem tx_ch : ∀ k, k < 8 → ∀ i, i < wln k → ((((stx.getD k []).getD i 0) &&& 255).toUInt32 % 65536).toInt32 = nI (wch k i) ∧ narrow .char (.int (nI (wch k i))) = .int (nI (wch k i)) := by decide +kernel
theorem tx_latc {g : Gh} {σ : St} {k i : Nat} (hk : k < 8) (hi : i < wln k) : TxM hd_sl_charAt g σ [.ref (g.ad (1200 + k)), .int (nI i)] (rI (nI (wch k i)) σ) := by
  refine tx_of (by decide +kernel) (by decide +kernel) (by decide +kernel) (Nat.le_of_ble_eq_true rfl) ?_
  intro p l e R s m args below meth c Z C ri rv H locs ls hP hS hl
  have C0 := C
  obtain ⟨hx, hb, hml, hown, hts, hK, -, hA, hSx, hSr, -⟩ := C
  have h10 := (tx_len k hk).2.2
  refine lv_iload_n hx hb (k := 1) (by decide +kernel) rfl (lv_at hl 1 rfl) ?_
  refine lv_aload_n hx hb (k := 0) (by decide +kernel) rfl (lv_at hl 0 rfl) ?_
  refine va_tlen hx hb (hSx.2.2.2.1 k hk).2.2.2 hS (tx_len k hk).2.1 (by decide +kernel) ?_
  refine tx_runS (h := hd_sl_charAt) (f := hd_st_checkIndex) (vs := [.int (nI i), .int (nI (wln k))]) (rest := []) (i := 9) C0 (tx_chk (nI_pos (by omega)) (nI_lt hi (by omega))) (by decide +kernel) tx_ml.2.2.2.1 tx_st.2.1 (by decide) (by decide) rfl (Nat.le_of_ble_eq_true rfl) (by decide +kernel) hP hS hl.1 fun v σ' H1 locs1 hq hP1 hS1 => ?_
  obtain ⟨rfl, rfl⟩ := hq
  refine lv_aload_n hx hb (k := 0) (by decide +kernel) rfl (lv_at hl 0 rfl) ?_
  refine lv_iload_n hx hb (k := 1) (by decide +kernel) rfl (lv_at hl 1 rfl) ?_
  refine va_tb hx hb (hSx.2.2.2.1 k hk).2.2.2 hS1 (v := .int ((stx.getD k []).getD i 0)) (show vp_in (nI i) (wln k) from vp_in_nI hi (by omega)) (by rw [nI_clamp (by omega)]) (by decide +kernel) ?_
  refine lv_sipush hx hb (n := 255) (v := 255) (by decide +kernel) (by decide) ?_
  refine lv_iand hx hb (by decide +kernel) ?_
  refine lv_i2c hx hb (by decide +kernel) (tx_ch k hk i hi).1 ?_
  exact ri _ H1 locs1 ls 14 (by decide +kernel) ⟨_, rfl, (tx_ch k hk i hi).2⟩ ⟨rfl, rfl⟩ hP1 hS1
theorem st_len {k : Nat} (hk : k < 8) {σ : St} {F : Int32 → St → Prop} (h : F (nI (wln k)) σ) : CallI hd_st_length [rf (29 + k) (1100 + k)] σ F := by
  intro l g hwa
  refine tx_of (h := hd_st_length) (vs := [.ref (g.ad (1100 + k))]) (by decide +kernel) (by decide +kernel) (by decide +kernel) (Nat.le_of_ble_eq_true rfl) ?_ l
  intro p l e R s m args below meth c Z C ri rv H locs ls hP hS hl
  have C0 := C
  obtain ⟨hx, hb, hml, hown, hts, hK, -, hA, hSx, hSr, -⟩ := C
  rw [tx_names.2.1] at hown
  refine lv_aload_n hx hb (k := 0) (by decide +kernel) rfl (lv_at hl 0 rfl) ?_
  refine vk_getf hx hb (hSx.2.2.2.1 k hk).2.2.1 hS hown (hts _ tx_lk.1) (fun _ h => h) (by decide +kernel) ?_
  refine va_tlen hx hb (hSx.2.2.2.1 k hk).2.2.2 hS (tx_len k hk).2.1 (by decide +kernel) ?_
  refine lv_aload_n hx hb (k := 0) (by decide +kernel) rfl (lv_at hl 0 rfl) ?_
  refine tx_runV (h := hd_st_length) (f := hd_st_coder) (b := g.ad (1100 + k)) (vs := []) (rest := [.int (nI (wln k))]) (i := 335) C0 (tx_coder hk) (by decide +kernel) tx_ml.1 tx_in.1 tx_in.2.2.1 (tx_recv hk C0 hS tx_names.1) (by decide) (by decide) rfl (Nat.le_of_ble_eq_true rfl) (by decide +kernel) hP hS hl.1 fun v σ' H1 locs1 hq hP1 hS1 => ?_
  obtain ⟨rfl, rfl⟩ := hq
  refine lv_ishr hx hb (x := nI (wln k)) (y := 0) (by decide +kernel) ?_
  rw [(tx_len k hk).1]
  exact ri _ H1 locs1 ls 10 (by decide +kernel) ⟨_, rfl, rfl⟩ h hP1 hS1
theorem st_chr {k i : Nat} (hk : k < 8) (hi : i < wln k) {σ : St} {F : Int32 → St → Prop} (h : F (nI (wch k i)) σ) : CallI hd_st_charAt [rf (29 + k) (1100 + k), iv (nI i)] σ F := by
  intro l g hwa
  refine tx_of (h := hd_st_charAt) (vs := [.ref (g.ad (1100 + k)), .int (nI i)]) (by decide +kernel) (by decide +kernel) (by decide +kernel) (Nat.le_of_ble_eq_true rfl) ?_ l
  intro p l e R s m args below meth c Z C ri rv H locs ls hP hS hl
  have C0 := C
  obtain ⟨hx, hb, hml, hown, hts, hK, -, hA, hSx, hSr, -⟩ := C
  rw [tx_names.2.2.2.2.1] at hown
  refine lv_aload_n hx hb (k := 0) (by decide +kernel) rfl (lv_at hl 0 rfl) ?_
  refine tx_runV (h := hd_st_charAt) (f := hd_st_isLatin1) (b := g.ad (1100 + k)) (vs := []) (rest := []) (i := 492) C0 (tx_latin hk) (by decide +kernel) tx_ml.2.1 tx_in.2.1 tx_in.2.2.2 (tx_recv hk C0 hS tx_names.2.2.1) (by decide) (by decide) rfl (Nat.le_of_ble_eq_true rfl) (by decide +kernel) hP hS hl.1 fun v σ' H1 locs1 hq hP1 hS1 => ?_
  obtain ⟨rfl, rfl⟩ := hq
  refine lv_if_eq hx hb (x := 1) (tgt := 16) (off := 12) (by decide +kernel) (by decide) (fun h => absurd h (by decide)) fun _ => ?_
  refine lv_aload_n hx hb (k := 0) (by decide +kernel) rfl (lv_at hl 0 rfl) ?_
  refine vk_getf hx hb (hSx.2.2.2.1 k hk).2.2.1 hS1 hown (hts _ tx_lk.1) (fun _ h => h) (by decide +kernel) ?_
  refine lv_iload_n hx hb (k := 1) (x := nI i) (by decide +kernel) rfl (lv_at hl 1 rfl) ?_
  refine tx_runS (h := hd_st_charAt) (f := hd_sl_charAt) (vs := [.ref (g.ad (1200 + k)), .int (nI i)]) (rest := []) (i := 495) C0 (tx_latc hk hi) (by decide +kernel) tx_ml.2.2.1 tx_st.1 (by decide) (by decide) rfl (Nat.le_of_ble_eq_true rfl) (by decide +kernel) hP1 hS1 hl.1 fun v σ' H2 locs2 hq hP2 hS2 => ?_
  obtain ⟨rfl, rfl⟩ := hq
  exact ri _ H2 locs2 ls 15 (by decide +kernel) ⟨_, rfl, (tx_ch k hk i hi).2⟩ h hP2 hS2
