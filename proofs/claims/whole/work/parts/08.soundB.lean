theorem tab_lt : (List.range nCells).all (fun a => decide ((sh (tab a)).1 < 5)) = true := by decide +kernel
theorem math_w : Cond.static Lib.Math.abs.name ∈ gtbl ∧ Cond.initialized "java/lang/Math" ∈ gtbl ∧ Cond.code Lib.Math.abs.name Lib.Math.abs.code 1 (some .int) ∈ gtbl ∧ Cond.static Lib.Math.min.name ∈ gtbl ∧ Cond.code Lib.Math.min.name Lib.Math.min.code 2 (some .int) ∈ gtbl ∧ Cond.static Lib.Math.max.name ∈ gtbl ∧ Cond.code Lib.Math.max.name Lib.Math.max.code 2 (some .int) ∈ gtbl :=
  ⟨gt_in (List.mem_of_getElem? (i := 869) (by decide +kernel)) rfl, gt_in (List.mem_of_getElem? (i := 87) (by decide +kernel)) rfl, gt_in (List.mem_of_getElem? (i := 870) (by decide +kernel)) rfl, gt_in (List.mem_of_getElem? (i := 153) (by decide +kernel)) rfl, gt_in (List.mem_of_getElem? (i := 154) (by decide +kernel)) rfl, gt_in (List.mem_of_getElem? (i := 829) (by decide +kernel)) rfl, gt_in (List.mem_of_getElem? (i := 830) (by decide +kernel)) rfl⟩
theorem math_c : Cond.native arraycopyName ∈ gtbl ∧ Cond.static arraycopyName ∈ gtbl ∧ Cond.initialized "java/lang/System" ∈ gtbl :=
  ⟨gt_in (List.mem_of_getElem? (i := 560) (by decide +kernel)) rfl, gt_in (List.mem_of_getElem? (i := 559) (by decide +kernel)) rfl, gt_in (List.mem_of_getElem? (i := 97) (by decide +kernel)) rfl⟩
section SND
variable {p : Program} {l : Launch} {e : Env} {R : Room} {s : State} {m : MethodId} {args : Array Value} {below : List Frame} {meth : Method} {c : Code} {cells slots : Nat} {g : Gh} {A : Nat → Prop} {Z : State → Prop}
theorem swf_t {a : AV} {S : List AV} (h : swf (a :: S)) : swf S := fun v hv => h v (List.mem_cons_of_mem _ hv)
theorem swf_h {a : AV} {S : List AV} (h : swf (a :: S)) : wfv a := h a List.mem_cons_self
theorem swf_c {a : AV} {S : List AV} (h1 : wfv a) (h : swf S) : swf (a :: S) := fun v hv => by
  rcases List.mem_cons.mp hv with rfl | hv
  · exact h1
  · exact h v hv
theorem swf_n {z : Int32 ⊕ Int64} {S : List AV} (h : swf S) : swf (.inr z :: S) := swf_c (by cases z <;> exact trivial) h
theorem lwf_s {L : List (Option AV)} {k : Nat} {v : AV} (h : lwf L) (hv : wfv v) : lwf (lset L k v) := fun w hw => by
  rcases ls_mem L k w hw with rfl | hw
  · exact hv
  · exact h w hw
theorem lwf_s2 {L : List (Option AV)} {k : Nat} {v : AV} (h : lwf L) (hv : wfv v) : lwf (lset2 L k v) := fun w hw => by
  rcases ls2_mem L k w hw with rfl | hw
  · exact hv
  · exact h w hw
theorem lh_s {ls : Array Slot} {n k : Nat} {L : List (Option AV)} {v : AV} {w : Value} (hw : cv g v = w) (h : lv_has ls n ((k, w) :: (lpairs g 0 L).filter (fun q => !(q.1 == k) && !(q.1 + 1 == k && q.2.category == 2)))) : lv_has ls n (lpairs g 0 (lset L k v)) := by
  refine lh_mono h fun q hq => ?_
  rcases lp_set L 0 k q hq with rfl | ⟨h1, h2, h3⟩
  · rw [Nat.zero_add, hw]; exact List.mem_cons_self
  · refine List.mem_cons_of_mem _ (List.mem_filter.mpr ⟨h1, ?_⟩)
    rw [Nat.zero_add] at h2 h3
    simp only [Bool.and_eq_true, Bool.not_eq_true', beq_eq_false_iff_ne, Bool.and_eq_false_iff]
    refine ⟨h2, ?_⟩
    by_cases e : q.1 + 1 = k
    · exact Or.inr fun e2 => h3 ⟨e, e2⟩
    · exact Or.inl e
theorem lh_s2 {ls : Array Slot} {n k : Nat} {L : List (Option AV)} {v : AV} {w : Value} (hw : cv g v = w) (h : lv_has ls n ((k, w) :: (lpairs g 0 L).filter (fun q => !(q.1 == k) && (!(q.1 == k + 1) && !(q.1 + 1 == k && q.2.category == 2))))) : lv_has ls n (lpairs g 0 (lset2 L k v)) := by
  refine lh_mono h fun q hq => ?_
  rcases lp_set2 L 0 k q hq with rfl | ⟨h1, h2, h4, h3⟩
  · rw [Nat.zero_add, hw]; exact List.mem_cons_self
  · refine List.mem_cons_of_mem _ (List.mem_filter.mpr ⟨h1, ?_⟩)
    rw [Nat.zero_add] at h2 h3 h4
    simp only [Bool.and_eq_true, Bool.not_eq_true', beq_eq_false_iff_ne, Bool.and_eq_false_iff]
    refine ⟨h2, h4, ?_⟩
    by_cases e : q.1 + 1 = k
    · exact Or.inr fun e2 => h3 ⟨e, e2⟩
    · exact Or.inl e
theorem lh_g {ls : Array Slot} {n k : Nat} {L : List (Option AV)} {v : AV} (h : lv_has ls n (lpairs g 0 L)) (hv : lget L k = some v) : ls[k]? = some (.val (cv g v)) := by
  have := h.2.2 _ (lp_get (g := g) L 0 k v hv)
  rwa [Nat.zero_add] at this
theorem lh_n {ls : Array Slot} {n k : Nat} {L : List (Option AV)} {v : AV} (h : lv_has ls n (lpairs g 0 L)) (hv : lget L k = some v) : ∃ j : Nat, (lpairs g 0 L)[j]? = some (k, cv g v) := by
  have := lp_get (g := g) L 0 k v hv
  rw [Nat.zero_add] at this
  exact List.getElem?_of_mem this
theorem wat_ok {q a b c d : Nat} (h : wat q a b c d = true) (hn : a ≠ 99) (hg : goodWord (wordOf (a, b, c, d)) = true := by rfl) : wordOf (a, b, c, d) ∈ gtbl := by
  unfold wat at h
  split at h
  · next x hx =>
    simp only [Bool.and_eq_true] at h
    obtain ⟨h1, h2, h3, h4⟩ := h
    have e : x = (a, b, c, d) := by
      obtain ⟨x1, x2, x3, x4⟩ := x
      have e1 : x1 = a := Nat.eq_of_beq_eq_true h1
      have e2 : x2 = b := Nat.eq_of_beq_eq_true h2
      have e3 : x3 = c := Nat.eq_of_beq_eq_true h3
      have e4 : x4 = d := Nat.eq_of_beq_eq_true h4
      rw [e1, e2, e3, e4]
    subst e
    exact gt_in (List.mem_of_getElem? (tw hx hn)) hg
  · cases h
theorem mi_ok {i : Nat} (h : i < 258) : (mnm i).1.cls = cnm (mclN i) ∧ (parseMethodDescriptor (mnm i).1.desc).map (fun d => d.parameters.length) = some (nparN i) ∧ mclN i < 22 := by
  have := List.all_eq_true.mp mcl_all i (List.mem_range.mpr h)
  simp only [Bool.and_eq_true, decide_eq_true_eq] at this
  exact ⟨this.1.1, this.1.2, this.2⟩
theorem ci_ok {i : Nat} (h : i < 22) : cnm i ≠ "java/lang/invoke/MethodHandle" ∧ cnm i ≠ "java/lang/invoke/VarHandle" ∧ (i = 15 ∨ plainName (cnm i) = true) := by
  have := List.all_eq_true.mp cn_all i (List.mem_range.mpr h)
  simp only [Bool.and_eq_true, Bool.or_eq_true, decide_eq_true_eq, beq_iff_eq] at this
  exact ⟨this.1.1, this.1.2, this.2⟩
theorem hd_ok {f : HD} (h : hdok f = true) : f.mi < 257 ∧ Cond.code f.y f.by f.ml f.rt ∈ gtbl ∧ Cond.initialized f.y.cls ∈ gtbl ∧ f.y.cls = cnm (mclN f.mi) := by
  unfold hdok at h
  simp only [Bool.and_eq_true, decide_eq_true_eq] at h
  obtain ⟨⟨⟨h1, h2⟩, h3, h4⟩, h5⟩ := h
  have h1 : f.mi < 257 := Nat.blt_eq.mp h1
  have e1 := wat_ok h2 (by decide)
  have e2 := wat_ok h5 (by decide)
  have e3 := (mi_ok (show f.mi < 258 by omega)).1
  have h3 := Nat.eq_of_beq_eq_true h3
  refine ⟨h1, ?_, ?_, e3⟩
  · have : wordOf (6, f.mi, 0, 0) = Cond.code f.y f.by f.ml f.rt := by
      show Cond.code (mnm f.mi).1 (mnm f.mi).2.1 (mnm f.mi).2.2.1 (mnm f.mi).2.2.2 = _
      rw [h3, h4]
      rfl
    rwa [this] at e1
  · have : wordOf (5, mclN f.mi, 0, 0) = Cond.initialized f.y.cls := by
      show Cond.initialized (cnm (mclN f.mi)) = _
      rw [← e3]
      rfl
    rwa [this] at e2
theorem fd_ok {ci k : Nat} {C : String} {T : u_T} {N : Nat} (hci : ci < 13) (h : cls[ci]? = some (C, T, N)) (hk : k < N) (hf : fid ci k < 999) : fnn (fid ci k) = (C, (T k).2.1, (T k).2.2.1) ∧ (T k).1 = C := by
  have := List.all_eq_true.mp fid_all ci (List.mem_range.mpr hci)
  rw [h] at this
  simp only [Bool.and_eq_true] at this
  have := List.all_eq_true.mp this.2 k (List.mem_range.mpr hk)
  simp only [Bool.and_eq_true, Bool.or_eq_true, decide_eq_true_eq, beq_iff_eq] at this
  refine ⟨?_, this.2⟩
  rcases this.1 with e | e
  · omega
  · exact e
theorem w_call {H : Heap} {locs : List Loc} {ls : Array Slot} {pc : Nat} {st0 rest : List Value} {Q' : Option AV → St → Prop} {a : Array Value}
    (hr : va_Run p l e R s m args below meth c H locs cells slots 0 0 (F0 m pc ls st0) rest (QcG g Q' a) (WA g)) (hS : va_S A s.heap H locs) (hA : ∀ q, WA g q → A q)
    (kk : ∀ (v : Option AV) (σ' : St) (H1 : Heap) (locs1 : List Loc), (∀ w, v = some w → wfv w) → Q' v σ' → va_P g.D cls (wl g σ') H1 → va_S A s.heap H1 locs1 → W p l e R s m args below meth c H1 locs1 cells slots Z (F0 m (pc + 3) ls ((v.map (cv g)).toList ++ rest))) : W p l e R s m args below meth c H locs cells slots Z (F0 m pc ls st0) := by
  intro T hT X
  obtain ⟨v0, st₀, t, T', L, h0, X', hL, e1, e2, ⟨⟨v, σ', hv, hwf, hq, hwd⟩, hz, hk⟩, st⟩ := hr T hT X
  have hv : v0 = v.map (cv g) := by cases hv; rfl
  subst hv
  rw [h0] at hz hk
  obtain ⟨t2, a1, b1⟩ := kk v σ' T'.heap (locs ++ L) hwf hq (by rw [e1]; exact hwd.1)
    ⟨Nat.le_trans hS.1 (by rw [e1]; exact hz), fun q h1 h2 => by rw [e1, hk q (Nat.lt_of_lt_of_le h1 hS.1) (fun z => h2 (hA q z))]; exact hS.2.1 q h1 h2, fun q hq => by
      rcases List.mem_append.mp hq with h | h
      · exact hS.2.2 q h
      · exact hA _ (hL q h)⟩ T' rfl X'
  exact ⟨t2, st t2 a1, b1⟩
theorem pc_blind {g : Gh} {as : List AV} {σ : St} : FrameBlind (va_Pc (as.map (cv g)) (fun U => Wd g σ U U.heap)) := by
  intro a U j mk ⟨h1, h2, h3, h4, h5, h6⟩
  exact ⟨h1, h2, h3, va_K.moved (u := U) (U := U.calling j mk a) (Vm.Alike.refl U.vm) h4, Sx.moved (u := U) (U := U.calling j mk a) (Vm.Alike.refl U.vm) h5, fun q hq => vk_R.same (u := U) (U := U.calling j mk a) rfl (h6 q hq)⟩
theorem wd_call {h : HD} {X : Ro} {σ : St} {H : Heap} {locs : List Loc} (C : Cx h X g A p R s m args meth c cells slots) (hP : va_P g.D cls (wl g σ) H) (hS : va_S A s.heap H locs) {U : State} (hU : U.heap = H) (hW : s.WarmedH U.vm) : Wd g σ U U.heap := by
  obtain ⟨hx, hb, hml, hown, hts, hK, hi, hA, hSx, hSr, -⟩ := C
  refine ⟨by rw [hU]; exact hP, hi, va_K.moved hW.alike hK, ?_, fun q hq => (hSr q hq).warm hW⟩
  rw [hU]
  exact ((hSx.kept fun a h1 h2 => hS.2.1 a h1 h2).moved hW.alike).narrow fun q ⟨k, hk, e⟩ => e ▸ hA k hk
theorem pr_inv : ∀ {n : Nat} {acc S as S' : List AV}, poprev n acc S = some (as, S') → ∃ T, S = T ++ S' ∧ as = T.reverse ++ acc ∧ T.length = n
  | 0, acc, S, as, S', h => by cases h; exact ⟨[], rfl, rfl, rfl⟩
  | n + 1, acc, v :: S, as, S', h => by
    obtain ⟨T, h1, h2, h3⟩ := pr_inv (n := n) h
    exact ⟨v :: T, by rw [h1]; rfl, by rw [h2]; simp, by simp [h3]⟩
  | n + 1, acc, [], as, S', h => by cases h
theorem sc_sum {g : Gh} : ∀ (S : List AV), ((S.map (cv g)).map fun v => v.category).sum = scat S
  | [] => rfl
  | v :: S => by rw [List.map_cons, List.map_cons, List.sum_cons, sc_sum S, cv_cat]; rfl
theorem cal_ok {f : HD} {as S : List AV} {σ : St} {K : List AV → St → Prop} (h : cal f as σ K S) : CallOk f as σ (fun v σ' => ∃ S2, (v.map (cv g)).toList ++ S.map (cv g) = S2.map (cv g) ∧ K S2 σ' ∧ ∀ u ∈ S2, u ∈ v.toList ∨ u ∈ S) := by
  have mono : ∀ {Q Q' : Option AV → St → Prop}, (∀ v σ', Q v σ' → Q' v σ') → CallOk f as σ Q → CallOk f as σ Q' := by
    intro Q Q' hq hc l g hw
    have hm := hc l g hw
    intro P e0 ha hc0 hk s0 m0 args0 below0 hf hfit hPc hT
    obtain ⟨k, o, h1, h2, h3, ⟨⟨v, σ', hv, hwf, hQ, hW⟩, hF⟩, hL⟩ := hm P e0 ha hc0 hk s0 m0 args0 below0 hf hfit hPc hT
    exact ⟨k, o, h1, h2, h3, ⟨⟨v, σ', hv, hwf, hq v σ' hQ, hW⟩, hF⟩, hL⟩
  unfold cal at h
  split at h
  · refine mono ?_ h
    intro v σ' hv
    rcases v with _ | q | x | x
    · exact hv.elim
    · exact hv.elim
    · exact ⟨_, rfl, hv, fun u hu => by simpa using hu⟩
    · exact hv.elim
  · refine mono ?_ h
    intro v σ' hv
    rcases v with _ | q | x | x
    · exact hv.elim
    · exact hv.elim
    · exact ⟨_, rfl, hv, fun u hu => by simpa using hu⟩
    · exact hv.elim
  · refine mono ?_ h
    intro v σ' hv
    rcases v with _ | q | x | x
    · exact hv.elim
    · exact hv.elim
    · exact ⟨_, rfl, hv, fun u hu => by simpa using hu⟩
    · exact hv.elim
  · refine mono ?_ h
    intro v σ' hv
    rcases v with _ | q | x | x
    · exact hv.elim
    · exact hv.elim
    · exact hv.elim
    · exact ⟨_, rfl, hv, fun u hu => by simpa using hu⟩
  · refine mono ?_ h
    intro v σ' hv
    rcases v with _ | ⟨t, i⟩ | x | x
    · exact hv.elim
    · obtain ⟨e1, e2⟩ := hv
      have e1 : t = 2 := e1
      subst e1
      exact ⟨_, rfl, e2, fun u hu => by simpa using hu⟩
    · exact hv.elim
    · exact hv.elim
  · refine mono ?_ h
    intro v σ' hv
    rcases v with _ | q | x | x
    · exact ⟨_, rfl, hv, fun u hu => Or.inr hu⟩
    · exact hv.elim
    · exact hv.elim
    · exact hv.elim
  · exact h.elim
set_option maxHeartbeats 4000000 in
theorem stp_sound {h : HD} {X : Ro} {code : List Ent} {K : List Ent → List (Option AV) → List AV → St → Prop} {Q : Option AV → St → Prop} (ho : okb h code = true) (C : Cx h X g A p R s m args meth c cells slots)
    (hret : ∀ (v : Option AV) (σ' : St) (H : Heap) (locs : List Loc) (ls : Array Slot) (k : Nat) (i : Instr), decode h.by k = .ok (i, 1) → rins i v → rtok h.rt v → (∀ w, v = some w → wfv w) → Q v σ' → va_P g.D cls (wl g σ') H → va_S A s.heap H locs → W p l e R s m args below meth c H locs cells slots Z (F0 m k ls (v.toList.map (cv g))))
    (hnil : ∀ L S σ, ¬ K [] L S σ)
    (hK : ∀ es L S σ, es <:+ code → K es L S σ → lwf L → swf S → ∀ (H : Heap) (locs : List Loc) (ls : Array Slot), va_P g.D cls (wl g σ) H → va_S A s.heap H locs → lv_has ls h.ml (lpairs g 0 L) → W p l e R s m args below meth c H locs cells slots Z (F0 m (pcOf es) ls (S.map (cv g))))
    {en : Ent} {es : List Ent} (hs : (en :: es) <:+ code) {L : List (Option AV)} {S : List AV} {σ : St} (hw : stp h X code K Q en es L S σ) (hL : lwf L) (hSw : swf S) {H : Heap} {locs : List Loc} {ls : Array Slot} (hP : va_P g.D cls (wl g σ) H) (hS : va_S A s.heap H locs) (hl : lv_has ls h.ml (lpairs g 0 L)) :
    W p l e R s m args below meth c H locs cells slots Z (F0 m en.1 ls (S.map (cv g))) := by
  obtain ⟨pc, ln, ins, fl, od⟩ := en
  have ho2 := ho
  unfold okb at ho2
  simp only [Bool.and_eq_true] at ho2
  obtain ⟨⟨hhd, hcn⟩, hall⟩ := ho2
  have hc := List.all_eq_true.mp hall _ (hs.subset List.mem_cons_self)
  have hmi : h.mi < 258 := Nat.blt_eq.mp hhd
  have hycl : h.y.cls = cnm (mclN h.mi) := (mi_ok hmi).1
  have C0 := C
  obtain ⟨hx, hb, hml, hown, hts, hKK, hi, hA, hSx, hSr, hfr, hlo, hce, hsl, hX⟩ := C
  have hD : ∀ {σ : St}, va_D A (wl g σ) := wl_D hi hA
  have hWA : ∀ q, WA g q → A q := fun q ⟨k, hk, e⟩ => e ▸ hA k hk
  have hes : es <:+ code := (List.suffix_cons _ _).trans hs
  have nx : ∀ {L' : List (Option AV)} {S' : List AV} {σ' : St}, K es L' S' σ' → pcOf es = pc + ln := by
    intro L' S' σ' hk
    cases es with
    | nil => exact (hnil _ _ _ hk).elim
    | cons f fs => exact chkn_next hcn hs
  have go : ∀ {L' : List (Option AV)} {S' : List AV} {σ' : St} {H' : Heap} {locs' : List Loc} {ls' : Array Slot} (n : Nat), ln = n → K es L' S' σ' → lwf L' → swf S' → va_P g.D cls (wl g σ') H' → va_S A s.heap H' locs' → lv_has ls' h.ml (lpairs g 0 L') → W p l e R s m args below meth c H' locs' cells slots Z (F0 m (pc + n) ls' (S'.map (cv g))) := by
    intro L' S' σ' H' locs' ls' n hn hk h1 h2 h3 h4 h5
    have := hK es L' S' σ' hes hk h1 h2 H' locs' ls' h3 h4 h5
    rw [nx hk, hn] at this
    exact this
  have jmp : ∀ {o : Int} {L' : List (Option AV)} {S' : List AV}, K (sk code (tgt pc o)) L' S' σ → lwf L' → swf S' → lv_has ls h.ml (lpairs g 0 L') → W p l e R s m args below meth c H locs cells slots Z (F0 m (tgt pc o) ls (S'.map (cv g))) := by
    intro o L' S' hk h1 h2 h5
    have := hK _ L' S' σ (sk_suf code _) hk h1 h2 H locs ls hP hS h5
    cases hsk : sk code (tgt pc o) with
    | nil => rw [hsk] at hk; exact (hnil _ _ _ hk).elim
    | cons f fs =>
      rw [hsk] at this
      have e : pcOf (f :: fs) = tgt pc o := sk_pc hsk
      rw [e] at this
      exact this
  have tg : ∀ {o : Int}, 0 ≤ (pc : Int) + o → (pc : Int) + o = (tgt pc o : Int) := fun h0 => by unfold tgt; omega
  unfold chk at hc
  rw [Bool.and_eq_true, Bool.and_eq_true, decide_eq_true_eq] at hc
  obtain ⟨⟨hd0, hln0⟩, hc⟩ := hc
  have hd : decode h.by pc = .ok (ins, ln) := hd0
  have hln : (ilen ins == 0 || ilen ins == ln) = true := hln0
  clear hd0 hln0
  cases ins
  case aload_n k =>
    have e0 : ln = 1 := by simp [ilen] at hln; omega
    subst e0
    dsimp only [stp] at hw
    split at hw
    · next hg => exact lv_aload_n hx hb hd rfl (lh_g hl hg) (go 1 rfl hw hL (swf_c (hL _ (lg_mem _ _ _ hg)) hSw) hP hS hl)
    · exact hw.elim
  case iload_n k =>
    have e0 : ln = 1 := by simp [ilen] at hln; omega
    subst e0
    dsimp only [stp] at hw
    split at hw
    · next hg => exact lv_iload_n hx hb hd rfl (lh_g hl hg) (go 1 rfl hw hL (swf_c (hL _ (lg_mem _ _ _ hg)) hSw) hP hS hl)
    · exact hw.elim
  case lload_n k =>
    have e0 : ln = 1 := by simp [ilen] at hln; omega
    subst e0
    dsimp only [stp] at hw
    split at hw
    · next hg => exact lv_lload_n hx hb hd rfl (lh_g hl hg) (go 1 rfl hw hL (swf_c (hL _ (lg_mem _ _ _ hg)) hSw) hP hS hl)
    · exact hw.elim
  case aload k =>
    have e0 : ln = 2 := by simp [ilen] at hln; omega
    subst e0
    dsimp only [stp] at hw
    split at hw
    · next hg => exact lv_aload hx hb hd (lh_g hl hg) (go 2 rfl hw hL (swf_c (hL _ (lg_mem _ _ _ hg)) hSw) hP hS hl)
    · exact hw.elim
  case iload k =>
    have e0 : ln = 2 := by simp [ilen] at hln; omega
    subst e0
    dsimp only [stp] at hw
    split at hw
    · next hg => exact lv_iload hx hb hd (lh_g hl hg) (go 2 rfl hw hL (swf_c (hL _ (lg_mem _ _ _ hg)) hSw) hP hS hl)
    · exact hw.elim
  case lload k =>
    have e0 : ln = 2 := by simp [ilen] at hln; omega
    subst e0
    dsimp only [stp] at hw
    split at hw
    · next hg => exact lv_lload hx hb hd (lh_g hl hg) (go 2 rfl hw hL (swf_c (hL _ (lg_mem _ _ _ hg)) hSw) hP hS hl)
    · exact hw.elim
  case istore_n k =>
    have e0 : ln = 1 := by simp [ilen] at hln; omega
    subst e0
    dsimp only [stp] at hw
    split at hw
    · exact lv_istore_n hx hb hd rfl hl (of_decide_eq_true hc) rfl (fun ls' hl' => go 1 rfl hw (lwf_s hL (swf_h hSw)) (swf_t hSw) hP hS (lh_s rfl hl'))
    · exact hw.elim
  case istore k =>
    have e0 : ln = 2 := by simp [ilen] at hln; omega
    subst e0
    dsimp only [stp] at hw
    split at hw
    · exact lv_istore hx hb hd hl (of_decide_eq_true hc) rfl (fun ls' hl' => go 2 rfl hw (lwf_s hL (swf_h hSw)) (swf_t hSw) hP hS (lh_s rfl hl'))
    · exact hw.elim
  case astore_n k =>
    have e0 : ln = 1 := by simp [ilen] at hln; omega
    subst e0
    dsimp only [stp] at hw
    split at hw
    · exact lv_astore_n hx hb hd rfl hl (of_decide_eq_true hc) rfl (fun ls' hl' => go 1 rfl hw (lwf_s hL (swf_h hSw)) (swf_t hSw) hP hS (lh_s rfl hl'))
    · exact hw.elim
  case astore k =>
    have e0 : ln = 2 := by simp [ilen] at hln; omega
    subst e0
    dsimp only [stp] at hw
    split at hw
    · exact lv_astore hx hb hd hl (of_decide_eq_true hc) rfl (fun ls' hl' => go 2 rfl hw (lwf_s hL (swf_h hSw)) (swf_t hSw) hP hS (lh_s rfl hl'))
    · exact hw.elim
  case lstore_n k =>
    have e0 : ln = 1 := by simp [ilen] at hln; omega
    subst e0
    dsimp only [stp] at hw
    split at hw
    · exact lv_lstore_n hx hb hd rfl hl (of_decide_eq_true hc) rfl (fun ls' hl' => go 1 rfl hw (lwf_s2 hL (swf_h hSw)) (swf_t hSw) hP hS (lh_s2 rfl hl'))
    · exact hw.elim
  case lstore k =>
    have e0 : ln = 2 := by simp [ilen] at hln; omega
    subst e0
    dsimp only [stp] at hw
    split at hw
    · exact lv_lstore hx hb hd hl (of_decide_eq_true hc) rfl (fun ls' hl' => go 2 rfl hw (lwf_s2 hL (swf_h hSw)) (swf_t hSw) hP hS (lh_s2 rfl hl'))
    · exact hw.elim
  case iinc k n =>
    have e0 : ln = 3 := by simp [ilen] at hln; omega
    subst e0
    dsimp only [stp] at hw
    split at hw
    · next x d q9 hg =>
      simp only [Bool.and_eq_true, decide_eq_true_eq] at hc
      obtain ⟨j, hj⟩ := lh_n hl hg
      exact lv_iinc hx hb hd hl hj (by rw [hc.1]) hc.2 rfl (fun ls' hl' => go 3 rfl hw (lwf_s hL trivial) hSw hP hS (lh_s rfl hl'))
    · exact hw.elim
  case iconst n =>
    have e0 : ln = 1 := by simp [ilen] at hln; omega
    subst e0
    dsimp only [stp] at hw
    split at hw
    · next v q9 =>
      exact lv_iconst hx hb hd (of_decide_eq_true hc) (go 1 rfl hw hL (swf_n hSw) hP hS hl)
    · exact hw.elim
  case bipush n =>
    have e0 : ln = 2 := by simp [ilen] at hln; omega
    subst e0
    dsimp only [stp] at hw
    split at hw
    · next v q9 =>
      exact lv_bipush hx hb hd (of_decide_eq_true hc) (go 2 rfl hw hL (swf_n hSw) hP hS hl)
    · exact hw.elim
  case sipush n =>
    have e0 : ln = 3 := by simp [ilen] at hln; omega
    subst e0
    dsimp only [stp] at hw
    split at hw
    · next v q9 =>
      exact lv_sipush hx hb hd (of_decide_eq_true hc) (go 3 rfl hw hL (swf_n hSw) hP hS hl)
    · exact hw.elim
  case lconst n =>
    have e0 : ln = 1 := by simp [ilen] at hln; omega
    subst e0
    dsimp only [stp] at hw
    split at hw
    · next v q9 =>
      exact lv_lconst hx hb hd (of_decide_eq_true hc) (go 1 rfl hw hL (swf_n hSw) hP hS hl)
    · exact hw.elim
  case ldc i =>
    have e0 : ln = 2 := by simp [ilen] at hln; omega
    subst e0
    dsimp only [stp] at hw
    split at hw
    · next v q =>
      have hc : (match lnth wcs q with
        | some x => Nat.beq x.1 7 && Nat.beq x.2.1 (mclN h.mi) && Nat.beq x.2.2.1 i && decide ((lnth ki x.2.2.2).getD 0 = v)
        | none => false) = true := hc
      split at hc
      · next y hy =>
        simp only [Bool.and_eq_true, decide_eq_true_eq] at hc
        obtain ⟨⟨⟨c1, c2⟩, c3⟩, c4⟩ := hc
        have hm := List.mem_of_getElem? (tw hy (by rw [Nat.eq_of_beq_eq_true c1]; decide))
        have e1 : wordOf y = Cond.constant h.y.cls i v := by
          obtain ⟨y1, y2, y3, y4⟩ := y
          have d1 : y1 = 7 := Nat.eq_of_beq_eq_true c1
          have d2 : y2 = mclN h.mi := Nat.eq_of_beq_eq_true c2
          have d3 : y3 = i := Nat.eq_of_beq_eq_true c3
          rw [d1, d2, d3]
          show Cond.constant (cnm (mclN h.mi)) i ((lnth ki y4).getD 0) = _
          have c5 : (lnth _ y4).getD 0 = v := c4
          rw [← hycl, c5]
        rw [e1] at hm
        exact lv_ldc hx hb hown (hts _ (gt_in hm rfl)) hd (go 2 rfl hw hL (swf_n hSw) hP hS hl)
      · cases hc
    · next t j q =>
      simp only [Bool.and_eq_true, decide_eq_true_eq] at hc
      obtain ⟨⟨⟨c1, c2⟩, c3⟩, c4⟩ := hc
      have c1 : (j - 1100, h.y.cls, i, q) ∈ strk := c1
      have hr := hSr _ c1
      have e1 : 1100 + (j - 1100) = j := by omega
      simp only [e1] at hr
      exact va_ldcS hx hb hown hr hd (go 2 rfl hw hL (swf_c (Or.inr (Or.inr (Or.inl (by show (sh t).1 = 6 ∧ j = 1100 + (sh t).2.1 ∧ (sh t).2.1 < 8; rw [c2]; refine ⟨rfl, ?_, ?_⟩; (show j = 1100 + (j - 1100); omega); (show j - 1100 < 8; omega))))) hSw) hP hS hl)
    · exact hw.elim
  case ldc_w i =>
    have e0 : ln = 3 := by simp [ilen] at hln; omega
    subst e0
    dsimp only [stp] at hw
    split at hw
    · next v q =>
      have hc : (match lnth wcs q with
        | some x => Nat.beq x.1 7 && Nat.beq x.2.1 (mclN h.mi) && Nat.beq x.2.2.1 i && decide ((lnth ki x.2.2.2).getD 0 = v)
        | none => false) = true := hc
      split at hc
      · next y hy =>
        simp only [Bool.and_eq_true, decide_eq_true_eq] at hc
        obtain ⟨⟨⟨c1, c2⟩, c3⟩, c4⟩ := hc
        have hm := List.mem_of_getElem? (tw hy (by rw [Nat.eq_of_beq_eq_true c1]; decide))
        have e1 : wordOf y = Cond.constant h.y.cls i v := by
          obtain ⟨y1, y2, y3, y4⟩ := y
          have d1 : y1 = 7 := Nat.eq_of_beq_eq_true c1
          have d2 : y2 = mclN h.mi := Nat.eq_of_beq_eq_true c2
          have d3 : y3 = i := Nat.eq_of_beq_eq_true c3
          rw [d1, d2, d3]
          show Cond.constant (cnm (mclN h.mi)) i ((lnth ki y4).getD 0) = _
          have c5 : (lnth _ y4).getD 0 = v := c4
          rw [← hycl, c5]
        rw [e1] at hm
        exact lv_ldcw hx hb hown (hts _ (gt_in hm rfl)) hd (go 3 rfl hw hL (swf_n hSw) hP hS hl)
      · cases hc
    · exact hw.elim
  case ldc2_w i =>
    have e0 : ln = 3 := by simp [ilen] at hln; omega
    subst e0
    dsimp only [stp] at hw
    split at hw
    · next v q =>
      have hc : (match lnth wcs q with
        | some x => Nat.beq x.1 8 && Nat.beq x.2.1 (mclN h.mi) && Nat.beq x.2.2.1 i && decide ((lnth kj x.2.2.2).getD 0 = v)
        | none => false) = true := hc
      split at hc
      · next y hy =>
        simp only [Bool.and_eq_true, decide_eq_true_eq] at hc
        obtain ⟨⟨⟨c1, c2⟩, c3⟩, c4⟩ := hc
        have hm := List.mem_of_getElem? (tw hy (by rw [Nat.eq_of_beq_eq_true c1]; decide))
        have e1 : wordOf y = Cond.constantLong h.y.cls i v := by
          obtain ⟨y1, y2, y3, y4⟩ := y
          have d1 : y1 = 8 := Nat.eq_of_beq_eq_true c1
          have d2 : y2 = mclN h.mi := Nat.eq_of_beq_eq_true c2
          have d3 : y3 = i := Nat.eq_of_beq_eq_true c3
          rw [d1, d2, d3]
          show Cond.constantLong (cnm (mclN h.mi)) i ((lnth kj y4).getD 0) = _
          have c5 : (lnth _ y4).getD 0 = v := c4
          rw [← hycl, c5]
        rw [e1] at hm
        exact lv_ldc2 hx hb hown (hts _ (gt_in hm rfl)) hd (go 3 rfl hw hL (swf_n hSw) hP hS hl)
      · cases hc
    · exact hw.elim
  case iadd =>
    have e0 : ln = 1 := by simp [ilen] at hln; omega
    subst e0
    dsimp only [stp] at hw
    split at hw
    · exact lv_iadd hx hb hd (go 1 rfl hw hL (swf_n (swf_t (swf_t hSw))) hP hS hl)
    · exact hw.elim
  case isub =>
    have e0 : ln = 1 := by simp [ilen] at hln; omega
    subst e0
    dsimp only [stp] at hw
    split at hw
    · exact lv_isub hx hb hd (go 1 rfl hw hL (swf_n (swf_t (swf_t hSw))) hP hS hl)
    · exact hw.elim
  case imul =>
    have e0 : ln = 1 := by simp [ilen] at hln; omega
    subst e0
    dsimp only [stp] at hw
    split at hw
    · exact lv_imul hx hb hd (go 1 rfl hw hL (swf_n (swf_t (swf_t hSw))) hP hS hl)
    · exact hw.elim
  case iand =>
    have e0 : ln = 1 := by simp [ilen] at hln; omega
    subst e0
    dsimp only [stp] at hw
    split at hw
    · exact lv_iand hx hb hd (go 1 rfl hw hL (swf_n (swf_t (swf_t hSw))) hP hS hl)
    · exact hw.elim
  case ior =>
    have e0 : ln = 1 := by simp [ilen] at hln; omega
    subst e0
    dsimp only [stp] at hw
    split at hw
    · exact lv_ior hx hb hd (go 1 rfl hw hL (swf_n (swf_t (swf_t hSw))) hP hS hl)
    · exact hw.elim
  case ixor =>
    have e0 : ln = 1 := by simp [ilen] at hln; omega
    subst e0
    dsimp only [stp] at hw
    split at hw
    · exact lv_ixor hx hb hd (go 1 rfl hw hL (swf_n (swf_t (swf_t hSw))) hP hS hl)
    · exact hw.elim
  case ishl =>
    have e0 : ln = 1 := by simp [ilen] at hln; omega
    subst e0
    dsimp only [stp] at hw
    split at hw
    · exact lv_ishl hx hb hd (go 1 rfl hw hL (swf_n (swf_t (swf_t hSw))) hP hS hl)
    · exact hw.elim
  case ishr =>
    have e0 : ln = 1 := by simp [ilen] at hln; omega
    subst e0
    dsimp only [stp] at hw
    split at hw
    · exact lv_ishr hx hb hd (go 1 rfl hw hL (swf_n (swf_t (swf_t hSw))) hP hS hl)
    · exact hw.elim
  case ladd =>
    have e0 : ln = 1 := by simp [ilen] at hln; omega
    subst e0
    dsimp only [stp] at hw
    split at hw
    · exact lv_ladd hx hb hd (go 1 rfl hw hL (swf_n (swf_t (swf_t hSw))) hP hS hl)
    · exact hw.elim
  case lmul =>
    have e0 : ln = 1 := by simp [ilen] at hln; omega
    subst e0
    dsimp only [stp] at hw
    split at hw
    · exact lv_lmul hx hb hd (go 1 rfl hw hL (swf_n (swf_t (swf_t hSw))) hP hS hl)
    · exact hw.elim
  case land =>
    have e0 : ln = 1 := by simp [ilen] at hln; omega
    subst e0
    dsimp only [stp] at hw
    split at hw
    · exact lv_land hx hb hd (go 1 rfl hw hL (swf_n (swf_t (swf_t hSw))) hP hS hl)
    · exact hw.elim
  case lor =>
    have e0 : ln = 1 := by simp [ilen] at hln; omega
    subst e0
    dsimp only [stp] at hw
    split at hw
    · exact lv_lor hx hb hd (go 1 rfl hw hL (swf_n (swf_t (swf_t hSw))) hP hS hl)
    · exact hw.elim
  case lshl =>
    have e0 : ln = 1 := by simp [ilen] at hln; omega
    subst e0
    dsimp only [stp] at hw
    split at hw
    · exact lv_lshl hx hb hd rfl (go 1 rfl hw hL (swf_n (swf_t (swf_t hSw))) hP hS hl)
    · exact hw.elim
  case lshr =>
    have e0 : ln = 1 := by simp [ilen] at hln; omega
    subst e0
    dsimp only [stp] at hw
    split at hw
    · exact lv_lshr hx hb hd rfl (go 1 rfl hw hL (swf_n (swf_t (swf_t hSw))) hP hS hl)
    · exact hw.elim
  case iushr =>
    have e0 : ln = 1 := by simp [ilen] at hln; omega
    subst e0
    dsimp only [stp] at hw
    split at hw
    · exact lv_iushr hx hb hd rfl (go 1 rfl hw hL (swf_n (swf_t (swf_t hSw))) hP hS hl)
    · exact hw.elim
  case idiv =>
    have e0 : ln = 1 := by simp [ilen] at hln; omega
    subst e0
    dsimp only [stp] at hw
    split at hw
    · exact lv_idiv hx hb hd hw.1 (go 1 rfl hw.2 hL (swf_n (swf_t (swf_t hSw))) hP hS hl)
    · exact hw.elim
  case irem =>
    have e0 : ln = 1 := by simp [ilen] at hln; omega
    subst e0
    dsimp only [stp] at hw
    split at hw
    · exact lv_irem hx hb hd hw.1 (go 1 rfl hw.2 hL (swf_n (swf_t (swf_t hSw))) hP hS hl)
    · exact hw.elim
  case ineg =>
    have e0 : ln = 1 := by simp [ilen] at hln; omega
    subst e0
    dsimp only [stp] at hw
    split at hw
    · exact lv_ineg hx hb hd (go 1 rfl hw hL (swf_n (swf_t hSw)) hP hS hl)
    · exact hw.elim
  case lneg =>
    have e0 : ln = 1 := by simp [ilen] at hln; omega
    subst e0
    dsimp only [stp] at hw
    split at hw
    · exact lv_lneg hx hb hd (go 1 rfl hw hL (swf_n (swf_t hSw)) hP hS hl)
    · exact hw.elim
  case i2l =>
    have e0 : ln = 1 := by simp [ilen] at hln; omega
    subst e0
    dsimp only [stp] at hw
    split at hw
    · exact lv_i2l hx hb hd rfl (go 1 rfl hw hL (swf_n (swf_t hSw)) hP hS hl)
    · exact hw.elim
  case l2i =>
    have e0 : ln = 1 := by simp [ilen] at hln; omega
    subst e0
    dsimp only [stp] at hw
    split at hw
    · exact lv_l2i hx hb hd rfl (go 1 rfl hw hL (swf_n (swf_t hSw)) hP hS hl)
    · exact hw.elim
  case i2b =>
    have e0 : ln = 1 := by simp [ilen] at hln; omega
    subst e0
    dsimp only [stp] at hw
    split at hw
    · exact lv_i2b hx hb hd rfl (go 1 rfl hw hL (swf_n (swf_t hSw)) hP hS hl)
    · exact hw.elim
  case i2s =>
    have e0 : ln = 1 := by simp [ilen] at hln; omega
    subst e0
    dsimp only [stp] at hw
    split at hw
    · exact lv_i2s hx hb hd rfl (go 1 rfl hw hL (swf_n (swf_t hSw)) hP hS hl)
    · exact hw.elim
  case lcmp =>
    have e0 : ln = 1 := by simp [ilen] at hln; omega
    subst e0
    dsimp only [stp] at hw
    split at hw
    · exact W.lcmp hx hb hd (go 1 rfl hw hL (swf_n (swf_t (swf_t hSw))) hP hS hl)
    · exact hw.elim
  case dup =>
    have e0 : ln = 1 := by simp [ilen] at hln; omega
    subst e0
    dsimp only [stp] at hw
    split at hw
    · exact lv_dup hx hb hd rfl (go 1 rfl hw hL (swf_n hSw) hP hS hl)
    · exact lv_dup hx hb hd rfl (go 1 rfl hw hL (swf_c (swf_h hSw) hSw) hP hS hl)
    · exact hw.elim
  case dup2 =>
    have e0 : ln = 1 := by simp [ilen] at hln; omega
    subst e0
    dsimp only [stp] at hw
    split at hw
    · exact lv_dup2_11 hx hb hd rfl rfl (go 1 rfl hw hL (swf_n (swf_c (swf_h (swf_t hSw)) hSw)) hP hS hl)
    · exact hw.elim
  case goto o =>
    have e0 : ln = 3 := by simp [ilen] at hln; omega
    subst e0
    dsimp only [stp] at hw
    exact lv_goto hx hb hd (tg (of_decide_eq_true hc)) (jmp hw hL hSw hl)
  case if_icmp cnd o =>
    have e0 : ln = 3 := by simp [ilen] at hln; omega
    subst e0
    dsimp only [stp] at hw
    split at hw
    · cases cnd <;> dsimp only [icmp] at hw
      · exact lv_icmp_eq hx hb hd (tg (of_decide_eq_true hc)) (fun q => jmp (hw.1 q) hL (swf_t (swf_t hSw)) hl) (fun q => go 3 rfl (hw.2 q) hL (swf_t (swf_t hSw)) hP hS hl)
      · exact lv_icmp_ne hx hb hd (tg (of_decide_eq_true hc)) (fun q => jmp (hw.1 q) hL (swf_t (swf_t hSw)) hl) (fun q => go 3 rfl (hw.2 q) hL (swf_t (swf_t hSw)) hP hS hl)
      · exact lv_icmp_lt hx hb hd (tg (of_decide_eq_true hc)) (fun q => jmp (hw.1 q) hL (swf_t (swf_t hSw)) hl) (fun q => go 3 rfl (hw.2 q) hL (swf_t (swf_t hSw)) hP hS hl)
      · exact lv_icmp_ge hx hb hd (tg (of_decide_eq_true hc)) (fun q => jmp (hw.1 q) hL (swf_t (swf_t hSw)) hl) (fun q => go 3 rfl (hw.2 q) hL (swf_t (swf_t hSw)) hP hS hl)
      · exact lv_icmp_gt hx hb hd (tg (of_decide_eq_true hc)) (fun q => jmp (hw.1 q) hL (swf_t (swf_t hSw)) hl) (fun q => go 3 rfl (hw.2 q) hL (swf_t (swf_t hSw)) hP hS hl)
      · exact lv_icmp_le hx hb hd (tg (of_decide_eq_true hc)) (fun q => jmp (hw.1 q) hL (swf_t (swf_t hSw)) hl) (fun q => go 3 rfl (hw.2 q) hL (swf_t (swf_t hSw)) hP hS hl)
    · exact hw.elim
  case ifCond cnd o =>
    have e0 : ln = 3 := by simp [ilen] at hln; omega
    subst e0
    dsimp only [stp] at hw
    split at hw
    · cases cnd <;> dsimp only [icmp] at hw
      · exact lv_if_eq hx hb hd (tg (of_decide_eq_true hc)) (fun q => jmp (hw.1 q) hL (swf_t hSw) hl) (fun q => go 3 rfl (hw.2 q) hL (swf_t hSw) hP hS hl)
      · exact lv_if_ne hx hb hd (tg (of_decide_eq_true hc)) (fun q => jmp (hw.1 q) hL (swf_t hSw) hl) (fun q => go 3 rfl (hw.2 q) hL (swf_t hSw) hP hS hl)
      · exact lv_if_lt hx hb hd (tg (of_decide_eq_true hc)) (fun q => jmp (hw.1 q) hL (swf_t hSw) hl) (fun q => go 3 rfl (hw.2 q) hL (swf_t hSw) hP hS hl)
      · exact lv_if_ge hx hb hd (tg (of_decide_eq_true hc)) (fun q => jmp (hw.1 q) hL (swf_t hSw) hl) (fun q => go 3 rfl (hw.2 q) hL (swf_t hSw) hP hS hl)
      · exact lv_if_gt hx hb hd (tg (of_decide_eq_true hc)) (fun q => jmp (hw.1 q) hL (swf_t hSw) hl) (fun q => go 3 rfl (hw.2 q) hL (swf_t hSw) hP hS hl)
      · exact lv_if_le hx hb hd (tg (of_decide_eq_true hc)) (fun q => jmp (hw.1 q) hL (swf_t hSw) hl) (fun q => go 3 rfl (hw.2 q) hL (swf_t hSw) hP hS hl)
    · exact hw.elim
  case tableswitch dflt lo hi offs =>
    dsimp only [stp] at hw
    split at hw
    · next x S' =>
      have hc : (decide (0 ≤ (pc : Int) + dflt) && offs.toList.all (fun o => decide (0 ≤ (pc : Int) + o)) && decide (hi - lo + 1 = offs.toList.length)) = true := hc
      simp only [Bool.and_eq_true, decide_eq_true_eq, List.all_eq_true] at hc
      obtain ⟨⟨c1, c2⟩, c3⟩ := hc
      by_cases hin : x.toInt < lo ∨ hi < x.toInt
      · exact lv_tableOut hx hb hd hin (tg c1) (jmp (hw.1 hin) hL (swf_t hSw) hl)
      · have hj : (x.toInt - lo).toNat < offs.toList.length := by omega
        have key : ∀ (os : List Int) (v : Int) (j : Nat) (o : Int), tsw x (fun o => K (sk code (tgt pc o)) L S' σ) v os → os[j]? = some o → x.toInt = v + j → K (sk code (tgt pc o)) L S' σ := by
          intro os
          induction os with
          | nil => intro v j o _ ho; simp at ho
          | cons a os ih =>
            intro v j o ht ho he
            cases j with
            | zero =>
              have : a = o := by simpa using ho
              subst this
              exact ht.1 (by simpa using he)
            | succ j => exact ih (v + 1) j o ht.2 (by simpa using ho) (by omega)
        obtain ⟨o, ho⟩ : ∃ o, offs.toList[(x.toInt - lo).toNat]? = some o := ⟨_, List.getElem?_eq_getElem hj⟩
        have hk := key offs.toList lo (x.toInt - lo).toNat o hw.2 ho (by omega)
        exact lv_tableIn hx hb hd (fun q => hin (Or.inl q)) (fun q => hin (Or.inr q)) (by rw [← Array.getElem?_toList]; exact ho) (tg (c2 o (List.mem_of_getElem? ho))) (jmp hk hL (swf_t hSw) hl)
    · exact hw.elim
  case getfield i =>
    have e0 : ln = 3 := by simp [ilen] at hln; omega
    subst e0
    dsimp only [stp] at hw
    split at hw
    · next r S' ci k q =>
      obtain ⟨t, a⟩ := r
      split at hw
      · next c9 fs hsh =>
        have hsh : sh t = (4, c9, fs) := hsh
        split at hw
        · next hbq =>
          have e9 : c9 = ci := Nat.eq_of_beq_eq_true hbq
          subst e9
          have hwf : wfv (.inl (t, a)) := swf_h hSw
          obtain ⟨ha, hcell⟩ := cell_at (g := g) (σ := σ) hwf hsh (Nat.le_of_ble_eq_true rfl)
          have hc : (match cls[c9]? with
            | some (_, _, N) => Nat.blt c9 13 && Nat.blt k N && Nat.blt (fid c9 k) 999 && wat q 0 (mclN h.mi) i (fid c9 k)
            | none => false) = true := hc
          split at hc
          · next C9 T9 N9 hC9 =>
            simp only [Bool.and_eq_true] at hc
            obtain ⟨⟨⟨c0, c1⟩, c2⟩, c3⟩ := hc
            have hci := hC9
            obtain ⟨hin9, ⟨ty0, hty0⟩, hnm9⟩ := cls_in hci
            obtain ⟨ef, et⟩ := fd_ok (Nat.blt_eq.mp c0) hci (Nat.blt_eq.mp c1) (Nat.blt_eq.mp c2)
            have hm := wat_ok c3 (by decide)
            have e1 : wordOf (0, mclN h.mi, i, fid c9 k) = Cond.fieldLink h.y.cls i C9 (T9 k).2.1 (T9 k).2.2.1 := by
              show Cond.fieldLink (cnm (mclN h.mi)) i (fnn (fid c9 k)).1 (fnn (fid c9 k)).2.1 (fnn (fid c9 k)).2.2 = _
              rw [← hycl, ef]
            rw [e1] at hm
            have hsame : ∀ z, s.fieldFound? (T9 k).1 (T9 k).2.1 (T9 k).2.2.1 = some z → s.fieldFound? C9 (T9 k).2.1 (T9 k).2.2.1 = some z := fun z hz => by rw [et] at hz; exact hz
            have gt : ∀ {f : Nat × Nat × Nat} {u : AV}, lnth fs k = some f → fval g σ a k f = cv g u → wfv u → K es L (u :: S') σ → W p l e R s m args below meth c H locs cells slots Z (F0 m pc ls (.ref (g.ad a) :: S'.map (cv g))) := by
              intro f u hf hv hu hk
              refine va_get (D := g.D) (ci := c9) (v := cv g u) (C := C9) (T := T9) (N := N9) (ws := wl g σ) hx hb hts hin9 hown hKK hP a hcell hci k (Nat.blt_eq.mp c1) (hts _ hm) hsame ?_ hd (go 3 rfl hk hL (swf_c hu (swf_t hSw)) hP hS hl)
              rw [fvals_get, hf, Nat.zero_add, ← hv]
              rfl
            split at hw
            · next x _ hf => exact gt (u := .inr (.inl (Int32.ofNat x))) hf rfl trivial hw
            · next t' d hf => exact gt hf rfl (wf_rel hwf hsh hf) hw
            · next t' j hf => exact gt hf rfl (wf_abs hwf hsh hf) hw
            · next f n1 n2 n3 hf =>
              refine gt (u := .inr (.inl (σ a k))) hf ?_ trivial hw
              obtain ⟨f1, f2, f3⟩ := f
              unfold fval
              split
              · next e => exact (n1 f2 f3 (by rw [show f1 = 1 from e])).elim
              · next e => exact (n2 f2 f3 (by rw [show f1 = 2 from e])).elim
              · next e => exact (n3 f2 f3 (by rw [show f1 = 3 from e])).elim
              · rfl
            · exact hw.elim
          · cases hc
        · exact hw.elim
      · exact hw.elim
    · exact hw.elim
  case putfield i =>
    have e0 : ln = 3 := by simp [ilen] at hln; omega
    subst e0
    dsimp only [stp] at hw
    split at hw
    · next v r S' ci k q =>
      obtain ⟨t, a⟩ := r
      split at hw
      · next c9 fs hsh =>
        have hsh : sh t = (4, c9, fs) := hsh
        split at hw
        · next hbq =>
          have e9 : c9 = ci := Nat.eq_of_beq_eq_true hbq
          subst e9
          have hwf : wfv (.inl (t, a)) := swf_h (swf_t hSw)
          obtain ⟨ha, hcell⟩ := cell_at (g := g) (σ := σ) hwf hsh (Nat.le_of_ble_eq_true rfl)
          have hlay := lay_cls hsh
          have hc : (match cls[c9]? with
            | some (_, T, N) => Nat.blt c9 13 && Nat.blt k N && Nat.blt (fid c9 k) 999 && wat q 0 (mclN h.mi) i (fid c9 k) && !(T k).2.2.2
            | none => false) = true := hc
          split at hc
          · next C9 T9 N9 hC9 =>
            simp only [Bool.and_eq_true] at hc
            obtain ⟨⟨⟨⟨c0, c1⟩, c2⟩, c3⟩, c4⟩ := hc
            have hci := hC9
            obtain ⟨hin9, ⟨ty0, hty0⟩, hnm9⟩ := cls_in hci
            obtain ⟨ef, et⟩ := fd_ok (Nat.blt_eq.mp c0) hci (Nat.blt_eq.mp c1) (Nat.blt_eq.mp c2)
            have hm := wat_ok c3 (by decide)
            have e1 : wordOf (0, mclN h.mi, i, fid c9 k) = Cond.fieldLink h.y.cls i C9 (T9 k).2.1 (T9 k).2.2.1 := by
              show Cond.fieldLink (cnm (mclN h.mi)) i (fnn (fid c9 k)).1 (fnn (fid c9 k)).2.1 (fnn (fid c9 k)).2.2 = _
              rw [← hycl, ef]
            rw [e1] at hm
            have hsame : ∀ z, s.fieldFound? (T9 k).1 (T9 k).2.1 (T9 k).2.2.1 = some z → s.fieldFound? C9 (T9 k).2.1 (T9 k).2.2.1 = some z := fun z hz => by rw [et] at hz; exact hz
            obtain ⟨C8, T8, N8, l1, l2, l3⟩ := hlay
            rw [hci] at l1
            cases l1
            have hlk := l3 k (Nat.blt_eq.mp c1)
            have gt : ∀ {f : Nat × Nat × Nat} {ty : FieldType}, lnth fs k = some f → (f.1 = 0 ∨ f.1 = 4) → parseFieldDescriptor (T9 k).2.2.1 = some ty → narrow ty (.int v) = .int v → fits ty (.int v) = true → K es L S' (up σ a k v) → W p l e R s m args below meth c H locs cells slots Z (F0 m pc ls (.int v :: .ref (g.ad a) :: S'.map (cv g))) := by
              intro f ty hf h04 hpd hnar hfit hk
              have hkl : k < (fvals g σ a 0 fs).length := by
                rw [fvals_len, l2]
                exact Nat.blt_eq.mp c1
              refine va_put (D := g.D) (ci := c9) (v := .int v) (ty := ty) (C := C9) (T := T9) (N := N9) (ws := wl g σ) hx hb hts hin9 ty0 hty0 hnm9 hown hKK hP hD hS a hcell hci k (Nat.blt_eq.mp c1) (hts _ hm) hsame (by simpa using c4) hpd hnar hfit hkl hd (fun H1 locs1 hP1 hD1 hS1 => go 3 rfl hk hL (swf_t (swf_t hSw)) ?_ hS1 hl)
              have e2 : (fvals g σ a 0 fs).set k (.int v) = fvals g (up σ a k v) a 0 fs := by
                have := fvals_set (g := g) (σ := σ) (k := a) (i := k) (v := v) fs 0 (fun f' hf' => by rw [hf] at hf'; cases hf'; exact h04)
                rw [Nat.zero_add] at this
                exact this
              have e3 : cellOf g (up σ a k v) a = .inr (c9, fvals g (up σ a k v) a 0 fs) := by
                unfold cellOf
                rw [(wf_cell hwf (by rw [hsh]; exact Nat.le_of_ble_eq_true rfl)).2, hsh]
                rfl
              rw [e2, ← e3, wl_set (fun j hj => up_ne j hj)] at hP1
              exact hP1
            split at hw
            · next x1 x2 hf =>
              have hlk := hlk.1 _ _ hf
              exact gt (ty := .int) hf (Or.inl rfl) (by rw [hlk]; decide +kernel) rfl rfl hw
            · next x1 x2 hf =>
              have hlk := hlk.2 _ _ hf
              refine gt (ty := .boolean) hf (Or.inr rfl) (by rw [hlk]; decide +kernel) ?_ ?_ hw.2
              · rcases hw.1 with e | e <;> rw [e] <;> decide
              · rcases hw.1 with e | e <;> rw [e] <;> decide
            · exact hw.elim
          · cases hc
        · exact hw.elim
      · exact hw.elim
    · exact hw.elim
  case getstatic i =>
    have e0 : ln = 3 := by simp [ilen] at hln; omega
    subst e0
    dsimp only [stp] at hw
    split at hw
    · next t j q =>
      simp only [Bool.and_eq_true] at hc
      obtain ⟨⟨c1, c2⟩, c3⟩ := hc
      have c1 : t = 28 := Nat.eq_of_beq_eq_true c1
      have c2 : j = 1010 := Nat.eq_of_beq_eq_true c2
      subst c1; subst c2
      have hm := wat_ok c3 (by decide)
      have e1 : wordOf (0, mclN h.mi, i, 11) = Cond.fieldLink h.y.cls i "FireRows$Asks" "ABOVE" "[I" := by
        show Cond.fieldLink (cnm (mclN h.mi)) i (fnn 11).1 (fnn 11).2.1 (fnn 11).2.2 = _
        rw [← hycl, spec_all.2.1]
      rw [e1] at hm
      exact va_gets hx hb hSx.2.1 hS hown (hts _ hm) (fun _ z => z) hd (go 3 rfl hw hL (swf_c (Or.inr (Or.inl (by decide +kernel))) hSw) hP hS hl)
    · exact hw.elim
  case iaload =>
    have e0 : ln = 1 := by simp [ilen] at hln; omega
    subst e0
    dsimp only [stp] at hw
    split at hw
    · next i r S' =>
      obtain ⟨t, a⟩ := r
      have hwf : wfv (.inl (t, a)) := swf_h (swf_t hSw)
      split at hw
      · next n9 x9 hsh =>
        obtain ⟨ha, hcell⟩ := cell_at (g := g) (σ := σ) hwf hsh (Nat.le_of_ble_eq_true rfl)
        exact va_iald hx hb hKK hP a 0 hcell rfl hw.1 hd (go 1 rfl hw.2 hL (swf_n (swf_t (swf_t hSw))) hP hS hl)
      · next j x9 hsh =>
        have hsh : sh t = (5, j, x9) := hsh
        rcases hwf with ⟨w1, w2⟩ | ⟨w1, w2, w3⟩ | ⟨w1, -⟩ | ⟨w1, -⟩
        · exfalso
          have w2 : tab a = t := w2
          have h9 := List.all_eq_true.mp tab_lt a (List.mem_range.mpr w1)
          rw [w2, hsh] at h9
          simp at h9
        · have w5 : a = 1000 + j := by have := w2; rw [hsh] at this; exact this
          have w6 : j < 11 := by have := w3; rw [hsh] at this; exact this
          clear w1 w2 w3
          subst w5
          exact va_ti hx hb (hSx.1 j w6) hS hw.1 rfl hd (go 1 rfl hw.2 hL (swf_n (swf_t (swf_t hSw))) hP hS hl)
        · rw [hsh] at w1; cases w1
        · rw [hsh] at w1; cases w1
      · next j x9 hsh =>
        have hsh : sh t = (7, j, x9) := hsh
        have w2 : a = 2000 := by
          rcases hwf with ⟨w1, w2⟩ | ⟨w1, -⟩ | ⟨w1, -⟩ | ⟨-, w2⟩
          · exfalso
            have w2 : tab a = t := w2
            have h9 := List.all_eq_true.mp tab_lt a (List.mem_range.mpr w1)
            rw [w2, hsh] at h9
            simp at h9
          · rw [hsh] at w1; cases w1
          · rw [hsh] at w1; cases w1
          · exact w2
        subst w2
        rcases hX with hX | ⟨hX1, hX2, hX3⟩
        · exfalso
          have h9 := hw.1
          rw [hX] at h9
          exact h9 (Or.inr (Nat.zero_le _))
        · exact va_sld hx hb hX1 hX2 hX3 hS hw.1 hd (go 1 rfl hw.2 hL (swf_n (swf_t (swf_t hSw))) hP hS hl)
      · exact hw.elim
    · exact hw.elim
  case baload =>
    have e0 : ln = 1 := by simp [ilen] at hln; omega
    subst e0
    dsimp only [stp] at hw
    split at hw
    · next i r S' =>
      obtain ⟨t, a⟩ := r
      have hwf : wfv (.inl (t, a)) := swf_h (swf_t hSw)
      split at hw
      · next n9 x9 hsh =>
        obtain ⟨ha, hcell⟩ := cell_at (g := g) (σ := σ) hwf hsh (Nat.le_of_ble_eq_true rfl)
        exact va_bald hx hb hKK hP a 1 hcell rfl hw.1 hd (go 1 rfl hw.2 hL (swf_n (swf_t (swf_t hSw))) hP hS hl)
      · next n9 x9 hsh =>
        obtain ⟨ha, hcell⟩ := cell_at (g := g) (σ := σ) hwf hsh (Nat.le_of_ble_eq_true rfl)
        exact va_zald hx hb hKK hP a 2 hcell rfl hw.1 hd (go 1 rfl hw.2 hL (swf_n (swf_t (swf_t hSw))) hP hS hl)
      · exact hw.elim
    · exact hw.elim
  case aaload =>
    have e0 : ln = 1 := by simp [ilen] at hln; omega
    subst e0
    dsimp only [stp] at hw
    split at hw
    · next i r S' =>
      obtain ⟨t, a⟩ := r
      have hwf : wfv (.inl (t, a)) := swf_h (swf_t hSw)
      split at hw
      · next n9 t9 b9 d9 x9 hsh =>
        obtain ⟨ha, hcell⟩ := cell_at (g := g) (σ := σ) hwf hsh (Nat.le_of_ble_eq_true rfl)
        have hlt : i.toNatClampNeg < n9 := Nat.not_le.mp fun q => hw.1 (Or.inr q)
        obtain ⟨w1, w2⟩ := wf_el hwf hsh hlt
        rcases w2 with w2 | w2
        · subst w2
          exact va_aldq (C := "FireRows$Sheet") hx hb hKK hP a 3 hcell rfl hw.1 hd (go 1 rfl hw.2 hL (swf_c w1 (swf_t (swf_t hSw))) hP hS hl)
        · subst w2
          exact va_aldq (C := "FireRows$World") hx hb hKK hP a 4 hcell rfl hw.1 hd (go 1 rfl hw.2 hL (swf_c w1 (swf_t (swf_t hSw))) hP hS hl)
      · exact hw.elim
    · exact hw.elim
  case iastore =>
    have e0 : ln = 1 := by simp [ilen] at hln; omega
    subst e0
    dsimp only [stp] at hw
    split at hw
    · next v i r S' =>
      obtain ⟨t, a⟩ := r
      have hwf : wfv (.inl (t, a)) := swf_h (swf_t (swf_t hSw))
      split at hw
      · next n9 x9 hsh =>
        obtain ⟨ha, hcell⟩ := cell_at (g := g) (σ := σ) hwf hsh (Nat.le_of_ble_eq_true rfl)
        have e3 : ∀ y : Int32, cellOf g (up σ a i.toNatClampNeg y) a = .inl (g.dA 0, n9, .inl (upd (σ a) i.toNatClampNeg y)) := by
          intro y
          unfold cellOf
          rw [(wf_cell hwf (by rw [hsh]; exact Nat.le_of_ble_eq_true rfl)).2, hsh]
          show Sum.inl (g.dA 0, n9, Sum.inl (up σ a i.toNatClampNeg y a)) = _
          rw [up_row]
        refine va_iast hx hb hKK hP hD hS a 0 hcell rfl hw.1 hd (fun H1 locs1 hP1 hD1 hS1 => go 1 rfl hw.2 hL (swf_t (swf_t (swf_t hSw))) ?_ hS1 hl)
        rw [← e3, wl_set (fun j hj => up_ne j hj)] at hP1
        exact hP1
      · exact hw.elim
    · exact hw.elim
  case bastore =>
    have e0 : ln = 1 := by simp [ilen] at hln; omega
    subst e0
    dsimp only [stp] at hw
    split at hw
    · next v i r S' =>
      obtain ⟨t, a⟩ := r
      have hwf : wfv (.inl (t, a)) := swf_h (swf_t (swf_t hSw))
      split at hw
      · next n9 x9 hsh =>
        obtain ⟨ha, hcell⟩ := cell_at (g := g) (σ := σ) hwf hsh (Nat.le_of_ble_eq_true rfl)
        have e3 : ∀ y : Int32, cellOf g (up σ a i.toNatClampNeg y) a = .inl (g.dA 1, n9, .inl (upd (σ a) i.toNatClampNeg y)) := by
          intro y
          unfold cellOf
          rw [(wf_cell hwf (by rw [hsh]; exact Nat.le_of_ble_eq_true rfl)).2, hsh]
          show Sum.inl (g.dA 1, n9, Sum.inl (up σ a i.toNatClampNeg y a)) = _
          rw [up_row]
        refine va_bast hx hb hKK hP hD hS a 1 hcell rfl hw.1 hd (fun H1 locs1 hP1 hD1 hS1 => go 1 rfl hw.2 hL (swf_t (swf_t (swf_t hSw))) ?_ hS1 hl)
        rw [← e3, wl_set (fun j hj => up_ne j hj)] at hP1
        exact hP1
      · next n9 x9 hsh =>
        obtain ⟨ha, hcell⟩ := cell_at (g := g) (σ := σ) hwf hsh (Nat.le_of_ble_eq_true rfl)
        have e3 : ∀ y : Int32, cellOf g (up σ a i.toNatClampNeg y) a = .inl (g.dA 2, n9, .inl (upd (σ a) i.toNatClampNeg y)) := by
          intro y
          unfold cellOf
          rw [(wf_cell hwf (by rw [hsh]; exact Nat.le_of_ble_eq_true rfl)).2, hsh]
          show Sum.inl (g.dA 2, n9, Sum.inl (up σ a i.toNatClampNeg y a)) = _
          rw [up_row]
        refine va_zast hx hb hKK hP hD hS a 2 hcell rfl hw.1 hd (fun H1 locs1 hP1 hD1 hS1 => go 1 rfl hw.2 hL (swf_t (swf_t (swf_t hSw))) ?_ hS1 hl)
        rw [← e3, wl_set (fun j hj => up_ne j hj)] at hP1
        exact hP1
      · exact hw.elim
    · exact hw.elim
  case arraylength =>
    have e0 : ln = 1 := by simp [ilen] at hln; omega
    subst e0
    dsimp only [stp] at hw
    split at hw
    · next r S' =>
      obtain ⟨t, a⟩ := r
      have hwf : wfv (.inl (t, a)) := swf_h hSw
      split at hw
      · next n9 x9 hsh =>
        obtain ⟨ha, hcell⟩ := cell_at (g := g) (σ := σ) hwf hsh (Nat.le_of_ble_eq_true rfl)
        exact va_alen hx hb hKK hP a 0 hcell rfl rfl hd (go 1 rfl hw hL (swf_n (swf_t hSw)) hP hS hl)
      · next j x9 hsh =>
        have hsh : sh t = (7, j, x9) := hsh
        have w2 : a = 2000 := by
          rcases hwf with ⟨w1, w2⟩ | ⟨w1, -⟩ | ⟨w1, -⟩ | ⟨-, w2⟩
          · exfalso
            have w2 : tab a = t := w2
            have h9 := List.all_eq_true.mp tab_lt a (List.mem_range.mpr w1)
            rw [w2, hsh] at h9
            simp at h9
          · rw [hsh] at w1; cases w1
          · rw [hsh] at w1; cases w1
          · exact w2
        subst w2
        rcases hX with hX | ⟨hX1, hX2, hX3⟩
        · exact absurd hX hw.1
        · exact va_slen hx hb hX1 hX2 hX3 hS hd (go 1 rfl hw.2 hL (swf_n (swf_t hSw)) hP hS hl)
      · exact hw.elim
    · exact hw.elim
  case invokestatic i =>
    have e0 : ln = 3 := by simp [ilen] at hln; omega
    subst e0
    dsimp only [stp] at hw
    split at hw
    · next f q =>
      split at hw
      · next as S9 hpop =>
        split at hw
        · next hble =>
          obtain ⟨T9, e1, e2, e3⟩ := pr_inv hpop
          rw [List.append_nil] at e2
          have hcat : ((S9.map (cv g)).map (fun v => v.category)).sum ≤ 8 := by rw [sc_sum]; exact Nat.le_of_ble_eq_true hble
          have hwa : ∀ u ∈ as, wfv u := fun u hu => hSw u (by rw [e1]; exact List.mem_append_left _ (by rw [e2] at hu; exact List.mem_reverse.mp hu))
          have hws : swf S9 := fun u hu => hSw u (by rw [e1]; exact List.mem_append_right _ hu)
          have hst : S.map (cv g) = (as.map (cv g)).reverse ++ S9.map (cv g) := by rw [e1, e2, List.map_append, List.map_reverse, List.reverse_reverse]
          simp only [Bool.and_eq_true, decide_eq_true_eq] at hc
          obtain ⟨⟨⟨⟨⟨⟨c0, c1⟩, c2⟩, c3⟩, c4⟩, c5⟩, c6⟩ := hc
          obtain ⟨g1, g2, g3, g4⟩ := hd_ok c1
          have m1 := wat_ok c2 (by decide)
          have m2 := wat_ok c3 (by decide)
          have w1 : wordOf (1, mclN h.mi, i, f.mi) = Cond.methodLink h.y.cls i f.y := by
            show Cond.methodLink (cnm (mclN h.mi)) i (mnm f.mi).1 = _
            rw [← hycl]; rfl
          rw [w1] at m1
          have m2 : Cond.static f.y ∈ gtbl := m2
          obtain ⟨n1, n2, n3⟩ := mi_ok (show f.mi < 258 by omega)
          obtain ⟨n4, n5, -⟩ := ci_ok n3
          have hG : GoodIn gtbl f.ws := fun w hw' => by
            rcases List.mem_cons.mp hw' with rfl | hw'
            · exact ⟨g2, tbl_good _ g2⟩
            · exact ⟨hw', tbl_good _ hw'⟩
          have cb : CallB R s args h.y.cls i f.y f.by f.ml f.rt f.ws f.rm 0 0 f.na := callB_of f.na hts hG rfl rfl rfl (hts _ g3) (hts _ m1) ⟨by rw [g4]; exact n4, by rw [g4]; exact n5, by rw [← Nat.eq_of_beq_eq_true c6]; exact n2⟩ ⟨Nat.le_trans c4 hfr, Nat.le_trans c5 hlo⟩
          have hcall := cal_ok (g := g) hw l g hwa
          have hrun := va_runS (g := F0 m pc ls (S.map (cv g))) (H := H) (locs := locs) (cells := cells) (slots := slots) (As := as.map (cv g)) (rest := S9.map (cv g)) (below := below) (meth := meth) (e := e) ⟨hx, hb, hml, hown, hts⟩ hcall ⟨cb, hts _ m2⟩ ⟨pc_blind, fun U hU hW => ⟨rfl, wd_call C0 hP hS hU hW⟩⟩ rfl (by rw [List.length_map, e2, List.length_reverse, e3]) hl.1 hst (lv_room hcat) hd ⟨by omega, by omega⟩
          refine w_call (Q' := _) (a := _) hrun hS hWA fun v σ' H1 locs1 hv hq hP1 hS1 => ?_
          obtain ⟨S2, f1, f2, f3⟩ := hq
          rw [f1]
          refine go 3 rfl f2 hL (fun u hu => ?_) hP1 hS1 hl
          rcases f3 u hu with h9 | h9
          · cases v with
            | none => cases h9
            | some w => rw [Option.toList_some, List.mem_singleton] at h9; rw [h9]; exact hv w rfl
          · exact hws u h9
        · exact hw.elim
      · exact hw.elim
    · next q1 q2 =>
      split at hw
      · next x S9 =>
        split at hw
        · next hble =>
          simp only [Bool.and_eq_true, decide_eq_true_eq] at hc
          obtain ⟨⟨c1, c2⟩, c3⟩ := hc
          have m1 := wat_ok c1 (by decide)
          have w1 : wordOf (1, mclN h.mi, i, 254) = Cond.methodLink h.y.cls i Lib.Math.abs.name := by
            show Cond.methodLink (cnm (mclN h.mi)) i (mnm 254).1 = _
            rw [← hycl, spec_all.2.2.2.1]
          rw [w1] at m1
          refine va_mabs hx hb (hml.trans hl.1.symm) hown (hts _ m1) (hts _ math_w.1) (hts _ math_w.2.1) (hts _ math_w.2.2.1) (Nat.le_trans c2 hfr) ?_ hce hsl hd (go 3 rfl hw hL (swf_n (swf_t hSw)) hP hS hl)
          rw [sc_sum]
          have := Nat.le_of_ble_eq_true hble
          omega
        · exact hw.elim
      · exact hw.elim
    · next q1 q2 =>
      split at hw
      · next y x S9 =>
        split at hw
        · next hble =>
          simp only [Bool.and_eq_true, decide_eq_true_eq] at hc
          obtain ⟨⟨c1, c2⟩, c3⟩ := hc
          have m1 := wat_ok c1 (by decide)
          have w1 : wordOf (1, mclN h.mi, i, 255) = Cond.methodLink h.y.cls i Lib.Math.min.name := by
            show Cond.methodLink (cnm (mclN h.mi)) i (mnm 255).1 = _
            rw [← hycl, spec_all.2.2.2.2.1]
          rw [w1] at m1
          refine va_mmin hx hb (hml.trans hl.1.symm) hown (hts _ m1) (hts _ math_w.2.2.2.1) (hts _ math_w.2.1) (hts _ math_w.2.2.2.2.1) (Nat.le_trans c2 hfr) ?_ hce hsl hd (go 3 rfl hw hL (swf_n (swf_t (swf_t hSw))) hP hS hl)
          rw [sc_sum]
          have := Nat.le_of_ble_eq_true hble
          omega
        · exact hw.elim
      · exact hw.elim
    · next q1 q2 =>
      split at hw
      · next y x S9 =>
        split at hw
        · next hble =>
          simp only [Bool.and_eq_true, decide_eq_true_eq] at hc
          obtain ⟨⟨c1, c2⟩, c3⟩ := hc
          have m1 := wat_ok c1 (by decide)
          have w1 : wordOf (1, mclN h.mi, i, 256) = Cond.methodLink h.y.cls i Lib.Math.max.name := by
            show Cond.methodLink (cnm (mclN h.mi)) i (mnm 256).1 = _
            rw [← hycl, spec_all.2.2.2.2.2]
          rw [w1] at m1
          refine va_mmax hx hb (hml.trans hl.1.symm) hown (hts _ m1) (hts _ math_w.2.2.2.2.2.1) (hts _ math_w.2.1) (hts _ math_w.2.2.2.2.2.2) (Nat.le_trans c2 hfr) ?_ hce hsl hd (go 3 rfl hw hL (swf_n (swf_t (swf_t hSw))) hP hS hl)
          rw [sc_sum]
          have := Nat.le_of_ble_eq_true hble
          omega
        · exact hw.elim
      · exact hw.elim
    · next q1 q2 =>
      split at hw
      · next n dp b sp a S9 =>
        simp only [Bool.and_eq_true, decide_eq_true_eq] at hc
        obtain ⟨⟨c1, c2⟩, c3⟩ := hc
        have m1 := wat_ok c1 (by decide)
        have w1 : wordOf (1, mclN h.mi, i, 253) = Cond.methodLink h.y.cls i arraycopyName := by
          show Cond.methodLink (cnm (mclN h.mi)) i (mnm 253).1 = _
          rw [← hycl, spec_all.2.2.1]
        rw [w1] at m1
        obtain ⟨ta, a⟩ := a
        obtain ⟨tb, b⟩ := b
        have hwb : wfv (.inl (tb, b)) := swf_h (swf_t (swf_t hSw))
        have hwa : wfv (.inl (ta, a)) := swf_h (swf_t (swf_t (swf_t (swf_t hSw))))
        split at hw
        · next n0 x0 n1 x1 hsa hsb =>
          obtain ⟨⟨k1, k2, k3, k4, k5⟩, kk⟩ := hw
          obtain ⟨-, hca⟩ := cell_at (g := g) (σ := σ) hwa hsa (Nat.le_of_ble_eq_true rfl)
          obtain ⟨-, hcb⟩ := cell_at (g := g) (σ := σ) hwb hsb (Nat.le_of_ble_eq_true rfl)
          refine va_copyi (ty := .int) hx hb (hml.trans hl.1.symm) hown (hts _ m1) (hts _ math_c.1) (hts _ math_c.2.1) (hts _ math_c.2.2) hKK hP hD hS a b 0 0 hca hcb rfl rfl rfl k1 k2 k3 k4 k5 (fun _ _ => rfl) (Nat.le_trans c2 hfr) (by simpa using Nat.le_trans c3 hlo) hd (fun H1 locs1 hP1 hD1 hS1 => go 3 rfl (kk _ rfl) hL (fun _ h9 => by cases h9) ?_ hS1 hl)
          have e3 : cellOf g (upr σ b (va_cpy (σ a) (σ b) sp.toNatClampNeg dp.toNatClampNeg n.toNatClampNeg)) b = .inl (g.dA 0, n1, .inl (va_cpy (σ a) (σ b) sp.toNatClampNeg dp.toNatClampNeg n.toNatClampNeg)) := by
            unfold cellOf
            rw [(wf_cell hwb (by rw [hsb]; exact Nat.le_of_ble_eq_true rfl)).2, hsb]
            show Sum.inl (g.dA 0, n1, Sum.inl (upr σ b _ b)) = _
            rw [upr_row]
          rw [← e3, wl_set (fun j hj => upr_ne j hj)] at hP1
          exact hP1
        · next n0 x0 n1 x1 hsa hsb =>
          obtain ⟨⟨k1, k2, k3, k4, k5, k6⟩, kk⟩ := hw
          obtain ⟨-, hca⟩ := cell_at (g := g) (σ := σ) hwa hsa (Nat.le_of_ble_eq_true rfl)
          obtain ⟨-, hcb⟩ := cell_at (g := g) (σ := σ) hwb hsb (Nat.le_of_ble_eq_true rfl)
          refine va_copyi (ty := .boolean) hx hb (hml.trans hl.1.symm) hown (hts _ m1) (hts _ math_c.1) (hts _ math_c.2.1) (hts _ math_c.2.2) hKK hP hD hS a b 2 2 hca hcb rfl rfl rfl k1 k2 k3 k4 k5 k6 (Nat.le_trans c2 hfr) (by simpa using Nat.le_trans c3 hlo) hd (fun H1 locs1 hP1 hD1 hS1 => go 3 rfl (kk _ rfl) hL (fun _ h9 => by cases h9) ?_ hS1 hl)
          have e3 : cellOf g (upr σ b (va_cpy (σ a) (σ b) sp.toNatClampNeg dp.toNatClampNeg n.toNatClampNeg)) b = .inl (g.dA 2, n1, .inl (va_cpy (σ a) (σ b) sp.toNatClampNeg dp.toNatClampNeg n.toNatClampNeg)) := by
            unfold cellOf
            rw [(wf_cell hwb (by rw [hsb]; exact Nat.le_of_ble_eq_true rfl)).2, hsb]
            show Sum.inl (g.dA 2, n1, Sum.inl (upr σ b _ b)) = _
            rw [upr_row]
          rw [← e3, wl_set (fun j hj => upr_ne j hj)] at hP1
          exact hP1
        · exact hw.elim
      · exact hw.elim
    · exact hw.elim
  case invokevirtual i =>
    have e0 : ln = 3 := by simp [ilen] at hln; omega
    subst e0
    dsimp only [stp] at hw
    split at hw
    · next f q =>
      split at hw
      · next as S9 hpop =>
        split at hw
        · next r as9 =>
          have core : Nat.ble (scat S9) 8 = true → (∃ cell : Cell, H[g.ad r.2]? = some cell ∧ cell.vm.isStatics = false ∧ s.vm.findClass f.y.cls = some cell.cls) → cal f (.inl r :: as9) σ (fun S σ' => K es L S σ') S9 → W p l e R s m args below meth c H locs cells slots Z (F0 m pc ls (S.map (cv g))) := by
            intro hble hrecv hw
            obtain ⟨T9, e1, e2, e3⟩ := pr_inv hpop
            rw [List.append_nil] at e2
            have hcat : ((S9.map (cv g)).map (fun v => v.category)).sum ≤ 8 := by rw [sc_sum]; exact Nat.le_of_ble_eq_true hble
            have hwa : ∀ u ∈ (.inl r :: as9 : List AV), wfv u := fun u hu => hSw u (by rw [e1]; exact List.mem_append_left _ (by rw [e2] at hu; exact List.mem_reverse.mp hu))
            have hws : swf S9 := fun u hu => hSw u (by rw [e1]; exact List.mem_append_right _ hu)
            have hst : S.map (cv g) = ((.inl r :: as9 : List AV).map (cv g)).reverse ++ S9.map (cv g) := by rw [e1, e2, List.map_append, List.map_reverse, List.reverse_reverse]
            simp only [Bool.and_eq_true, decide_eq_true_eq] at hc
            obtain ⟨⟨⟨⟨⟨⟨⟨⟨c0, c1⟩, c2⟩, c3⟩, c4⟩, c5⟩, c6⟩, c7⟩, c8⟩ := hc
            obtain ⟨g1, g2, g3, g4⟩ := hd_ok c1
            have m1 := wat_ok c2 (by decide)
            have m2 := wat_ok c3 (by decide)
            have m3 := wat_ok c4 (by decide)
            have w1 : wordOf (1, mclN h.mi, i, f.mi) = Cond.methodLink h.y.cls i f.y := by
              show Cond.methodLink (cnm (mclN h.mi)) i (mnm f.mi).1 = _
              rw [← hycl]; rfl
            rw [w1] at m1
            have m2 : Cond.instanceMethod f.y ∈ gtbl := m2
            have m3 : Cond.selects f.y.cls f.y f.y ∈ gtbl := m3
            obtain ⟨n1, n2, n3⟩ := mi_ok (show f.mi < 258 by omega)
            obtain ⟨n4, n5, -⟩ := ci_ok n3
            have hG : GoodIn gtbl f.ws := fun w hw' => by
              rcases List.mem_cons.mp hw' with rfl | hw'
              · exact ⟨g2, tbl_good _ g2⟩
              · exact ⟨hw', tbl_good _ hw'⟩
            have cb : CallB R s args h.y.cls i f.y f.by f.ml f.rt f.ws f.rm 0 0 (nparN f.mi) := callB_of (nparN f.mi) hts hG rfl rfl rfl (hts _ g3) (hts _ m1) ⟨by rw [g4]; exact n4, by rw [g4]; exact n5, n2⟩ ⟨Nat.le_trans c5 hfr, Nat.le_trans c6 hlo⟩
            have hcall := cal_ok (g := g) hw l g hwa
            have hrun := va_runV (g := F0 m pc ls (S.map (cv g))) (H := H) (locs := locs) (cells := cells) (slots := slots) (b := g.ad r.2) (As := as9.map (cv g)) (rest := S9.map (cv g)) (below := below) (meth := meth) (e := e) ⟨hx, hb, hml, hown, hts⟩ hcall ⟨cb, hts _ m2, hts _ m3⟩ ⟨pc_blind, hrecv, fun U hU hW => ⟨rfl, wd_call C0 hP hS hU hW⟩⟩ rfl (by rw [List.length_map]; have h9 := congrArg List.length e2; rw [List.length_reverse, e3, List.length_cons] at h9; have h8 := Nat.eq_of_beq_eq_true c7; omega) hl.1 (by rw [hst, List.map_cons, List.reverse_cons, List.append_assoc]; rfl) (lv_room hcat) hd ⟨by omega, by omega⟩
            refine w_call (Q' := _) (a := _) hrun hS hWA fun v σ' H1 locs1 hv hq hP1 hS1 => ?_
            obtain ⟨S2, f1, f2, f3⟩ := hq
            rw [f1]
            refine go 3 rfl f2 hL (fun u hu => ?_) hP1 hS1 hl
            rcases f3 u hu with h9 | h9
            · cases v with
              | none => cases h9
              | some w => rw [Option.toList_some, List.mem_singleton] at h9; rw [h9]; exact hv w rfl
            · exact hws u h9
          split at hw
          · next c9 fs9 hsh =>
            split at hw
            · next hb1 hb2 =>
              refine core hb2 ?_ hw
              obtain ⟨t, a⟩ := r
              obtain ⟨T9, e1, e2, e3⟩ := pr_inv hpop
              rw [List.append_nil] at e2
              have hwf : wfv (.inl (t, a)) := hSw _ (by rw [e1]; exact List.mem_append_left _ (List.mem_reverse.mp (by rw [← e2]; exact List.mem_cons_self)))
              obtain ⟨ha, hcell⟩ := cell_at (g := g) (σ := σ) hwf hsh (Nat.le_of_ble_eq_true rfl)
              have hci : c9 = f.pl.2.2.2.2 := Nat.eq_of_beq_eq_true hb1
              subst hci
              simp only [Bool.and_eq_true, decide_eq_true_eq] at hc
              have c1 := hc.1.1.1.1.1.1.1.2
              have c8 := hc.2
              obtain ⟨-, -, -, g4⟩ := hd_ok c1
              obtain ⟨C9, T9', N9, hC9, -, -⟩ := lay_cls hsh
              have hci13 : f.pl.2.2.2.2 < 13 := (List.getElem?_eq_some_iff.mp hC9).1
              split at c8
              · next h98 => have := Nat.eq_of_beq_eq_true h98; omega
              · simp only [Bool.and_eq_true] at c8
                have h9 := List.all_eq_true.mp fid_all _ (List.mem_range.mpr hci13)
                rw [hC9] at h9
                simp only [Bool.and_eq_true, decide_eq_true_eq] at h9
                have hy : f.y.cls = C9 := by rw [g4, Nat.eq_of_beq_eq_true c8.2]; exact h9.1.symm
                rw [hy]
                exact va_recv hKK hP (q := (C9, T9', N9)) hC9 hcell
            · exact hw.elim
          · next c9 fs9 hsh =>
            split at hw
            · next hb1 hb2 =>
              refine core hb2 ?_ hw
              obtain ⟨t, a⟩ := r
              have hsh : sh t = (6, c9, fs9) := hsh
              obtain ⟨T9, e1, e2, e3⟩ := pr_inv hpop
              rw [List.append_nil] at e2
              have hwf : wfv (.inl (t, a)) := hSw _ (by rw [e1]; exact List.mem_append_left _ (List.mem_reverse.mp (by rw [← e2]; exact List.mem_cons_self)))
              have hci : 98 = f.pl.2.2.2.2 := Nat.eq_of_beq_eq_true hb1
              simp only [Bool.and_eq_true, decide_eq_true_eq] at hc
              have c1 := hc.1.1.1.1.1.1.1.2
              have c8 := hc.2
              obtain ⟨-, -, -, g4⟩ := hd_ok c1
              rw [← hci] at c8
              have c8 : mclN f.mi = 16 := Nat.eq_of_beq_eq_true c8
              rw [g4, c8, spec_all.1]
              rcases hwf with ⟨w1, w2⟩ | ⟨w1, -⟩ | ⟨w1, w2, w3⟩ | ⟨w1, -⟩
              · exfalso
                have w2 : tab a = t := w2
                have h9 := List.all_eq_true.mp tab_lt a (List.mem_range.mpr w1)
                rw [w2, hsh] at h9
                simp at h9
              · rw [hsh] at w1; cases w1
              · have w5 : a = 1100 + c9 := by have := w2; rw [hsh] at this; exact this
                have w6 : c9 < 8 := by have := w3; rw [hsh] at this; exact this
                clear w1 w2 w3
                subst w5
                obtain ⟨cell, o1, o2, o3, o4⟩ := (hSx.2.2.2.1 c9 w6).1
                exact ⟨cell, by rw [hS.2.1 _ (Array.getElem?_eq_some_iff.mp o1).1 o4]; exact o1, o2, o3⟩
              · rw [hsh] at w1; cases w1
            · exact hw.elim
          · exact hw.elim
        · exact hw.elim
      · exact hw.elim
    · exact hw.elim
  case ireturn =>
    have e0 : ln = 1 := by simp [ilen] at hln; omega
    subst e0
    dsimp only [stp] at hw
    split at hw
    · next x =>
      split at hw
      · next hrt => exact hret (some (.inr (.inl x))) σ H locs ls pc .ireturn hd rfl (Or.inl hrt) (fun w hw' => by cases hw'; trivial) hw hP hS
      · next hrt => exact hret (some (.inr (.inl x))) σ H locs ls pc .ireturn hd rfl (Or.inr ⟨hrt, hw.1⟩) (fun w hw' => by cases hw'; trivial) hw.2 hP hS
      · exact hw.elim
    · exact hw.elim
  case lreturn =>
    have e0 : ln = 1 := by simp [ilen] at hln; omega
    subst e0
    dsimp only [stp] at hw
    split at hw
    · next x =>
      split at hw
      · next hrt => exact hret (some (.inr (.inr x))) σ H locs ls pc .lreturn hd rfl hrt (fun w hw' => by cases hw'; trivial) hw hP hS
      · exact hw.elim
    · exact hw.elim
  case areturn =>
    have e0 : ln = 1 := by simp [ilen] at hln; omega
    subst e0
    dsimp only [stp] at hw
    split at hw
    · next r =>
      split at hw
      · next hrt => exact hret (some (.inl r)) σ H locs ls pc .areturn hd rfl hrt (fun w hw' => by cases hw'; exact swf_h hSw) hw hP hS
      · exact hw.elim
    · exact hw.elim
  case return_ =>
    have e0 : ln = 1 := by simp [ilen] at hln; omega
    subst e0
    dsimp only [stp] at hw
    split at hw
    · split at hw
      · next hrt => exact hret none σ H locs ls pc .return_ hd rfl hrt (fun w hw' => by cases hw') hw hP hS
      · exact hw.elim
    · exact hw.elim
  all_goals exact False.elim hw
theorem wp_sound {h : HD} {X : Ro} {code : List Ent} {Q : Option AV → St → Prop} (ho : okb h code = true) (C : Cx h X g A p R s m args meth c cells slots)
    (hret : ∀ (v : Option AV) (σ' : St) (H : Heap) (locs : List Loc) (ls : Array Slot) (k : Nat) (i : Instr), decode h.by k = .ok (i, 1) → rins i v → rtok h.rt v → (∀ w, v = some w → wfv w) → Q v σ' → va_P g.D cls (wl g σ') H → va_S A s.heap H locs → W p l e R s m args below meth c H locs cells slots Z (F0 m k ls (v.toList.map (cv g)))) :
    ∀ (n : Nat) (es : List Ent) (L : List (Option AV)) (S : List AV) (σ : St), es <:+ code → wp h X code Q n es L S σ → lwf L → swf S → ∀ (H : Heap) (locs : List Loc) (ls : Array Slot), va_P g.D cls (wl g σ) H → va_S A s.heap H locs → lv_has ls h.ml (lpairs g 0 L) → W p l e R s m args below meth c H locs cells slots Z (F0 m (pcOf es) ls (S.map (cv g))) := by
  intro n
  induction n with
  | zero => intro es L S σ _ hw; exact hw.elim
  | succ n ih =>
    intro es L S σ hes hw hL hSw H locs ls hP hS hl
    cases es with
    | nil => exact hw.elim
    | cons en es =>
      obtain ⟨pc, ln, ins, fl, od⟩ := en
      cases fl with
      | cons b mk =>
        have hw : At h X pc (lkeep (b :: mk) L) S σ Q := hw
        exact hw p l e R s m args below meth c cells slots g A Z C hret (fun v hv => hL v (lk_mem _ _ _ hv)) hSw H locs ls hP hS (lh_mono hl fun q hq => lp_keep _ _ _ _ hq)
      | nil =>
        have hw : stp h X code (wp h X code Q n) Q (pc, ln, ins, [], od) es L S σ := hw
        refine stp_sound ho C hret (fun L S σ hk => ?_) ih hes hw hL hSw hP hS hl
        cases n <;> exact hk.elim
theorem wp1_sound {h : HD} {X : Ro} {code : List Ent} {Q : Option AV → St → Prop} (ho : okb h code = true) (C : Cx h X g A p R s m args meth c cells slots)
    (hret : ∀ (v : Option AV) (σ' : St) (H : Heap) (locs : List Loc) (ls : Array Slot) (k : Nat) (i : Instr), decode h.by k = .ok (i, 1) → rins i v → rtok h.rt v → (∀ w, v = some w → wfv w) → Q v σ' → va_P g.D cls (wl g σ') H → va_S A s.heap H locs → W p l e R s m args below meth c H locs cells slots Z (F0 m k ls (v.toList.map (cv g))))
    (n : Nat) {es : List Ent} {L : List (Option AV)} {S : List AV} {σ : St} (hes : es <:+ code) (hw : wp1 h X code Q n es L S σ) (hL : lwf L) (hSw : swf S) {H : Heap} {locs : List Loc} {ls : Array Slot} (hP : va_P g.D cls (wl g σ) H) (hS : va_S A s.heap H locs) (hl : lv_has ls h.ml (lpairs g 0 L)) : W p l e R s m args below meth c H locs cells slots Z (F0 m (pcOf es) ls (S.map (cv g))) := by
  cases es with
  | nil => exact hw.elim
  | cons en es =>
    refine stp_sound ho C hret (fun L S σ hk => ?_) (wp_sound ho C hret n) hes hw hL hSw hP hS hl
    cases n <;> exact hk.elim
end SND
theorem at_ofb {h : HD} {X : Ro} {code : List Ent} {pc : Nat} {L : List (Option AV)} {S : List AV} {σ : St} {Q : Option AV → St → Prop} (ho : okb h code = true) (n : Nat) (hw : wp1 h X code Q n (sk code pc) L S σ) : At h X pc L S σ Q := by
  intro p l e R s m args below meth c cells slots g A Z C hret hL hSw H locs ls hP hS hl
  have := wp1_sound (below := below) (l := l) (e := e) (Z := Z) ho C hret n (sk_suf code pc) hw hL hSw hP hS hl
  cases hsk : sk code pc with
  | nil => rw [hsk] at hw; exact hw.elim
  | cons f fs =>
    rw [hsk] at this
    have e : pcOf (f :: fs) = pc := sk_pc hsk
    rw [e] at this
    exact this
theorem at_of {h : HD} {X : Ro} {code : List Ent} {pc : Nat} {L : List (Option AV)} {S : List AV} {σ : St} {Q : Option AV → St → Prop} (ho : okc h code = true) (n : Nat) (hw : wp1 h X code Q n (sk code pc) L S σ) : At h X pc L S σ Q := at_ofb (okc_b ho) n hw
theorem sl_len {g : Gh} : ∀ (as : List AV), (lg_sl (as.map (cv g))).length = scat as
  | [] => rfl
  | v :: as => by
    have := sl_len (g := g) as
    rw [List.map_cons, lg_sl, List.flatMap_cons, List.length_append]
    rw [lg_sl] at this
    rw [this, cv_cat]
    rcases v with q | x | x <;> simp [vcat, scat]
theorem call_of {h : HD} {code : List Ent} {as : List AV} {σ : St} {Q : Option AV → St → Prop} (ho : okc h code = true) (n : Nat) (hw : wp1 h X0 code Q n code (lent as h.ml) [] σ) (hsl : Nat.ble (scat as) h.ml = true := by rfl) : CallOk h as σ Q := by
  intro l g hwa
  have ho2 := ho
  unfold okc at ho2
  simp only [Bool.and_eq_true, Bool.not_eq_true'] at ho2
  obtain ⟨⟨⟨⟨⟨hhd, hnc⟩, hnm⟩, hcn⟩, h0⟩, hall⟩ := ho2
  obtain ⟨hmi, hcode, -, hycl⟩ := hd_ok hhd
  have hpl : plainName h.y.cls = true := by
    rw [hycl]
    rcases (ci_ok (Nat.blt_eq.mp hnc)).2.2 with e | e
    · rw [e] at hnm; cases hnm
    · exact e
  refine Met.ofW (cc := h.by) (maxL := h.ml) (ret := h.rt) hpl rfl ?_
  intro p e s m args below meth c s₁ B hml hv
  obtain ⟨rfl, hP, hi, hK, hSx, hSr⟩ := hv
  have hts0 := atoms_spec (ws := h.ws) B.pre
  have hts : ∀ w ∈ gtbl, w.before (as.map (cv g)).toArray s = true := fun w hw => hts0 w (List.mem_cons_of_mem _ hw)
  have hown : s.vm.findClass h.y.cls = some m.cls := findClass_of_methodNamed B.named
  have hlocks := B.notSynchronized
  have C : Cx h X0 g (WA g) p (headSpec h.ws h.rm).room s m (as.map (cv g)).toArray meth c 0 0 := ⟨B.exec, B.bytes, hml, hown, hts, hK, hi, fun k hk => ⟨k, hk, rfl⟩, hSx, hSr, Nat.le_refl _, Nat.le_refl _, Nat.le_refl _, Nat.le_refl _, Or.inl rfl⟩
  rw [lg_entry_eq]
  have hle : (lg_sl (as.map (cv g))).length ≤ h.ml := by rw [sl_len]; exact Nat.le_of_ble_eq_true hsl
  have hl := lv_entry (as.map (cv g)) hle
  have hl2 : lv_has _ h.ml (lpairs g 0 (lent as h.ml)) := lh_mono hl fun q hq => lp_ent as h.ml 0 q hq
  have hpc0 : pcOf code = 0 := by
    cases code with
    | nil => cases h0
    | cons en es => exact Nat.eq_of_beq_eq_true h0
  have key := wp1_sound (below := below) (l := l) (e := e) (Z := MQ below (QcG g Q) (as.map (cv g)).toArray s 0 0 (WA g)) (okc_b ho) C ?_ n (List.suffix_refl code) hw (fun v hv => hwa v (le_mem as h.ml v hv)) (fun v hv => by cases hv) (H := s.heap) (locs := []) hP va_S.rf hl2
  · rw [hpc0] at key
    exact key
  · intro v σ' H locs ls k i hd hri hrt hwf hQ hP' hS'
    have hr := B.returns
    have post : ∀ t : State, t.heap = H → s.WarmedH t.vm → QcG g Q (as.map (cv g)).toArray s (.returned (v.map (cv g))) t := fun t ht hW => ⟨⟨v, σ', rfl, hwf, hQ, by rw [ht]; exact hP', hi, va_K.moved hW.alike hK, by rw [ht]; exact (hSx.kept fun a h1 h2 => hS'.2.1 a h1 h2).moved hW.alike, fun q hq => (hSr q hq).warm hW⟩, hS'.F ht⟩
    rcases v with _ | q | x | x
    · have hri : i = .return_ := hri
      have hrt : h.rt = none := hrt
      subst hri
      rw [hrt] at hr
      exact W.vret B.exec B.bytes hr post hS'.2.2 hd
    · have hri : i = .areturn := hri
      have hrt : h.rt = some (.array .int) := hrt
      subst hri
      rw [hrt] at hr
      exact W.aret B.exec B.bytes hr (Or.inr ⟨_, rfl⟩) (Or.inr ⟨_, rfl⟩) post hS'.2.2 hd
    · have hri : i = .ireturn := hri
      subst hri
      rcases hrt with hrt | ⟨hrt, h01⟩
      · rw [hrt] at hr
        exact W.iret B.exec B.bytes hr post hS'.2.2 hd
      · rw [hrt] at hr
        exact W.zret B.exec B.bytes hr (by rcases h01 with e | e <;> rw [e] <;> decide) post hS'.2.2 hd
    · have hri : i = .lreturn := hri
      have hrt : h.rt = some .long := hrt
      subst hri
      rw [hrt] at hr
      exact W.lret B.exec B.bytes hr post hS'.2.2 hd
