/-! runs of the machine of the making are sound -/
theorem zex_mono : ∀ (n f pc : Nat) (L : List (Option AV)) (S : List AV) (cs : List CE) (r : ZS), zex n f pc L S cs = some r → cs.length ≤ r.2.2.2.length ∧ zsl cs ≤ zsl r.2.2.2 := by
  intro n
  induction n with
  | zero => intro f pc L S cs r h; cases h
  | succ n ih =>
    intro f pc L S cs r h
    unfold zex at h
    split at h
    · cases h
    · next e es hsk =>
      split at h
      · cases h; exact ⟨Nat.le_refl _, Nat.le_refl _⟩
      · split at h
        · next f' hf' =>
          split at h
          · split at h
            · split at h
              · exact ih _ _ _ _ _ _ h
              · cases h
            · cases h
          · split at h
            · next r9 as S9 hpop =>
              split at h
              · split at h
                · next z1 z2 cs1 hz =>
                  have h1 := ih _ _ _ _ _ _ hz
                  have h2 := ih _ _ _ _ _ _ h
                  exact ⟨Nat.le_trans h1.1 h2.1, Nat.le_trans h1.2 h2.2⟩
                · cases h
              · cases h
            · cases h
        · split at h
          · next q hq =>
            split at h
            · next hm =>
              rw [Bool.and_eq_true] at hm
              have h2 := ih _ _ _ _ _ _ h
              exact ⟨Nat.le_trans (Nat.le_of_ble_eq_true hm.1) h2.1, Nat.le_trans (Nat.le_of_ble_eq_true hm.2) h2.2⟩
            · cases h
          · cases h
theorem zcall_inv : ∀ {e : Ent} {f : Nat}, zcall e = some f → ∃ i p n, e.2.2.1 = .invokespecial i ∧ e.2.2.2.2 = .inl (f, p, n) := by
  intro e f h
  obtain ⟨pc, ln, ins, fl, od⟩ := e
  cases ins
  case invokespecial i =>
    cases od with
    | inl z =>
      obtain ⟨z1, z2, z3⟩ := z
      have h : some z1 = some f := h
      cases h
      exact ⟨i, z2, z3, rfl, rfl⟩
    | inr z => cases h
  all_goals (cases od <;> cases h)
theorem zobj : Cond.instanceMethod Lib.objectInit ∈ gtbl ∧ Cond.code Lib.objectInit ⟨#[0xb1]⟩ 1 none ∈ gtbl := ⟨gt_in (List.mem_of_getElem? (i := 109) (by decide +kernel)) rfl, gt_in (List.mem_of_getElem? (i := 110) (by decide +kernel)) rfl⟩
theorem ZW.warm {g : Gh} {b : Nat} {s U : State} {H : Heap} {locs : List Loc} (h : ZW g b s) (hS : va_S (fun q => b ≤ q) s.heap H locs) (hU : U.heap = H) (hW : s.WarmedH U.vm) : ZW g b U := by
  obtain ⟨h1, h2, h3, h4, h5, h6, h7⟩ := h
  refine ⟨va_K.moved hW.alike h1, ?_, fun q hq => (h3 q hq).warm hW, ⟨va_AO.moved hW.alike h4.1, va_AO.moved hW.alike h4.2⟩, fun j hj => ?_, fun q hq => va_Nw.warmM hW (h6 q hq), h7⟩
  · rw [hU]; exact (h2.kept fun a h1 h2 => hS.2.1 a h1 h2).moved hW.alike
  · rw [hU]; exact va_Z.moved hW.alike (va_Z.kept (h5 j hj) fun a h1 h2 => hS.2.1 a h1 h2)
theorem ZW.calling {g : Gh} {b : Nat} {U : State} {j : JFrame} {mk : MethodId} {a : Array Value} (h : ZW g b U) : ZW g b (U.calling j mk a) := by
  obtain ⟨h1, h2, h3, h4, h5, h6, h7⟩ := h
  exact ⟨va_K.moved (u := U) (U := U.calling j mk a) (Vm.Alike.refl U.vm) h1, Sx.moved (u := U) (U := U.calling j mk a) (Vm.Alike.refl U.vm) h2, fun q hq => vk_R.same (u := U) (U := U.calling j mk a) rfl (h3 q hq), ⟨va_AO.moved (u := U) (U := U.calling j mk a) (Vm.Alike.refl U.vm) h4.1, va_AO.moved (u := U) (U := U.calling j mk a) (Vm.Alike.refl U.vm) h4.2⟩, fun i hi => va_Z.moved (u := U) (U := U.calling j mk a) (Vm.Alike.refl U.vm) (h5 i hi), fun q hq => va_Nw.same (u := U) (U := U.calling j mk a) rfl rfl (h6 q hq), h7⟩
/-- what a constructor leaves -/
def QZ (g : Gh) (b : Nat) (cs : List CE) : Array Value → State → Outcome → State → Prop := fun _ st oc t => (oc = .returned none ∧ va_P g.D cls (zel g 0 cs) t.heap) ∧ va_F (fun q => b ≤ q) st t
def PZ (g : Gh) (b : Nat) (cs : List CE) : State → Prop := fun U => va_P g.D cls (zel g 0 cs) U.heap ∧ U.heap.size = b + cs.length ∧ ZW g b U
def ZD.ws (h : ZD) : List Cond := .code h.y h.by h.ml none :: gtbl
def ZD.rm (h : ZD) (mc ms : Nat) : Room := { frames := h.fr, cells := mc, slots := ms, locals := h.lo }
theorem zblind {g : Gh} {b : Nat} {cs : List CE} {vs : List Value} : FrameBlind (va_Pc vs (PZ g b cs)) := by
  intro a U j mk ⟨h1, h2, h3, h4⟩
  exact ⟨h1, h2, h3, h4.calling⟩
section ZRUN
variable {p : Program} {l : Launch} {e : Env} {R : Room} {s : State} {m : MethodId} {args : Array Value} {below : List Frame} {meth : Method} {c : Code} {g : Gh} {b c0 s0 : Nat} {Z : State → Prop}
theorem z_call {H : Heap} {locs : List Loc} {ls : Array Slot} {pc x y mc ms : Nat} {st0 rest : List Value} {a : Array Value} {cs : List CE}
    (hr : va_Run p l e R s m args below meth c H locs x y mc ms (F0 m pc ls st0) rest (QZ g b cs a) (fun q => b ≤ q)) (hS : va_S (fun q => b ≤ q) s.heap H locs)
    (kk : ∀ (H1 : Heap) (locs1 : List Loc), va_P g.D cls (zel g 0 cs) H1 → va_S (fun q => b ≤ q) s.heap H1 locs1 → W p l e R s m args below meth c H1 locs1 (x + mc) (y + ms) Z (F0 m (pc + 3) ls rest)) : W p l e R s m args below meth c H locs x y Z (F0 m pc ls st0) := by
  intro T hT X
  obtain ⟨v0, st₀, t, T', L, h0, X', hL, e1, e2, ⟨⟨hv, hp⟩, hz, hk⟩, st⟩ := hr T hT X
  have hv : v0 = none := by cases hv; rfl
  subst hv
  rw [h0] at hz hk
  obtain ⟨t2, a1, b1⟩ := kk T'.heap (locs ++ L) (by rw [e1]; exact hp)
    ⟨Nat.le_trans hS.1 (by rw [e1]; exact hz), fun q h1 h2 => by rw [e1, hk q (Nat.lt_of_lt_of_le h1 hS.1) h2]; exact hS.2.1 q h1 h2, fun q hq => by
      rcases List.mem_append.mp hq with h | h
      · exact hS.2.2 q h
      · exact hL q h⟩ T' rfl X'
  exact ⟨t2, st t2 a1, b1⟩
end ZRUN
/-- a run from pc on, in any frame -/
def ZOk (n : Nat) : Prop := ∀ (f pc : Nat) (L : List (Option AV)) (S : List AV) (cs : List CE) (r : ZS), zex n f pc L S cs = some r → f < 14 → r.2.2.2.length ≤ 1000 →
  ∀ (p : Program) (l : Launch) (e : Env) (R : Room) (s : State) (m : MethodId) (args : Array Value) (below : List Frame) (meth : Method) (c : Code) (g : Gh) (b c0 s0 : Nat) (Z : State → Prop),
    Zx (zh f) g b c0 p R s m args meth c → ∀ (x y : Nat), x + c0 = cs.length → y + s0 = zsl cs → r.2.2.2.length ≤ R.cells + c0 → zsl r.2.2.2 ≤ R.slots + s0 →
    (∀ (H' : Heap) (locs' : List Loc) (ls' : Array Slot) (x' y' : Nat) (e9 : Ent), e9 ∈ zc f → e9.1 = r.1 → e9.2.2.2.1.isEmpty = false → x' + c0 = r.2.2.2.length → y' + s0 = zsl r.2.2.2 → va_P g.D cls (zel g 0 r.2.2.2) H' → va_S (fun q => b ≤ q) s.heap H' locs' → lv_has ls' (zh f).ml (lpairs g 0 r.2.1) → W p l e R s m args below meth c H' locs' x' y' Z (F0 m r.1 ls' (r.2.2.1.map (cv g)))) →
    ∀ (H : Heap) (locs : List Loc) (ls : Array Slot), va_P g.D cls (zel g 0 cs) H → va_S (fun q => b ≤ q) s.heap H locs → lv_has ls (zh f).ml (lpairs g 0 L) → W p l e R s m args below meth c H locs x y Z (F0 m pc ls (S.map (cv g)))
/-- a constructor's contract out of its run -/
theorem z_met {n : Nat} (ih : ZOk n) {f : Nat} (hf : f < 13) {as : List AV} {cs cs1 : List CE} {pr : Nat} {Lr : List (Option AV)} (hz : zex n f 0 (lent as (zh f).ml) [] cs = some (pr, Lr, [], cs1)) (hlen : cs1.length ≤ 1000) (hsl : scat as ≤ (zh f).ml) (l : Launch) (g : Gh) (b : Nat) :
    Met l (zh f).y (zh f).ws ((zh f).rm (cs1.length - cs.length) (zsl cs1 - zsl cs)) (va_Pc (as.map (cv g)) (PZ g b cs)) (QZ g b cs1) (cs1.length - cs.length) (zsl cs1 - zsl cs) (fun q => b ≤ q) := by
  have hok := List.all_eq_true.mp zt_h f (List.mem_range.mpr hf)
  unfold zhok at hok
  simp only [Bool.and_eq_true, decide_eq_true_eq] at hok
  obtain ⟨⟨⟨⟨⟨⟨⟨k1, k2⟩, k3⟩, k4⟩, k5⟩, k6⟩, k7⟩, k8⟩ := hok
  have hmo := zex_mono _ _ _ _ _ _ _ hz
  refine Met.ofW (cc := (zh f).by) (maxL := (zh f).ml) (ret := none) k7 rfl ?_
  intro p e s m args below meth c s₁ B hml hv
  obtain ⟨rfl, hP, hsz, hZW⟩ := hv
  have hts0 := atoms_spec (ws := (zh f).ws) B.pre
  have hts : ∀ w ∈ gtbl, w.before (as.map (cv g)).toArray s = true := fun w hw => hts0 w (List.mem_cons_of_mem _ hw)
  have hown : s.vm.findClass (zh f).y.cls = some m.cls := findClass_of_methodNamed B.named
  have hlocks := B.notSynchronized
  have hnm : meth.name = (zh f).y.name := (name_of_methodNamed B.named B.method).1
  rw [lg_entry_eq]
  have hle : (lg_sl (as.map (cv g))).length ≤ (zh f).ml := by rw [sl_len]; exact hsl
  have hl := lv_entry (as.map (cv g)) hle
  have hl2 : lv_has _ (zh f).ml (lpairs g 0 (lent as (zh f).ml)) := lh_mono hl fun q hq => lp_ent as (zh f).ml 0 q hq
  refine ih f 0 _ [] cs _ hz (by omega) hlen p l e _ s m _ below meth c g b cs.length (zsl cs) _ ⟨B.exec, B.bytes, hml, hown, hts, hZW, hsz, Nat.le_refl _, Nat.le_refl _, fun h9 => hnm.trans h9⟩ 0 0 (Nat.zero_add _) (Nat.zero_add _) ?_ ?_ ?_ s.heap [] _ hP va_S.rf hl2
  · show cs1.length ≤ (cs1.length - cs.length) + cs.length
    have := hmo.1
    have : cs.length ≤ cs1.length := this
    omega
  · show zsl cs1 ≤ (zsl cs1 - zsl cs) + zsl cs
    have : zsl cs ≤ zsl cs1 := hmo.2
    omega
  · intro H' locs' ls' x' y' e9 he9 hpc hfl hx' hy' hP' hS' hl'
    have hx' : x' + cs.length = cs1.length := hx'
    have hy' : y' + zsl cs = zsl cs1 := hy'
    have ex : x' = cs1.length - cs.length := by omega
    have ey : y' = zsl cs1 - zsl cs := by omega
    subst ex; subst ey
    have hs9 := List.all_eq_true.mp (List.all_eq_true.mp zt_s f (List.mem_range.mpr hf)) e9 he9
    unfold zstop at hs9
    rw [hfl, Bool.false_or, Bool.and_eq_true, decide_eq_true_eq] at hs9
    have hc9 := List.all_eq_true.mp (zt_c (f := f) (by omega)) e9 he9
    unfold zchk at hc9
    rw [Bool.and_eq_true, Bool.and_eq_true, decide_eq_true_eq] at hc9
    have hd := hc9.1.1
    rw [hs9.1, Nat.eq_of_beq_eq_true hs9.2, hpc] at hd
    have hr := B.returns
    exact W.vret B.exec B.bytes hr (fun t ht hW => ⟨⟨rfl, by rw [ht]; exact hP'⟩, hS'.F ht⟩) hS'.2.2 hd
theorem zex_sound : ∀ n, ZOk n := by
  intro n
  induction n with
  | zero => intro f pc L S cs r h; cases h
  | succ n ih =>
    intro f pc L S cs r h hf hlen p l e R s m args below meth c g b c0 s0 Z C x y hx0 hy0 hR1 hR2 kk H locs ls hP hS hl
    unfold zex at h
    split at h
    · cases h
    · next en es hsk =>
      have hpc : en.1 = pc := sk_pc hsk
      have hmem : en ∈ zc f := (sk_suf (zc f) pc).subset (by rw [hsk]; exact List.mem_cons_self)
      have hchk := List.all_eq_true.mp (zt_c hf) en hmem
      split at h
      · next b9 bs hfl =>
        cases h
        exact kk H locs ls x y en hmem hpc (by rw [hfl]; rfl) hx0 hy0 hP hS hl
      · split at h
        · next f' hcall =>
          have C0 := C
          obtain ⟨hx, hb, hml, hown, hts, hZW, hsz, hfr, hlo, hnm⟩ := C
          obtain ⟨pc9, ln, ins, fl, od⟩ := en
          have hpc : pc9 = pc := hpc
          subst hpc
          obtain ⟨i, p9, n9, h1, h2⟩ := zcall_inv hcall
          have h1 : ins = .invokespecial i := h1
          have h2 : od = .inl (f', p9, n9) := h2
          subst h1; subst h2
          unfold zchk at hchk
          rw [Bool.and_eq_true, Bool.and_eq_true, decide_eq_true_eq] at hchk
          obtain ⟨⟨hd0, -⟩, hc⟩ := hchk
          have hd : decode (zh f).by pc9 = .ok (.invokespecial i, ln) := hd0
          have hc2 : (Nat.beq ln 3 && (match Nat.beq f' 99 with
            | true => zw p9 (.methodLink (zh f).y.cls i Lib.objectInit) && Nat.ble 1 (zh f).fr && Nat.ble 20 (zh f).lo
            | false => Nat.blt f' 13 && Nat.ble ((zh f').fr + 1) (zh f).fr && Nat.ble (8 + ((zh f').ml + 11) + (zh f').lo) (zh f).lo && (match Nat.beq n9 0 with
              | true => zw p9 (.methodLink (zh f).y.cls i (zh f').y)
              | false => decide (((zh f).y.cls, i, (zh f').y) ∈ znst)))) = true := hc
          clear hc
          rw [Bool.and_eq_true] at hc2
          obtain ⟨c1, hc3⟩ := hc2
          have e0 : ln = 3 := Nat.eq_of_beq_eq_true c1
          subst e0
          split at h
          · next h99 =>
            rw [h99] at hc3
            simp only [Bool.and_eq_true] at hc3
            obtain ⟨⟨c2, c3⟩, c4⟩ := hc3
            split at h
            · next r9 S9 =>
              split at h
              · next hble =>
                have hcat := Nat.le_of_ble_eq_true hble
                refine W.objInit (g := F0 m pc9 ls ((.inl r9 :: S9 : List AV).map (cv g))) hx hb hown (hts _ (zw_ok c2)) (hts _ zobj.1) (hts _ zobj.2) rfl (hl.1.trans hml.symm) rfl hd (Nat.le_trans (Nat.le_of_ble_eq_true c3) hfr) ?_ ?_
                · have := sc_sum (g := g) S9
                  have c4 := Nat.le_of_ble_eq_true c4
                  show 2 * 0 + ((S9.map (cv g)).map fun v => v.category).sum + 12 ≤ R.locals
                  rw [this]; omega
                · refine W.eq (g2 := F0 m (pc9 + 3) ls (S9.map (cv g))) rfl ?_
                  exact ih f (pc9 + 3) L S9 cs r h hf hlen p l e R s m args below meth c g b c0 s0 Z C0 x y hx0 hy0 hR1 hR2 kk H locs ls hP hS hl
              · cases h
            · cases h
          · next h99 =>
            rw [h99] at hc3
            simp only [Bool.and_eq_true] at hc3
            obtain ⟨⟨⟨c2, c3⟩, c4⟩, c5⟩ := hc3
            have c2 := Nat.blt_eq.mp c2
            have c3 := Nat.le_of_ble_eq_true c3
            have c4 := Nat.le_of_ble_eq_true c4
            split at h
            · next r9 as S9 hpop =>
              split at h
              · next hbl =>
                rw [Bool.and_eq_true] at hbl
                have hble := Nat.le_of_ble_eq_true hbl.1
                have hsc := Nat.le_of_ble_eq_true hbl.2
                split at h
                · next z1 z2 cs1 hz =>
                  have m1 := zex_mono _ _ _ _ _ _ _ hz
                  have m2 := zex_mono _ _ _ _ _ _ _ h
                  have m1a : cs.length ≤ cs1.length := m1.1
                  have m1b : zsl cs ≤ zsl cs1 := m1.2
                  have hM := z_met ih c2 hz (Nat.le_trans m2.1 hlen) hsc l g b
                  have hok := List.all_eq_true.mp zt_h f' (List.mem_range.mpr c2)
                  unfold zhok at hok
                  simp only [Bool.and_eq_true, decide_eq_true_eq] at hok
                  obtain ⟨⟨⟨⟨⟨⟨⟨k1, k2⟩, k3⟩, k4⟩, k5⟩, k6⟩, k7⟩, k8⟩ := hok
                  obtain ⟨T9, e1, e2, e3⟩ := pr_inv hpop
                  rw [List.append_nil] at e2
                  have hcat : ((S9.map (cv g)).map (fun v => v.category)).sum ≤ 8 := by rw [sc_sum]; exact hble
                  have hst : S.map (cv g) = ((.inl r9 :: as : List AV).map (cv g)).reverse ++ S9.map (cv g) := by rw [e1, e2, List.map_append, List.map_reverse, List.reverse_reverse]
                  have hn : (as.map (cv g)).length = (zh f').np := by
                    rw [List.length_map]
                    have h9 := congrArg List.length e2
                    rw [List.length_reverse, e3, List.length_cons] at h9
                    omega
                  have hG : GoodIn gtbl (zh f').ws := fun w hw' => by
                    rcases List.mem_cons.mp hw' with rfl | hw'
                    · exact ⟨zw_ok k1, tbl_good _ (zw_ok k1)⟩
                    · exact ⟨hw', tbl_good _ hw'⟩
                  refine zsz fun hzs => ?_
                  have hpre : PreS s H (va_Pc ((.inl r9 :: as : List AV).map (cv g)) (PZ g b cs)) (.ref (g.ad r9.2) :: as.map (cv g)) := by
                    refine ⟨zblind, fun U hU hW => ⟨rfl, by rw [hU]; exact hP, ?_, hZW.warm hS hU hW⟩⟩
                    rw [hU]
                    have hlo1 : b + cs.length ≤ H.size := by
                      by_cases h0 : cs.length = 0
                      · have := hS.1; omega
                      · have hi : cs.length - 1 < cs.length := by omega
                        have hat : (zel g 0 cs)[cs.length - 1]? = some (g.ad (cs.length - 1), zce g (cs[cs.length - 1]'hi)) := by
                          rw [zel_at, Nat.zero_add, List.getElem?_eq_getElem hi]; rfl
                        have := (hP _ _ hat).lt
                        have hgb := hZW.2.2.2.2.2.2 (cs.length - 1) (by have := m2.1; omega)
                        have : g.ad (cs.length - 1) < H.size := this
                        omega
                    omega
                  have hfit : x + (cs1.length - cs.length) ≤ R.cells ∧ y + (zsl cs1 - zsl cs) ≤ R.slots := by
                    have m2a : cs1.length ≤ r.2.2.2.length := m2.1
                    have m2b : zsl cs1 ≤ zsl r.2.2.2 := m2.2
                    omega
                  have hstk : (F0 m pc9 ls (S.map (cv g))).stack = (as.map (cv g)).reverse ++ .ref (g.ad r9.2) :: S9.map (cv g) := by
                    show S.map (cv g) = _
                    rw [hst, List.map_cons, List.reverse_cons, List.append_assoc]; rfl
                  have hrun : va_Run p l e R s m args below meth c H locs x y (cs1.length - cs.length) (zsl cs1 - zsl cs) (F0 m pc9 ls (S.map (cv g))) (S9.map (cv g)) (QZ g b cs1 (Value.ref (g.ad r9.2) :: as.map (cv g)).toArray) (fun q => b ≤ q) := by
                    split at c5
                    · have cb : CallB R s args (zh f).y.cls i (zh f').y (zh f').by (zh f').ml none (zh f').ws ((zh f').rm (cs1.length - cs.length) (zsl cs1 - zsl cs)) (cs1.length - cs.length) (zsl cs1 - zsl cs) (zh f').np := callB_of (zh f').np hts hG rfl rfl rfl (hts _ (zw_ok k2)) (hts _ (zw_ok c5)) ⟨k4, k5, k6⟩ ⟨Nat.le_trans c3 hfr, Nat.le_trans c4 hlo⟩
                      exact va_runI (b := g.ad r9.2) (As := as.map (cv g)) ⟨hx, hb, hml, hown, hts⟩ hM ⟨cb, k8, hts _ (zw_ok k3)⟩ hpre rfl hn hl.1 hstk (lv_room hcat) hd hfit
                    · have c5 : ((zh f).y.cls, i, (zh f').y) ∈ znst := of_decide_eq_true c5
                      have cb : va_CN R s args (zh f).y.cls i (zh f').y "FireRows" (zh f').by (zh f').ml none (zh f').ws ((zh f').rm (cs1.length - cs.length) (zsl cs1 - zsl cs)) (cs1.length - cs.length) (zsl cs1 - zsl cs) (zh f').np := va_cnB (zh f').np hts hG rfl rfl rfl (hZW.2.2.2.2.2.1 _ c5) (hts _ (zw_ok k2)) ⟨k4, k5, k6⟩ ⟨Nat.le_trans c3 hfr, Nat.le_trans c4 hlo⟩
                      exact va_runIN (b := g.ad r9.2) (As := as.map (cv g)) ⟨hx, hb, hml, hown, hts⟩ hM ⟨cb, k8, hts _ (zw_ok k3)⟩ hpre rfl hn hl.1 hstk (lv_room hcat) hd hfit
                  refine z_call hrun hS fun H1 locs1 hP1 hS1 => ?_
                  exact ih f (pc9 + 3) L S9 cs1 r h hf hlen p l e R s m args below meth c g b c0 s0 Z C0 _ _ (by omega) (by omega) hR1 hR2 kk H1 locs1 ls hP1 hS1 hl
                · cases h
              · cases h
            · cases h
        · split at h
          · next q hq =>
            split at h
            · next hm =>
              rw [Bool.and_eq_true] at hm
              have m2 := zex_mono _ _ _ _ _ _ _ h
              have ma := Nat.le_of_ble_eq_true hm.1
              have mb := Nat.le_of_ble_eq_true hm.2
              have m2a := m2.1
              have m2b := m2.2
              rw [← hpc]
              exact zst_sound C hchk hq hx0 hy0 (Nat.le_trans m2a hR1) (Nat.le_trans m2b hR2) (by omega) (by omega) (by omega) (fun H' locs' ls' x' y' hx' hy' hP' hS' hl' => ih f q.1 q.2.1 q.2.2.1 q.2.2.2 r h hf hlen p l e R s m args below meth c g b c0 s0 Z C x' y' hx' hy' hR1 hR2 kk H' locs' ls' hP' hS' hl') hP hS hl
            · cases h
          · cases h
