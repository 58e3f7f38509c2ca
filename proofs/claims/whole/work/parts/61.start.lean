/-! THE CLAIM OUT OF ONE WALK OF THE LAW'S BODY. Your part is whole_start (and what it stands on); all else here is the same for every law, but numbers. -/
def R_law : String := "FireRowsLaw"
def lw_P (b : Addr) (xs : List Int32) (args : Array Value) (s : State) : Prop := args = #[.ref b] ∧ s.IntsAt b xs ∧ xs.length ≤ 384 ∧ (Jvm.Cond.and given_1 narrow_1).before args s = true
def lw_Q (_ : Array Value) (s : State) (o : Outcome) (t : State) : Prop := o = .returned (some (.int 1)) ∧ Framed s o t [] 600000 7302249
def lw_Z (below : List Frame) (a : Array Value) (s : State) : State → Prop := fun t => ∃ o, t.status = .running ∧ Ended t below o ∧ lw_Q a s o t
/-- the law's own end, with 1 on the stack, nothing written that was there before, its room as the claim has it -/
theorem lw_ret {p : Program} {l : Launch} {e : Env} {s : State} {m : MethodId} {below : List Frame} {meth : Method} {c : Code} {b : Nat} (hx : p.tables.exec = Jvm.exec) (hb : c.code = code) (hr : meth.sig.returnType = ret) (hlocks : meth.locks = false) {pc : Nat} {H : Heap} {ls : Array Slot} (hdg : decode code pc = .ok (.ireturn, 1)) : W p l e room_1 s m #[Value.ref b] below meth c H [] 600000 7302249 (lw_Z below #[Value.ref b] s) (F0 m pc ls [.int 1]) := by
  intro T hT X
  obtain ⟨fs, hret, hrun, hended, hW, hframe⟩ := X.leave (v := some (.int 1)) (hlocks := hlocks) (fun h => by rw [hr] at h; cases h)
  have hmeth' : T.vm.method? m = some meth := X.method'
  refine ⟨T.setFrames fs, ?_, .returned (some (.int 1)), hrun, hended, rfl, ⟨_, rfl⟩, hW, hframe⟩
  jvm_step X.here [X.here.top, hx, hb, hdg, hmeth', hr, ret, narrow_b1]
  (try refine ⟨rfl, ?_⟩); (try refine ⟨rfl, ?_⟩)
  first | (intro acts; rw [hret _ acts rfl rfl rfl]) | rw [hret _ _ rfl rfl rfl]
  exact Steps.refl _
/-- what holds at the law's entry: the machine, the code, the tables' words (any of lw_tbl by 'hts w (by decide +kernel)'), the script of L ints xs at the cell b, what the Statement gives of the start (any of its parts by flat_of_before) -/
def lw_At (p : Program) (s : State) (m : MethodId) (meth : Method) (c : Code) (b L : Nat) (xs : Nat → Int32) : Prop :=
  p.tables.exec = Jvm.exec ∧ c.code = code ∧ meth.sig.returnType = ret ∧ c.maxLocals = 4 ∧ s.vm.findClass R_law = some m.cls ∧ (∀ w ∈ lw_tbl, w.before #[Value.ref b] s = true) ∧ va_X b L xs s s.heap ∧ b < s.heap.size ∧ meth.locks = false ∧ (Jvm.Cond.and given_1 narrow_1).before #[Value.ref b] s = true
theorem zrun_eq : ∃ t0 t1 t2 : Nat, zrun = some (16, [some (.inl (t0, 2000)), some (.inl (t1, 0)), some (.inl (t2, 122)), none], [], zfin) ∧ zfin.length = 141 := by
  have h := zrun_ok
  unfold zfin
  generalize zrun = z at h ⊢
  split at h
  · exact ⟨_, _, _, rfl, Nat.eq_of_beq_eq_true h⟩
  · cases h
theorem zsl_fin : Nat.ble (zsl zfin) 7302249 = true := by decide +kernel
set_option maxRecDepth 100000 in
theorem law_by : hd_law.by = code := rfl
theorem law_y : hd_law.y.cls = "FireRowsLaw" := by decide +kernel
theorem law_wf : wfv (rf 56 2000) ∧ wfv (rf 54 0) ∧ wfv (rf 55 122) := ⟨Or.inr (Or.inr (Or.inr ⟨by decide +kernel, rfl⟩)), Or.inl ⟨by decide, by decide +kernel⟩, Or.inl ⟨by decide, by decide +kernel⟩⟩
/-- from the entry, for every script of at most 384 ints, the law comes to its end with true -/
theorem whole_start {p : Program} {e : Env} {s : State} {m : MethodId} {below : List Frame} {meth : Method} {c : Code} (l : Launch) {b L : Nat} {xs : Nat → Int32} (hL : L ≤ 384) (C0 : lw_At p s m meth c b L xs) : W p l e room_1 s m #[Value.ref b] below meth c s.heap [] 0 0 (lw_Z below #[Value.ref b] s) (entryFrame m ([Value.ref b] : List Value).toArray 4) := by
  obtain ⟨hx, hb, hr, hml, hown, hts, hX, hbl, hlocks, hgv⟩ := id C0
  obtain ⟨g, hZW, h2000⟩ := z_given hts hgv b
  have hgb := hZW.2.2.2.2.2.2
  have hgt : ∀ w ∈ gtbl, w.before #[Value.ref b] s = true := fun w hw => hts w (List.mem_filter.mp hw).1
  obtain ⟨t0, t1, t2, hrun, hlen⟩ := zrun_eq
  unfold zrun at hrun
  have hslf := Nat.le_of_ble_eq_true zsl_fin
  have hmade : ∀ H : Heap, va_P g.D cls (zel g 0 zfin) H → va_P (zg2 g s.heap.size).D cls (wl (zg2 g s.heap.size) s0) H := fun H h => zmade hgb h
  generalize zfin = cs at hrun hlen hslf hmade
  have hl := lv_entry ([.ref b]) (n := 4) (Nat.le_of_ble_eq_true rfl)
  rw [lg_entry_eq]
  generalize (lg_sl ([.ref b]) ++ List.replicate (4 - (lg_sl ([.ref b])).length) Slot.unset).toArray = ls at hl ⊢
  have hl : lv_has ls 4 [(0, .ref b)] := hl
  have hl0 : lv_has ls (zh 13).ml (lpairs g 0 [some (rf 56 2000), none, none, none]) := by
    show lv_has ls 4 [(0, .ref (g.ad 2000))]
    rw [h2000]; exact hl
  refine zex_sound 400 13 0 [some (rf 56 2000), none, none, none] [] [] _ hrun (by decide) (by show cs.length ≤ 1000; omega) p l e room_1 s m #[Value.ref b] below meth c g s.heap.size 0 0 (lw_Z below #[Value.ref b] s) ⟨hx, hb, hml, hown, hgt, hZW, rfl, Nat.le_of_ble_eq_true rfl, Nat.le_of_ble_eq_true rfl, fun h9 => absurd h9 (by decide +kernel)⟩ 0 0 rfl rfl (by show cs.length ≤ 600000 + 0; omega) (by show zsl cs ≤ 7302249 + 0; omega) ?_ s.heap [] ls (fun k q h => by simp [zel] at h) va_S.rf hl0
  intro H' locs' ls' x' y' e9 _ _ _ hx' hy' hP' hS' hl'
  have hx' : x' + 0 = cs.length := hx'
  have hy' : y' + 0 = zsl cs := hy'
  have hP' : va_P g.D cls (zel g 0 cs) H' := hP'
  have hl' : lv_has ls' 4 [(0, .ref (g.ad 2000)), (1, .ref (g.ad 0)), (2, .ref (g.ad 122))] := hl'
  have hP2 := hmade H' hP'
  have hSx := hZW.2.1
  have e2 : ∀ j, 1000 ≤ j → (zg2 g s.heap.size).ad j = g.ad j := fun j hj => g2_ge (by omega)
  have hSx2 : Sx (zg2 g s.heap.size) (fun q => s.heap.size ≤ q) s s.heap := by
    refine ⟨fun j hj => ?_, ?_, hSx.2.2.1, fun i hi => ?_, hSx.2.2.2.2⟩
    · rw [e2 _ (by omega)]; exact hSx.1 j hj
    · rw [e2 _ (by omega)]; exact hSx.2.1
    · rw [e2 _ (by omega), e2 _ (by omega)]; exact hSx.2.2.2.1 i hi
  have hSr2 : Sr (zg2 g s.heap.size) s := fun q hq => by rw [e2 _ (by omega)]; exact hZW.2.2.1 q hq
  have hAt : At hd_law (L + 1, xs) 16 [some (rf 56 2000), some (rf 54 0), some (rf 55 122), none] [] s0 (retI fun r _ => r = 1) := by
    refine l_law_16 (L + 1, xs) s0 (fun r _ => r = 1) ?_
    have h := law_loop (X := (L + 1, xs)) (L := L) rfl hL (fun r _ => r = 1) (fun _ => rfl) (L + 1) 0 (by omega) (by omega) s0 RA0
    rw [show nI 0 = 0 from by decide] at h
    exact h
  have hg2000 : (zg2 g s.heap.size).ad 2000 = b := by rw [e2 _ (by omega)]; exact h2000
  have C2 : Cx hd_law (L + 1, xs) (zg2 g s.heap.size) (fun q => s.heap.size ≤ q) p room_1 s m #[Value.ref b] meth c x' y' := by
    refine ⟨hx, hb.trans law_by.symm, hml, by rw [law_y]; exact hown, hgt, hZW.1, zinj, fun k hk => ?_, hSx2, hSr2, Nat.le_of_ble_eq_true rfl, Nat.le_of_ble_eq_true rfl, ?_, ?_, Or.inr ⟨?_, ?_, ?_⟩⟩
    · show s.heap.size ≤ (zg2 g s.heap.size).ad k
      rw [g2_lt hk]; omega
    · show x' ≤ 600000
      omega
    · show y' ≤ 7302249
      omega
    · rw [hg2000]; exact hX
    · rw [hg2000]; exact hbl
    · rw [hg2000]; exact Nat.not_le.mpr hbl
  refine hAt p l e room_1 s m #[Value.ref b] below meth c x' y' (zg2 g s.heap.size) (fun q => s.heap.size ≤ q) (lw_Z below #[Value.ref b] s) C2 ?_ ?_ (fun v hv => by cases hv) H' locs' ls' hP2 hS' ?_
  · intro v σ' H locs ls k i hd hri hrt hwf hQ hP9 hS9
    rcases v with _ | q | r | r
    · exact hQ.elim
    · exact hQ.elim
    · have hQ : r = 1 := hQ
      subst hQ
      have hri : i = .ireturn := hri
      subst hri
      refine va_forget hS9.2.2 ?_
      refine W.widen (k := 600000) (n := 7302249) (by omega) (by omega) ?_
      exact lw_ret hx hb hr hlocks (by rw [← law_by]; exact hd)
    · exact hQ.elim
  · intro v hv
    simp only [List.mem_cons, Option.some.injEq, List.not_mem_nil, or_false] at hv
    rcases hv with rfl | rfl | rfl | hv
    · exact law_wf.1
    · exact law_wf.2.1
    · exact law_wf.2.2
    · cases hv
  · show lv_has ls' 4 [(0, .ref ((zg2 g s.heap.size).ad 2000)), (1, .ref ((zg2 g s.heap.size).ad 0)), (2, .ref ((zg2 g s.heap.size).ad 122))]
    have q0 : (zg2 g s.heap.size).ad 0 = g.ad 0 := by rw [g2_lt (by omega), hgb 0 (by omega)]; rfl
    have q1 : (zg2 g s.heap.size).ad 122 = g.ad 122 := by rw [g2_lt (by omega), hgb 122 (by omega)]; rfl
    rw [e2 2000 (by omega), q0, q1]
    exact hl'
