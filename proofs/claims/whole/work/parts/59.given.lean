/-! what the Statement gives of the start: rows, texts, classes -/
def zrn : List (String × String) := [("FireRows$Floor", "FLOOR_LEAST"), ("FireRows$Floor", "FLOOR_MOST"), ("FireRows$Floor", "FIRE_LEAST"), ("FireRows$Floor", "FIRE_MOST"), ("FireRows$Floor", "HOUSE_LEAST"), ("FireRows$Floor", "HOUSE_MOST"), ("FireRows$Floor", "CRACK_LEAST"), ("FireRows$Floor", "CRACK_MOST"), ("FireRows$Floor", "STORY_LEAST"), ("FireRows$Floor", "STORY_MOST"), ("FireRows$Asks", "ABOVE")]
def zrt (j : Nat) : Term := .static (zrn.getD j ("", "")).1 (zrn.getD j ("", "")).2 "[I"
def zst8 : List (String × Nat) := [("FireRows$Floor", 11), ("FireRows$Floor", 29), ("FireRows$Floor", 40), ("FireRows$Floor", 51), ("FireRows$Floor", 62), ("FireRows$Reader", 107), ("FireRows$Reader", 109), ("FireRows$Reader", 111)]
def ztm (i : Nat) : Term := .string (zst8.getD i ("", 0)).1 (zst8.getD i ("", 0)).2
def zvt (i : Nat) : Term := .field (ztm i) "java/lang/String" "value" "[B"
def zFL : List Cond := flatC (Jvm.Cond.and given_1 narrow_1)
def zsn : List Nat := stx.map List.length
theorem fl_r : ∀ j, j < 11 → Cond.arrayOf (zrt j) .int ∈ zFL ∧ Cond.eq (.length (zrt j)) (.int (Int32.ofNat (stl.getD j []).length)) ∈ zFL ∧ ∀ i, i < (stl.getD j []).length → Cond.eq (.elem (zrt j) (.int (Int32.ofNat i))) (.int ((stl.getD j []).getD i 0)) ∈ zFL := by decide +kernel
theorem fl_z : ∀ j, j < 11 → Cond.laysStatic (zrn.getD j ("", "")).1 (zrn.getD j ("", "")).2 "[I" ∈ lw_tbl ∧ Cond.initialized (zrn.getD j ("", "")).1 ∈ lw_tbl := by decide +kernel
theorem fl_s : ∀ i, i < 8 → Cond.exactly (ztm i) "java/lang/String" ∈ zFL ∧ Cond.eq (.field (ztm i) "java/lang/String" "coder" "B") (.int 0) ∈ zFL ∧ Cond.arrayOf (zvt i) .byte ∈ zFL ∧ Cond.eq (.length (zvt i)) (.int (Int32.ofNat (zsn.getD i 0))) ∈ zFL := by decide +kernel
theorem fl_e : ∀ i, i < 8 → ∀ j, j < zsn.getD i 0 → Cond.eq (.elem (zvt i) (.int (Int32.ofNat j))) (.int ((stx.getD i []).getD j 0)) ∈ zFL := by decide +kernel
theorem fl_n : ∀ i, i < 8 → ∀ j, j < 8 → i ≠ j → Cond.not (Cond.eq (ztm i) (ztm j)) ∈ zFL ∨ Cond.not (Cond.eq (ztm j) (ztm i)) ∈ zFL := by decide +kernel
theorem fl_q : Cond.eq (.string "FireRows$Floor" 51) (.string "FireRows$Reader" 113) ∈ zFL ∧ Cond.eq (.static "java/lang/String" "COMPACT_STRINGS" "Z") (.int 1) ∈ zFL ∧ Cond.isRef (.static "jdk/internal/util/Preconditions" "SIOOBE_FORMATTER" "Ljava/util/function/BiFunction;") ∈ zFL := by decide +kernel
theorem fl_w : Cond.laysStatic "java/lang/String" "COMPACT_STRINGS" "Z" ∈ lw_tbl ∧ Cond.initialized "java/lang/String" ∈ lw_tbl ∧ Cond.laysStatic "jdk/internal/util/Preconditions" "SIOOBE_FORMATTER" "Ljava/util/function/BiFunction;" ∈ lw_tbl ∧ Cond.initialized "jdk/internal/util/Preconditions" ∈ lw_tbl := by decide +kernel
theorem fl_t : ∀ q ∈ strk, Cond.stringRef q.2.1 q.2.2.1 ((["floor", "fire", "house", "crack", "story", "stays", "wanders", "late"] : List String).getD q.1 "") ∈ lw_tbl ∧ ((q.1 < 8 ∧ (q.2.1, q.2.2.1) = zst8.getD q.1 ("", 0)) ∨ q = (3, "FireRows$Reader", 113, 690)) := by decide +kernel
theorem fl_k : (List.range 13).all (fun k => match cls[k]? with
  | some (C, _, N) => decide (Cond.instantiable C N ∈ lw_tbl)
  | none => false) = true := by decide +kernel
theorem fl_m : (∀ q ∈ znst, Cond.methodLinkNest q.1 q.2.1 q.2.2 "FireRows" ∈ lw_tbl) ∧ Cond.arrayOver (.object "FireRows$Sheet") ∈ lw_tbl ∧ Cond.arrayOver (.object "FireRows$World") ∈ lw_tbl ∧ Cond.arrayClass .int ∈ lw_tbl ∧ Cond.arrayClass .byte ∈ lw_tbl ∧ Cond.arrayClass .boolean ∈ lw_tbl := by decide +kernel
theorem fl_l : ∀ i, i < 8 → zsn.getD i 0 = (stx.getD i []).length ∧ zsn.getD i 0 < 2 ^ 31 := by decide +kernel
theorem fl_f : ∀ j, j < 10 → zrn.getD j ("", "") = ("FireRows$Floor", zfl.getD j "") := by decide +kernel
theorem fl_h : ∀ j, j < 11 → (stl.getD j []).length < 2 ^ 31 := by decide +kernel
theorem z_given {s : State} {args : Array Value} (hts : ∀ w ∈ lw_tbl, w.before args s = true) (hgv : (Jvm.Cond.and given_1 narrow_1).before args s = true) (b2 : Nat) : ∃ g : Gh, ZW g s.heap.size s ∧ g.ad 2000 = b2 := by
  have hs : ∀ c ∈ zFL, c.before args s = true := flat_of_before _ hgv
  have hA : ∀ a : Nat, a < s.heap.size → ¬ (fun q => s.heap.size ≤ q) a := fun a h => Nat.not_le.mpr h
  have hgt : ∀ w ∈ gtbl, w.before args s = true := fun w hw => hts w (List.mem_filter.mp hw).1
  have h0 : ∀ k : Nat, ∃ r : ClassId × (Nat → Nat), ∀ q : vw_C, cls[k]? = some q → u_Kn s q.1 q.2.1 q.2.2 r.1 r.2 := by
    intro k
    cases hk : cls[k]? with
    | none => exact ⟨(0, fun _ => 0), fun q hq => by cases hq⟩
    | some q =>
      obtain ⟨C, T, N⟩ := q
      have hlt : k < 13 := (List.getElem?_eq_some_iff.mp hk).1
      have h1 := List.all_eq_true.mp fl_k k (List.mem_range.mpr hlt)
      rw [hk] at h1
      obtain ⟨hin9, -, -⟩ := cls_in hk
      obtain ⟨cC, iS, h2⟩ := u_known hgt hin9 (hts _ (of_decide_eq_true h1))
      exact ⟨(cC, iS), fun q hq => by cases hq; exact h2⟩
  obtain ⟨dK, hdK⟩ := Classical.axiomOfChoice h0
  have arr : ∀ {ty : FieldType}, Cond.arrayClass ty ∈ lw_tbl → ∃ c : ClassId, ArrOfT s c ty ∧ s.vm.findClass ("[" ++ ty.toString) = some c := by
    intro ty hm
    obtain ⟨c, k, comp, e1, e2, e3⟩ := Cond.arrayClass_spec (hts _ hm)
    exact ⟨c, fun n z => ⟨fun k h => (by cases h), k, e2, comp, e3⟩, e1⟩
  have arq : ∀ {C : String}, Cond.arrayOver (.object C) ∈ lw_tbl → ∃ c : ClassId, ArrOfT s c (.object C) ∧ va_RA s c (.object C) := by
    intro C hm
    obtain ⟨comp, c, k, e1, e2, e3, e4, e5⟩ := Cond.arrayOver_spec (hts _ hm)
    exact ⟨c, fun n z => ⟨fun k h => (by cases h), k, e3, comp, e4⟩, k, comp, e3, e4, e1, e5⟩
  obtain ⟨a0, a0a, a0b⟩ := arr fl_m.2.2.2.1
  obtain ⟨a1, a1a, a1b⟩ := arr fl_m.2.2.2.2.1
  obtain ⟨a2, a2a, a2b⟩ := arr fl_m.2.2.2.2.2
  obtain ⟨a3, a3a, a3b⟩ := arq fl_m.2.1
  obtain ⟨a4, a4a, a4b⟩ := arq fl_m.2.2.1
  have hr0 : ∀ j : Nat, ∃ t : Nat, j < 11 → (zrt j).eval args s none [] s = some (.ref t) ∧ va_T .int t (stl.getD j []).length (fun i => .int ((stl.getD j []).getD i 0)) (fun q => s.heap.size ≤ q) s s.heap := by
    intro j
    by_cases hj : j < 11
    · obtain ⟨m1, m2, m3⟩ := fl_r j hj
      obtain ⟨t, e1, e2⟩ := va_Tof (f := fun i => .int ((stl.getD j []).getD i 0)) (A := fun q => s.heap.size ≤ q) (fl_h j hj) (hs _ m1) (va_eqt (hs _ m2)) (fun i hi => va_eqt (hs _ (m3 i hi))) hA
      exact ⟨t, fun _ => ⟨e1, e2⟩⟩
    · exact ⟨0, fun h => absurd h hj⟩
  obtain ⟨ra, hra⟩ := Classical.axiomOfChoice hr0
  obtain ⟨aK, aV, hK8, hev⟩ := vk_Sof (args := args) (s := s) (N := 8) (tm := ztm) (len := zsn) (byt := stx) (A := fun q => s.heap.size ≤ q) (fun i hi => (fl_l i hi).2) (fun i hi => hs _ (fl_s i hi).1) (fun i hi => hs _ (fl_s i hi).2.1) (fun i hi => hs _ (fl_s i hi).2.2.1) (fun i hi => hs _ (fl_s i hi).2.2.2) (fun i hi j hj => hs _ (fl_e i hi j hj)) (fun i j hi hj hn => (fl_n i hi j hj hn).imp (hs _) (hs _)) hA
  have htyl : ∀ (k : Nat) (q : ClassId × FieldType), ([(a0, .int), (a1, .byte), (a2, .boolean), (a3, .object "FireRows$Sheet"), (a4, .object "FireRows$World")] : List (ClassId × FieldType))[k]? = some q → ArrOfT s q.1 q.2 ∧ va_RA s q.1 q.2 := by
    intro k q hk
    match k, hk with
    | 0, hk => cases hk; exact ⟨a0a, a0b⟩
    | 1, hk => cases hk; exact ⟨a1a, a1b⟩
    | 2, hk => cases hk; exact ⟨a2a, a2b⟩
    | 3, hk => cases hk; exact ⟨a3a, a3b⟩
    | 4, hk => cases hk; exact ⟨a4a, a4b⟩
    | k + 5, hk => simp at hk
  let ad : Nat → Nat := fun i => if i < 1000 then s.heap.size + i else if i < 1100 then ra (i - 1000) else if i < 1200 then aK (i - 1100) else if i < 1300 then aV (i - 1200) else b2
  let dA : Nat → ClassId := fun t => match t with
    | 0 => a0
    | 1 => a1
    | 2 => a2
    | 3 => a3
    | _ => a4
  let g : Gh := (ad, fun k => (dK k).1, fun k => (dK k).2, dA)
  have ad0 : ∀ i, i < 1000 → g.ad i = s.heap.size + i := fun i hi => if_pos hi
  have ad1 : ∀ j, j < 11 → g.ad (1000 + j) = ra j := fun j hj => by
    show ad (1000 + j) = _
    show (if 1000 + j < 1000 then _ else if 1000 + j < 1100 then ra (1000 + j - 1000) else _) = _
    rw [if_neg (by omega), if_pos (by omega), show 1000 + j - 1000 = j by omega]
  have ad2 : ∀ j, j < 8 → g.ad (1100 + j) = aK j := fun j hj => by
    show (if 1100 + j < 1000 then _ else if 1100 + j < 1100 then _ else if 1100 + j < 1200 then aK (1100 + j - 1100) else _) = _
    rw [if_neg (by omega), if_neg (by omega), if_pos (by omega), show 1100 + j - 1100 = j by omega]
  have ad3 : ∀ j, j < 8 → g.ad (1200 + j) = aV j := fun j hj => by
    show (if 1200 + j < 1000 then _ else if 1200 + j < 1100 then _ else if 1200 + j < 1200 then _ else if 1200 + j < 1300 then aV (1200 + j - 1200) else _) = _
    rw [if_neg (by omega), if_neg (by omega), if_neg (by omega), if_pos (by omega), show 1200 + j - 1200 = j by omega]
  refine ⟨g, ⟨⟨fun k q hq => hdK k q hq, fun k q hk => ?_⟩, ⟨fun j hj => ?_, ?_, ?_, fun i hi => ?_, ?_⟩, fun q hq => ?_, ⟨va_AO.of (hts _ fl_m.2.1), va_AO.of (hts _ fl_m.2.2.1)⟩, fun j hj => ?_, fun q hq => va_Nw.of rfl (hts _ (fl_m.1 q hq)), ad0⟩, ?_⟩
  · exact htyl k q hk
  · rw [ad1 j hj]; exact (hra j hj).2
  · have h1 := fl_z 10 (by decide)
    have e : g.ad 1010 = ra 10 := ad1 10 (by decide)
    rw [e]
    exact va_Zref (hts _ h1.1) (hts _ h1.2) (hra 10 (by decide)).1 hA
  · exact va_Zof (hts _ fl_w.1) (hts _ fl_w.2.1) (va_eqt (hs _ fl_q.2.1)) hA
  · rw [ad2 i hi, ad3 i hi]
    have h1 := hK8.1 i hi
    refine ⟨h1.1, h1.2.1, h1.2.2.1, ?_⟩
    have h2 := h1.2.2.2
    rw [(fl_l i hi).1] at h2
    exact h2
  · exact va_Zqof (hts _ fl_w.2.2.1) (hts _ fl_w.2.2.2) (hs _ fl_q.2.2) hA
  · obtain ⟨h1, h2⟩ := fl_t q hq
    rcases h2 with ⟨h3, h4⟩ | h3
    · rw [ad2 _ h3]
      refine vk_R.of (hts _ h1) ?_
      have h5 := hev q.1 h3
      unfold ztm at h5
      rw [← h4] at h5
      exact h5
    · subst h3
      have e : g.ad (1100 + 3) = aK 3 := ad2 3 (by decide)
      show vk_R _ _ _ (g.ad (1100 + 3)) s
      rw [e]
      exact vk_R.of (hts _ h1) (va_eqR (hs _ fl_q.1) (hev 3 (by decide)))
  · rw [ad1 j (by omega)]
    have h1 := fl_z j (by omega)
    have h2 := (hra j (by omega)).1
    unfold zrt at h2
    rw [fl_f j hj] at h1 h2
    exact va_Zref (hts _ h1.1) (hts _ h1.2) h2 hA
  · rfl
