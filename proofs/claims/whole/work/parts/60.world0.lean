/-! the world that the making leaves -/
def zpos : List Nat := [0, 1, 54, 55, 56, 57, 58, 59, 60, 61, 62, 63, 64, 65, 66, 67, 68, 69, 2, 3, 4, 5, 6, 7, 8, 9, 10, 11, 12, 13, 14, 15, 16, 17, 18, 19, 20, 21, 22, 23, 24, 25, 26, 27, 28, 29, 30, 31, 32, 33, 34, 35, 36, 37, 38, 39, 40, 41, 42, 43, 44, 45, 70, 71, 72, 73, 74, 75, 76, 77, 78, 79, 80, 81, 82, 83, 84, 85, 86, 87, 88, 89, 90, 91, 92, 93, 94, 95, 96, 97, 98, 99, 100, 101, 102, 103, 104, 105, 106, 107, 108, 109, 110, 111, 112, 113, 114, 115, 116, 117, 118, 119, 120, 121, 46, 47, 48, 49, 50, 51, 52, 53, 122, 123, 124, 125, 126, 127, 128, 129, 130, 131, 132, 133, 134, 135, 136, 137, 138, 139, 140]
def zp (k : Nat) : Nat := zpos.getD k 0
def s0 : St := fun k j => if (2 ≤ k ∧ k < 18 ∧ k % 2 = 0 ∧ j = 1) ∨ (k = 123 ∧ j < 8) then -1 else 0
def zlk : List (Nat × Nat) → Nat → Option Nat
  | [], _ => none
  | q :: l, j => if j = q.1 then some q.2 else zlk l j
theorem zlk_ok {g : Gh} : ∀ (l : List (Nat × Nat)) (j : Nat), zrR g l j = (zlk l j).map g.ad
  | [], _ => rfl
  | q :: l, j => by
    show (if j = q.1 then some (g.ad q.2) else zrR g l j) = (if j = q.1 then some q.2 else zlk l j).map g.ad
    by_cases h : j = q.1
    · rw [if_pos h, if_pos h]; rfl
    · rw [if_neg h, if_neg h]; exact zlk_ok l j
def zmf (k j : Nat) (v : Option AV) (f : Nat × Nat × Nat) : Bool := match v, f.1 with
  | some (.inr (.inl x)), 1 => decide (x = Int32.ofNat f.2.1)
  | some (.inl r), 2 => Nat.blt (k + f.2.2) 141 && Nat.beq r.2 (zp (k + f.2.2))
  | some (.inl r), 3 => (Nat.blt f.2.2 141 && Nat.beq r.2 (zp f.2.2)) || (Nat.ble 1000 f.2.2 && Nat.beq r.2 f.2.2)
  | some (.inr (.inl x)), 0 => decide (x = s0 k j)
  | some (.inr (.inl x)), 4 => decide (x = s0 k j)
  | _, _ => false
def zmfs (k : Nat) : Nat → List (Option AV) → List (Nat × Nat × Nat) → Bool
  | _, [], [] => true
  | j, v :: vs, f :: fs => zmf k j v f && zmfs k (j + 1) vs fs
  | _, _, _ => false
def zmat (cs : List CE) (k : Nat) : Bool := match cs[zp k]?, sh (tab k) with
  | some (.inl (t, n, l)), (t', n', _) => Nat.blt t' 3 && Nat.beq t t' && Nat.beq n n' && (match Nat.beq k 123 with
    | true => Nat.beq n 8 && (List.range 8).all fun i => decide (zrI l i = -1)
    | false => l.isEmpty && !(decide (2 ≤ k ∧ k < 18 ∧ k % 2 = 0)))
  | some (.inr (.inl (t, n, l))), (3, n', (t9, b, d) :: _) => Nat.beq t (if t9 = 45 then 3 else 4) && Nat.beq n n' && (List.range n).all fun i => decide (zlk l i = some (zp (b + d * i))) && Nat.blt (b + d * i) 141
  | some (.inr (.inr (ci, fs))), (4, ci', fsh) => Nat.beq ci ci' && zmfs k 0 fs fsh
  | _, _ => false
theorem zmat_all : (List.range 141).all (zmat zfin) = true := by decide +kernel
theorem zp_inj : ∀ i, i < 141 → ∀ j, j < 141 → zp i = zp j → i = j := by decide +kernel
theorem zp_lt : ∀ i, i < 141 → zp i < 141 := by decide +kernel
theorem arrV_ext {cA : ClassId} {n : Nat} {f f' : Nat → Value} (h : ∀ j, j < n → f j = f' j) : arrV cA n f = arrV cA n f' := by
  unfold arrV
  have : (fun j : Fin n => f j.val) = fun j : Fin n => f' j.val := funext fun j => h j.val j.isLt
  rw [this]
def zg2 (g : Gh) (b : Nat) : Gh := (fun k => if k < 141 then b + zp k else g.ad k, g.2.1, g.2.2.1, g.2.2.2)
section MADE
variable {g : Gh} {b : Nat}
theorem g2_lt {k : Nat} (h : k < 141) : (zg2 g b).ad k = b + zp k := if_pos h
theorem g2_ge {k : Nat} (h : 141 ≤ k) : (zg2 g b).ad k = g.ad k := if_neg (by omega)
theorem zmf_ok (hgb : ∀ i, i < 1000 → g.ad i = b + i) {k j : Nat} {v : Option AV} {f : Nat × Nat × Nat} (h : zmf k j v f = true) : fval (zg2 g b) s0 k j f = zv g v := by
  obtain ⟨f1, f2, f3⟩ := f
  unfold zmf at h
  split at h
  · next x hf =>
    have hf : f1 = 1 := hf
    subst hf
    rw [of_decide_eq_true h]
    rfl
  · next r hf =>
    have hf : f1 = 2 := hf
    subst hf
    rw [Bool.and_eq_true] at h
    have h1 : k + f3 < 141 := Nat.blt_eq.mp h.1
    have h2 : r.2 = zp (k + f3) := Nat.eq_of_beq_eq_true h.2
    show Value.ref ((zg2 g b).ad (k + f3)) = Value.ref (g.ad r.2)
    rw [g2_lt h1, h2, hgb _ (Nat.lt_trans (zp_lt _ h1) (by decide))]
  · next r hf =>
    have hf : f1 = 3 := hf
    subst hf
    rw [Bool.or_eq_true, Bool.and_eq_true, Bool.and_eq_true] at h
    show Value.ref ((zg2 g b).ad f3) = Value.ref (g.ad r.2)
    rcases h with ⟨h1, h2⟩ | ⟨h1, h2⟩
    · have h1 : f3 < 141 := Nat.blt_eq.mp h1
      have h2 : r.2 = zp f3 := Nat.eq_of_beq_eq_true h2
      rw [g2_lt h1, h2, hgb _ (Nat.lt_trans (zp_lt _ h1) (by decide))]
    · have h1 : 1000 ≤ f3 := Nat.le_of_ble_eq_true h1
      have h2 : r.2 = f3 := Nat.eq_of_beq_eq_true h2
      rw [g2_ge (by omega), h2]
  · next x hf =>
    have hf : f1 = 0 := hf
    subst hf
    rw [of_decide_eq_true h]
    rfl
  · next x hf =>
    have hf : f1 = 4 := hf
    subst hf
    rw [of_decide_eq_true h]
    rfl
  · cases h
theorem zmfs_ok (hgb : ∀ i, i < 1000 → g.ad i = b + i) {k : Nat} : ∀ (fs : List (Option AV)) (fsh : List (Nat × Nat × Nat)) (j : Nat), zmfs k j fs fsh = true → fvals (zg2 g b) s0 k j fsh = fs.map (zv g)
  | [], [], _, _ => rfl
  | v :: vs, f :: fs, j, h => by
    unfold zmfs at h
    rw [Bool.and_eq_true] at h
    show fval (zg2 g b) s0 k j f :: fvals (zg2 g b) s0 k (j + 1) fs = zv g v :: vs.map (zv g)
    rw [zmf_ok hgb h.1, zmfs_ok hgb vs fs (j + 1) h.2]
  | [], _ :: _, _, h => by cases h
  | _ :: _, [], _, h => by cases h
theorem zmade {H : Heap} (hgb : ∀ i, i < 1000 → g.ad i = b + i) (hP : va_P g.D cls (zel g 0 zfin) H) : va_P (zg2 g b).D cls (wl (zg2 g b) s0) H := by
  intro k q hq
  have hk : k < 141 := by
    have := (List.getElem?_eq_some_iff.mp hq).1
    unfold wl at this
    rw [List.length_map, List.length_range] at this
    exact this
  have hq2 : q = ((zg2 g b).ad k, cellOf (zg2 g b) s0 k) := by
    unfold wl at hq
    rw [List.getElem?_map, List.getElem?_range hk] at hq
    exact (Option.some.inj hq).symm
  subst hq2
  have hm := List.all_eq_true.mp zmat_all k (List.mem_range.mpr hk)
  have had : (zg2 g b).ad k = g.ad (zp k) := by rw [g2_lt hk, hgb _ (Nat.lt_trans (zp_lt k hk) (by decide))]
  rw [had]
  have key : ∀ c : CE, zfin[zp k]? = some c → va_at g.D cls (g.ad (zp k), zce g c) H := fun c hc => hP (zp k) _ (by rw [zel_at, hc, Nat.zero_add]; rfl)
  unfold cellOf
  generalize hz : zfin = cs at hm key
  unfold zmat at hm
  split at hm
  · next t n l t' n' x hcs hsh =>
    have h1 := key _ hcs
    rw [hsh]
    rw [Bool.and_eq_true, Bool.and_eq_true, Bool.and_eq_true] at hm
    obtain ⟨⟨⟨m1, m2⟩, m3⟩, m4⟩ := hm
    have m1 := Nat.blt_eq.mp m1
    have m2 : t = t' := Nat.eq_of_beq_eq_true m2
    have m3 : n = n' := Nat.eq_of_beq_eq_true m3
    subst m2; subst m3
    have e1 : ∀ j, j < n → zrI l j = s0 k j := by
      intro j hj
      split at m4
      · next h123 =>
        have h123 : k = 123 := Nat.eq_of_beq_eq_true h123
        rw [Bool.and_eq_true] at m4
        have n8 : n = 8 := Nat.eq_of_beq_eq_true m4.1
        have := of_decide_eq_true (List.all_eq_true.mp m4.2 j (List.mem_range.mpr (by omega)))
        rw [this]
        unfold s0
        rw [if_pos (Or.inr ⟨h123, by omega⟩)]
      · next h123 =>
        have h123 : k ≠ 123 := fun e => by rw [e] at h123; exact absurd h123 (by decide)
        rw [Bool.and_eq_true, Bool.not_eq_true', decide_eq_false_iff_not] at m4
        have hl : l = [] := List.isEmpty_iff.mp m4.1
        subst hl
        unfold s0
        rw [if_neg (by omega)]
        rfl
    have e2 : cellS (zg2 g b) s0 k (t, n, x) = .inl (g.dA t, n, .inl (s0 k)) := by
      rcases (show t = 0 ∨ t = 1 ∨ t = 2 by omega) with e | e | e <;> subst e <;> rfl
    rw [e2]
    show H[g.ad (zp k)]? = some (vp_cell (g.dA t) (n, .inl (s0 k)))
    have h2 : H[g.ad (zp k)]? = some (vp_cell (g.dA t) (n, .inl (zrI l))) := h1
    rw [h2, vp_cell_i, vp_cell_i]
    exact congrArg some (arrV_ext fun j hj => congrArg Value.int (e1 j hj))
  · next t n l n' t9 b9 d9 x hcs hsh =>
    have h1 := key _ hcs
    rw [hsh]
    rw [Bool.and_eq_true, Bool.and_eq_true] at hm
    obtain ⟨⟨m1, m2⟩, m3⟩ := hm
    have m1 : t = _ := Nat.eq_of_beq_eq_true m1
    have m2 : n = n' := Nat.eq_of_beq_eq_true m2
    subst m2
    show H[g.ad (zp k)]? = some (vp_cell (g.dA (if t9 = 45 then 3 else 4)) (n, .inr (.inr (.inr (.inr (fun i => some ((zg2 g b).ad (b9 + d9 * i))))))))
    have h2 : H[g.ad (zp k)]? = some (vp_cell (g.dA t) (n, .inr (.inr (.inr (.inr (zrR g l)))))) := h1
    rw [h2, ← m1, vp_cell_q, vp_cell_q]
    refine congrArg some (arrV_ext fun j hj => ?_)
    have h3 := List.all_eq_true.mp m3 j (List.mem_range.mpr hj)
    rw [Bool.and_eq_true, decide_eq_true_eq] at h3
    have h4 := Nat.blt_eq.mp h3.2
    rw [zlk_ok, h3.1, g2_lt h4]
    show va_rf (some (g.ad (zp (b9 + d9 * j)))) = _
    rw [hgb _ (Nat.lt_trans (zp_lt _ h4) (by decide))]
  · next ci fs ci' fsh hcs hsh =>
    have h1 := key _ hcs
    rw [hsh]
    rw [Bool.and_eq_true] at hm
    have m1 : ci = ci' := Nat.eq_of_beq_eq_true hm.1
    subst m1
    have e2 : cellS (zg2 g b) s0 k (4, ci, fsh) = .inr (ci, fvals (zg2 g b) s0 k 0 fsh) := rfl
    rw [e2, zmfs_ok hgb fs fsh 0 hm.2]
    exact h1
  · cases hm
theorem zinj : inj (zg2 g b) := fun i j hi hj e => by
  rw [g2_lt hi, g2_lt hj] at e
  exact zp_inj i hi j hj (by omega)
end MADE
/-- nothing told yet -/
def w0 : Wo := ((0, 0, 0, 0, 0), (fun _ => 0, fun _ => 0, fun _ => 0, fun _ => 0, fun _ => 0), (0, fun _ => 0, fun _ => 0, fun _ => 0), (fun _ _ => 0, fun _ _ => 0), (fun _ => false, fun _ => 0, fun _ => 0))
theorem drf0 (c : Nat) : ∀ a, drf w0 c a = 0
  | 0 => rfl
  | a + 1 => by
    show drf w0 c a + 0 = 0
    rw [drf0 c a]; rfl
theorem s0_z {k j : Nat} (h : 18 ≤ k ∨ k < 2) (h2 : k ≠ 123) : s0 k j = 0 := by
  unfold s0
  rw [if_neg (by omega)]
theorem ok0 : okF w0 ∧ okH w0 := by
  refine ⟨⟨⟨by decide, by decide, by decide, by decide, by decide, fun h => absurd h (by decide)⟩, fun j hj => absurd hj (Nat.not_lt_zero _), fun j hj => absurd hj (Nat.not_lt_zero _), fun j hj => absurd hj (Nat.not_lt_zero _), fun h => absurd h (by decide), fun j hj => absurd hj (Nat.not_lt_zero _)⟩, by decide, fun h => ?_, fun i hi => absurd hi (Nat.not_lt_zero _)⟩
  rcases h with h | h <;> exact absurd h (by decide)
theorem c0_ok {f h : Nat} (hf : 18 ≤ f) (hf2 : f + 20 < 123) (hh : 18 ≤ h) (hh2 : h < 123) : cW w0 f h s0 ∧ cD w0 f s0 := by
  refine ⟨⟨⟨?_, ?_, ?_, ?_, ?_⟩, ⟨fun i hi => absurd hi (by show ¬ i < 3 * 0; omega), fun i hi => absurd hi (by show ¬ i < 6 * 0; omega), fun i hi => absurd hi (by show ¬ i < 2 * 0; omega), fun i hi => absurd hi (by show ¬ i < 5 * 0; omega), fun i hi => absurd hi (by show ¬ i < 2 * 0; omega)⟩, ?_, fun i hi => absurd hi (Nat.not_lt_zero _)⟩, fun a ha => ⟨?_, ?_, ?_, fun _ => ?_⟩⟩
  · rw [s0_z (by omega) (by omega)]; rfl
  · rw [s0_z (by omega) (by omega)]; rfl
  · rw [s0_z (by omega) (by omega)]; rfl
  · rw [s0_z (by omega) (by omega)]; rfl
  · rw [s0_z (by omega) (by omega)]; rfl
  · rw [s0_z (by omega) (by omega)]; rfl
  · rw [s0_z (by omega) (by omega), drf0]
  · rw [s0_z (by omega) (by omega), drf0]
  · rw [s0_z (by omega) (by omega)]
  · rw [s0_z (by omega) (by omega)]; exact Or.inl rfl
theorem m0_ok {ld nw : NI} (h1 : ∀ i, ld i = 0) (h2 : ∀ i, nw i = 0) : mW w0 ld nw :=
  ⟨⟨h1 0, h1 1, h1 2, h1 3, h1 4⟩, ⟨fun i hi => absurd hi (by show ¬ i < 3 * 0; omega), fun i hi => absurd hi (by show ¬ i < 6 * 0; omega), fun i hi => absurd hi (by show ¬ i < 2 * 0; omega), fun i hi => absurd hi (by show ¬ i < 5 * 0; omega), fun i hi => absurd hi (by show ¬ i < 2 * 0; omega)⟩, h2 0, fun i hi => absurd hi (Nat.not_lt_zero _)⟩
theorem RA0 : RA s0 := by
  refine ⟨fun s hs => ?_, ⟨w0, ok0.1, ok0.2, (c0_ok (by omega) (by omega) (by omega) (by omega)).1, (c0_ok (f := 36) (h := 50) (by omega) (by omega) (by omega) (by omega)).2, m0_ok (fun i => s0_z (by omega) (by omega)) (fun i => s0_z (by omega) (by omega)), fun a ha => ⟨?_, ?_⟩, ?_⟩, fun k hk => ⟨w0, ok0.1, ok0.2, (c0_ok (by omega) (by omega) (by omega) (by omega)).1, (c0_ok (f := 63 + 26 * k) (h := 77 + 26 * k) (by omega) (by omega) (by omega) (by omega)).2, m0_ok (fun i => s0_z (by omega) (by omega)) (fun i => s0_z (by omega) (by omega)), ?_, Or.inl rfl⟩, ⟨0, fun _ => 0, ⟨by omega, fun i hi => absurd hi (Nat.not_lt_zero _)⟩, ⟨?_, fun i hi => absurd hi (Nat.not_lt_zero _)⟩, fun i hi => absurd hi (Nat.not_lt_zero _), ?_⟩, ⟨[], by decide, ⟨?_, fun i hi => absurd hi (Nat.not_lt_zero _)⟩, ?_, fun i hi => absurd hi (Nat.not_lt_zero _)⟩, ?_, ?_⟩
  · have e1 : s0 (2 + 2 * s) 1 = -1 := by
      unfold s0
      rw [if_pos (Or.inl ⟨by omega, by omega, by omega, rfl⟩)]
    have e2 : s0 123 s = -1 := by
      unfold s0
      rw [if_pos (Or.inr ⟨rfl, hs⟩)]
    rw [e1, e2]
    exact ⟨⟨by decide, by decide⟩, rfl, fun h => absurd h (by decide)⟩
  · rw [s0_z (by omega) (by omega), drf0]
  · rw [s0_z (by omega) (by omega), drf0]
  · rw [s0_z (by omega) (by omega)]; rfl
  · rw [s0_z (by omega) (by omega)]; rfl
  · rw [s0_z (by omega) (by omega)]; rfl
  · rw [s0_z (by omega) (by omega)]; rfl
  · rw [s0_z (by omega) (by omega)]; rfl
  · rw [s0_z (by omega) (by omega)]; rfl
  · rw [s0_z (by omega) (by omega), s0_z (by omega) (by omega)]
  · rw [s0_z (by omega) (by omega), s0_z (by omega) (by omega)]
