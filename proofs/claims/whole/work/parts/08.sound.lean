/-! the steps are the machine's: the heap as a table of cells -/
theorem wl_get {g : Gh} {σ : St} {k : Nat} (hk : k < nCells) : (wl g σ)[k]? = some (g.ad k, cellOf g σ k) := by
  simp [wl, hk]
theorem wl_inv {g : Gh} {σ : St} {k : Nat} {q : Nat × va_E} (h : (wl g σ)[k]? = some q) : k < nCells ∧ q = (g.ad k, cellOf g σ k) := by
  have hk : k < nCells := by
    have := (List.getElem?_eq_some_iff.mp h).1
    simpa [wl] using this
  rw [wl_get hk] at h
  exact ⟨hk, (Option.some.inj h).symm⟩
theorem wl_D {g : Gh} {σ : St} {A : Nat → Prop} (hi : inj g) (hA : ∀ k, k < nCells → A (g.ad k)) : va_D A (wl g σ) := by
  refine ⟨fun i j p q hp hq e => ?_, fun k q hq => ?_⟩
  · obtain ⟨h1, rfl⟩ := wl_inv hp
    obtain ⟨h2, rfl⟩ := wl_inv hq
    exact hi i j h1 h2 e
  · obtain ⟨h1, rfl⟩ := wl_inv hq
    exact hA k h1
theorem fvals_congr {g : Gh} {σ τ : St} {k : Nat} (h : σ k = τ k) : ∀ (fs : List (Nat × Nat × Nat)) (j : Nat), fvals g σ k j fs = fvals g τ k j fs
  | [], _ => rfl
  | f :: fs, j => by
    rw [fvals, fvals, fvals_congr h fs (j + 1)]
    simp only [fval, h]
theorem cellOf_congr {g : Gh} {σ τ : St} {k : Nat} (h : σ k = τ k) : cellOf g σ k = cellOf g τ k := by
  unfold cellOf cellS
  rw [h, fvals_congr h]
theorem wl_set {g : Gh} {σ τ : St} {k : Nat} (h : ∀ j, j ≠ k → τ j = σ j) : (wl g σ).set k (g.ad k, cellOf g τ k) = wl g τ := by
  apply List.ext_getElem?
  intro i
  by_cases hi : i < nCells
  · rw [wl_get (σ := τ) hi]
    by_cases hik : k = i
    · subst hik
      rw [List.getElem?_set_self (by simpa [wl] using hi)]
    · rw [List.getElem?_set_ne hik, wl_get hi, cellOf_congr (h i (fun e => hik e.symm))]
  · rw [List.getElem?_eq_none (by simpa [wl] using hi), List.getElem?_eq_none (by simpa [wl] using hi)]
theorem up_ne {σ : St} {k j : Nat} {v : Int32} : ∀ a, a ≠ k → up σ k j v a = σ a := fun a h => by simp [up, h]
theorem up_row {σ : St} {k j : Nat} {v : Int32} : up σ k j v k = upd (σ k) j v := by simp [up]
theorem upr_ne {σ : St} {k : Nat} {f : Nat → Int32} : ∀ a, a ≠ k → upr σ k f a = σ a := fun a h => by simp [upr, h]
theorem upr_row {σ : St} {k : Nat} {f : Nat → Int32} : upr σ k f k = f := by simp [upr]
theorem fvals_get {g : Gh} {σ : St} {k : Nat} : ∀ (fs : List (Nat × Nat × Nat)) (j i : Nat), (fvals g σ k j fs)[i]? = (lnth fs i).map (fval g σ k (j + i))
  | [], _, _ => by simp [fvals, lnth]
  | f :: fs, j, 0 => by simp [fvals, lnth]
  | f :: fs, j, i + 1 => by
    rw [fvals, List.getElem?_cons_succ, fvals_get fs (j + 1) i, lnth, Nat.add_right_comm, Nat.add_assoc]
theorem fvals_len {g : Gh} {σ : St} {k : Nat} : ∀ (fs : List (Nat × Nat × Nat)) (j : Nat), (fvals g σ k j fs).length = fs.length
  | [], _ => rfl
  | _ :: fs, j => by rw [fvals, List.length_cons, fvals_len fs (j + 1), List.length_cons]
theorem fvals_set {g : Gh} {σ : St} {k i : Nat} {v : Int32} : ∀ (fs : List (Nat × Nat × Nat)) (j : Nat), (∀ f, lnth fs i = some f → f.1 = 0 ∨ f.1 = 4) → (fvals g σ k j fs).set i (.int v) = fvals g (up σ k (j + i) v) k j fs := by
  intro fs
  induction fs generalizing i with
  | nil => intro j _; simp [fvals]
  | cons f fs ih =>
    intro j hf
    cases i with
    | zero =>
      have h0 := hf f rfl
      have e1 : fval g (up σ k (j + 0) v) k j f = .int v := by
        rcases h0 with h0 | h0 <;> simp [fval, h0, up, upd]
      have e2 : ∀ (l : List (Nat × Nat × Nat)) (n : Nat), j < n → fvals g (up σ k (j + 0) v) k n l = fvals g σ k n l := by
        intro l
        induction l with
        | nil => intro n _; rfl
        | cons a l ihl =>
          intro n hn
          rw [fvals, fvals, ihl (n + 1) (by omega)]
          have : fval g (up σ k (j + 0) v) k n a = fval g σ k n a := by
            have e3 : up σ k (j + 0) v k n = σ k n := by simp [up, upd]; omega
            simp only [fval, e3]
          rw [this]
      rw [fvals, fvals, List.set_cons_zero, e1, e2 fs (j + 1) (by omega)]
    | succ i =>
      rw [fvals, fvals, List.set_cons_succ, ih (j + 1) (fun f' h' => hf f' h')]
      have e3 : up σ k (j + (i + 1)) v k j = σ k j := by simp [up, upd]
      have e4 : j + 1 + i = j + (i + 1) := by omega
      rw [e4]
      simp only [fval, e3]
/-! the locals -/
theorem lh_mono {ls : Array Slot} {n : Nat} {l l' : List (Nat × Value)} (h : lv_has ls n l) (hs : ∀ q ∈ l', q ∈ l) : lv_has ls n l' := ⟨h.1, h.2.1, fun q hq => h.2.2 q (hs q hq)⟩
theorem lp_ge {g : Gh} : ∀ (L : List (Option AV)) (i : Nat) (q : Nat × Value), q ∈ lpairs g i L → i ≤ q.1
  | [], _, _, h => by cases h
  | none :: L, i, q, h => Nat.le_of_succ_le (lp_ge L (i + 1) q h)
  | some v :: L, i, q, h => by
    rcases List.mem_cons.mp h with rfl | h
    · exact Nat.le_refl _
    · exact Nat.le_of_succ_le (lp_ge L (i + 1) q h)
theorem lp_get {g : Gh} : ∀ (L : List (Option AV)) (i k : Nat) (v : AV), lget L k = some v → (i + k, cv g v) ∈ lpairs g i L
  | [], _, _, _, h => by cases h
  | a :: L, i, 0, v, h => by
    have h : a = some v := h
    subst h
    exact List.mem_cons_self
  | none :: L, i, k + 1, v, h => by
    have := lp_get (g := g) L (i + 1) k v h
    rw [show i + 1 + k = i + (k + 1) by omega] at this
    exact this
  | some w :: L, i, k + 1, v, h => by
    have := lp_get (g := g) L (i + 1) k v h
    rw [show i + 1 + k = i + (k + 1) by omega] at this
    exact List.mem_cons_of_mem _ this
theorem lg_mem : ∀ (L : List (Option AV)) (k : Nat) (v : AV), lget L k = some v → some v ∈ L
  | [], _, _, h => by cases h
  | a :: L, 0, v, h => by
    have h : a = some v := h
    rw [h]; exact List.mem_cons_self
  | _ :: L, k + 1, v, h => List.mem_cons_of_mem _ (lg_mem L k v h)
theorem cv_cat {g : Gh} (v : AV) : (cv g v).category = vcat v := by
  rcases v with q | x | x <;> rfl
theorem nl_inv {a : Option AV} {v : AV} (h : nolong a = some v) : a = some v ∧ vcat v = 1 := by
  rcases a with _ | q | x | x
  · cases h
  · cases h; exact ⟨rfl, rfl⟩
  · cases h; exact ⟨rfl, rfl⟩
  · cases h
theorem lp_set {g : Gh} {v : AV} : ∀ (L : List (Option AV)) (i k : Nat) (q : Nat × Value), q ∈ lpairs g i (lset L k v) → q = (i + k, cv g v) ∨ (q ∈ lpairs g i L ∧ q.1 ≠ i + k ∧ ¬ (q.1 + 1 = i + k ∧ q.2.category = 2))
  | [], _, _, _, h => by cases h
  | a :: L, i, 0, q, h => by
    have h8 : q ∈ lpairs g i (some v :: L) := h
    clear h
    rcases List.mem_cons.mp h8 with rfl | h9
    · exact Or.inl rfl
    · have h1 := lp_ge L (i + 1) q h9
      refine Or.inr ⟨?_, by omega, by omega⟩
      cases a with
      | none => exact h9
      | some w => exact List.mem_cons_of_mem _ h9
  | a :: L, i, 1, q, h => by
    have h : q ∈ lpairs g i (nolong a :: lset L 0 v) := h
    have key : q ∈ lpairs g (i + 1) (lset L 0 v) → q = (i + 1, cv g v) ∨ (q ∈ lpairs g i (a :: L) ∧ q.1 ≠ i + 1 ∧ ¬ (q.1 + 1 = i + 1 ∧ q.2.category = 2)) := by
      intro h
      rcases lp_set L (i + 1) 0 q h with e | ⟨h1, h2, h3⟩
      · exact Or.inl e
      · have h4 := lp_ge L (i + 1) q h1
        refine Or.inr ⟨?_, h2, by omega⟩
        cases a with
        | none => exact h1
        | some w => exact List.mem_cons_of_mem _ h1
    cases hn : nolong a with
    | none => rw [hn] at h; exact key h
    | some w =>
      rw [hn] at h
      obtain ⟨ha, hc⟩ := nl_inv hn
      rcases List.mem_cons.mp h with rfl | h
      · refine Or.inr ⟨?_, by simp, ?_⟩
        · rw [ha]; exact List.mem_cons_self
        · rintro ⟨-, e⟩
          rw [cv_cat, hc] at e
          cases e
      · exact key h
  | a :: L, i, k + 2, q, h => by
    have h : q ∈ lpairs g i (a :: lset L (k + 1) v) := h
    have key : q ∈ lpairs g (i + 1) (lset L (k + 1) v) → q = (i + (k + 2), cv g v) ∨ (q ∈ lpairs g i (a :: L) ∧ q.1 ≠ i + (k + 2) ∧ ¬ (q.1 + 1 = i + (k + 2) ∧ q.2.category = 2)) := by
      intro h
      rcases lp_set L (i + 1) (k + 1) q h with e | ⟨h1, h2, h3⟩
      · exact Or.inl (by rw [e]; congr 1; omega)
      · refine Or.inr ⟨?_, by omega, by rw [show i + (k + 2) = i + 1 + (k + 1) by omega]; exact h3⟩
        cases a with
        | none => exact h1
        | some w => exact List.mem_cons_of_mem _ h1
    cases a with
    | none => exact key h
    | some w =>
      rcases List.mem_cons.mp h with rfl | h
      · exact Or.inr ⟨List.mem_cons_self, by simp, by simp⟩
      · exact key h
theorem lp_set2 {g : Gh} {v : AV} : ∀ (L : List (Option AV)) (i k : Nat) (q : Nat × Value), q ∈ lpairs g i (lset2 L k v) → q = (i + k, cv g v) ∨ (q ∈ lpairs g i L ∧ q.1 ≠ i + k ∧ q.1 ≠ i + k + 1 ∧ ¬ (q.1 + 1 = i + k ∧ q.2.category = 2))
  | [], _, _, _, h => by cases h
  | a :: L, i, 0, q, h => by
    cases L with
    | nil => cases h
    | cons b L =>
      have h8 : q ∈ lpairs g i (some v :: none :: L) := h
      clear h
      rcases List.mem_cons.mp h8 with rfl | h7
      · exact Or.inl rfl
      · have h9 : q ∈ lpairs g (i + 1 + 1) L := h7
        have h1 := lp_ge L (i + 1 + 1) q h9
        refine Or.inr ⟨?_, by omega, by omega, by omega⟩
        have h2 : q ∈ lpairs g (i + 1) (b :: L) := by
          cases b with
          | none => exact h9
          | some w => exact List.mem_cons_of_mem _ h9
        cases a with
        | none => exact h2
        | some w => exact List.mem_cons_of_mem _ h2
  | a :: L, i, 1, q, h => by
    have h : q ∈ lpairs g i (nolong a :: lset2 L 0 v) := h
    have key : q ∈ lpairs g (i + 1) (lset2 L 0 v) → q = (i + 1, cv g v) ∨ (q ∈ lpairs g i (a :: L) ∧ q.1 ≠ i + 1 ∧ q.1 ≠ i + 1 + 1 ∧ ¬ (q.1 + 1 = i + 1 ∧ q.2.category = 2)) := by
      intro h
      rcases lp_set2 L (i + 1) 0 q h with e | ⟨h1, h2, h3, h5⟩
      · exact Or.inl e
      · have h4 := lp_ge L (i + 1) q h1
        refine Or.inr ⟨?_, h2, h3, by omega⟩
        cases a with
        | none => exact h1
        | some w => exact List.mem_cons_of_mem _ h1
    cases hn : nolong a with
    | none => rw [hn] at h; exact key h
    | some w =>
      rw [hn] at h
      obtain ⟨ha, hc⟩ := nl_inv hn
      rcases List.mem_cons.mp h with rfl | h
      · refine Or.inr ⟨?_, by simp, by simp; omega, ?_⟩
        · rw [ha]; exact List.mem_cons_self
        · rintro ⟨-, e⟩
          rw [cv_cat, hc] at e
          cases e
      · exact key h
  | a :: L, i, k + 2, q, h => by
    have h : q ∈ lpairs g i (a :: lset2 L (k + 1) v) := h
    have key : q ∈ lpairs g (i + 1) (lset2 L (k + 1) v) → q = (i + (k + 2), cv g v) ∨ (q ∈ lpairs g i (a :: L) ∧ q.1 ≠ i + (k + 2) ∧ q.1 ≠ i + (k + 2) + 1 ∧ ¬ (q.1 + 1 = i + (k + 2) ∧ q.2.category = 2)) := by
      intro h
      rcases lp_set2 L (i + 1) (k + 1) q h with e | ⟨h1, h2, h3, h5⟩
      · exact Or.inl (by rw [e]; congr 1; omega)
      · refine Or.inr ⟨?_, by omega, by omega, by rw [show i + (k + 2) = i + 1 + (k + 1) by omega]; exact h5⟩
        cases a with
        | none => exact h1
        | some w => exact List.mem_cons_of_mem _ h1
    cases a with
    | none => exact key h
    | some w =>
      rcases List.mem_cons.mp h with rfl | h
      · exact Or.inr ⟨List.mem_cons_self, by simp, by simp; omega, by simp⟩
      · exact key h
theorem lp_keep {g : Gh} : ∀ (b : List Bool) (L : List (Option AV)) (i : Nat) (q : Nat × Value), q ∈ lpairs g i (lkeep b L) → q ∈ lpairs g i L
  | _, [], _, _, h => h
  | [], a :: L, i, q, h => by
    have h : q ∈ lpairs g (i + 1) (lkeep [] L) := h
    have := lp_keep [] L (i + 1) q h
    cases a with
    | none => exact this
    | some w => exact List.mem_cons_of_mem _ this
  | true :: b, a :: L, i, q, h => by
    cases a with
    | none => exact lp_keep b L (i + 1) q h
    | some w =>
      rcases List.mem_cons.mp h with rfl | h
      · exact List.mem_cons_self
      · exact List.mem_cons_of_mem _ (lp_keep b L (i + 1) q h)
  | false :: b, a :: L, i, q, h => by
    have h : q ∈ lpairs g (i + 1) (lkeep b L) := h
    have := lp_keep b L (i + 1) q h
    cases a with
    | none => exact this
    | some w => exact List.mem_cons_of_mem _ this
theorem lk_mem : ∀ (b : List Bool) (L : List (Option AV)) (v : AV), some v ∈ lkeep b L → some v ∈ L
  | _, [], _, h => h
  | [], a :: L, v, h => by
    rcases List.mem_cons.mp h with e | h
    · cases e
    · exact List.mem_cons_of_mem _ (lk_mem [] L v h)
  | true :: b, a :: L, v, h => by
    rcases List.mem_cons.mp h with e | h
    · rw [e]; exact List.mem_cons_self
    · exact List.mem_cons_of_mem _ (lk_mem b L v h)
  | false :: b, a :: L, v, h => by
    rcases List.mem_cons.mp h with e | h
    · cases e
    · exact List.mem_cons_of_mem _ (lk_mem b L v h)
theorem ls_mem {v : AV} : ∀ (L : List (Option AV)) (k : Nat) (w : AV), some w ∈ lset L k v → w = v ∨ some w ∈ L
  | [], _, _, h => by cases h
  | a :: L, 0, w, h => by
    rcases List.mem_cons.mp h with e | h
    · exact Or.inl (Option.some.inj e)
    · exact Or.inr (List.mem_cons_of_mem _ h)
  | a :: L, 1, w, h => by
    have h : some w ∈ nolong a :: lset L 0 v := h
    rcases List.mem_cons.mp h with e | h
    · rw [(nl_inv e.symm).1]; exact Or.inr List.mem_cons_self
    · rcases ls_mem L 0 w h with e | h
      · exact Or.inl e
      · exact Or.inr (List.mem_cons_of_mem _ h)
  | a :: L, k + 2, w, h => by
    have h : some w ∈ a :: lset L (k + 1) v := h
    rcases List.mem_cons.mp h with e | h
    · rw [e]; exact Or.inr List.mem_cons_self
    · rcases ls_mem L (k + 1) w h with e | h
      · exact Or.inl e
      · exact Or.inr (List.mem_cons_of_mem _ h)
theorem ls2_mem {v : AV} : ∀ (L : List (Option AV)) (k : Nat) (w : AV), some w ∈ lset2 L k v → w = v ∨ some w ∈ L
  | [], _, _, h => by cases h
  | a :: L, 0, w, h => by
    cases L with
    | nil => cases h
    | cons b L =>
      have h : some w ∈ some v :: none :: L := h
      rcases List.mem_cons.mp h with e | h
      · exact Or.inl (Option.some.inj e)
      · rcases List.mem_cons.mp h with e | h
        · cases e
        · exact Or.inr (List.mem_cons_of_mem _ (List.mem_cons_of_mem _ h))
  | a :: L, 1, w, h => by
    have h : some w ∈ nolong a :: lset2 L 0 v := h
    rcases List.mem_cons.mp h with e | h
    · rw [(nl_inv e.symm).1]; exact Or.inr List.mem_cons_self
    · rcases ls2_mem L 0 w h with e | h
      · exact Or.inl e
      · exact Or.inr (List.mem_cons_of_mem _ h)
  | a :: L, k + 2, w, h => by
    have h : some w ∈ a :: lset2 L (k + 1) v := h
    rcases List.mem_cons.mp h with e | h
    · rw [e]; exact Or.inr List.mem_cons_self
    · rcases ls2_mem L (k + 1) w h with e | h
      · exact Or.inl e
      · exact Or.inr (List.mem_cons_of_mem _ h)
theorem lent_c {v : AV} {as : List AV} {n : Nat} (hv : ¬ vcat v = 2) : lent (v :: as) (n + 1) = some v :: lent as n := by
  conv => lhs; unfold lent
  split
  · next h2 => exact absurd h2 hv
  · rfl
/-- the locals with which a method begins -/
theorem lp_ent {g : Gh} : ∀ (as : List AV) (n i : Nat) (q : Nat × Value), q ∈ lpairs g i (lent as n) → q ∈ lv_args i (as.map (cv g))
  | _, 0, _, _, h => by
    cases h
  | [], n + 1, i, q, h => by
    exfalso
    have : ∀ (n i : Nat), q ∈ lpairs g i (lent [] n) → False := by
      intro n
      induction n with
      | zero => intro i h; cases h
      | succ n ih => intro i h; exact ih (i + 1) h
    exact this (n + 1) i h
  | v :: as, n + 1, i, q, h => by
    by_cases hv : vcat v = 2
    · cases n with
      | zero => simp [lent, hv] at h; cases h
      | succ n =>
        have h : q ∈ lpairs g i (some v :: none :: lent as n) := by simpa [lent, hv] using h
        show q ∈ lv_args i (cv g v :: as.map (cv g))
        rcases List.mem_cons.mp h with rfl | h
        · exact List.mem_cons_self
        · have h : q ∈ lpairs g (i + 1 + 1) (lent as n) := h
          have := lp_ent as n (i + 1 + 1) q h
          refine List.mem_cons_of_mem _ ?_
          rw [cv_cat, if_pos hv]
          exact this
    · have h : q ∈ lpairs g i (some v :: lent as n) := by
        have e : lent (v :: as) (n + 1) = some v :: lent as n := lent_c hv
        rw [e] at h
        exact h
      show q ∈ lv_args i (cv g v :: as.map (cv g))
      rcases List.mem_cons.mp h with rfl | h
      · exact List.mem_cons_self
      · have := lp_ent as n (i + 1) q h
        refine List.mem_cons_of_mem _ ?_
        rw [cv_cat, if_neg hv]
        exact this
theorem le_mem : ∀ (as : List AV) (n : Nat) (v : AV), some v ∈ lent as n → v ∈ as
  | _, 0, _, h => by simp [lent] at h
  | [], n + 1, v, h => by
    exfalso
    have : ∀ n, some v ∈ lent [] n → False := by
      intro n
      induction n with
      | zero => intro h; simp [lent] at h
      | succ n ih => intro h; rcases List.mem_cons.mp h with e | h; cases e; exact ih h
    exact this (n + 1) h
  | w :: as, n + 1, v, h => by
    by_cases hv : vcat w = 2
    · cases n with
      | zero => simp [lent, hv] at h
      | succ n =>
        have h : some v ∈ some w :: none :: lent as n := by simpa [lent, hv] using h
        rcases List.mem_cons.mp h with e | h
        · cases e; exact List.mem_cons_self
        · rcases List.mem_cons.mp h with e | h
          · cases e
          · exact List.mem_cons_of_mem _ (le_mem as n v h)
    · have h : some v ∈ some w :: lent as n := by
        have e : lent (w :: as) (n + 1) = some w :: lent as n := lent_c hv
        rw [e] at h
        exact h
      rcases List.mem_cons.mp h with e | h
      · cases e; exact List.mem_cons_self
      · exact List.mem_cons_of_mem _ (le_mem as n v h)
def pcOf : List Ent → Nat
  | [] => 0
  | e :: _ => e.1
theorem sk_suf : ∀ (code : List Ent) (t : Nat), sk code t <:+ code
  | [], _ => List.suffix_refl _
  | e :: es, t => by
    unfold sk
    split
    · exact List.suffix_refl _
    · exact (sk_suf es t).trans (List.suffix_cons e es)
theorem sk_pc : ∀ {code : List Ent} {t : Nat} {e : Ent} {es : List Ent}, sk code t = e :: es → e.1 = t
  | [], _, _, _, h => by cases h
  | a :: as, t, e, es, h => by
    unfold sk at h
    split at h
    · next hb => cases h; exact Nat.eq_of_beq_eq_true hb
    · exact sk_pc h
theorem chkn_next : ∀ {code : List Ent} {e f : Ent} {es : List Ent}, chkn code = true → (e :: f :: es) <:+ code → f.1 = e.1 + e.2.1
  | [], e, f, es, _, hs => by
    have := List.suffix_nil.mp hs
    cases this
  | a :: as, e, f, es, h, hs => by
    rcases List.suffix_cons_iff.mp hs with hs | hs
    · cases hs
      unfold chkn at h
      simp only [Bool.and_eq_true] at h
      exact Nat.eq_of_beq_eq_true h.1
    · unfold chkn at h
      simp only [Bool.and_eq_true] at h
      exact chkn_next h.2 hs
theorem Sx.moved {g : Gh} {A : Nat → Prop} {u U : State} {H : Heap} (hv : u.vm.Alike U.vm) (h : Sx g A u H) : Sx g A U H :=
  ⟨fun j hj => (h.1 j hj).moved hv, h.2.1.moved hv, h.2.2.1.moved hv, fun i hi => ⟨(h.2.2.2.1 i hi).1.moved hv, (h.2.2.2.1 i hi).2.1.moved hv, (h.2.2.2.1 i hi).2.2.1.moved hv, (h.2.2.2.1 i hi).2.2.2.moved hv⟩, h.2.2.2.2.moved hv⟩
theorem Sx.kept {g : Gh} {A : Nat → Prop} {U : State} {H H1 : Heap} (h : Sx g A U H) (hq : ∀ a : Nat, a < H.size → ¬ A a → H1[a]? = H[a]?) : Sx g A U H1 :=
  ⟨fun j hj => (h.1 j hj).kept hq, h.2.1.kept hq, h.2.2.1.kept hq, fun i hi => ⟨(h.2.2.2.1 i hi).1.kept hq, (h.2.2.2.1 i hi).2.1.kept hq, (h.2.2.2.1 i hi).2.2.1.kept hq, (h.2.2.2.1 i hi).2.2.2.kept hq⟩, h.2.2.2.2.kept hq⟩
theorem Sx.narrow {g : Gh} {A B : Nat → Prop} {U : State} {H : Heap} (h : Sx g A U H) (hq : ∀ q, B q → A q) : Sx g B U H :=
  ⟨fun j hj => (h.1 j hj).narrow hq, h.2.1.narrow hq, h.2.2.1.narrow hq, fun i hi => ⟨(h.2.2.2.1 i hi).1.narrow hq, (h.2.2.2.1 i hi).2.1.narrow hq, (h.2.2.2.1 i hi).2.2.1.narrow hq, (h.2.2.2.1 i hi).2.2.2.narrow hq⟩, h.2.2.2.2.narrow hq⟩
theorem tbl_good : ∀ w ∈ gtbl, (w.onTables && w.keeps) = true ∨ ∃ ty, w = .arrayClass ty := fun w hw => good_of_word (List.mem_filter.mp hw).2
theorem gt_in {w : Cond} (h : w ∈ lw_tbl) (hg : goodWord w = true) : w ∈ gtbl := List.mem_filter.mpr ⟨h, hg⟩
theorem u_good {C : String} {T : u_T} {N : Nat} (h : ∀ w ∈ u_ws C T N, w ∈ lw_tbl) : ∀ w ∈ u_ws C T N, w ∈ gtbl := fun w hw => gt_in (h w hw) (by
  obtain ⟨k, -, rfl⟩ := List.mem_map.mp hw
  unfold u_lay
  split <;> rfl)
theorem cls_in : ∀ {ci : Nat} {C : String} {T : u_T} {N : Nat}, cls[ci]? = some (C, T, N) → (∀ w ∈ u_ws C T N, w ∈ gtbl) ∧ (∃ ty0 : Nat → FieldType, (∀ k, k < N → parseFieldDescriptor (T k).2.2.1 = some (ty0 k))) ∧ ∀ a, a < N → ∀ b, b < N → a ≠ b → (T a).2.1 ≠ (T b).2.1 := by
  intro ci C T N h
  have hl : ci < 13 := (List.getElem?_eq_some_iff.mp h).1
  rcases ci with _ | _ | _ | _ | _ | _ | _ | _ | _ | _ | _ | _ | _ | ci
  all_goals first
    | (cases h; exact ⟨u_good ti0, ⟨tt0, tk0⟩, tn0⟩)
    | (cases h; exact ⟨u_good ti1, ⟨tt1, tk1⟩, tn1⟩)
    | (cases h; exact ⟨u_good ti2, ⟨tt2, tk2⟩, tn2⟩)
    | (cases h; exact ⟨u_good ti3, ⟨tt3, tk3⟩, tn3⟩)
    | (cases h; exact ⟨u_good ti4, ⟨tt4, tk4⟩, tn4⟩)
    | (cases h; exact ⟨u_good ti5, ⟨tt5, tk5⟩, tn5⟩)
    | (cases h; exact ⟨u_good ti6, ⟨tt6, tk6⟩, tn6⟩)
    | (cases h; exact ⟨u_good ti7, ⟨tt7, tk7⟩, tn7⟩)
    | (cases h; exact ⟨u_good ti8, ⟨tt8, tk8⟩, tn8⟩)
    | (cases h; exact ⟨u_good ti9, ⟨tt9, tk9⟩, tn9⟩)
    | (cases h; exact ⟨u_good ti10, ⟨tt10, tk10⟩, tn10⟩)
    | (cases h; exact ⟨u_good ti11, ⟨tt11, tk11⟩, tn11⟩)
    | (cases h; exact ⟨u_good ti12, ⟨tt12, tk12⟩, tn12⟩)
    | omega
/-! the layout's own checks, by program -/
def wfb (t i : Nat) : Bool := (decide (i < nCells) && tab i == t) || ((sh t).1 == 5 && i == 1000 + (sh t).2.1 && decide ((sh t).2.1 < 11)) || ((sh t).1 == 6 && i == 1100 + (sh t).2.1 && decide ((sh t).2.1 < 8))
theorem wfb_of {t i : Nat} (h : wfb t i = true) : wfv (.inl (t, i)) := by
  simp only [wfb, Bool.or_eq_true, Bool.and_eq_true, decide_eq_true_eq, beq_iff_eq] at h
  rcases h with (⟨h1, h2⟩ | ⟨⟨h1, h2⟩, h3⟩) | ⟨⟨h1, h2⟩, h3⟩
  · exact Or.inl ⟨h1, h2⟩
  · exact Or.inr (Or.inl ⟨h1, h2, h3⟩)
  · exact Or.inr (Or.inr (Or.inl ⟨h1, h2, h3⟩))
def layA (a : Nat) : Bool := match sh (tab a) with
  | (4, c, fs) => fs.all fun f => match f with
    | (2, t, d) => decide (a + d < nCells) && tab (a + d) == t
    | (3, t, i) => wfb t i
    | _ => true
  | (3, n, fs) => match fs with
    | (t, b, d) :: _ => ((List.range n).all fun i => decide (b + d * i < nCells) && tab (b + d * i) == t) && (t == 45 || t == 44)
    | [] => false
  | _ => true
theorem lay_A : (List.range nCells).all layA = true := by decide +kernel
/-- an object's fields: numbers where the class has numbers -/
def layT (q : Nat × Nat × List (Nat × Nat × Nat)) : Bool := match q with
  | (4, c, fs) => match cls[c]? with
    | some (_, T, N) => fs.length == N && (List.range N).all fun k => match lnth fs k with
      | some (0, _, _) => (T k).2.2.1 == "I"
      | some (4, _, _) => (T k).2.2.1 == "Z"
      | _ => true
    | none => false
  | _ => true
theorem lay_T : shl.all layT = true := by decide +kernel
theorem lay_of {t c : Nat} {fs : List (Nat × Nat × Nat)} (h : sh t = (4, c, fs)) : layT (4, c, fs) = true := by
  unfold sh at h
  rw [lnth_eq] at h
  cases hl : shl[t]? with
  | none => rw [hl] at h; cases h
  | some q =>
    rw [hl] at h
    have : q = (4, c, fs) := h
    subst this
    exact List.all_eq_true.mp lay_T _ (List.mem_of_getElem? hl)
theorem lay_cls {t c : Nat} {fs : List (Nat × Nat × Nat)} (hs : sh t = (4, c, fs)) : ∃ (C : String) (T : u_T) (N : Nat), cls[c]? = some (C, T, N) ∧ fs.length = N ∧ ∀ k, k < N → (∀ x y, lnth fs k = some (0, x, y) → (T k).2.2.1 = "I") ∧ (∀ x y, lnth fs k = some (4, x, y) → (T k).2.2.1 = "Z") := by
  have h := lay_of hs
  cases hc : cls[c]? with
  | none => simp [layT, hc] at h
  | some q =>
    obtain ⟨C, T, N⟩ := q
    simp only [layT, hc, Bool.and_eq_true, beq_iff_eq, List.all_eq_true] at h
    refine ⟨C, T, N, rfl, h.1, fun k hk => ⟨fun x y e => ?_, fun x y e => ?_⟩⟩
    · have := h.2 k (List.mem_range.mpr hk)
      rw [e] at this
      simpa using this
    · have := h.2 k (List.mem_range.mpr hk)
      rw [e] at this
      simpa using this
theorem wf_cell {t a : Nat} (h : wfv (.inl (t, a))) (hn : (sh t).1 < 5) : a < nCells ∧ tab a = t := by
  rcases h with h | ⟨h, -⟩ | ⟨h, -⟩ | ⟨h, -⟩
  · exact h
  · have h : (sh t).1 = 5 := h
    omega
  · have h : (sh t).1 = 6 := h
    omega
  · have h : (sh t).1 = 7 := h
    omega
theorem lay_at {a : Nat} (ha : a < nCells) : layA a = true := List.all_eq_true.mp lay_A a (List.mem_range.mpr ha)
theorem wf_rel {t a c k t' d : Nat} {fs : List (Nat × Nat × Nat)} (h : wfv (.inl (t, a))) (hs : sh t = (4, c, fs)) (hf : lnth fs k = some (2, t', d)) : wfv (.inl (t', a + d)) := by
  obtain ⟨h1, h2⟩ := wf_cell h (by rw [hs]; exact Nat.le_of_ble_eq_true rfl)
  have h3 := lay_at h1
  unfold layA at h3
  rw [h2, hs] at h3
  rw [lnth_eq] at hf
  have h4 := List.all_eq_true.mp h3 _ (List.mem_of_getElem? hf)
  simp only [Bool.and_eq_true, decide_eq_true_eq, beq_iff_eq] at h4
  exact Or.inl h4
theorem wf_abs {t a c k t' i : Nat} {fs : List (Nat × Nat × Nat)} (h : wfv (.inl (t, a))) (hs : sh t = (4, c, fs)) (hf : lnth fs k = some (3, t', i)) : wfv (.inl (t', i)) := by
  obtain ⟨h1, h2⟩ := wf_cell h (by rw [hs]; exact Nat.le_of_ble_eq_true rfl)
  have h3 := lay_at h1
  unfold layA at h3
  rw [h2, hs] at h3
  rw [lnth_eq] at hf
  exact wfb_of (List.all_eq_true.mp h3 _ (List.mem_of_getElem? hf))
theorem wf_el {t a n t' b d i : Nat} {fs : List (Nat × Nat × Nat)} (h : wfv (.inl (t, a))) (hs : sh t = (3, n, (t', b, d) :: fs)) (hi : i < n) : wfv (.inl (t', b + d * i)) ∧ (t' = 45 ∨ t' = 44) := by
  obtain ⟨h1, h2⟩ := wf_cell h (by rw [hs]; exact Nat.le_of_ble_eq_true rfl)
  have h3 := lay_at h1
  unfold layA at h3
  rw [h2, hs] at h3
  simp only [Bool.and_eq_true, Bool.or_eq_true, beq_iff_eq] at h3
  have h4 := List.all_eq_true.mp h3.1 i (List.mem_range.mpr hi)
  simp only [Bool.and_eq_true, decide_eq_true_eq, beq_iff_eq] at h4
  exact ⟨Or.inl h4, h3.2⟩
theorem cell_at {g : Gh} {σ : St} {t a : Nat} {q : Nat × Nat × List (Nat × Nat × Nat)} (h : wfv (.inl (t, a))) (hs : sh t = q) (hq : q.1 < 5) : a < nCells ∧ (wl g σ)[a]? = some (g.ad a, cellS g σ a q) := by
  obtain ⟨h1, h2⟩ := wf_cell h (by rw [hs]; exact hq)
  refine ⟨h1, ?_⟩
  rw [wl_get h1, cellOf, h2, hs]
