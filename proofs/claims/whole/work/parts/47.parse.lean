/-! texts, as both sides read them -/
abbrev Fl : Type := (Nat → Nat) × (Nat → Nat → Int32)
abbrev Er : Type := Nat × Nat
abbrev PR1 : Type := Er ⊕ (Tk × Fl)
def ncl (y : Nat) : Nat := match y with
  | 0 => 3
  | 1 => 6
  | 2 => 2
  | 3 => 5
  | _ => 2
def lsv (y c : Nat) : Int32 := (stl.getD (2 * y) []).getD c 0
def msv (y c : Nat) : Int32 := (stl.getD (2 * y + 1) []).getD c 0
def adB (fl : Fl) (y c : Nat) (v : Int32) : Bool := decide (lsv y c ≤ v) && (decide (v ≤ msv y c) && (!(decide (y = 0 ∧ c = 0 ∧ 0 < fl.1 0)) || decide (fl.2 0 (3 * (fl.1 0 - 1)) < v)))
def whB (T : Nat → Nat) (fl : Fl) (t : Tk) : Option Int32 := if wB T t 5 then some 0 else if wB T t 6 then some 1 else if wB T t 7 then some 3 else if wB T t 3 then (if 0 < fl.1 3 then some 2 else none) else none
def ow (p : Nat) (o : Option Int32) : Er ⊕ Int32 := match o with
  | none => .inl (1, p)
  | some k => .inr k
def co1 (T : Nat → Nat) (fl : Fl) (y c : Nat) (t : Tk) : Er ⊕ Int32 := if y = 4 ∧ c = 0 then ow t.1 (whB T fl t) else if t.2.2.1 = 2 then (if adB fl y c t.2.2.2 then .inr t.2.2.2 else .inl (2, t.1)) else .inl (1, t.1)
def adl (fl : Fl) (y : Nat) (v : Nat → Int32) : Fl := ((fun z => if z = y then fl.1 y + 1 else fl.1 z), (fun z i => if z = y ∧ ncl y * fl.1 y ≤ i then v (i - ncl y * fl.1 y) else fl.2 z i))
def lnr (T : Nat → Nat) (N : Nat) (fl : Fl) (y : Nat) : Nat → Nat → Tk → (Nat → Int32) → PR1
  | 0, _, t, v => if t.2.2.1 = 3 then .inr (tok T N t.2.1, adl fl y v) else .inl (1, t.1)
  | k + 1, c, t, v => match co1 T fl y c t with
    | .inl e => .inl e
    | .inr x => lnr T N fl y k (c + 1) (tok T N t.2.1) (upd v c x)
def lin (T : Nat → Nat) (N y : Nat) (s : Tk × Fl) : PR1 := if 4 ≤ s.2.1 y then .inl (3, s.1.1) else lnr T N s.2 y (ncl y) 0 (tok T N s.1.2.1) (fun _ => 0)
def lns (T : Nat → Nat) (N y : Nat) : Nat → Tk × Fl → PR1
  | 0, s => .inr s
  | f + 1, s => if wB T s.1 y then (match lin T N y s with
    | .inl e => .inl e
    | .inr s' => lns T N y f s') else .inr s
def bd (r : PR1) (f : Tk × Fl → PR1) : PR1 := match r with
  | .inl e => .inl e
  | .inr s => f s
def rq2 (T : Nat → Nat) (N y need : Nat) (s : Tk × Fl) : PR1 := bd (lns T N y 5 s) (fun s' => if need ≤ s'.2.1 y then .inr s' else .inl (1, s'.1.1))
def req (T : Nat → Nat) (N y : Nat) (s : Tk × Fl) : PR1 := if wB T s.1 y then lns T N y 5 s else .inl (1, s.1.1)
def crk (T : Nat → Nat) (N : Nat) (s : Tk × Fl) : PR1 := if wB T s.1 3 then lin T N 3 s else .inr s
def fin (s : Tk × Fl) : PR1 := if s.1.2.2.1 = 0 then .inr s else .inl (1, s.1.1)
def fl0 : Fl := (fun _ => 0, fun _ _ => 0)
def prs (T : Nat → Nat) (N : Nat) : PR1 := bd (bd (bd (bd (bd (rq2 T N 0 1 (tok T N 0, fl0)) (rq2 T N 1 1)) (rq2 T N 2 0)) (crk T N)) (rq2 T N 4 1)) fin
/-! what stays true -/
def flOk (fl : Fl) : Prop := (∀ y, y < 5 → fl.1 y ≤ 4) ∧ (∀ y j c, y < 5 → j < fl.1 y → c < ncl y → (lsv y c).toInt ≤ (fl.2 y (ncl y * j + c)).toInt ∧ (fl.2 y (ncl y * j + c)).toInt ≤ (msv y c).toInt) ∧ (∀ j, 0 < j → j < fl.1 0 → (fl.2 0 (3 * (j - 1))).toInt < (fl.2 0 (3 * j)).toInt) ∧ (∀ j, j < fl.1 4 → fl.2 4 (2 * j) = 2 → 0 < fl.1 3)
theorem fl0_ok : flOk fl0 := ⟨fun _ _ => Nat.zero_le _, fun _ _ _ _ h _ => absurd h (Nat.not_lt_zero _), fun _ _ h => absurd h (Nat.not_lt_zero _), fun _ h _ => absurd h (Nat.not_lt_zero _)⟩
theorem upd_1 {f : Nat → Int32} {j : Nat} {v : Int32} : upd f j v j = v := by simp [upd]
theorem upd_2 {f : Nat → Int32} {i j : Nat} {v : Int32} (h : i ≠ j) : upd f j v i = f i := by simp [upd, h]
/-- columns c and on that were taken -/
def vOk (fl : Fl) (y c : Nat) (v : Nat → Int32) : Prop := ∀ j, j < c → ((lsv y j).toInt ≤ (v j).toInt ∧ (v j).toInt ≤ (msv y j).toInt) ∧ (y = 0 → j = 0 → 0 < fl.1 0 → (fl.2 0 (3 * (fl.1 0 - 1))).toInt < (v j).toInt) ∧ (y = 4 → j = 0 → v j = 2 → 0 < fl.1 3)
theorem co1_ok {T : Nat → Nat} {fl : Fl} {y c : Nat} {t : Tk} {x : Int32} (h : co1 T fl y c t = .inr x) : ((lsv y c).toInt ≤ x.toInt ∧ x.toInt ≤ (msv y c).toInt) ∧ (y = 0 → c = 0 → 0 < fl.1 0 → (fl.2 0 (3 * (fl.1 0 - 1))).toInt < x.toInt) ∧ (y = 4 → c = 0 → x = 2 → 0 < fl.1 3) := by
  unfold co1 at h
  by_cases z : y = 4 ∧ c = 0
  · rw [if_pos z] at h
    obtain ⟨z1, z2⟩ := z
    subst z1; subst z2
    have e1 : (lsv 4 0).toInt = 0 := by decide
    have e2 : (msv 4 0).toInt = 3 := by decide
    rw [e1, e2]
    unfold ow whB at h
    by_cases c5 : wB T t 5 = true
    · rw [if_pos c5] at h; injection h with h; subst h; exact ⟨by decide, fun q => by omega, fun _ _ q => absurd q (by decide)⟩
    rw [if_neg c5] at h
    by_cases c6 : wB T t 6 = true
    · rw [if_pos c6] at h; injection h with h; subst h; exact ⟨by decide, fun q => by omega, fun _ _ q => absurd q (by decide)⟩
    rw [if_neg c6] at h
    by_cases c7 : wB T t 7 = true
    · rw [if_pos c7] at h; injection h with h; subst h; exact ⟨by decide, fun q => by omega, fun _ _ q => absurd q (by decide)⟩
    rw [if_neg c7] at h
    by_cases c3 : wB T t 3 = true
    · rw [if_pos c3] at h
      by_cases c0 : 0 < fl.1 3
      · rw [if_pos c0] at h; injection h with h; subst h; exact ⟨by decide, fun q => by omega, fun _ _ _ => c0⟩
      · rw [if_neg c0] at h; simp at h
    · rw [if_neg c3] at h; simp at h
  · rw [if_neg z] at h
    split at h
    · split at h
      · rename_i c2
        injection h with h; subst h
        unfold adB at c2
        simp only [Bool.and_eq_true, Bool.or_eq_true, Bool.not_eq_true', decide_eq_true_eq, decide_eq_false_iff_not] at c2
        refine ⟨⟨(fa_le _ _).mp c2.1, (fa_le _ _).mp c2.2.1⟩, fun q1 q2 q3 => ?_, fun q1 q2 => absurd ⟨q1, q2⟩ z⟩
        rcases c2.2.2 with q | q
        · exact absurd ⟨q1, q2, q3⟩ q
        · exact (fa_lt _ _).mp q
      · simp at h
    · simp at h
theorem ncl_p (y : Nat) : 0 < ncl y := by unfold ncl; split <;> omega
theorem adl_ok {fl : Fl} {y : Nat} {v : Nat → Int32} (hy : y < 5) (h : flOk fl) (h4 : fl.1 y < 4) (hv : vOk fl y (ncl y) v) : flOk (adl fl y v) := by
  obtain ⟨h1, h2, h3, h5⟩ := h
  have np := ncl_p y
  have old : ∀ z i, (z = y → i < ncl y * fl.1 y) → (adl fl y v).2 z i = fl.2 z i := fun z i hz => by
    show (if z = y ∧ ncl y * fl.1 y ≤ i then _ else _) = _
    rw [if_neg (fun q => by have := hz q.1; omega)]
  have new : ∀ c, (adl fl y v).2 y (ncl y * fl.1 y + c) = v c := fun c => by
    show (if y = y ∧ ncl y * fl.1 y ≤ ncl y * fl.1 y + c then _ else _) = _
    rw [if_pos ⟨rfl, by omega⟩, Nat.add_sub_cancel_left]
  have cn : ∀ z, (adl fl y v).1 z = if z = y then fl.1 y + 1 else fl.1 z := fun _ => rfl
  have idx : ∀ {j c : Nat}, j < fl.1 y → c < ncl y → ncl y * j + c < ncl y * fl.1 y := fun {j c} hj hc => by
    have : ncl y * (j + 1) ≤ ncl y * fl.1 y := Nat.mul_le_mul_left _ hj
    rw [Nat.mul_add] at this; omega
  refine ⟨fun z hz => ?_, fun z j c hz hj hc => ?_, fun j hj0 hj => ?_, fun j hj e => ?_⟩
  · rw [cn]; split
    · omega
    · exact h1 z hz
  · rw [cn] at hj
    by_cases e : z = y
    · subst e
      rw [if_pos rfl] at hj
      by_cases c2 : j = fl.1 z
      · subst c2; rw [new]; exact (hv c hc).1
      · rw [old _ _ (fun _ => idx (by omega) hc)]; exact h2 z j c hz (by omega) hc
    · rw [if_neg e] at hj
      rw [old _ _ (fun q => absurd q e)]; exact h2 z j c hz hj hc
  · rw [cn] at hj
    by_cases e : (0 : Nat) = y
    · subst e
      rw [if_pos rfl] at hj
      have e3 : ncl 0 = 3 := rfl
      by_cases c2 : j = fl.1 0
      · subst c2
        have n0' := new 0
        rw [e3, Nat.add_zero] at n0'
        rw [n0', old _ _ (fun _ => by rw [e3]; omega)]
        exact (hv 0 np).2.1 rfl rfl hj0
      · rw [old _ _ (fun _ => by rw [e3]; omega), old _ _ (fun _ => by rw [e3]; omega)]; exact h3 j hj0 (by omega)
    · rw [if_neg e] at hj
      rw [old _ _ (fun q => absurd q e), old _ _ (fun q => absurd q e)]; exact h3 j hj0 hj
  · have mono : fl.1 3 ≤ (adl fl y v).1 3 := by
      rw [cn]; split
      · rename_i q; rw [← q]; omega
      · omega
    rw [cn] at hj
    by_cases e4 : (4 : Nat) = y
    · subst e4
      rw [if_pos rfl] at hj
      have e2 : ncl 4 = 2 := rfl
      by_cases c2 : j = fl.1 4
      · subst c2
        have n0' := new 0
        rw [e2, Nat.add_zero] at n0'
        rw [n0'] at e
        have := (hv 0 np).2.2 rfl rfl e
        omega
      · rw [old _ _ (fun _ => by rw [e2]; omega)] at e
        have := h5 j (by omega) e
        omega
    · rw [if_neg e4] at hj
      rw [old _ _ (fun q => absurd q e4)] at e
      have := h5 j hj e
      omega
theorem lnr_ok {T : Nat → Nat} {N : Nat} {fl : Fl} {y : Nat} (hy : y < 5) (hf : flOk fl) (h4 : fl.1 y < 4) : ∀ k c t v s, c + k = ncl y → vOk fl y c v → lnr T N fl y k c t v = .inr s → flOk s.2 ∧ s.2.1 = (fun z => if z = y then fl.1 y + 1 else fl.1 z)
  | 0, c, t, v, s, hc, hv, e => by
    simp only [lnr] at e
    split at e
    · injection e with e
      subst e
      rw [Nat.add_zero] at hc
      subst hc
      exact ⟨adl_ok hy hf h4 hv, rfl⟩
    · simp at e
  | k + 1, c, t, v, s, hc, hv, e => by
    simp only [lnr] at e
    cases h : co1 T fl y c t with
    | inl q => rw [h] at e; simp at e
    | inr x =>
      rw [h] at e
      refine lnr_ok hy hf h4 k (c + 1) _ _ s (by omega) (fun j hj => ?_) e
      by_cases ej : j = c
      · subst ej; rw [upd_1]; exact co1_ok h
      · rw [upd_2 ej]; exact hv j (by omega)
theorem lin_ok {T : Nat → Nat} {N y : Nat} (hy : y < 5) {s s' : Tk × Fl} (hf : flOk s.2) (e : lin T N y s = .inr s') : flOk s'.2 ∧ s'.2.1 = (fun z => if z = y then s.2.1 y + 1 else s.2.1 z) := by
  unfold lin at e
  by_cases c : 4 ≤ s.2.1 y
  · rw [if_pos c] at e; simp at e
  · rw [if_neg c] at e
    exact lnr_ok hy hf (by omega) _ _ _ _ _ (by omega) (fun j hj => by omega) e
theorem lns_ok {T : Nat → Nat} {N y : Nat} (hy : y < 5) : ∀ f (s s' : Tk × Fl), flOk s.2 → lns T N y f s = .inr s' → flOk s'.2 ∧ s.2.1 y ≤ s'.2.1 y ∧ (∀ z, z ≠ y → s'.2.1 z = s.2.1 z) ∧ (0 < f → wB T s.1 y = true → s.2.1 y < s'.2.1 y)
  | 0, s, s', hf, e => by
    simp only [lns] at e
    injection e with e; subst e
    exact ⟨hf, Nat.le_refl _, fun _ _ => rfl, fun q => by omega⟩
  | f + 1, s, s', hf, e => by
    simp only [lns] at e
    by_cases c : wB T s.1 y = true
    · rw [if_pos c] at e
      cases h : lin T N y s with
      | inl q => rw [h] at e; simp at e
      | inr s1 =>
        rw [h] at e
        obtain ⟨g1, g2⟩ := lin_ok hy hf h
        obtain ⟨r1, r2, r3, r4⟩ := lns_ok hy f s1 s' g1 e
        have ey : s1.2.1 y = s.2.1 y + 1 := by rw [g2]; simp
        refine ⟨r1, by omega, fun z hz => ?_, fun _ _ => by omega⟩
        rw [r3 z hz, g2]; simp [hz]
    · rw [if_neg c] at e
      injection e with e; subst e
      exact ⟨hf, Nat.le_refl _, fun _ _ => rfl, fun _ q => absurd q c⟩
theorem rq_req {T : Nat → Nat} {N y : Nat} (hy : y < 5) {s : Tk × Fl} (hf : flOk s.2) (h0 : s.2.1 y = 0) : rq2 T N y 1 s = req T N y s := by
  unfold rq2 req
  by_cases c : wB T s.1 y = true
  · rw [if_pos c]
    cases h : lns T N y 5 s with
    | inl q => rfl
    | inr s' =>
      have := (lns_ok hy 5 s s' hf h).2.2.2 (by omega) c
      show (if 1 ≤ s'.2.1 y then _ else _) = _
      rw [if_pos (by omega)]
  · rw [if_neg c]
    have : lns T N y 5 s = .inr s := by simp only [lns]; rw [if_neg c]
    rw [this]
    show (if 1 ≤ s.2.1 y then _ else _) = _
    rw [if_neg (by omega)]
theorem rq_0 {T : Nat → Nat} {N y : Nat} {s : Tk × Fl} : rq2 T N y 0 s = lns T N y 5 s := by
  unfold rq2
  cases h : lns T N y 5 s with
  | inl q => rfl
  | inr s' => simp [bd]
theorem rq_ok {T : Nat → Nat} {N y n : Nat} (hy : y < 5) {s s' : Tk × Fl} (hf : flOk s.2) (e : rq2 T N y n s = .inr s') : flOk s'.2 ∧ n ≤ s'.2.1 y ∧ (∀ z, z ≠ y → s'.2.1 z = s.2.1 z) := by
  unfold rq2 at e
  cases h : lns T N y 5 s with
  | inl q => rw [h] at e; simp [bd] at e
  | inr s1 =>
    rw [h] at e
    have e : (if n ≤ s1.2.1 y then (Sum.inr s1 : PR1) else .inl (1, s1.1.1)) = .inr s' := e
    obtain ⟨r1, r2, r3, r4⟩ := lns_ok hy 5 s s1 hf h
    by_cases c : n ≤ s1.2.1 y
    · rw [if_pos c] at e; injection e with e; subst e; exact ⟨r1, c, r3⟩
    · rw [if_neg c] at e; simp at e
