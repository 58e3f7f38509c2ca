/-! worlds: what both sides hold, as plain data -/
abbrev NI : Type := Nat → Int32
/-- counts of floors, fires, houses, cracks, stories; their numbers; how many hills; x, y; dates of each; house, value of a date; needles: whether, y, wide -/
abbrev Wo : Type := (Nat × Nat × Nat × Nat × Nat) × (NI × NI × NI × NI × NI) × (Nat × NI × NI × (Nat → Nat)) × ((Nat → Nat → Nat) × (Nat → Nat → Nat)) × ((Nat → Bool) × NI × NI)
abbrev n0 (w : Wo) : Nat := w.1.1
abbrev n1 (w : Wo) : Nat := w.1.2.1
abbrev n2 (w : Wo) : Nat := w.1.2.2.1
abbrev n3 (w : Wo) : Nat := w.1.2.2.2.1
abbrev n4 (w : Wo) : Nat := w.1.2.2.2.2
abbrev wfl (w : Wo) : NI := w.2.1.1
abbrev wfi (w : Wo) : NI := w.2.1.2.1
abbrev who (w : Wo) : NI := w.2.1.2.2.1
abbrev wcr (w : Wo) : NI := w.2.1.2.2.2.1
abbrev wst (w : Wo) : NI := w.2.1.2.2.2.2
abbrev nh (w : Wo) : Nat := w.2.2.1.1
abbrev wx (w : Wo) : NI := w.2.2.1.2.1
abbrev wy (w : Wo) : NI := w.2.2.1.2.2.1
abbrev nd (w : Wo) : Nat → Nat := w.2.2.1.2.2.2
abbrev dh (w : Wo) : Nat → Nat → Nat := w.2.2.2.1.1
abbrev dv (w : Wo) : Nat → Nat → Nat := w.2.2.2.1.2
abbrev wnl (w : Wo) : Nat → Bool := w.2.2.2.2.1
abbrev wny (w : Wo) : NI := w.2.2.2.2.2.1
abbrev wnw (w : Wo) : NI := w.2.2.2.2.2.2
/-- an age that is held within 0 .. 99 -/
def hld (v : Int) : Nat := if v < 0 then 0 else if 99 < v then 99 else v.toNat
/-- the ends of date d of hill i -/
def dlo (w : Wo) (i d : Nat) : Nat := hld ((dv w i d : Int) - (who w (2 * dh w i d)).toInt - (who w (2 * dh w i d + 1)).toInt)
def dhi (w : Wo) (i d : Nat) : Nat := hld ((dv w i d : Int) - (who w (2 * dh w i d)).toInt + (who w (2 * dh w i d + 1)).toInt)
/-- the first n dates of hill i: greatest lower end, least upper one, upper one of the first date with that lower end -/
def ends (w : Wo) (i : Nat) : Nat → Nat × Nat × Nat
  | 0 => (0, 99, 99)
  | n + 1 => (if (ends w i n).1 < dlo w i n then dlo w i n else (ends w i n).1, if dhi w i n < (ends w i n).2.1 then dhi w i n else (ends w i n).2.1, if n = 0 ∨ (ends w i n).1 < dlo w i n then dhi w i n else (ends w i n).2.2)
def lo (w : Wo) (i : Nat) : Nat := (ends w i (nd w i)).1
def ag (w : Wo) (i : Nat) : Bool := decide ((ends w i (nd w i)).2.1 < (ends w i (nd w i)).1)
def hi (w : Wo) (i : Nat) : Nat := if ag w i then (ends w i (nd w i)).2.2 else (ends w i (nd w i)).2.1
/-- which floor moved in the unit u; what it moved in units 1 to a -/
def lnOf (w : Wo) (u : Nat) : Nat → Nat
  | 0 => 0
  | n + 1 => if lnOf w u n = n ∧ (wfl w (3 * n)).toInt < u then n + 1 else lnOf w u n
def drf (w : Wo) (c : Nat) : Nat → Int32
  | 0 => 0
  | a + 1 => drf w c a + wfl w (3 * lnOf w (a + 1) (n0 w - 1) + c)
/-- class cells with floor at f, hills at h -/
def cW (w : Wo) (f h : Nat) (σ : St) : Prop :=
  (σ (f + 1) 2 = nI (n0 w) ∧ σ (f + 3) 2 = nI (n1 w) ∧ σ (f + 5) 2 = nI (n2 w) ∧ σ (f + 7) 2 = nI (n3 w) ∧ σ (f + 9) 2 = nI (n4 w)) ∧
  ((∀ i, i < 3 * n0 w → σ (f + 2) i = wfl w i) ∧ (∀ i, i < 6 * n1 w → σ (f + 4) i = wfi w i) ∧ (∀ i, i < 2 * n2 w → σ (f + 6) i = who w i) ∧ (∀ i, i < 5 * n3 w → σ (f + 8) i = wcr w i) ∧ (∀ i, i < 2 * n4 w → σ (f + 10) i = wst w i)) ∧
  σ h 8 = nI (nh w) ∧
  (∀ i, i < nh w → σ (h + 1) i = wx w i ∧ σ (h + 2) i = wy w i ∧ σ (h + 3) i = nI (nd w i) ∧ σ (h + 4) i = nI (lo w i) ∧ σ (h + 5) i = nI (hi w i) ∧ σ (h + 6) i = (if ag w i then 1 else 0) ∧ (wnl w i = true → σ (h + 7) i = wny w i) ∧ σ (h + 8) i = (if wnl w i then wnw w i else -1) ∧
    ∀ d, d < nd w i → σ (h + 9) (4 * i + d) = nI (dh w i d) ∧ σ (h + 10) (4 * i + d) = nI (dv w i d))
def cD (w : Wo) (f : Nat) (σ : St) : Prop := ∀ a, a < 100 → σ (f + 11) a = drf w 1 a ∧ σ (f + 12) a = drf w 2 a ∧ σ (f + 13) a = 0 ∧ (a < 12 → isB (σ (f + 20) a))
/-- the other side's rows -/
def mW (w : Wo) (ld nw : NI) : Prop :=
  (ld 0 = nI (n0 w) ∧ ld 1 = nI (n1 w) ∧ ld 2 = nI (n2 w) ∧ ld 3 = nI (n3 w) ∧ ld 4 = nI (n4 w)) ∧
  ((∀ i, i < 3 * n0 w → ld (5 + i) = wfl w i) ∧ (∀ i, i < 6 * n1 w → ld (17 + i) = wfi w i) ∧ (∀ i, i < 2 * n2 w → ld (41 + i) = who w i) ∧ (∀ i, i < 5 * n3 w → ld (49 + i) = wcr w i) ∧ (∀ i, i < 2 * n4 w → ld (54 + i) = wst w i)) ∧
  nw 0 = nI (nh w) ∧
  (∀ i, i < nh w → nw (1 + i) = wx w i ∧ nw (13 + i) = wy w i ∧ nw (25 + i) = nI (nd w i) ∧ nw (37 + i) = (if wnl w i then 1 else 0) ∧ (wnl w i = true → nw (49 + i) = wny w i ∧ nw (61 + i) = wnw w i) ∧
    ∀ d, d < nd w i → nw (73 + 8 * i + 2 * d) = nI (dh w i d) ∧ nw (73 + 8 * i + 2 * d + 1) = nI (dv w i d))
def mD (w : Wo) (σ : St) : Prop := ∀ a, a < 100 → σ 130 a = drf w 1 a ∧ σ 131 a = drf w 2 a
def wi (x : Int32) (a b : Int) : Prop := a ≤ x.toInt ∧ x.toInt ≤ b
/-- what a floor keeps to -/
def okF (w : Wo) : Prop :=
  (n0 w ≤ 4 ∧ n1 w ≤ 4 ∧ n2 w ≤ 4 ∧ n3 w ≤ 1 ∧ n4 w ≤ 4 ∧ (0 < n4 w → 0 < n0 w ∧ 0 < n1 w)) ∧
  (∀ j, j < n0 w → wi (wfl w (3 * j)) 1 99 ∧ wi (wfl w (3 * j + 1)) (-99) 99 ∧ wi (wfl w (3 * j + 2)) (-99) 99 ∧ (0 < j → (wfl w (3 * (j - 1))).toInt < (wfl w (3 * j)).toInt)) ∧
  (∀ j, j < n1 w → wi (wfi w (6 * j)) (-9999) 9999 ∧ wi (wfi w (6 * j + 1)) (-9999) 9999 ∧ wi (wfi w (6 * j + 2)) (-9) 9 ∧ wi (wfi w (6 * j + 3)) (-9) 9 ∧ wi (wfi w (6 * j + 4)) 1 20 ∧ wi (wfi w (6 * j + 5)) 0 99) ∧
  (∀ j, j < n2 w → wi (who w (2 * j)) (-9) 9 ∧ wi (who w (2 * j + 1)) 0 20) ∧
  (0 < n3 w → wi (wcr w 0) (-9999) 9999 ∧ wi (wcr w 1) (-9999) 9999 ∧ wi (wcr w 2) (-99) 99 ∧ wi (wcr w 3) (-99) 99 ∧ wi (wcr w 4) 0 99) ∧
  (∀ j, j < n4 w → wi (wst w (2 * j)) 0 3 ∧ wi (wst w (2 * j + 1)) 1 9 ∧ (wst w (2 * j) = 2 → 0 < n3 w))
def okH (w : Wo) : Prop := nh w ≤ 12 ∧ (0 < nh w ∨ 0 < n1 w → 0 < n4 w) ∧ ∀ i, i < nh w → wi (wx w i) (-99999) 99999 ∧ wi (wy w i) (-99999) 99999 ∧ nd w i ≤ 4 ∧ (wnl w i = true → wi (wny w i) (-99999) 99999 ∧ wi (wnw w i) 0 999) ∧ ∀ d, d < nd w i → dh w i d < n2 w ∧ dv w i d ≤ 99
def RW (σ : St) : Prop := ∃ w : Wo, okF w ∧ okH w ∧ cW w 36 50 σ ∧ cD w 36 σ ∧ mW w (σ 126) (σ 128) ∧ mD w σ ∧ σ 122 7 = (if n4 w = 0 then 0 else 1)
theorem hld_le (v : Int) : hld v ≤ 99 := by unfold hld; split; omega; split <;> omega
theorem hld_mono {a b : Int} (h : a ≤ b) : hld a ≤ hld b := by
  unfold hld
  split
  · split <;> omega
  · split
    · split
      · omega
      · split <;> omega
    · split
      · omega
      · split <;> omega
theorem dlo_le {w : Wo} (hF : okF w) (hH : okH w) {i d : Nat} (hi' : i < nh w) (hd : d < nd w i) : dlo w i d ≤ dhi w i d ∧ dhi w i d ≤ 99 := by
  obtain ⟨h1, h2⟩ := (hH.2.2 i hi').2.2.2.2 d hd
  have h3 := (hF.2.2.2.1 _ h1).2
  unfold wi at h3
  exact ⟨hld_mono (by omega), hld_le _⟩
theorem ends_ok {w : Wo} (hF : okF w) (hH : okH w) {i : Nat} (hi' : i < nh w) : ∀ n, n ≤ nd w i → (ends w i n).1 ≤ (ends w i n).2.2 ∧ (ends w i n).2.2 ≤ 99 ∧ (ends w i n).2.1 ≤ 99
  | 0, _ => by simp [ends]
  | n + 1, hn => by
    obtain ⟨h1, h2, h3⟩ := ends_ok hF hH hi' n (by omega)
    obtain ⟨h4, h5⟩ := dlo_le hF hH hi' (d := n) (by omega)
    have hz : n = 0 → (ends w i n).1 = 0 := fun e => by subst e; rfl
    simp only [ends]
    refine ⟨?_, ?_, ?_⟩
    · by_cases c1 : (ends w i n).1 < dlo w i n
      · rw [if_pos c1, if_pos (Or.inr c1)]; exact h4
      · rw [if_neg c1]
        by_cases c2 : n = 0
        · rw [if_pos (Or.inl c2), hz c2]; omega
        · rw [if_neg (by omega)]; exact h1
    · split <;> omega
    · split <;> omega
theorem lohi {w : Wo} (hF : okF w) (hH : okH w) {i : Nat} (hi' : i < nh w) : lo w i ≤ hi w i ∧ hi w i ≤ 99 := by
  obtain ⟨h1, h2, h3⟩ := ends_ok hF hH hi' (nd w i) (Nat.le_refl _)
  unfold lo hi ag
  by_cases c : (ends w i (nd w i)).2.1 < (ends w i (nd w i)).1
  · rw [decide_eq_true c, if_pos rfl]; exact ⟨h1, h2⟩
  · rw [decide_eq_false c, if_neg (by decide)]; omega
