/-! whether a row goes evenly -/
abbrev P2 : Type := Int64 × Int64
abbrev Ev : Type := Bool × Option P2 × Option P2
def eBy (w : Wo) (mem : Nat → Nat) (f p q : Nat) : Int64 := (apt w (mem f) (mem q) - apt w (mem f) (mem p)).toInt64
def eUp (w : Wo) (mem : Nat → Nat) (p q : Nat) : Int64 := (nI (hi w (mem q)) - nI (lo w (mem p))).toInt64
def evM (u b : Int64) : Option P2 → Option P2
  | none => some (u, b)
  | some m => if 0 ≤ lg_cmp (u * m.2) (m.1 * b) then some m else some (u, b)
def evL (u b : Int64) : Option P2 → Option P2
  | none => some (-u, -b)
  | some m => if lg_cmp (-u * m.2) (m.1 * -b) ≤ 0 then some m else some (-u, -b)
def eStep (u b : Int64) (e : Ev) : Ev := (e.1 && !(decide (b.toInt = 0) && decide (u.toInt < 0)), (if 0 < b.toInt then evM u b e.2.1 else e.2.1), (if b.toInt < 0 then evL u b e.2.2 else e.2.2))
def ein (w : Wo) (mem : Nat → Nat) (f p : Nat) (e : Ev) : Nat → Ev
  | 0 => e
  | n + 1 => eStep (eUp w mem p (f + n)) (eBy w mem f p (f + n)) (ein w mem f p e n)
def eou (w : Wo) (mem : Nat → Nat) (f N : Nat) : Nat → Ev
  | 0 => (true, none, none)
  | m + 1 => ein w mem f (f + m) (eou w mem f N m) N
def evR (e : Ev) : Int32 := if e.1 then (match e.2.1, e.2.2 with
  | some m, some l => if 0 < lg_cmp (l.1 * m.2) (m.1 * l.2) then 0 else 1
  | _, _ => 1) else 0
def evV (w : Wo) (mem : Nat → Nat) (f l : Nat) : Int32 := evR (eou w mem f (l + 1 - f) (l + 1 - f))
theorem evV_b (w : Wo) (mem : Nat → Nat) (f l : Nat) : evV w mem f l = 0 ∨ evV w mem f l = 1 := by
  unfold evV evR
  split
  · split
    · split
      · exact Or.inl rfl
      · exact Or.inr rfl
    · exact Or.inr rfl
  · exact Or.inl rfl
def okP (o : Option P2) : Prop := ∀ m, o = some m → 0 < m.2.toInt ∧ m.2.toInt < 8589934592
theorem eBy_b (w : Wo) (mem : Nat → Nat) (f p q : Nat) : -2147483648 ≤ (eBy w mem f p q).toInt ∧ (eBy w mem f p q).toInt < 2147483648 := by unfold eBy; rw [i2l]; exact i32b _
theorem neg64 {x : Int64} (h : -2147483648 ≤ x.toInt ∧ x.toInt < 2147483648) : (-x).toInt = -x.toInt := by
  rw [Int64.toInt_neg]; apply Int.bmod_eq_of_le <;> omega
theorem okM {u b : Int64} {o : Option P2} (h : okP o) (hb : 0 < b.toInt ∧ b.toInt < 2147483648) : okP (evM u b o) := by
  intro m e
  cases o with
  | none => simp only [evM, Option.some.injEq] at e; subst e; exact ⟨hb.1, by show b.toInt < _; omega⟩
  | some m' =>
    simp only [evM] at e
    split at e
    · exact h m e
    · simp only [Option.some.injEq] at e; subst e; exact ⟨hb.1, by show b.toInt < _; omega⟩
theorem okL {u b : Int64} {o : Option P2} (h : okP o) (hb : b.toInt < 0 ∧ -2147483648 ≤ b.toInt) : okP (evL u b o) := by
  have n := neg64 (x := b) (by omega)
  intro m e
  cases o with
  | none => simp only [evL, Option.some.injEq] at e; subst e; show 0 < (-b).toInt ∧ (-b).toInt < _; omega
  | some m' =>
    simp only [evL] at e
    split at e
    · exact h m e
    · simp only [Option.some.injEq] at e; subst e; show 0 < (-b).toInt ∧ (-b).toInt < _; omega
def okE (e : Ev) : Prop := okP e.2.1 ∧ okP e.2.2
theorem ok_step {u b : Int64} {e : Ev} (h : okE e) (hb : -2147483648 ≤ b.toInt ∧ b.toInt < 2147483648) : okE (eStep u b e) := by
  unfold okE eStep
  refine ⟨?_, ?_⟩
  · show okP (if _ then _ else _)
    split
    · exact okM h.1 ⟨by assumption, hb.2⟩
    · exact h.1
  · show okP (if _ then _ else _)
    split
    · exact okL h.2 ⟨by assumption, hb.1⟩
    · exact h.2
theorem ok_ein {w : Wo} {mem : Nat → Nat} {f p : Nat} {e : Ev} (h : okE e) : ∀ n, okE (ein w mem f p e n)
  | 0 => h
  | n + 1 => ok_step (ok_ein h n) (eBy_b _ _ _ _ _)
theorem ok_eou {w : Wo} {mem : Nat → Nat} {f N : Nat} : ∀ m, okE (eou w mem f N m)
  | 0 => ⟨fun _ q => (nomatch q), fun _ q => (nomatch q)⟩
  | m + 1 => ok_ein (ok_eou m) N
theorem ein_m {w : Wo} {mem : Nat → Nat} {f p : Nat} {e : Ev} : ∀ {k n : Nat}, k ≤ n → (ein w mem f p e n).1 = true → (ein w mem f p e k).1 = true
  | k, 0, h, q => by rw [Nat.le_zero.mp h]; exact q
  | k, n + 1, h, q => by
    by_cases c : k = n + 1
    · rw [c]; exact q
    · have q2 : ((ein w mem f p e n).1 && _) = true := q
      rw [Bool.and_eq_true] at q2
      exact ein_m (by omega) q2.1
theorem eou_m {w : Wo} {mem : Nat → Nat} {f N : Nat} : ∀ {k n : Nat}, k ≤ n → (eou w mem f N n).1 = true → (eou w mem f N k).1 = true
  | k, 0, h, q => by rw [Nat.le_zero.mp h]; exact q
  | k, n + 1, h, q => by
    by_cases c : k = n + 1
    · rw [c]; exact q
    · exact eou_m (k := k) (n := n) (by omega) (ein_m (k := 0) (Nat.zero_le _) q)
def cA : Option P2 → Int64
  | none => 1
  | some m => m.1
def cB : Option P2 → Int64
  | none => 0
  | some m => m.2
def dA : Option P2 → Int64
  | none => -1
  | some m => m.1
def zA : Option P2 → Int64
  | none => 0
  | some m => m.1
theorem mulz (u : Int64) : u * 0 = 0 := by grind
theorem onem (u : Int64) : 1 * u = u := by grind
theorem mone (u : Int64) : -1 * u = -u := by grind
theorem mone2 (u : Int64) : -1 * -u = u := by grind
theorem x_even1 {u b : Int64} {o : Option P2} (hb : 0 < b.toInt) : (0 ≤ lg_cmp (u * cB o) (cA o * b) → evM u b o = o) ∧ (¬ 0 ≤ lg_cmp (u * cB o) (cA o * b) → cA (evM u b o) = u ∧ cB (evM u b o) = b) := by
  cases o with
  | none =>
    simp only [cA, cB, evM, mulz, onem]
    refine ⟨fun q => ?_, fun _ => ⟨trivial, trivial⟩⟩
    rw [lg_ge, tl_0] at q; omega
  | some m =>
    simp only [cA, cB, evM]
    exact ⟨fun q => by rw [if_pos q], fun q => by rw [if_neg q]; exact ⟨rfl, rfl⟩⟩
theorem x_even2 {u b : Int64} {o : Option P2} (hb : b.toInt < 0) : (lg_cmp (-u * cB o) (dA o * -b) ≤ 0 → evL u b o = o) ∧ (¬ lg_cmp (-u * cB o) (dA o * -b) ≤ 0 → dA (evL u b o) = -u ∧ cB (evL u b o) = -b) := by
  cases o with
  | none =>
    simp only [dA, cB, evL, mulz, mone2]
    refine ⟨fun q => ?_, fun _ => ⟨trivial, trivial⟩⟩
    rw [lg_le, tl_0] at q; omega
  | some m =>
    simp only [dA, cB, evL]
    exact ⟨fun q => by rw [if_pos q], fun q => by rw [if_neg q]; exact ⟨rfl, rfl⟩⟩
theorem x_evenR {e : Ev} (h : okE e) (h1 : e.1 = true) : (0 < lg_cmp (dA e.2.2 * cB e.2.1) (cA e.2.1 * cB e.2.2) → evR e = 0) ∧ (¬ 0 < lg_cmp (dA e.2.2 * cB e.2.1) (cA e.2.1 * cB e.2.2) → evR e = 1) := by
  obtain ⟨b, o1, o2⟩ := e
  simp only at h1
  subst h1
  obtain ⟨k1, k2⟩ := h
  cases o1 with
  | none =>
    cases o2 with
    | none => simp only [cA, cB, dA, mulz, evR]; exact ⟨fun q => by rw [lg_gt] at q; omega, fun _ => rfl⟩
    | some l =>
      have := (k2 l rfl).1
      simp only [cA, cB, dA, mulz, onem, evR]
      exact ⟨fun q => by rw [lg_gt, tl_0] at q; omega, fun _ => rfl⟩
  | some m =>
    have hm := k1 m rfl
    have nm : (-m.2).toInt = -m.2.toInt := by rw [Int64.toInt_neg]; apply Int.bmod_eq_of_le <;> omega
    cases o2 with
    | none =>
      simp only [cA, cB, dA, mulz, mone, evR]
      exact ⟨fun q => by rw [lg_gt, tl_0, nm] at q; omega, fun _ => rfl⟩
    | some l =>
      simp only [cA, cB, dA, evR]
      exact ⟨fun q => by rw [if_pos trivial, if_pos q], fun q => by rw [if_pos trivial, if_neg q]⟩
theorem x_isEven {w : Wo} {σ : St} (hx : XW w σ) (hF : okF w) (hH : okH w) {n : Nat} {mem : Nat → Nat} (hn : n ≤ 12) (hmem : ∀ j, j < n → mem j < nh w) (hrow : ∀ j, j < n → σ 116 j = nI (mem j)) {f l : Nat} (hfl : f ≤ l) (hln : l < n) (F : Int32 → St → Prop) (h : ∀ ρ, Fr (fun a _ => a = 117) σ ρ → F (evV w mem f l) ρ) : CallI hd_ro_isEven [rf 51 115, iv (nI f), iv (nI l)] σ F := by
  have nhh := hH.1
  have v12 : ∀ j, j < 12 → vp_in (nI j) 12 := fun j hj => vin0 j rfl hj (by decide)
  have cl : ∀ j, j < 1000 → (nI j).toNatClampNeg = j := fun j hj => nI_clamp (by omega)
  have hN : f + (l + 1 - f) = l + 1 := by omega
  generalize hNN : l + 1 - f = N at hN
  have hV : evV w mem f l = evR (eou w mem f N N) := by unfold evV; rw [hNN]
  -- the pairs
  have pairs : ∀ τ, Fr (fun a _ => a = 117) σ τ → (∀ j, f ≤ j → j ≤ l → τ 117 j = apt w (mem f) (mem j)) → ∀ m' m, m + m' = N → (eou w mem f N m).1 = true → At hd_ro_isEven X0 54 [some (rf 51 115), some (iv (nI f)), some (iv (nI l)), some (jv (cA (eou w mem f N m).2.1)), none, some (jv (cB (eou w mem f N m).2.1)), none, some (jv (dA (eou w mem f N m).2.2)), none, some (jv (cB (eou w mem f N m).2.2)), none, some (iv (nI (f + m))), none, none, none, none, none] [] τ (retI F) := by
    intro τ ht hfar
    have hxt : XW w τ := XW_e (fun a b h1 h2 => ht a b (by omega)) hx
    intro m'
    induction m' with
    | zero =>
      intro m hm hb
      have : m = N := by omega
      subst this
      obtain ⟨r1, r2⟩ := x_evenR (ok_eou m) hb
      refine l_ro_isEven_54 _ _ _ _ _ _ _ _ _ ⟨fun _ => ⟨fun q => ⟨Or.inl rfl, ?_⟩, fun q => ⟨Or.inr rfl, ?_⟩⟩, fun q => absurd (by rw [nI_ltI (by omega) (by omega)]; omega) q⟩
      · have := h τ ht; rw [hV, r1 q] at this; exact this
      · have := h τ ht; rw [hV, r2 q] at this; exact this
    | succ m' ih =>
      intro m hm hb
      have inner : ∀ k' k, k + k' = N → (ein w mem f (f + m) (eou w mem f N m) k).1 = true → At hd_ro_isEven X0 63 [some (rf 51 115), some (iv (nI f)), some (iv (nI l)), some (jv (cA (ein w mem f (f + m) (eou w mem f N m) k).2.1)), none, some (jv (cB (ein w mem f (f + m) (eou w mem f N m) k).2.1)), none, some (jv (dA (ein w mem f (f + m) (eou w mem f N m) k).2.2)), none, some (jv (cB (ein w mem f (f + m) (eou w mem f N m) k).2.2)), none, some (iv (nI (f + m))), some (iv (nI (f + k))), none, none, none, none] [] τ (retI F) := by
        intro k'
        induction k' with
        | zero =>
          intro k hk hb2
          have : k = N := by omega
          subst this
          refine l_ro_isEven_63 _ _ _ _ _ _ _ _ _ _ ⟨fun _ => ?_, fun q => absurd (by rw [nI_ltI (by omega) (by omega)]; omega) q⟩
          rw [nI_1]
          exact ih (m + 1) (by omega) hb2
        | succ k' ih2 =>
          intro k hk hb2
          have mq : mem (f + k) < nh w := hmem _ (by omega)
          have mp : mem (f + m) < nh w := hmem _ (by omega)
          have r1 : τ 116 (f + k) = nI (mem (f + k)) := by rw [ht _ _ (by omega)]; exact hrow _ (by omega)
          have r2 : τ 116 (f + m) = nI (mem (f + m)) := by rw [ht _ _ (by omega)]; exact hrow _ (by omega)
          refine l_ro_isEven_63 _ _ _ _ _ _ _ _ _ _ ⟨fun q => ?_, fun _ => ?_⟩
          · exfalso; rw [nI_ltI (by omega) (by omega)] at q; omega
          rw [cl (f + k) (by omega), cl (f + m) (by omega), r1, r2, cl _ (by omega), cl _ (by omega), show τ 55 (mem (f + k)) = nI (hi w (mem (f + k))) from (hxt.1.2.2.2 _ mq).2.2.2.2.1, show τ 54 (mem (f + m)) = nI (lo w (mem (f + m))) from (hxt.1.2.2.2 _ mp).2.2.2.1]
          refine ⟨v12 _ (by omega), v12 _ (by omega), v12 _ (by omega), v12 _ (by omega), l_ro_isEven_103 _ _ _ _ _ _ _ _ _ _ _ ⟨v12 _ (by omega), v12 _ (by omega), ?_⟩⟩
          rw [cl (f + k) (by omega), cl (f + m) (by omega), hfar (f + k) (by omega) (by omega), hfar (f + m) (by omega) (by omega)]
          have bb := eBy_b w mem f (f + m) (f + k)
          have hok := ok_ein (w := w) (mem := mem) (f := f) (p := f + m) (ok_eou (w := w) (mem := mem) (f := f) (N := N) m) k
          have key := ih2 (k + 1) (by omega)
          have notbad : ∀ {A : Prop}, (eBy w mem f (f + m) (f + k)).toInt = 0 → (eUp w mem (f + m) (f + k)).toInt < 0 → F 0 τ := fun z1 z2 => by
            have hf : (ein w mem f (f + m) (eou w mem f N m) (k + 1)).1 = false := by
              show ((ein w mem f (f + m) (eou w mem f N m) k).1 && !(decide _ && decide _)) = false
              rw [decide_eq_true z1, decide_eq_true z2]; simp
            have hfin : (eou w mem f N N).1 = false := by
              rw [Bool.eq_false_iff]
              intro q
              have q1 := eou_m (k := m + 1) (n := N) (by omega) q
              have q2 := ein_m (k := k + 1) (n := N) (by omega) q1
              rw [hf] at q2; exact absurd q2 (by decide)
            have := h τ ht
            rw [hV] at this
            unfold evR at this
            rw [hfin] at this
            exact this
          show At hd_ro_isEven X0 121 [_, _, _, _, _, _, _, _, _, _, _, _, _, some (jv (eUp w mem (f + m) (f + k))), _, some (jv (eBy w mem f (f + m) (f + k))), _] _ _ _
          have good : ((eBy w mem f (f + m) (f + k)).toInt = 0 → 0 ≤ (eUp w mem (f + m) (f + k)).toInt) → (ein w mem f (f + m) (eou w mem f N m) (k + 1)).1 = true := fun z => by
            show ((ein w mem f (f + m) (eou w mem f N m) k).1 && !(decide _ && decide _)) = true
            rw [hb2]
            by_cases z1 : (eBy w mem f (f + m) (f + k)).toInt = 0
            · rw [decide_eq_false (p := (eUp w mem (f + m) (f + k)).toInt < 0) (by have := z z1; omega)]; simp
            · rw [decide_eq_false (p := (eBy w mem f (f + m) (f + k)).toInt = 0) z1]; simp
          have es1 : (ein w mem f (f + m) (eou w mem f N m) (k + 1)).2.1 = if 0 < (eBy w mem f (f + m) (f + k)).toInt then evM (eUp w mem (f + m) (f + k)) (eBy w mem f (f + m) (f + k)) (ein w mem f (f + m) (eou w mem f N m) k).2.1 else (ein w mem f (f + m) (eou w mem f N m) k).2.1 := rfl
          have es2 : (ein w mem f (f + m) (eou w mem f N m) (k + 1)).2.2 = if (eBy w mem f (f + m) (f + k)).toInt < 0 then evL (eUp w mem (f + m) (f + k)) (eBy w mem f (f + m) (f + k)) (ein w mem f (f + m) (eou w mem f N m) k).2.2 else (ein w mem f (f + m) (eou w mem f N m) k).2.2 := rfl
          rw [es1, es2] at key
          generalize eUp w mem (f + m) (f + k) = u at *
          generalize eBy w mem f (f + m) (f + k) = b at *
          generalize (ein w mem f (f + m) (eou w mem f N m) k) = e at *
          -- from 137 on
          have go : (b.toInt = 0 → 0 ≤ u.toInt) → At hd_ro_isEven X0 137 [some (rf 51 115), some (iv (nI f)), some (iv (nI l)), some (jv (cA e.2.1)), none, some (jv (cB e.2.1)), none, some (jv (dA e.2.2)), none, some (jv (cB e.2.2)), none, some (iv (nI (f + m))), some (iv (nI (f + k))), some (jv u), none, some (jv b), none] [] τ (retI F) := by
            intro gz
            have key := key (good gz)
            have at164 : At hd_ro_isEven X0 164 [some (rf 51 115), some (iv (nI f)), some (iv (nI l)), some (jv (cA (if 0 < b.toInt then evM u b e.2.1 else e.2.1))), none, some (jv (cB (if 0 < b.toInt then evM u b e.2.1 else e.2.1))), none, some (jv (dA e.2.2)), none, some (jv (cB e.2.2)), none, some (iv (nI (f + m))), some (iv (nI (f + k))), some (jv u), none, some (jv b), none] [] τ (retI F) := by
              refine l_ro_isEven_164 _ _ _ _ _ _ _ _ _ _ _ _ ?_
              rw [nI_1, lg_ge, tl_0]
              refine ⟨fun z => ?_, fun z => ?_⟩
              · rw [if_neg (show ¬ b.toInt < 0 by omega)] at key; exact key
              · rw [if_pos (show b.toInt < 0 by omega)] at key
                obtain ⟨y1, y2⟩ := x_even2 (u := u) (o := e.2.2) (show b.toInt < 0 by omega)
                refine ⟨fun q => ?_, fun q => ?_⟩
                · rw [y1 q] at key; exact key
                · rw [(y2 q).1, (y2 q).2] at key; exact key
            refine l_ro_isEven_137 _ _ _ _ _ _ _ _ _ _ _ _ ?_
            rw [lg_le, tl_0]
            refine ⟨fun z => ?_, fun z => ?_⟩
            · rw [if_neg (show ¬ 0 < b.toInt by omega)] at at164; exact at164
            · rw [if_pos (show 0 < b.toInt by omega)] at at164
              obtain ⟨y1, y2⟩ := x_even1 (u := u) (o := e.2.1) (show 0 < b.toInt by omega)
              refine ⟨fun q => ?_, fun q => ?_⟩
              · rw [y1 q] at at164; exact at164
              · rw [(y2 q).1, (y2 q).2] at at164; exact at164
          refine l_ro_isEven_121 _ _ _ _ _ _ _ _ _ _ _ _ ?_
          rw [lg_eq, lg_ge, tl_0]
          exact ⟨fun z => go fun y => absurd y z, fun z => ⟨fun y => go fun _ => y, fun y => ⟨Or.inl rfl, notbad (A := True) z (by omega)⟩⟩⟩
      refine l_ro_isEven_54 _ _ _ _ _ _ _ _ _ ⟨fun q => ?_, fun _ => inner N 0 (by omega) hb⟩
      exfalso; rw [nI_ltI (by omega) (by omega)] at q; omega
  have fars : ∀ m' j, f ≤ j → j + m' = l + 1 → ∀ τ, Fr (fun a _ => a = 117) σ τ → (∀ q, f ≤ q → q < j → τ 117 q = apt w (mem f) (mem q)) → At hd_ro_isEven X0 2 [some (rf 51 115), some (iv (nI f)), some (iv (nI l)), some (iv (nI j)), none, none, none, none, none, none, none, none, none, none, none, none, none] [] τ (retI F) := by
    intro m'
    induction m' with
    | zero =>
      intro j hfj hj τ ht hq
      refine l_ro_isEven_2 _ _ _ _ _ ⟨fun _ => ?_, fun q => absurd (by rw [nI_ltI (by omega) (by omega)]; omega) q⟩
      exact pairs τ ht (fun q h1 h2 => hq q h1 (by omega)) N 0 (by omega) rfl
    | succ m' ih =>
      intro j hfj hj τ ht hq
      have hxt : XW w τ := XW_e (fun a b h1 h2 => ht a b (by omega)) hx
      have r1 : τ 116 f = nI (mem f) := by rw [ht _ _ (by omega)]; exact hrow _ (by omega)
      have r2 : τ 116 j = nI (mem j) := by rw [ht _ _ (by omega)]; exact hrow _ (by omega)
      refine l_ro_isEven_2 _ _ _ _ _ ⟨fun q => ?_, fun _ => ⟨v12 f (by omega), v12 j (by omega), ?_⟩⟩
      · exfalso; rw [nI_ltI (by omega) (by omega)] at q; omega
      rw [cl f (by omega), cl j (by omega), r1, r2]
      refine x_apart hxt.1 hH (hmem _ (by omega)) (hmem _ (by omega)) _ ⟨v12 j (by omega), ?_⟩
      rw [nI_1]
      refine ih (j + 1) (by omega) (by omega) _ (ht.up rfl) fun q h1 h2 => ?_
      by_cases z : q = j
      · subst z; rw [up_at]
      · rw [up_jb _ _ z]; exact hq q h1 (by omega)
  exact e_ro_isEven _ _ _ _ (fars (l + 1 - f) f (Nat.le_refl _) (by omega) σ Fr.rf fun q h1 h2 => by omega)
