/-! the other side's isEven; even, bend, people, against -/
def PV (a b : Nat) : Prop := (133 ≤ a ∧ a ≤ 135) ∨ (a = 122 ∧ 22 ≤ b ∧ b ≤ 24)
theorem pv_mw {w : Wo} {σ τ : St} (h : Fr PV σ τ) (hm : mW w (σ 126) (σ 128)) : mW w (τ 126) (τ 128) := by
  have e1 : τ 126 = σ 126 := funext fun b => h 126 b (by unfold PV; omega)
  have e2 : τ 128 = σ 128 := funext fun b => h 128 b (by unfold PV; omega)
  rw [e1, e2]; exact hm
theorem lk_pv {σ τ : St} (h : Fr (fun a b => a = 122 ∧ 22 ≤ b ∧ b ≤ 24) σ τ) : Fr PV σ τ := h.mn fun a b q => Or.inr q
theorem m_even1 {u b : Int64} {o : Option P2} (ho : okP o) : (lg_cmp (cB o) 0 = 0 → o = none) ∧ (¬ lg_cmp (cB o) 0 = 0 → (0 ≤ lg_cmp (u * cB o) (zA o * b) → evM u b o = o) ∧ (¬ 0 ≤ lg_cmp (u * cB o) (zA o * b) → evM u b o = some (u, b))) := by
  cases o with
  | none => exact ⟨fun _ => rfl, fun q => absurd (by rw [lg_eq]; rfl) q⟩
  | some m =>
    refine ⟨fun q => ?_, fun _ => ⟨fun q => ?_, fun q => ?_⟩⟩
    · have := (ho m rfl).1; rw [lg_eq, tl_0] at q; simp only [cB] at q; omega
    · simp only [cB, zA] at q; simp only [evM]; rw [if_pos q]
    · simp only [cB, zA] at q; simp only [evM]; rw [if_neg q]
theorem m_even2 {u b : Int64} {o : Option P2} (ho : okP o) : (lg_cmp (cB o) 0 = 0 → o = none) ∧ (¬ lg_cmp (cB o) 0 = 0 → (lg_cmp (-u * cB o) (zA o * -b) ≤ 0 → evL u b o = o) ∧ (¬ lg_cmp (-u * cB o) (zA o * -b) ≤ 0 → evL u b o = some (-u, -b))) := by
  cases o with
  | none => exact ⟨fun _ => rfl, fun q => absurd (by rw [lg_eq]; rfl) q⟩
  | some m =>
    refine ⟨fun q => ?_, fun _ => ⟨fun q => ?_, fun q => ?_⟩⟩
    · have := (ho m rfl).1; rw [lg_eq, tl_0] at q; simp only [cB] at q; omega
    · simp only [cB, zA] at q; simp only [evL]; rw [if_pos q]
    · simp only [cB, zA] at q; simp only [evL]; rw [if_neg q]
theorem m_isEven {w : Wo} {σ : St} (hm : mW w (σ 126) (σ 128)) (hF : okF w) (hH : okH w) {n : Nat} {mem : Nat → Nat} (hn : n ≤ 12) (hmem : ∀ j, j < n → mem j < nh w) (hrow : ∀ j, j < n → σ 132 j = nI (mem j)) {f l : Nat} (hfl : f ≤ l) (hln : l < n) (F : Int32 → St → Prop) (h : ∀ ρ, Fr PV σ ρ → F (evV w mem f l) ρ) : CallI hd_m_isEven [rf 55 122, iv (nI f), iv (nI l)] σ F := by
  have nhh := hH.1
  have v12 : ∀ j, j < 12 → vp_in (nI j) 12 := fun j hj => vin0 j rfl hj (by decide)
  have cl : ∀ j, j < 1000 → (nI j).toNatClampNeg = j := fun j hj => nI_clamp (by omega)
  have hN : f + (l + 1 - f) = l + 1 := by omega
  generalize hNN : l + 1 - f = N at hN
  have hV : evV w mem f l = evR (eou w mem f N N) := by unfold evV; rw [hNN]
  have pairs : ∀ τ, Fr PV σ τ → (∀ j, f ≤ j → j ≤ l → τ 133 j = apt w (mem f) (mem j) ∧ τ 134 j = nI (lo w (mem j)) ∧ τ 135 j = nI (hi w (mem j))) → ∀ m' m, m + m' = N → At hd_m_isEven X0 84 [some (rf 55 122), some (iv (nI f)), some (iv (nI l)), some (iv (if (eou w mem f N m).1 then 1 else 0)), some (jv (zA (eou w mem f N m).2.2)), none, some (jv (cB (eou w mem f N m).2.2)), none, some (jv (zA (eou w mem f N m).2.1)), none, some (jv (cB (eou w mem f N m).2.1)), none, some (iv (nI (f + m))), none, none, none, none, none] [] τ (retI F) := by
    intro τ ht hfar m'
    induction m' with
    | zero =>
      intro m hm
      have : m = N := by omega
      subst this
      have fin := h τ ht
      rw [hV] at fin
      have hok := ok_eou (w := w) (mem := mem) (f := f) (N := m) m
      generalize eou w mem f m m = e at fin hok
      obtain ⟨b, o1, o2⟩ := e
      obtain ⟨k1, k2⟩ := hok
      refine l_m_isEven_84 _ _ _ _ _ _ _ _ _ _ ⟨fun _ => ?_, fun q => absurd (by rw [nI_ltI (by omega) (by omega)]; omega) q⟩
      show ((if b = true then (1 : Int32) else 0) = 0 → _) ∧ _
      rw [b10, Bool.not_eq_false]
      refine ⟨fun q => ⟨Or.inl rfl, ?_⟩, fun q => ?_⟩
      · subst q; exact fin
      subst q
      refine ⟨fun q => ⟨Or.inr rfl, ?_⟩, fun q => ⟨fun q2 => ⟨Or.inr rfl, ?_⟩, fun q2 => ?_⟩⟩
      · have z : o2 = none := (m_even2 (u := 0) (b := 0) k2).1 q
        subst z
        cases o1 <;> exact fin
      · have z : o1 = none := (m_even1 (u := 0) (b := 0) k1).1 q2
        subst z
        cases o2 <;> exact fin
      · cases o1 with
        | none => exact absurd (by rw [lg_eq]; rfl) q2
        | some m1 =>
          cases o2 with
          | none => exact absurd (by rw [lg_eq]; rfl) q
          | some m2 =>
            simp only [evR] at fin
            refine ⟨fun z => ⟨Or.inl rfl, ?_⟩, fun z => ⟨Or.inr rfl, ?_⟩⟩
            · simp only [zA, cB] at z
              rw [if_pos trivial, if_pos z] at fin; exact fin
            · simp only [zA, cB] at z
              rw [if_pos trivial, if_neg z] at fin; exact fin
    | succ m' ih =>
      intro m hm
      have inner : ∀ k' k, k + k' = N → At hd_m_isEven X0 93 [some (rf 55 122), some (iv (nI f)), some (iv (nI l)), some (iv (if (ein w mem f (f + m) (eou w mem f N m) k).1 then 1 else 0)), some (jv (zA (ein w mem f (f + m) (eou w mem f N m) k).2.2)), none, some (jv (cB (ein w mem f (f + m) (eou w mem f N m) k).2.2)), none, some (jv (zA (ein w mem f (f + m) (eou w mem f N m) k).2.1)), none, some (jv (cB (ein w mem f (f + m) (eou w mem f N m) k).2.1)), none, some (iv (nI (f + m))), some (iv (nI (f + k))), none, none, none, none] [] τ (retI F) := by
        intro k'
        induction k' with
        | zero =>
          intro k hk
          have : k = N := by omega
          subst this
          refine l_m_isEven_93 _ _ _ _ _ _ _ _ _ _ _ ⟨fun _ => ?_, fun q => absurd (by rw [nI_ltI (by omega) (by omega)]; omega) q⟩
          rw [nI_1]
          exact ih (m + 1) (by omega)
        | succ k' ih2 =>
          intro k hk
          refine l_m_isEven_93 _ _ _ _ _ _ _ _ _ _ _ ⟨fun q => ?_, fun _ => ?_⟩
          · exfalso; rw [nI_ltI (by omega) (by omega)] at q; omega
          rw [cl (f + k) (by omega), cl (f + m) (by omega), (hfar (f + k) (by omega) (by omega)).1, (hfar (f + m) (by omega) (by omega)).1]
          refine ⟨v12 _ (by omega), v12 _ (by omega), l_m_isEven_117 _ _ _ _ _ _ _ _ _ _ _ _ ⟨v12 _ (by omega), v12 _ (by omega), ?_⟩⟩
          rw [cl (f + k) (by omega), cl (f + m) (by omega), (hfar (f + k) (by omega) (by omega)).2.2, (hfar (f + m) (by omega) (by omega)).2.1]
          have bb := eBy_b w mem f (f + m) (f + k)
          have hok := ok_ein (w := w) (mem := mem) (f := f) (p := f + m) (ok_eou (w := w) (mem := mem) (f := f) (N := N) m) k
          have key := ih2 (k + 1) (by omega)
          show At hd_m_isEven X0 135 [_, _, _, _, _, _, _, _, _, _, _, _, _, _, some (jv (eBy w mem f (f + m) (f + k))), _, some (jv (eUp w mem (f + m) (f + k))), _] _ _ _
          have es0 : (ein w mem f (f + m) (eou w mem f N m) (k + 1)).1 = ((ein w mem f (f + m) (eou w mem f N m) k).1 && !(decide ((eBy w mem f (f + m) (f + k)).toInt = 0) && decide ((eUp w mem (f + m) (f + k)).toInt < 0))) := rfl
          have es1 : (ein w mem f (f + m) (eou w mem f N m) (k + 1)).2.1 = if 0 < (eBy w mem f (f + m) (f + k)).toInt then evM (eUp w mem (f + m) (f + k)) (eBy w mem f (f + m) (f + k)) (ein w mem f (f + m) (eou w mem f N m) k).2.1 else (ein w mem f (f + m) (eou w mem f N m) k).2.1 := rfl
          have es2 : (ein w mem f (f + m) (eou w mem f N m) (k + 1)).2.2 = if (eBy w mem f (f + m) (f + k)).toInt < 0 then evL (eUp w mem (f + m) (f + k)) (eBy w mem f (f + m) (f + k)) (ein w mem f (f + m) (eou w mem f N m) k).2.2 else (ein w mem f (f + m) (eou w mem f N m) k).2.2 := rfl
          rw [es0, es1, es2] at key
          generalize eUp w mem (f + m) (f + k) = u at *
          generalize eBy w mem f (f + m) (f + k) = b at *
          generalize (ein w mem f (f + m) (eou w mem f N m) k) = e at *
          obtain ⟨eb, o1, o2⟩ := e
          obtain ⟨k1, k2⟩ := hok
          simp only at key k1 k2 ⊢
          refine l_m_isEven_135 _ _ _ _ _ _ _ _ _ _ _ _ _ ?_
          rw [nI_1, lg_eq, lg_le, lg_lt, tl_0]
          have nz : ¬ b.toInt = 0 → (eb && !(decide (b.toInt = 0) && decide (u.toInt < 0))) = eb := fun z => by rw [decide_eq_false z]; simp
          refine ⟨fun z => ?_, fun z => ?_⟩
          · rw [nz z] at key
            have at201 : (0 < b.toInt → evM u b o1 = o1) → At hd_m_isEven X0 201 [some (rf 55 122), some (iv (nI f)), some (iv (nI l)), some (iv (if eb = true then 1 else 0)), some (jv (zA o2)), none, some (jv (cB o2)), none, some (jv (zA o1)), none, some (jv (cB o1)), none, some (iv (nI (f + m))), some (iv (nI (f + k))), some (jv b), none, some (jv u), none] [] τ (retI F) := by
              intro gz
              have key : At hd_m_isEven X0 93 [some (rf 55 122), some (iv (nI f)), some (iv (nI l)), some (iv (if eb = true then 1 else 0)), some (jv (zA (if b.toInt < 0 then evL u b o2 else o2))), none, some (jv (cB (if b.toInt < 0 then evL u b o2 else o2))), none, some (jv (zA o1)), none, some (jv (cB o1)), none, some (iv (nI (f + m))), some (iv (nI (f + (k + 1)))), none, none, none, none] [] τ (retI F) := by
                by_cases c : 0 < b.toInt
                · rw [if_pos c, gz c] at key; exact key
                · rw [if_neg c] at key; exact key
              refine l_m_isEven_201 _ _ _ _ _ _ _ _ _ _ _ _ _ ?_
              rw [nI_1, lg_ge, tl_0]
              refine ⟨fun y => ?_, fun y => ?_⟩
              · rw [if_neg (show ¬ b.toInt < 0 by omega)] at key; exact key
              · rw [if_pos (show b.toInt < 0 by omega)] at key
                obtain ⟨y1, y2⟩ := m_even2 (u := u) (b := b) k2
                have upd : evL u b o2 = some (-u, -b) → At hd_m_isEven X0 231 [some (rf 55 122), some (iv (nI f)), some (iv (nI l)), some (iv (if eb = true then 1 else 0)), some (jv (zA o2)), none, some (jv (cB o2)), none, some (jv (zA o1)), none, some (jv (cB o1)), none, some (iv (nI (f + m))), some (iv (nI (f + k))), some (jv b), none, some (jv u), none] [] τ (retI F) := fun e => by
                  refine l_m_isEven_231 _ _ _ _ _ _ _ _ _ _ _ _ _ ?_
                  rw [nI_1]
                  rw [e] at key; exact key
                refine ⟨fun q => upd (by rw [y1 q]; rfl), fun q => ⟨fun q2 => ?_, fun q2 => upd ((y2 q).2 q2)⟩⟩
                rw [(y2 q).1 q2] at key; exact key
            refine ⟨fun y => at201 fun q => by omega, fun y => ?_⟩
            obtain ⟨y1, y2⟩ := m_even1 (u := u) (b := b) k1
            have upd : evM u b o1 = some (u, b) → At hd_m_isEven X0 190 [some (rf 55 122), some (iv (nI f)), some (iv (nI l)), some (iv (if eb = true then 1 else 0)), some (jv (zA o2)), none, some (jv (cB o2)), none, some (jv (zA o1)), none, some (jv (cB o1)), none, some (iv (nI (f + m))), some (iv (nI (f + k))), some (jv b), none, some (jv u), none] [] τ (retI F) := fun e => by
              refine l_m_isEven_190 _ _ _ _ _ _ _ _ _ _ _ _ _ ?_
              rw [nI_1]
              rw [if_pos (show 0 < b.toInt by omega), if_neg (show ¬ b.toInt < 0 by omega), e] at key; exact key
            refine ⟨fun q => upd ?_, fun q => ⟨fun q2 => at201 fun _ => (y2 q).1 q2, fun q2 => upd ((y2 q).2 q2)⟩⟩
            rw [y1 q]; rfl
          · rw [if_neg (show ¬ 0 < b.toInt by omega), if_neg (show ¬ b.toInt < 0 by omega), decide_eq_true z, Bool.true_and] at key
            rw [b10, Bool.not_eq_false]
            refine ⟨fun q => ?_, fun q => ⟨fun q2 => ?_, fun q2 => ?_⟩⟩
            · subst q; exact key
            · subst q; rw [decide_eq_true q2] at key; exact key
            · subst q; rw [decide_eq_false q2] at key; exact key
      refine l_m_isEven_84 _ _ _ _ _ _ _ _ _ _ ⟨fun q => ?_, fun _ => inner N 0 (by omega)⟩
      exfalso; rw [nI_ltI (by omega) (by omega)] at q; omega
  have fars : ∀ m' j, f ≤ j → j + m' = l + 1 → ∀ τ, Fr PV σ τ → (∀ q, f ≤ q → q < j → τ 133 q = apt w (mem f) (mem q) ∧ τ 134 q = nI (lo w (mem q)) ∧ τ 135 q = nI (hi w (mem q))) → At hd_m_isEven X0 2 [some (rf 55 122), some (iv (nI f)), some (iv (nI l)), some (iv (nI j)), none, none, none, none, none, none, none, none, none, none, none, none, none, none] [] τ (retI F) := by
    intro m'
    induction m' with
    | zero =>
      intro j hfj hj τ ht hq
      refine l_m_isEven_2 _ _ _ _ _ ⟨fun _ => ?_, fun q => absurd (by rw [nI_ltI (by omega) (by omega)]; omega) q⟩
      exact pairs τ ht (fun q h1 h2 => hq q h1 (by omega)) N 0 (by omega)
    | succ m' ih =>
      intro j hfj hj τ ht hq
      have row : ∀ ρ, Fr PV σ ρ → ∀ q, q < n → ρ 132 q = nI (mem q) := fun ρ hr q hq => by rw [hr _ _ (by unfold PV; omega)]; exact hrow q hq
      refine l_m_isEven_2 _ _ _ _ _ ⟨fun q => ?_, fun _ => ⟨v12 f (by omega), v12 j (by omega), ?_⟩⟩
      · exfalso; rw [nI_ltI (by omega) (by omega)] at q; omega
      rw [cl f (by omega), cl j (by omega), row τ ht f (by omega), row τ ht j (by omega)]
      refine m_apart (pv_mw ht hm) hH (hmem _ (by omega)) (hmem _ (by omega)) _ ⟨v12 j (by omega), v12 j (by omega), ?_⟩
      have f1 : Fr PV σ (up τ 133 j (apt w (mem f) (mem j))) := ht.up (Or.inl (by omega))
      rw [row _ f1 j (by omega)]
      refine m_low (pv_mw f1 hm) hF hH (hmem _ (by omega)) _ fun ρ hr => ⟨v12 j (by omega), v12 j (by omega), ?_⟩
      have f2 : Fr PV σ (up ρ 134 j (nI (lo w (mem j)))) := (f1.tr (lk_pv hr)).up (Or.inl (by omega))
      rw [row _ f2 j (by omega)]
      refine m_high (pv_mw f2 hm) hF hH (hmem _ (by omega)) _ fun κ hκ => ⟨v12 j (by omega), ?_⟩
      rw [nI_1]
      refine ih (j + 1) (by omega) (by omega) _ ((f2.tr (lk_pv hκ)).up (Or.inl (by omega))) fun q h1 h2 => ?_
      rw [up_ka _ _ (by omega), up_ka _ _ (by omega), hκ 133 q (by omega), hκ 134 q (by omega), up_ka _ _ (by omega), hr 133 q (by omega)]
      by_cases z : q = j
      · subst z; rw [up_at, up_at, up_at]; exact ⟨rfl, rfl, rfl⟩
      · rw [up_jb _ _ z, up_jb _ _ z, up_jb _ _ z, hκ 135 q (by omega), hr 134 q (by omega), up_ka _ _ (by omega), up_ka _ _ (by omega), hr 135 q (by omega), up_ka _ _ (by omega)]
        exact hq q h1 (by omega)
  exact e_m_isEven _ _ _ _ (fars (l + 1 - f) f (Nat.le_refl _) (by omega) σ Fr.rf fun q h1 h2 => by omega)
