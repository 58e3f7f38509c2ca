theorem pk_sub1 (n k : Nat) (h : k < n) : nI n - 1 - nI k = nI (n - 1 - k) := by
  rw [show (1 : Int32) = nI 1 from rfl, pk_sub (by omega), pk_sub (by omega)]
theorem l_copy (a i b j n : Nat) (up1 : Bool) (ha : a < 8) (hb : b < 8) (hi : i + n ≤ 40) (hj : j + n ≤ 40) (hup : up1 = true → 40 * b + j ≤ 40 * a + i ∨ 40 * a + i + n ≤ 40 * b + j) (hdn : up1 = false → 40 * a + i ≤ 40 * b + j ∨ 40 * b + j + n ≤ 40 * a + i) (σ : St) (F : Int32 → St → Prop) (h : F (nI n) (upr σ 125 (va_cpy (σ 125) (σ 125) (40 * a + i) (40 * b + j) n))) :
    At hd_m_copy X0 143 [some (rf 55 122), some (iv (nI a)), some (iv (nI i)), some (iv (nI b)), some (iv (nI j)), some (iv (nI n)), some (iv (if up1 then 1 else 0)), some (iv 0), none] [] σ (retI F) := by
  have pic : ∀ t, t ≤ n → ∃ f : Nat → Int32, f = fun x => if (if up1 then 40 * b + j ≤ x ∧ x < 40 * b + j + t else 40 * b + j + (n - t) ≤ x ∧ x < 40 * b + j + n) then σ 125 (40 * a + i + (x - (40 * b + j))) else σ 125 x := fun t _ => ⟨_, rfl⟩
  have loop : ∀ (m t : Nat), t + m = n → ∀ f : Nat → Int32, (f = fun x => if (if up1 then 40 * b + j ≤ x ∧ x < 40 * b + j + t else 40 * b + j + (n - t) ≤ x ∧ x < 40 * b + j + n) then σ 125 (40 * a + i + (x - (40 * b + j))) else σ 125 x) → At hd_m_copy X0 143 [some (rf 55 122), some (iv (nI a)), some (iv (nI i)), some (iv (nI b)), some (iv (nI j)), some (iv (nI n)), some (iv (if up1 then 1 else 0)), some (iv (nI t)), none] [] (upr σ 125 f) (retI F) := by
    intro m
    induction m with
    | zero =>
      intro t ht f hf
      have ht : t = n := by omega
      subst ht
      refine l_m_copy_143 _ _ _ _ _ _ _ _ F ⟨fun _ => ?_, fun q => ?_⟩
      · have e : f = va_cpy (σ 125) (σ 125) (40 * a + i) (40 * b + j) t := by
          rw [hf]
          funext x
          unfold va_cpy
          cases up1
          · simp only [Bool.false_eq_true, if_false, Nat.sub_self, Nat.add_zero]
          · simp only [if_true]
        rw [e]
        exact h
      · exact absurd ((fa_le _ _).mpr (Int.le_refl _)) q
    | succ m ih =>
      intro t ht f hf
      have body : ∀ at1 : Nat, at1 = (if up1 then t else n - 1 - t) → At hd_m_copy X0 167 [some (rf 55 122), some (iv (nI a)), some (iv (nI i)), some (iv (nI b)), some (iv (nI j)), some (iv (nI n)), some (iv (if up1 then 1 else 0)), some (iv (nI t)), none] [iv (nI at1)] (upr σ 125 f) (retI F) := by
        intro at1 hat
        have hlt : at1 < n := by cases up1 <;> simp at hat <;> omega
        have x1 : 40 * nI a + nI i + nI at1 = nI (40 * a + i + at1) := by rw [show (40 : Int32) = nI 40 from rfl, pk_mul, nI_add, nI_add]
        have x2 : 40 * nI b + nI j + nI at1 = nI (40 * b + j + at1) := by rw [show (40 : Int32) = nI 40 from rfl, pk_mul, nI_add, nI_add]
        refine l_m_copy_167 _ _ _ _ _ _ _ _ _ F ⟨?_, ?_, ?_⟩
        · rw [x1, vin, ti_nI (by omega)]; omega
        · rw [x2, vin, ti_nI (by omega)]; omega
        · rw [x1, x2, nI_clamp (by omega), nI_clamp (by omega), nI_1]
          have e : up (upr σ 125 f) 125 (40 * b + j + at1) (upr σ 125 f 125 (40 * a + i + at1)) = upr σ 125 (upd f (40 * b + j + at1) (f (40 * a + i + at1))) := by
            apply st_ext
            intro p q
            by_cases hp : p = 125
            · subst hp
              rw [upr_kb, upr_kb]
              by_cases hq : q = 40 * b + j + at1
              · subst hq; rw [up_at, pk_us]
              · rw [up_jb _ _ hq, upr_kb, pk_un hq]
            · rw [up_ka _ _ hp, upr_ka _ _ hp, upr_ka _ _ hp]
          rw [e]
          refine ih (t + 1) (by omega) _ ?_
          have hsrc : f (40 * a + i + at1) = σ 125 (40 * a + i + at1) := by
            rw [hf]
            cases up1
            · simp only [Bool.false_eq_true, if_false] at hat ⊢
              rw [if_neg]
              rcases hdn rfl with h1 | h1 <;> omega
            · simp only [if_true] at hat ⊢
              rw [if_neg]
              rcases hup rfl with h1 | h1 <;> omega
          rw [hsrc]
          funext x
          by_cases hx : x = 40 * b + j + at1
          · subst hx
            rw [pk_us]
            cases up1
            · simp only [Bool.false_eq_true, if_false] at hat ⊢
              rw [if_pos (by omega)]
              congr 1; omega
            · simp only [if_true] at hat ⊢
              rw [if_pos (by omega)]
              congr 1; omega
          · rw [pk_un hx, hf]
            cases up1
            · simp only [Bool.false_eq_true, if_false] at hat ⊢
              by_cases hc : 40 * b + j + (n - t) ≤ x ∧ x < 40 * b + j + n
              · rw [if_pos hc, if_pos (by omega)]
              · rw [if_neg hc, if_neg (by omega)]
            · simp only [if_true] at hat ⊢
              by_cases hc : 40 * b + j ≤ x ∧ x < 40 * b + j + t
              · rw [if_pos hc, if_pos (by omega)]
              · rw [if_neg hc, if_neg (by omega)]
      refine l_m_copy_143 _ _ _ _ _ _ _ _ F ⟨fun q => ?_, fun _ => ⟨fun q => ?_, fun q => ?_⟩⟩
      · exfalso
        rw [fa_le, ti_nI (by omega), ti_nI (by omega)] at q
        omega
      · cases up1
        · rw [pk_sub1 n t (by omega)]
          exact body _ rfl
        · exact absurd q (by decide)
      · cases up1
        · exact absurd rfl q
        · exact body _ rfl
  have := loop n 0 (by omega) (σ 125) (by
    funext x
    cases up1
    · simp only [Bool.false_eq_true, if_false]
      rw [if_neg (by omega)]
    · simp only [if_true]
      rw [if_neg (by omega)])
  have e : upr σ 125 (σ 125) = σ := by
    apply st_ext
    intro p q
    by_cases hp : p = 125
    · subst hp; rw [upr_kb]
    · rw [upr_ka _ _ hp]
  rw [e] at this
  exact this
theorem r_copy (a1 a2 a3 a4 a5 : Int32) (σ : St) (G : Int32 → Int32 → St → Prop) (hR : RSh σ) (hT : σ 0 10 = σ 122 1) (k : KSh σ G) :
    CallI hd_x_copy [rf 54 0, iv a1, iv a2, iv a3, iv a4, iv a5] σ (fun r σ1 => CallI hd_m_copy [rf 55 122, iv a1, iv a2, iv a3, iv a4, iv a5] σ1 (fun r' σ2 => G r r' σ2)) := by
  refine e_x_copy a1 a2 a3 a4 a5 σ _ (q_x_isBelow _ _ _ _ ?_)
  rw [v_below, t_8]
  by_cases h1 : 0 ≤ a1.toInt ∧ a1.toInt < 8
  rotate_left
  · rw [if_neg h1]
    refine ⟨fun _ => ?_, fun q => absurd rfl q⟩
    refine e_m_copy a1 a2 a3 a4 a5 _ _ (q_m_isSheet _ _ _ ?_)
    rw [v_isSheet, if_neg h1]
    exact ⟨fun _ => k_bad hR hT k _, fun q => absurd rfl q⟩
  rw [if_pos h1]
  refine ⟨fun q => absurd q (by decide), fun _ => q_x_isBelow _ _ _ _ ?_⟩
  rw [v_below, t_8]
  by_cases h3 : 0 ≤ a3.toInt ∧ a3.toInt < 8
  rotate_left
  · rw [if_neg h3]
    refine ⟨fun q => absurd rfl q, fun _ => ?_⟩
    refine e_m_copy a1 a2 a3 a4 a5 _ _ (q_m_isSheet _ _ _ ?_)
    rw [v_isSheet, if_pos h1]
    refine ⟨fun q => absurd q (by decide), fun _ => q_m_isSheet _ _ _ ?_⟩
    rw [v_isSheet, if_neg h3]
    exact ⟨fun q => absurd rfl q, fun _ => k_bad hR hT k _⟩
  rw [if_pos h3]
  obtain ⟨a, ha, e1, e2, e3⟩ := ixe h1 (by decide)
  obtain ⟨b, hb, f1, f2, f3⟩ := ixe h3 (by decide)
  obtain ⟨ga1, ga2, ga3⟩ := hR a ha
  obtain ⟨gb1, gb2, gb3⟩ := hR b hb
  refine ⟨fun _ => ⟨vin.mpr h1, vin.mpr h3, q_sh_isMissing _ _ _ ?_⟩, fun q => absurd q (by decide)⟩
  -- the other side up to the findings
  have other : ∀ (τ : St) (F : Int32 → St → Prop), τ 123 = σ 123 → (
      (((up (up τ 122 0 0) 122 1 0) 123 a) < 0 → F (-1000010 - 1) (up (up (up τ 122 0 0) 122 1 0) 122 1 1)) ∧ (¬ ((up (up τ 122 0 0) 122 1 0) 123 a) < 0 → (0 ≤ ((up (up τ 122 0 0) 122 1 0) 123 b) → ((((up (up τ 122 0 0) 122 1 0) 123 a) = ((up (up τ 122 0 0) 122 1 0) 123 b) → (a2 < 0 → F (-1000010 - 2) (up (up (up τ 122 0 0) 122 1 0) 122 1 2)) ∧ (¬ a2 < 0 → (a4 < 0 → F (-1000010 - 2) (up (up (up τ 122 0 0) 122 1 0) 122 1 2)) ∧ (¬ a4 < 0 → (a5 < 0 → F (-1000010 - 2) (up (up (up τ 122 0 0) 122 1 0) 122 1 2)) ∧ (¬ a5 < 0 → (((τ 124 a).toInt < a2.toInt + a5.toInt → F (-1000010 - 2) (up (up (up τ 122 0 0) 122 1 0) 122 1 2)) ∧ (¬ (τ 124 a).toInt < a2.toInt + a5.toInt → ((a4.toInt + a5.toInt ≤ (τ 124 b).toInt → At hd_m_copy X0 143 [some (rf 55 122), some (iv a1), some (iv a2), some (iv a3), some (iv a4), some (iv a5), some (iv (if decide (¬ a2 < a4) then 1 else 0)), some (iv 0), none] [] (up (up τ 122 0 0) 122 1 0) (retI F)) ∧ (¬ a4.toInt + a5.toInt ≤ (τ 124 b).toInt → F (-1000010 - 2) (up (up (up τ 122 0 0) 122 1 0) 122 1 2))))))))) ∧ (¬ ((up (up τ 122 0 0) 122 1 0) 123 a) = ((up (up τ 122 0 0) 122 1 0) 123 b) → F (-1000010 - 5) (up (up (up τ 122 0 0) 122 1 0) 122 1 5)))) ∧ (¬ 0 ≤ ((up (up τ 122 0 0) 122 1 0) 123 b) → F (-1000010 - 1) (up (up (up τ 122 0 0) 122 1 0) 122 1 1)))) → CallI hd_m_copy [rf 55 122, iv a1, iv a2, iv a3, iv a4, iv a5] τ F := by
    intro τ F hτ H
    refine e_m_copy a1 a2 a3 a4 a5 _ _ (q_m_isSheet _ _ _ ?_)
    rw [v_isSheet, if_pos h1]
    refine ⟨fun q => absurd q (by decide), fun _ => q_m_isSheet _ _ _ ?_⟩
    rw [v_isSheet, if_pos h3]
    refine ⟨fun _ => ⟨vin.mpr h1, ?_⟩, fun q => absurd q (by decide)⟩
    rw [e2, f2]
    simp only [lg_gt, lg_le, l_add32, i2l]
    have u1 : ∀ x, up (up τ 122 0 0) 122 1 0 124 x = τ 124 x := fun x => by simp (disch := omega) only [up_at, up_ka, up_jb]
    rw [u1, u1]
    refine ⟨fun q => e_m_finding _ _ _ (H.1 q), fun q => ⟨vin.mpr h3, fun q2 => ⟨vin.mpr h1, vin.mpr h3, fun q3 => ?_, fun q3 => e_m_finding _ _ _ (((H.2 q).1 q2).2 q3)⟩, fun q2 => e_m_finding _ _ _ ((H.2 q).2 q2)⟩⟩
    have H3 := ((H.2 q).1 q2).1 q3
    refine ⟨fun q4 => e_m_finding _ _ _ (H3.1 q4), fun q4 => ⟨fun q5 => e_m_finding _ _ _ ((H3.2 q4).1 q5), fun q5 => ⟨fun q6 => e_m_finding _ _ _ (((H3.2 q4).2 q5).1 q6), fun q6 => ⟨vin.mpr h1, fun q7 => e_m_finding _ _ _ ((((H3.2 q4).2 q5).2 q6).1 q7), fun q7 => ⟨vin.mpr h3, fun q8 => ?_, fun q8 => e_m_finding _ _ _ (((((H3.2 q4).2 q5).2 q6).2 q7).2 q8)⟩⟩⟩⟩⟩
    have H4 := ((((H3.2 q4).2 q5).2 q6).2 q7).1 q8
    refine ⟨fun q9 => ?_, fun q9 => ?_⟩
    · rw [decide_eq_false (by simpa using q9)] at H4
      exact H4
    · rw [decide_eq_true q9] at H4
      exact H4
  have l123 : ∀ (v : Int32) (x : Nat), up (up (up σ 0 10 v) 122 0 0) 122 1 0 123 x = σ 123 x := fun v x => by simp (disch := omega) only [up_at, up_ka, up_jb]
  have c123 : ∀ v, up σ 0 10 v 123 = σ 123 := fun v => by funext x; simp (disch := omega) only [up_at, up_ka, up_jb]
  have c124 : ∀ (v : Int32) (x : Nat), up σ 0 10 v 124 x = σ 124 x := fun v x => by simp (disch := omega) only [up_at, up_ka, up_jb]
  rw [v_missing, e2, f2]
  by_cases m1 : (σ (2 + 2 * a) 1).toInt = -1
  · rw [if_pos m1]
    refine ⟨fun _ => e_x_found _ _ _ (other _ _ (c123 _) ⟨fun _ => k_find hR k 1 0 _ rfl, fun q => ?_⟩), fun q => absurd q (by decide)⟩
    exfalso
    apply q
    rw [l123, ga2, fa_lt, t_0]
    omega
  rw [if_neg m1]
  refine ⟨fun q => absurd rfl q, fun _ => q_sh_isMissing _ _ _ ?_⟩
  rw [v_missing]
  have na : ¬ σ 123 a < 0 := by rw [ga2, fa_lt, t_0]; omega
  by_cases m2 : (σ (2 + 2 * b) 1).toInt = -1
  · rw [if_pos m2]
    refine ⟨fun q => absurd q (by decide), fun _ => e_x_found _ _ _ (other _ _ (c123 _) ⟨fun q => ?_, fun _ => ⟨fun q => ?_, fun _ => k_find hR k 1 0 _ rfl⟩⟩)⟩
    · rw [l123] at q; exact absurd q na
    · exfalso
      rw [l123, gb2, fa_le, t_0] at q
      omega
  rw [if_neg m2]
  have nb : 0 ≤ σ 123 b := by rw [gb2, fa_le, t_0]; omega
  obtain ⟨ga5, ga6, ga7⟩ := ga3 (by omega)
  obtain ⟨gb5, gb6, gb7⟩ := gb3 (by omega)
  refine ⟨fun _ => ⟨fun s1 => q_sh_has _ _ _ _ _ ?_, fun s1 => ?_⟩, fun q => absurd rfl q⟩
  rotate_left
  · refine e_x_found _ _ _ (other _ _ (c123 _) ⟨fun q => ?_, fun _ => ⟨fun _ => ⟨fun q => ?_, fun _ => k_find hR k 5 0 _ rfl⟩, fun q => ?_⟩⟩)
    · rw [l123] at q; exact absurd q na
    · rw [l123, l123, ga2, gb2] at q; exact absurd q s1
    · rw [l123] at q; exact absurd nb q
  have sab : ∀ v, up (up (up σ 0 10 v) 122 0 0) 122 1 0 123 a = up (up (up σ 0 10 v) 122 0 0) 122 1 0 123 b := fun v => by rw [l123, l123, ga2, gb2, s1]
  -- a place that isn't there, on the other side
  have place : ¬ (0 ≤ a2.toInt ∧ 0 ≤ a5.toInt ∧ a2.toInt + a5.toInt ≤ (σ (2 + 2 * a) 2).toInt ∧ 0 ≤ a4.toInt ∧ a4.toInt + a5.toInt ≤ (σ (2 + 2 * b) 2).toInt) → CallI hd_m_copy [rf 55 122, iv a1, iv a2, iv a3, iv a4, iv a5] (up σ 0 10 2) (fun r' σ2 => G (-1000010 - 2) r' σ2) := by
    intro np
    refine other _ _ (c123 _) ⟨fun q => ?_, fun _ => ⟨fun _ => ⟨fun _ => ?_, fun q => absurd (sab _) q⟩, fun q => ?_⟩⟩
    · rw [l123] at q; exact absurd q na
    · refine ⟨fun _ => k_find hR k 2 0 _ rfl, fun q4 => ⟨fun _ => k_find hR k 2 0 _ rfl, fun q5 => ⟨fun _ => k_find hR k 2 0 _ rfl, fun q6 => ⟨fun _ => k_find hR k 2 0 _ rfl, fun q7 => ⟨fun q8 => ?_, fun _ => k_find hR k 2 0 _ rfl⟩⟩⟩⟩⟩
      exfalso
      rw [c124, ga5] at q7
      rw [c124, gb5] at q8
      rw [fa_lt, t_0] at q4 q5 q6
      exact np ⟨by omega, by omega, by omega, by omega, by omega⟩
    · rw [l123] at q; exact absurd nb q
  rw [v_has _ _ _ _ (by rw [l_add32, i2l, i2l]), i2l, i2l]
  by_cases p1 : 0 ≤ a2.toInt ∧ 0 ≤ a5.toInt ∧ a2.toInt + a5.toInt ≤ (σ (2 + 2 * a) 2).toInt
  rotate_left
  · rw [if_neg p1]
    exact ⟨fun _ => e_x_found _ _ _ (place (by omega)), fun q => absurd rfl q⟩
  rw [if_pos p1]
  refine ⟨fun q => absurd q (by decide), fun _ => q_sh_has _ _ _ _ _ ?_⟩
  rw [v_has _ _ _ _ (by rw [l_add32, i2l, i2l]), i2l, i2l]
  by_cases p2 : 0 ≤ a4.toInt ∧ 0 ≤ a5.toInt ∧ a4.toInt + a5.toInt ≤ (σ (2 + 2 * b) 2).toInt
  rotate_left
  · rw [if_neg p2]
    exact ⟨fun q => absurd rfl q, fun _ => e_x_found _ _ _ (place (by omega))⟩
  rw [if_pos p2]
  obtain ⟨i, hi, i1, i2, i3⟩ := ixe (x := a2) (n := 41) (by omega) (by decide)
  obtain ⟨j, hj, j1, j2, j3⟩ := ixe (x := a4) (n := 41) (by omega) (by decide)
  obtain ⟨n, hn, n1, n2, n3⟩ := ixe (x := a5) (n := 41) (by omega) (by decide)
  refine ⟨fun _ => ⟨⟨?_, ?_, ?_, ?_, ?_⟩, fun τ hτ => e_x_unfound _ _ _ ?_⟩, fun q => absurd q (by decide)⟩
  · rw [fa_lt, t_0]; omega
  · rw [fa_lt, t_0]; omega
  · rw [fa_lt, t_0]; omega
  · omega
  · omega
  rw [i2, j2, n2] at hτ
  have hτ0 : ∀ p q, p ≠ 3 + 2 * b → τ p q = σ p q := fun p q hp => by rw [hτ, upr_ka _ _ (by omega)]
  have hτ1 : ∀ q, τ (3 + 2 * b) q = va_cpy (σ (3 + 2 * a)) (σ (3 + 2 * b)) i j n q := fun q => by
    rw [hτ, show 3 + 2 * b = 2 + 2 * b + 1 by omega, upr_kb, show 3 + 2 * a = 2 + 2 * a + 1 by omega]
  have d123 : up τ 0 10 0 123 = σ 123 := by funext x; rw [up_ka _ _ (by omega), hτ0 _ _ (by omega)]
  have d124 : ∀ x, up τ 0 10 0 124 x = σ 124 x := fun x => by rw [up_ka _ _ (by omega), hτ0 _ _ (by omega)]
  have k123 : ∀ x, up (up (up τ 0 10 0) 122 0 0) 122 1 0 123 x = σ 123 x := fun x => by
    simp (disch := omega) only [up_at, up_ka, up_jb]; exact hτ0 _ _ (by omega)
  refine other _ _ d123 ⟨fun q => ?_, fun _ => ⟨fun _ => ⟨fun _ => ⟨fun q => ?_, fun _ => ⟨fun q => ?_, fun _ => ⟨fun q => ?_, fun _ => ⟨fun q => ?_, fun _ => ⟨fun _ => ?_, fun q => ?_⟩⟩⟩⟩⟩, fun q => ?_⟩, fun q => ?_⟩⟩
  · rw [k123] at q; exact absurd q na
  · rw [fa_lt, t_0] at q; omega
  · rw [fa_lt, t_0] at q; omega
  · rw [fa_lt, t_0] at q; omega
  · rw [d124, ga5] at q; omega
  · have hdec : (decide (¬ a2 < a4) = true ↔ j ≤ i) := by rw [decide_eq_true_eq, fa_lt]; omega
    have hdec2 : (decide (¬ a2 < a4) = false ↔ i < j) := by rw [decide_eq_false_iff_not, Classical.not_not, fa_lt]; omega
    have key := l_copy a i b j n (decide (¬ a2 < a4)) ha hb (by omega) (by omega) (fun q => by have := hdec.mp q; by_cases hab : a = b <;> omega) (fun q => by have := hdec2.mp q; by_cases hab : a = b <;> omega) (up (up (up τ 0 10 0) 122 0 0) 122 1 0) (fun r' σ2 => G a5 r' σ2) ?_
    · rw [← e1, ← i1, ← f1, ← j1, ← n1] at key
      exact key
    · rw [← n1]
      have w125 : (up (up (up τ 0 10 0) 122 0 0) 122 1 0) 125 = σ 125 := by
        funext x
        simp (disch := omega) only [up_at, up_ka, up_jb]; exact hτ0 _ _ (by omega)
      rw [w125]
      refine k _ _ ?_ ?_ (fun p q h => ?_)
      · intro t ht
        simp (disch := omega) only [up_at, up_ka, up_jb, upr_ka, upr_kb]
        rw [hτ0 _ _ (by omega), hτ0 123 t (by omega), hτ0 124 t (by omega), hτ0 (2 + 2 * t) 2 (by omega)]
        obtain ⟨k1, k2, k3⟩ := hR t ht
        refine ⟨k1, k2, fun k0 => ⟨(k3 k0).1, (k3 k0).2.1, fun x hx => ?_⟩⟩
        by_cases htb : t = b
        · subst htb
          rw [hτ1]
          unfold va_cpy
          by_cases hc : j ≤ x ∧ x < j + n
          · rw [if_pos hc, if_pos (by omega)]
            rw [show 40 * a + i + (40 * t + x - (40 * t + j)) = 40 * a + (i + (x - j)) by omega]
            exact ga7 _ (by omega)
          · rw [if_neg hc, if_neg (by omega)]
            exact gb7 x hx
        · rw [hτ0 _ _ (by omega)]
          unfold va_cpy
          rw [if_neg (by omega)]
          exact (k3 k0).2.2 x hx
      · simp (disch := omega) only [up_at, up_ka, up_jb, upr_ka, upr_kb]
      · have := nPSh h
        by_cases hp : p = 122
        · subst hp; simp (disch := omega) only [up_at, up_ka, up_jb, upr_ka, upr_kb]; exact hτ0 _ _ (by omega)
        · by_cases hp0 : p = 0
          · subst hp0; simp (disch := omega) only [up_at, up_ka, up_jb, upr_ka, upr_kb]; exact hτ0 _ _ (by omega)
          · simp (disch := omega) only [up_at, up_ka, up_jb, upr_ka, upr_kb]; exact hτ0 _ _ (by omega)
  · rw [d124, gb5] at q; omega
  · rw [k123, k123, ga2, gb2] at q; exact absurd s1 q
  · rw [k123] at q; exact absurd nb q
