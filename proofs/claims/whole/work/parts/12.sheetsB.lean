theorem frS {σ τ : St} (h0 : ∀ a b, DSh a → τ a b = σ a b) (h1 : τ 0 10 = τ 122 1) (h2 : ∀ a b, ¬ PSh a b → τ a b = σ a b) {G : Int32 → Int32 → St → Prop} (k : KSh σ G) (hR : RSh σ) (r : Int32) : G r r τ := k r τ (RSh_fr h0 hR) h1 h2
/-- refused on both sides, by a finding -/
theorem k_find {σ : St} {G : Int32 → Int32 → St → Prop} (hR : RSh σ) (k : KSh σ G) (n m : Int32) (r : Int32) (hr : r = r) : G r r (up (up (up (up σ 0 10 n) 122 0 0) 122 1 m) 122 1 n) := by
  refine frS (fun a b h => ?_) ?_ (fun a b h => ?_) k hR r
  · unfold DSh at h
    simp (disch := omega) only [up_at, up_ka, up_jb]
  · simp (disch := omega) only [up_at, up_ka, up_jb]
  · have := nPSh h
    by_cases ha : a = 122
    · subst ha; simp (disch := omega) only [up_at, up_ka, up_jb]
    · by_cases hb : a = 0
      · subst hb; simp (disch := omega) only [up_at, up_ka, up_jb]
      · simp (disch := omega) only [up_at, up_ka, up_jb]
theorem k_bad {σ : St} {G : Int32 → Int32 → St → Prop} (hR : RSh σ) (hT : σ 0 10 = σ 122 1) (k : KSh σ G) (r : Int32) : G r r (up σ 122 0 0) := by
  refine frS (fun a b h => ?_) ?_ (fun a b h => ?_) k hR r
  · unfold DSh at h; rw [up_ka _ _ (by omega)]
  · rw [up_ka _ _ (by omega), up_jb _ _ (by omega)]; exact hT
  · have := nPSh h
    by_cases ha : a = 122
    · subst ha; rw [up_jb _ _ (by omega)]
    · rw [up_ka _ _ ha]
theorem v_missing (k : Nat) (σ : St) : p_sh_isMissing k σ = if (σ k 1).toInt = -1 then 1 else 0 := by
  unfold p_sh_isMissing
  by_cases h : σ k 1 = -1
  · rw [if_pos h, h]; rfl
  · rw [if_neg h, if_neg]
    intro e
    exact h (by rw [fa_eq, e]; rfl)
theorem v_has (k : Nat) (a b : Int64) (σ : St) (hl : (a + b).toInt = a.toInt + b.toInt) : p_sh_has k a b σ = if 0 ≤ a.toInt ∧ 0 ≤ b.toInt ∧ a.toInt + b.toInt ≤ (σ k 2).toInt then 1 else 0 := by
  unfold p_sh_has
  simp only [lg_lt, lg_gt, hl, i2l, tl_0]
  by_cases h1 : a.toInt < 0
  · rw [if_pos h1, if_neg (by omega)]
  · rw [if_neg h1]
    by_cases h2 : b.toInt < 0
    · rw [if_pos h2, if_neg (by omega)]
    · rw [if_neg h2]
      by_cases h3 : (σ k 2).toInt < a.toInt + b.toInt
      · rw [if_pos h3, if_neg (by omega)]
      · rw [if_neg h3, if_pos (by omega)]
theorem l_add {a b : Int64} (h : -9223372036854775808 ≤ a.toInt + b.toInt ∧ a.toInt + b.toInt < 9223372036854775808) : (a + b).toInt = a.toInt + b.toInt := by
  rw [Int64.toInt_add]; apply Int.bmod_eq_of_le <;> omega
theorem l_add32 (a b : Int32) : (a.toInt64 + b.toInt64).toInt = a.toInt + b.toInt := by
  have h1 := i32b a
  have h2 := i32b b
  rw [l_add (by rw [i2l, i2l]; omega), i2l, i2l]
theorem l_add1 (a : Int32) : (a.toInt64 + 1).toInt = a.toInt + 1 := by
  have h1 := i32b a
  have e : (1 : Int64).toInt = 1 := rfl
  rw [l_add (by rw [i2l, e]; omega), i2l, e]
theorem r_drop (a1 : Int32) (σ : St) (G : Int32 → Int32 → St → Prop) (hR : RSh σ) (hT : σ 0 10 = σ 122 1) (k : KSh σ G) :
    CallI hd_x_drop [rf 54 0, iv a1] σ (fun r σ1 => CallI hd_m_drop [rf 55 122, iv a1] σ1 (fun r' σ2 => G r r' σ2)) := by
  refine e_x_drop a1 σ _ (q_x_isBelow _ _ _ _ ?_)
  rw [v_below, t_8]
  by_cases h1 : 0 ≤ a1.toInt ∧ a1.toInt < 8
  · obtain ⟨s, hs, e1, e2, e3⟩ := ixe h1 (by decide)
    obtain ⟨g1, g2, g3⟩ := hR s hs
    rw [if_pos h1]
    refine ⟨fun _ => ⟨vin.mpr h1, q_sh_isMissing _ _ _ ?_⟩, fun q => absurd q (by decide)⟩
    rw [v_missing, e2]
    by_cases h2 : (σ (2 + 2 * s) 1).toInt = -1
    · rw [if_pos h2]
      refine ⟨fun q => absurd q (by decide), fun _ => e_x_found _ _ _ ?_⟩
      refine e_m_drop a1 _ _ (q_m_isSheet _ _ _ ?_)
      rw [v_isSheet, if_pos h1]
      refine ⟨fun _ => ⟨vin.mpr h1, ⟨fun q => ?_, fun _ => e_m_finding _ _ _ ?_⟩⟩, fun q => absurd q (by decide)⟩
      · exfalso
        simp (disch := omega) only [up_at, up_ka, up_jb, e2] at q
        rw [g2, fa_le, t_0] at q
        omega
      · exact k_find hR k 1 0 _ rfl
    · rw [if_neg h2]
      refine ⟨fun _ => ⟨vin.mpr h1, e_sh_end _ _ _ (e_x_unfound _ _ _ ?_)⟩, fun q => absurd rfl q⟩
      have g4 : 0 ≤ (σ (2 + 2 * s) 1).toInt := by omega
      obtain ⟨g5, g6, g7⟩ := g3 g4
      refine e_m_drop a1 _ _ (q_m_isSheet _ _ _ ?_)
      rw [v_isSheet, if_pos h1]
      refine ⟨fun _ => ⟨vin.mpr h1, ⟨fun _ => ⟨vin.mpr h1, vin.mpr h1, ?_⟩, fun q => ?_⟩⟩, fun q => absurd q (by decide)⟩
      · rw [e2]
        simp (disch := omega) only [up_at, up_ka, up_jb, g5]
        refine k _ _ ?_ ?_ (fun a b h => ?_)
        · intro t ht
          by_cases hts : t = s
          · subst hts
            simp (disch := omega) only [up_at, up_ka, up_jb]
            exact ⟨by decide, trivial, fun h => absurd h (by decide)⟩
          · simp (disch := omega) only [up_at, up_ka, up_jb]
            exact hR t ht
        · simp (disch := omega) only [up_at, up_ka, up_jb]
        · have := nPSh h
          by_cases ha : a = 122
          · subst ha; simp (disch := omega) only [up_at, up_ka, up_jb]
          · by_cases hb : a = 0
            · subst hb; simp (disch := omega) only [up_at, up_ka, up_jb]
            · simp (disch := omega) only [up_at, up_ka, up_jb]
      · exfalso
        apply q
        simp (disch := omega) only [up_at, up_ka, up_jb, e2]
        rw [g2, fa_le, t_0]
        exact g4
  · rw [if_neg h1]
    refine ⟨fun q => absurd rfl q, fun _ => ?_⟩
    refine e_m_drop a1 _ _ (q_m_isSheet _ _ _ ?_)
    rw [v_isSheet, if_neg h1]
    exact ⟨fun q => absurd rfl q, fun _ => k_bad hR hT k _⟩
theorem r_set (a1 a2 a3 : Int32) (σ : St) (G : Int32 → Int32 → St → Prop) (hR : RSh σ) (hT : σ 0 10 = σ 122 1) (k : KSh σ G) :
    CallI hd_x_set [rf 54 0, iv a1, iv a2, iv a3] σ (fun r σ1 => CallI hd_m_set [rf 55 122, iv a1, iv a2, iv a3] σ1 (fun r' σ2 => G r r' σ2)) := by
  refine e_x_set a1 a2 a3 σ _ (q_x_isBelow _ _ _ _ ?_)
  rw [v_below, t_8]
  by_cases h1 : 0 ≤ a1.toInt ∧ a1.toInt < 8
  · obtain ⟨s, hs, e1, e2, e3⟩ := ixe h1 (by decide)
    obtain ⟨g1, g2, g3⟩ := hR s hs
    rw [if_pos h1]
    refine ⟨fun _ => ⟨vin.mpr h1, q_sh_isMissing _ _ _ ?_⟩, fun q => absurd q (by decide)⟩
    rw [v_missing, e2]
    by_cases h2 : (σ (2 + 2 * s) 1).toInt = -1
    · rw [if_pos h2]
      refine ⟨fun q => absurd q (by decide), fun _ => e_x_found _ _ _ ?_⟩
      refine e_m_set a1 a2 a3 _ _ (q_m_isSheet _ _ _ ?_)
      rw [v_isSheet, if_pos h1]
      refine ⟨fun _ => ⟨vin.mpr h1, ⟨fun q => ?_, fun _ => e_m_finding _ _ _ ?_⟩⟩, fun q => absurd q (by decide)⟩
      · exfalso
        simp (disch := omega) only [up_at, up_ka, up_jb, e2] at q
        rw [g2, fa_le, t_0] at q
        omega
      · exact k_find hR k 1 0 _ rfl
    · rw [if_neg h2]
      have g4 : 0 ≤ (σ (2 + 2 * s) 1).toInt := by omega
      obtain ⟨g5, g6, g7⟩ := g3 g4
      refine ⟨fun _ => ⟨vin.mpr h1, q_sh_has _ _ _ _ _ ?_⟩, fun q => absurd rfl q⟩
      rw [v_has _ _ _ _ (by rw [l_add1, i2l]; rfl), i2l, tl_1]
      have mcond : ∀ τ : St, τ 124 s = σ 124 s → (p_m_in a2.toInt64 0 ((τ 124 s - 1).toInt64) = if 0 ≤ a2.toInt ∧ a2.toInt + 1 ≤ (σ (2 + 2 * s) 2).toInt then 1 else 0) := by
        intro τ hτ
        rw [v_in, i2l, i2l, tl_0, hτ, g5, ti_sub (by rw [t_1]; omega), t_1]
        by_cases h : 0 ≤ a2.toInt ∧ a2.toInt + 1 ≤ (σ (2 + 2 * s) 2).toInt
        · rw [if_pos h, if_pos (by omega)]
        · rw [if_neg h, if_neg (by omega)]
      by_cases h3 : 0 ≤ a2.toInt ∧ a2.toInt + 1 ≤ (σ (2 + 2 * s) 2).toInt
      · rw [if_pos (by omega)]
        obtain ⟨i, hi, f1, f2, f3⟩ := ixe (x := a2) (n := 40) (by omega) (by decide)
        refine ⟨fun _ => ⟨vin.mpr h1, ?_⟩, fun q => absurd q (by decide)⟩
        -- what is put
        obtain ⟨v, hv0, hv1, hv2⟩ : ∃ v : Int32, (σ (2 + 2 * s) 1 = 0 → v = a3.toInt8.toInt32) ∧ (σ (2 + 2 * s) 1 = 1 → v = a3.toInt16.toInt32) ∧ (¬ σ (2 + 2 * s) 1 = 0 → ¬ σ (2 + 2 * s) 1 = 1 → v = a3) := by
          by_cases z0 : σ (2 + 2 * s) 1 = 0
          · exact ⟨a3.toInt8.toInt32, fun _ => rfl, fun z => absurd (z0.symm.trans z) (by decide), fun z => absurd z0 z⟩
          · by_cases z1 : σ (2 + 2 * s) 1 = 1
            · exact ⟨a3.toInt16.toInt32, fun z => absurd z z0, fun _ => rfl, fun _ z => absurd z1 z⟩
            · exact ⟨a3, fun z => absurd z z0, fun z => absurd z z1, fun _ _ => rfl⟩
        have vi40 : vp_in a2 40 := vin.mpr (by omega)
        have ex : 40 * a1 + a2 = nI (40 * s + i) := by
          rw [e1, f1, show (40 : Int32) = nI 40 from rfl, pk_mul, nI_add]
        have vi320 : vp_in (40 * a1 + a2) 320 := by rw [ex, vin, ti_nI (by omega)]; omega
        have fin : CallI hd_m_set [rf 55 122, iv a1, iv a2, iv a3] (up (up σ (2 + 2 * s + 1) i v) 0 10 0) (fun r' σ2 => G v r' σ2) := by
          refine e_m_set a1 a2 a3 _ _ (q_m_isSheet _ _ _ ?_)
          rw [v_isSheet, if_pos h1]
          refine ⟨fun _ => ⟨vin.mpr h1, ⟨fun _ => ⟨vin.mpr h1, q_m_in _ _ _ _ _ ?_⟩, fun q => ?_⟩⟩, fun q => absurd q (by decide)⟩
          · rw [e2, mcond _ (by simp (disch := omega) only [up_at, up_ka, up_jb]), if_pos h3]
            refine ⟨fun _ => ⟨vin.mpr h1, ?_⟩, fun q => absurd q (by decide)⟩
            simp (disch := omega) only [up_at, up_ka, up_jb]
            rw [g2]
            have done : ∀ w, w = v → At hd_m_set X0 99 [some (rf 55 122), some (iv a1), some (iv a2), some (iv a3)] [iv w, iv ((40 * a1) + a2), rf 9 125] (up (up (up (up σ (2 + 2 * s + 1) i v) 0 10 0) 122 0 0) 122 1 0) (retI (fun r' σ2 => G v r' σ2)) := by
              intro w hw
              subst hw
              refine l_m_set_99 _ _ _ _ _ _ _ ⟨vi320, vi320, ?_⟩
              rw [up_at, ex, nI_clamp (by omega)]
              refine k _ _ ?_ ?_ (fun a b h => ?_)
              · intro t ht
                by_cases hts : t = s
                · subst hts
                  simp (disch := omega) only [up_at, up_ka, up_jb]
                  refine ⟨g1, g2, fun _ => ⟨g5, g6, fun j hj => ?_⟩⟩
                  by_cases hji : j = i
                  · subst hji
                    rw [up_at]
                    rw [show 3 + 2 * t = 2 + 2 * t + 1 by omega]
                    simp (disch := omega) only [up_at, up_ka, up_jb]
                  · rw [up_jb _ _ (by omega)]
                    simp (disch := omega) only [up_at, up_ka, up_jb]
                    rw [g7 j hj, show 3 + 2 * t = 2 + 2 * t + 1 by omega, up_jb _ _ hji]
                · simp (disch := omega) only [up_at, up_ka, up_jb]
                  obtain ⟨k1, k2, k3⟩ := hR t ht
                  refine ⟨k1, k2, fun k0 => ⟨(k3 k0).1, (k3 k0).2.1, fun j hj => ?_⟩⟩
                  rw [up_jb _ _ (by omega)]
                  simp (disch := omega) only [up_at, up_ka, up_jb]
                  exact (k3 k0).2.2 j hj
              · simp (disch := omega) only [up_at, up_ka, up_jb]
              · have := nPSh h
                by_cases ha : a = 122
                · subst ha; simp (disch := omega) only [up_at, up_ka, up_jb]
                · by_cases hb : a = 0
                  · subst hb; simp (disch := omega) only [up_at, up_ka, up_jb]
                  · simp (disch := omega) only [up_at, up_ka, up_jb]
            exact ⟨fun z0 => ⟨vin.mpr h1, fun z1 => done _ (hv2 z0 z1).symm, fun z1 => done _ (hv1 z1).symm⟩, fun z0 => done _ (hv0 z0).symm⟩
          · exfalso
            apply q
            simp (disch := omega) only [up_at, up_ka, up_jb, e2]
            rw [g2, fa_le, t_0]
            exact g4
        refine e_sh_put _ _ _ _ _ ?_
        rw [f2]
        refine ⟨fun z0 => ⟨fun z1 => ⟨vi40, vi40, e_x_unfound _ _ _ ?_⟩, fun z1 => ⟨vi40, vi40, e_x_unfound _ _ _ ?_⟩⟩, fun z0 => ⟨vi40, vi40, e_x_unfound _ _ _ ?_⟩⟩
        · rw [up_at]; have e := hv2 z0 z1; rw [e] at fin; exact fin
        · rw [up_at, ← hv1 z1]; exact fin
        · rw [up_at, ← hv0 z0]; exact fin
      · rw [if_neg (by omega)]
        refine ⟨fun q => absurd rfl q, fun _ => e_x_found _ _ _ ?_⟩
        refine e_m_set a1 a2 a3 _ _ (q_m_isSheet _ _ _ ?_)
        rw [v_isSheet, if_pos h1]
        refine ⟨fun _ => ⟨vin.mpr h1, ⟨fun _ => ⟨vin.mpr h1, q_m_in _ _ _ _ _ ?_⟩, fun q => ?_⟩⟩, fun q => absurd q (by decide)⟩
        · rw [e2, mcond _ (by simp (disch := omega) only [up_at, up_ka, up_jb]), if_neg h3]
          exact ⟨fun q => absurd rfl q, fun _ => e_m_finding _ _ _ (k_find hR k 2 0 _ rfl)⟩
        · exfalso
          apply q
          simp (disch := omega) only [up_at, up_ka, up_jb, e2]
          rw [g2, fa_le, t_0]
          exact g4
  · rw [if_neg h1]
    refine ⟨fun q => absurd rfl q, fun _ => ?_⟩
    refine e_m_set a1 a2 a3 _ _ (q_m_isSheet _ _ _ ?_)
    rw [v_isSheet, if_neg h1]
    exact ⟨fun q => absurd rfl q, fun _ => k_bad hR hT k _⟩
