/-! sheets -/
theorem up_ka (σ : St) {k j a b : Nat} (v : Int32) (h : a ≠ k) : up σ k j v a b = σ a b := up_o σ v (Or.inl h)
theorem up_jb (σ : St) {k j b : Nat} (v : Int32) (h : b ≠ j) : up σ k j v k b = σ k b := up_o σ v (Or.inr h)
theorem upr_ka (σ : St) {k a b : Nat} (f : Nat → Int32) (h : a ≠ k) : upr σ k f a b = σ a b := by simp [upr, h]
theorem upr_kb (σ : St) {k b : Nat} (f : Nat → Int32) : upr σ k f k b = f b := by simp [upr]
theorem tcl (x : Int32) : x.toNatClampNeg = x.toInt.toNat := rfl
theorem ixe {x : Int32} {n : Nat} (h : 0 ≤ x.toInt ∧ x.toInt < n) (hn : n ≤ 2147483648) : ∃ k, k < n ∧ x = nI k ∧ x.toNatClampNeg = k ∧ x.toInt = k := by
  refine ⟨x.toInt.toNat, by omega, ?_, rfl, by omega⟩
  rw [fa_eq, ti_nI (by omega)]
  omega
theorem st_ext {σ τ : St} (h : ∀ a b, σ a b = τ a b) : σ = τ := funext fun a => funext fun b => h a b
theorem c_fill1 (k : Nat) (v : Int32) (σ : St) (F : St → Prop) (h : F (upr σ k (fun j => if j < 40 then v else σ k j))) : CallV hd_ar_fill1 [rf 0 k, iv v] σ F := by
  refine e_ar_fill1 k v σ F ?_
  have loop : ∀ (m i : Nat), i + m = 40 → At hd_ar_fill1 X0 5 [some (rf 0 k), some (iv v), some (iv (nI i)), some (iv 40)] [] (upr σ k (fun j => if j < i then v else σ k j)) (retV F) := by
    intro m
    induction m with
    | zero =>
      intro i hi
      have hi : i = 40 := by omega
      subst hi
      refine l_ar_fill1_5 k v (nI 40) 40 _ F ⟨fun _ => h, fun q => absurd (show (40 : Int32) ≤ nI 40 by decide) q⟩
    | succ m ih =>
      intro i hi
      refine l_ar_fill1_5 k v (nI i) 40 _ F ⟨fun q => ?_, fun _ => ⟨?_, ?_⟩⟩
      · exfalso
        rw [fa_le, ti_nI (by omega)] at q
        have e : (40 : Int32).toInt = 40 := rfl
        omega
      · rw [vin, ti_nI (by omega)]; omega
      · have h1 := ih (i + 1) (by omega)
        have e1 : nI i + 1 = nI (i + 1) := nI_1 i
        have e2 : up (upr σ k (fun j => if j < i then v else σ k j)) k (nI i).toNatClampNeg v = upr σ k (fun j => if j < i + 1 then v else σ k j) := by
          rw [nI_clamp (by omega)]
          apply st_ext
          intro a b
          by_cases ha : a = k
          · subst ha
            by_cases hb : b = i
            · subst hb
              rw [up_at, upr_kb, if_pos (by omega)]
            · rw [up_jb _ _ hb, upr_kb, upr_kb]
              by_cases hbi : b < i
              · rw [if_pos hbi, if_pos (by omega)]
              · rw [if_neg hbi, if_neg (by omega)]
          · rw [up_ka _ _ ha, upr_ka _ _ ha, upr_ka _ _ ha]
        rw [e1, e2]
        exact h1
  have := loop 40 0 rfl
  have e : upr σ k (fun j => if j < 0 then v else σ k j) = σ := by
    apply st_ext
    intro a b
    by_cases ha : a = k
    · subst ha; rw [upr_kb, if_neg (by omega)]
    · rw [upr_ka _ _ ha]
  rw [e] at this
  exact this
def RSh (σ : St) : Prop := ∀ s, s < 8 → (-1 ≤ (σ (2 + 2 * s) 1).toInt ∧ (σ (2 + 2 * s) 1).toInt ≤ 2) ∧ σ 123 s = σ (2 + 2 * s) 1 ∧ (0 ≤ (σ (2 + 2 * s) 1).toInt → σ 124 s = σ (2 + 2 * s) 2 ∧ (0 ≤ (σ (2 + 2 * s) 2).toInt ∧ (σ (2 + 2 * s) 2).toInt ≤ 40) ∧ ∀ i, i < 40 → σ 125 (40 * s + i) = σ (3 + 2 * s) i)
def DSh (a : Nat) : Prop := (2 ≤ a ∧ a < 18) ∨ (123 ≤ a ∧ a ≤ 125)
theorem RSh_fr {σ τ : St} (h : ∀ a b, DSh a → τ a b = σ a b) (hR : RSh σ) : RSh τ := by
  intro s hs
  have e1 := h (2 + 2 * s) 1 (Or.inl (by omega))
  have e2 := h (2 + 2 * s) 2 (Or.inl (by omega))
  have e3 := h 123 s (Or.inr (by omega))
  have e4 := h 124 s (Or.inr (by omega))
  rw [e1, e2, e3, e4]
  obtain ⟨h1, h2, h3⟩ := hR s hs
  refine ⟨h1, h2, fun h0 => ⟨(h3 h0).1, (h3 h0).2.1, fun i hi => ?_⟩⟩
  rw [h 125 _ (Or.inr (by omega)), h (3 + 2 * s) i (Or.inl (by omega))]
  exact (h3 h0).2.2 i hi
/-- what a call on sheets may change -/
def PSh (a b : Nat) : Prop := DSh a ∨ (a = 0 ∧ b = 10) ∨ (a = 122 ∧ (b = 0 ∨ b = 1))
theorem v_isSheet (a : Int32) : p_m_isSheet a = if 0 ≤ a.toInt ∧ a.toInt < 8 then 1 else 0 := by
  unfold p_m_isSheet
  rw [v_in, i2l]
  have e1 : (0 : Int64).toInt = 0 := rfl
  have e2 : (7 : Int64).toInt = 7 := rfl
  rw [e1, e2]
  by_cases h : 0 ≤ a.toInt ∧ a.toInt < 8
  · rw [if_pos h, if_pos (by omega)]
  · rw [if_neg h, if_neg (by omega)]
theorem l_sheet (s : Nat) (hs : s < 8) (a2 a3 : Int32) (σ : St) (F : Int32 → St → Prop) (h : F a3 (upr σ 125 (fun j => if 40 * s ≤ j ∧ j < 40 * s + 40 then 0 else σ 125 j))) : At hd_m_sheet X0 65 [some (rf 55 122), some (iv (nI s)), some (iv a2), some (iv a3), some (iv 0)] [] σ (retI F) := by
  have loop : ∀ (m i : Nat), i + m = 40 → At hd_m_sheet X0 65 [some (rf 55 122), some (iv (nI s)), some (iv a2), some (iv a3), some (iv (nI i))] [] (upr σ 125 (fun j => if 40 * s ≤ j ∧ j < 40 * s + i then 0 else σ 125 j)) (retI F) := by
    intro m
    induction m with
    | zero =>
      intro i hi
      have hi : i = 40 := by omega
      subst hi
      exact l_m_sheet_65 _ _ _ _ _ F ⟨fun _ => h, fun q => absurd (show (40 : Int32) ≤ nI 40 by decide) q⟩
    | succ m ih =>
      intro i hi
      have e0 : 40 * nI s + nI i = nI (40 * s + i) := by
        rw [show (40 : Int32) = nI 40 from rfl, pk_mul, nI_add]
      refine l_m_sheet_65 _ _ _ _ _ F ⟨fun q => ?_, fun _ => ⟨?_, ?_⟩⟩
      · exfalso
        rw [fa_le, ti_nI (by omega)] at q
        have e : (40 : Int32).toInt = 40 := rfl
        omega
      · rw [e0, vin, ti_nI (by omega)]; omega
      · have h1 := ih (i + 1) (by omega)
        have e1 : nI i + 1 = nI (i + 1) := nI_1 i
        have e2 : up (upr σ 125 (fun j => if 40 * s ≤ j ∧ j < 40 * s + i then 0 else σ 125 j)) 125 (40 * nI s + nI i).toNatClampNeg 0 = upr σ 125 (fun j => if 40 * s ≤ j ∧ j < 40 * s + (i + 1) then 0 else σ 125 j) := by
          rw [e0, nI_clamp (by omega)]
          apply st_ext
          intro a b
          by_cases ha : a = 125
          · subst ha
            by_cases hb : b = 40 * s + i
            · subst hb
              rw [up_at, upr_kb, if_pos (by omega)]
            · rw [up_jb _ _ hb, upr_kb, upr_kb]
              by_cases hbi : 40 * s ≤ b ∧ b < 40 * s + i
              · rw [if_pos hbi, if_pos (by omega)]
              · rw [if_neg hbi, if_neg (by omega)]
          · rw [up_ka _ _ ha, upr_ka _ _ ha, upr_ka _ _ ha]
        rw [e1, e2]
        exact h1
  have := loop 40 0 rfl
  have e : upr σ 125 (fun j => if 40 * s ≤ j ∧ j < 40 * s + 0 then 0 else σ 125 j) = σ := by
    apply st_ext
    intro a b
    by_cases ha : a = 125
    · subst ha; rw [upr_kb, if_neg (by omega)]
    · rw [upr_ka _ _ ha]
  rw [e] at this
  exact this
/-- the end of a call on both sides: same answer, sheets and status alike, nothing else changed -/
def KSh (σ : St) (G : Int32 → Int32 → St → Prop) : Prop := ∀ (r : Int32) (τ : St), RSh τ → τ 0 10 = τ 122 1 → (∀ a b, ¬ PSh a b → τ a b = σ a b) → G r r τ
theorem nPSh {a b : Nat} (h : ¬ PSh a b) : ¬ (2 ≤ a ∧ a < 18) ∧ ¬ (123 ≤ a ∧ a ≤ 125) ∧ ¬ (a = 0 ∧ b = 10) ∧ ¬ (a = 122 ∧ b = 0) ∧ ¬ (a = 122 ∧ b = 1) := by
  unfold PSh DSh at h
  omega
theorem r_sheet (a1 a2 a3 : Int32) (σ : St) (G : Int32 → Int32 → St → Prop) (hR : RSh σ) (hT : σ 0 10 = σ 122 1) (k : KSh σ G) :
    CallI hd_x_sheet [rf 54 0, iv a1, iv a2, iv a3] σ (fun r σ1 => CallI hd_m_sheet [rf 55 122, iv a1, iv a2, iv a3] σ1 (fun r' σ2 => G r r' σ2)) := by
  have kb : G (-1000001) (-1000001) (up σ 122 0 0) := by
    refine k _ _ (RSh_fr (fun a b h => ?_) hR) ?_ (fun a b h => ?_)
    · unfold DSh at h; rw [up_ka _ _ (by omega)]
    · rw [up_ka _ _ (by omega), up_jb _ _ (by omega)]; exact hT
    · have := nPSh h
      by_cases ha : a = 122
      · subst ha; rw [up_jb _ _ (by omega)]
      · rw [up_ka _ _ ha]
  refine e_x_sheet a1 a2 a3 σ _ (q_x_isBelow _ _ _ _ ?_)
  rw [v_below, t_8]
  by_cases h1 : 0 ≤ a1.toInt ∧ a1.toInt < 8
  · rw [if_pos h1]
    refine ⟨fun q => absurd q (by decide), fun _ => q_x_isBelow _ _ _ _ ?_⟩
    rw [v_below, t_3]
    by_cases h2 : 0 ≤ a2.toInt ∧ a2.toInt < 3
    · rw [if_pos h2]
      refine ⟨fun q => absurd q (by decide), fun _ => ⟨fun h3 => ⟨fun h4 => ⟨vin.mpr h1, ?_⟩, fun h4 => ?_⟩, fun h3 => ?_⟩⟩
      · obtain ⟨s, hs, e1, e2, e3⟩ := ixe h1 (by decide)
        rw [e2]
        refine e_sh_begin _ _ _ _ _ (c_fill1 _ _ _ _ (e_x_unfound _ _ _ ?_))
        refine e_m_sheet a1 a2 a3 _ _ (q_m_isSheet _ _ _ ?_)
        rw [v_isSheet, if_pos h1]
        refine ⟨fun q => absurd q (by decide), fun _ => q_m_in _ _ _ _ _ ?_⟩
        rw [v_in, i2l, if_pos (by have a : (0 : Int64).toInt = 0 := rfl; have b : (2 : Int64).toInt = 2 := rfl; omega)]
        refine ⟨fun q => absurd q (by decide), fun _ => ⟨fun _ => ⟨fun _ => ⟨vin.mpr h1, vin.mpr h1, ?_⟩, fun q => absurd h4 q⟩, fun q => absurd h3 q⟩⟩
        rw [e2, e1]
        refine l_sheet s hs _ _ _ _ ?_
        rw [fa_le, t_0] at h4
        rw [fa_le, t_40] at h3
        refine k _ _ ?_ ?_ (fun a b h => ?_)
        · intro t ht
          by_cases hts : t = s
          · subst hts
            simp (disch := omega) only [up_at, up_ka, up_jb, upr_ka, upr_kb]
            refine ⟨by omega, trivial, fun _ => ⟨trivial, by omega, fun i hi => ?_⟩⟩
            rw [if_pos (by omega), show 3 + 2 * t = 2 + 2 * t + 1 by omega, upr_kb, if_pos hi]
          · simp (disch := omega) only [up_at, up_ka, up_jb, upr_ka, upr_kb]
            obtain ⟨g1, g2, g3⟩ := hR t ht
            refine ⟨g1, g2, fun g0 => ⟨(g3 g0).1, (g3 g0).2.1, fun i hi => ?_⟩⟩
            rw [if_neg (by omega)]
            exact (g3 g0).2.2 i hi
        · simp (disch := omega) only [up_at, up_ka, up_jb, upr_ka, upr_kb]
        · have := nPSh h
          by_cases ha : a = 122
          · subst ha; simp (disch := omega) only [up_at, up_ka, up_jb, upr_ka, upr_kb]
          · by_cases hb : a = 0
            · subst hb; simp (disch := omega) only [up_at, up_ka, up_jb, upr_ka, upr_kb]
            · simp (disch := omega) only [up_at, up_ka, up_jb, upr_ka, upr_kb]
      · refine e_x_found _ _ _ ?_
        refine e_m_sheet a1 a2 a3 _ _ (q_m_isSheet _ _ _ ?_)
        rw [v_isSheet, if_pos h1]
        refine ⟨fun q => absurd q (by decide), fun _ => q_m_in _ _ _ _ _ ?_⟩
        rw [v_in, i2l, if_pos (by have a : (0 : Int64).toInt = 0 := rfl; have b : (2 : Int64).toInt = 2 := rfl; omega)]
        refine ⟨fun q => absurd q (by decide), fun _ => ⟨fun _ => ⟨fun q => absurd q h4, fun _ => e_m_finding _ _ _ ?_⟩, fun q => absurd h3 q⟩⟩
        refine k _ _ (RSh_fr (fun a b h => ?_) hR) ?_ (fun a b h => ?_)
        · unfold DSh at h
          simp (disch := omega) only [up_at, up_ka, up_jb]
        · simp (disch := omega) only [up_at, up_ka, up_jb]
        · have := nPSh h
          by_cases ha : a = 122
          · subst ha; simp (disch := omega) only [up_at, up_ka, up_jb]
          · by_cases hb : a = 0
            · subst hb; simp (disch := omega) only [up_at, up_ka, up_jb]
            · simp (disch := omega) only [up_at, up_ka, up_jb]
      · refine e_m_sheet a1 a2 a3 _ _ (q_m_isSheet _ _ _ ?_)
        rw [v_isSheet, if_pos h1]
        refine ⟨fun q => absurd q (by decide), fun _ => q_m_in _ _ _ _ _ ?_⟩
        rw [v_in, i2l, if_pos (by have a : (0 : Int64).toInt = 0 := rfl; have b : (2 : Int64).toInt = 2 := rfl; omega)]
        exact ⟨fun q => absurd q (by decide), fun _ => ⟨fun q => absurd q h3, fun _ => kb⟩⟩
    · rw [if_neg h2]
      refine ⟨fun _ => ?_, fun q => absurd rfl q⟩
      refine e_m_sheet a1 a2 a3 _ _ (q_m_isSheet _ _ _ ?_)
      rw [v_isSheet, if_pos h1]
      refine ⟨fun q => absurd q (by decide), fun _ => q_m_in _ _ _ _ _ ?_⟩
      rw [v_in, i2l, if_neg (by have a : (0 : Int64).toInt = 0 := rfl; have b : (2 : Int64).toInt = 2 := rfl; omega)]
      exact ⟨fun _ => kb, fun q => absurd rfl q⟩
  · rw [if_neg h1]
    refine ⟨fun _ => ?_, fun q => absurd rfl q⟩
    refine e_m_sheet a1 a2 a3 _ _ (q_m_isSheet _ _ _ ?_)
    rw [v_isSheet, if_neg h1]
    exact ⟨fun _ => kb, fun q => absurd rfl q⟩
