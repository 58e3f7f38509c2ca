/-! frames -/
def Fr (P : Nat → Nat → Prop) (σ τ : St) : Prop := ∀ a b, ¬ P a b → τ a b = σ a b
theorem Fr.rf {P : Nat → Nat → Prop} {σ : St} : Fr P σ σ := fun _ _ _ => rfl
theorem Fr.tr {P : Nat → Nat → Prop} {σ τ ρ : St} (h : Fr P σ τ) (k : Fr P τ ρ) : Fr P σ ρ := fun a b n => (k a b n).trans (h a b n)
theorem Fr.mn {P P' : Nat → Nat → Prop} {σ τ : St} (hp : ∀ a b, P a b → P' a b) (h : Fr P σ τ) : Fr P' σ τ := fun a b n => h a b fun q => n (hp a b q)
theorem Fr.up {P : Nat → Nat → Prop} {σ τ : St} (h : Fr P σ τ) {k j : Nat} {v : Int32} (hp : P k j) : Fr P σ (up τ k j v) := fun a b n => by
  rw [up_o _ _ (by by_cases e : a = k; · right; intro e2; subst e; subst e2; exact n hp
                   · left; exact e)]
  exact h a b n
theorem Fr.row {P : Nat → Nat → Prop} {σ τ : St} (h : Fr P σ τ) {k : Nat} {f : NI} (hp : ∀ j, P k j) : Fr P σ (upr τ k f) := fun a b n => by
  by_cases e : a = k
  · subst e; exact absurd (hp b) n
  · rw [upr_ka _ _ e]; exact h a b n
/-- what the reference's own reckonings may write -/
def MS (a b : Nat) : Prop := (a = 122 ∧ (b = 0 ∨ (22 ≤ b ∧ b ≤ 28) ∨ (33 ≤ b ∧ b ≤ 35))) ∨ (132 ≤ a ∧ a ≤ 136)
theorem mW_fr {w : Wo} {σ τ : St} (h : Fr MS σ τ) (hm : mW w (σ 126) (σ 128)) : mW w (τ 126) (τ 128) := by
  have e1 : τ 126 = σ 126 := funext fun b => h 126 b (by unfold MS; omega)
  have e2 : τ 128 = σ 128 := funext fun b => h 128 b (by unfold MS; omega)
  rw [e1, e2]; exact hm
theorem mD_fr {w : Wo} {σ τ : St} (h : Fr MS σ τ) (hm : mD w σ) : mD w τ := fun a ha => by
  rw [h 130 a (by unfold MS; omega), h 131 a (by unfold MS; omega)]; exact hm a ha
theorem c_0 : (0 : Int32).toNatClampNeg = 0 := rfl
theorem c_1 : (1 : Int32).toNatClampNeg = 1 := rfl
theorem c_2 : (2 : Int32).toNatClampNeg = 2 := rfl
theorem c_3 : (3 : Int32).toNatClampNeg = 3 := rfl
theorem c_4 : (4 : Int32).toNatClampNeg = 4 := rfl
theorem c_49 : (49 : Int32).toNatClampNeg = 49 := rfl
theorem c_50 : (50 : Int32).toNatClampNeg = 50 := rfl
theorem c_51 : (51 : Int32).toNatClampNeg = 51 := rfl
theorem c_52 : (52 : Int32).toNatClampNeg = 52 := rfl
theorem c_53 : (53 : Int32).toNatClampNeg = 53 := rfl
theorem li (n : Nat) : (OfNat.ofNat n : Int32) = nI n := rfl
/-- a place below n, by its number -/
theorem in_lt {a : Int32} {n : Nat} (hn : n < 2147483648) : p_x_isBelow a (nI n) = if 0 ≤ a.toInt ∧ a.toInt < n then 1 else 0 := by
  rw [v_below, ti_nI hn]
theorem in_m {a : Int32} {n : Nat} (hn : n < 2147483648) : p_m_in a.toInt64 0 ((nI n - 1).toInt64) = if 0 ≤ a.toInt ∧ a.toInt < n then 1 else 0 := by
  rw [v_in, i2l, i2l, tl_0, ti_sub (by rw [ti_nI hn, t_1]; omega), ti_nI hn, t_1]
  by_cases h : 0 ≤ a.toInt ∧ a.toInt < n
  · rw [if_pos h, if_pos (by omega)]
  · rw [if_neg h, if_neg (by omega)]
theorem m_hill {w : Wo} {σ : St} (hm : mW w (σ 126) (σ 128)) (hH : okH w) (a : Int32) : p_m_isHill a σ = if 0 ≤ a.toInt ∧ a.toInt < nh w then 1 else 0 := by
  unfold p_m_isHill
  rw [c_0, hm.2.2.1, in_m (by have := hH.1; omega)]
theorem m_story {w : Wo} {σ : St} (hm : mW w (σ 126) (σ 128)) (hF : okF w) (a : Int32) : p_m_isStory a σ = if 0 ≤ a.toInt ∧ a.toInt < n4 w then 1 else 0 := by
  unfold p_m_isStory
  rw [c_4, hm.1.2.2.2.2, in_m (by have := hF.1; omega)]
theorem m_house {w : Wo} {σ : St} (hm : mW w (σ 126) (σ 128)) (hF : okF w) (a : Int32) : p_m_isHouse a σ = if 0 ≤ a.toInt ∧ a.toInt < n2 w then 1 else 0 := by
  unfold p_m_isHouse
  rw [c_2, hm.1.2.2.1, in_m (by have := hF.1; omega)]
theorem x_hill {w : Wo} {σ : St} (hc : cW w 36 50 σ) (hH : okH w) (a : Int32) : p_x_isHill a σ = if 0 ≤ a.toInt ∧ a.toInt < nh w then 1 else 0 := by
  unfold p_x_isHill
  rw [hc.2.2.1, in_lt (by have := hH.1; omega)]
theorem x_story {w : Wo} {σ : St} (hc : cW w 36 50 σ) (hF : okF w) (a : Int32) : p_x_isStory a σ = if 0 ≤ a.toInt ∧ a.toInt < n4 w then 1 else 0 := by
  unfold p_x_isStory
  rw [show (σ 45 2 : Int32) = nI (n4 w) from hc.1.2.2.2.2, in_lt (by have := hF.1; omega)]
theorem x_house {w : Wo} {σ : St} (hc : cW w 36 50 σ) (hF : okF w) (a : Int32) : p_x_isHouse a σ = if 0 ≤ a.toInt ∧ a.toInt < n2 w then 1 else 0 := by
  unfold p_x_isHouse
  rw [show (σ 41 2 : Int32) = nI (n2 w) from hc.1.2.2.1, in_lt (by have := hF.1; omega)]
theorem v_xage (a : Int32) : p_x_isAge a = if 0 ≤ a.toInt ∧ a.toInt < 100 then 1 else 0 := by
  unfold p_x_isAge
  rw [v_within, t_0, t_99]
  by_cases h : 0 ≤ a.toInt ∧ a.toInt < 100
  · rw [if_pos h, if_pos (by omega)]
  · rw [if_neg h, if_neg (by omega)]
theorem v_mage (a : Int32) : p_m_isAge a = if 0 ≤ a.toInt ∧ a.toInt < 100 then 1 else 0 := by
  unfold p_m_isAge
  rw [v_in, i2l, tl_0, tl_99]
  by_cases h : 0 ≤ a.toInt ∧ a.toInt < 100
  · rw [if_pos h, if_pos (by omega)]
  · rw [if_neg h, if_neg (by omega)]
theorem v_xplace (a : Int32) : p_x_isPlace a = if -99999 ≤ a.toInt ∧ a.toInt ≤ 99999 then 1 else 0 := by
  unfold p_x_isPlace
  rw [v_within, t_m99999, t_99999]
theorem v_mplace (a : Int32) : p_m_isPlace a = if -99999 ≤ a.toInt ∧ a.toInt ≤ 99999 then 1 else 0 := by
  unfold p_m_isPlace
  rw [v_in, i2l, tl_m99999, tl_99999]
/-- held within ages -/
theorem v_held (a : Int32) : p_m_held a = nI (hld a.toInt) := by
  unfold p_m_held hld
  simp only [fa_le, t_0, t_99]
  have hb := i32b a
  by_cases h : 0 ≤ a.toInt
  · by_cases h2 : a.toInt ≤ 99
    · rw [if_pos h, if_pos h2, if_neg (show ¬ a.toInt < 0 by omega), if_neg (show ¬ 99 < a.toInt by omega), fa_eq, ti_nI (by omega)]; omega
    · rw [if_pos h, if_neg h2, if_neg (show ¬ a.toInt < 0 by omega), if_pos (show 99 < a.toInt by omega)]; rfl
  · rw [if_neg h, if_pos (show a.toInt < 0 by omega)]; rfl
theorem xi2 (a b c : Nat) : nI a + nI b * nI c = nI (a + b * c) := by rw [pk_mul, nI_add]
theorem q_end {w : Wo} {σ : St} (hm : mW w (σ 126) (σ 128)) (hF : okF w) (hH : okH w) {i d : Nat} (hi' : i < nh w) (hd : d < nd w i) (s : Int32) (hs : s = -1 ∨ s = 1) (F : Int32 → St → Prop) (h : F (nI (if s = 1 then dhi w i d else dlo w i d)) σ) : CallI hd_m_endOf [rf 55 122, iv (nI i), iv (nI d), iv s] σ F := by
  have hh := hH.1
  obtain ⟨-, -, hdn, -, hda⟩ := hH.2.2 i hi'
  obtain ⟨hd1, hd2⟩ := hda d hd
  obtain ⟨m1, m2⟩ := (hm.2.2.2 i hi').2.2.2.2.2 d hd
  obtain ⟨l1, l2⟩ := hF.2.2.2.1 _ hd1
  have hn2 := hF.1.2.2.1
  have x1 : 73 + 8 * nI i + 2 * nI d = nI (73 + 8 * i + 2 * d) := by
    rw [show (73 : Int32) = nI 73 from rfl, show (8 : Int32) = nI 8 from rfl, show (2 : Int32) = nI 2 from rfl, pk_mul, pk_mul, nI_add, nI_add]
  have x2 : nI (73 + 8 * i + 2 * d) + 1 = nI (73 + 8 * i + 2 * d + 1) := nI_1 _
  have x3 : 41 + 2 * nI (dh w i d) = nI (41 + 2 * dh w i d) := by
    rw [show (41 : Int32) = nI 41 from rfl, show (2 : Int32) = nI 2 from rfl, pk_mul, nI_add]
  have x4 : nI (41 + 2 * dh w i d) + 1 = nI (41 + 2 * dh w i d + 1) := nI_1 _
  have y1 := hm.2.1.2.2.1 (2 * dh w i d) (by omega)
  have y2 := hm.2.1.2.2.1 (2 * dh w i d + 1) (by omega)
  rw [show 41 + (2 * dh w i d + 1) = 41 + 2 * dh w i d + 1 by omega] at y2
  have c1 : (nI (73 + 8 * i + 2 * d)).toNatClampNeg = 73 + 8 * i + 2 * d := nI_clamp (by omega)
  have c2 : (nI (73 + 8 * i + 2 * d + 1)).toNatClampNeg = 73 + 8 * i + 2 * d + 1 := nI_clamp (by omega)
  have c3 : (nI (41 + 2 * dh w i d)).toNatClampNeg = 41 + 2 * dh w i d := nI_clamp (by omega)
  have c4 : (nI (41 + 2 * dh w i d + 1)).toNatClampNeg = 41 + 2 * dh w i d + 1 := nI_clamp (by omega)
  unfold wi at l1 l2
  refine q_m_endOf _ _ _ _ _ ?_ ?_ ?_ ?_ ?_
  · rw [x1, vin, ti_nI (by omega)]; omega
  · rw [x1, x2, vin, ti_nI (by omega)]; omega
  · rw [x1, c1, m1, x3, vin, ti_nI (by omega)]; omega
  · rw [x1, c1, m1, x3, x4, vin, ti_nI (by omega)]; omega
  · unfold p_m_endOf
    rw [x1, x2, c1, c2, m1, m2, x3, x4, c3, c4, y1, y2, v_held]
    have k1 : (nI (dv w i d) - who w (2 * dh w i d)).toInt = (dv w i d : Int) - (who w (2 * dh w i d)).toInt := by
      rw [ti_sub (by rw [ti_nI (by omega)]; omega), ti_nI (by omega)]
    rcases hs with e | e
    · subst e
      rw [if_neg (by decide)] at h
      have k2 : (-1 * who w (2 * dh w i d + 1)).toInt = - (who w (2 * dh w i d + 1)).toInt := by
        rw [ti_mul (by rw [t_m1]; omega), t_m1]; omega
      rw [ti_add (by rw [k1, k2]; omega), k1, k2]
      unfold dlo at h
      rw [show (dv w i d : Int) - (who w (2 * dh w i d)).toInt + -(who w (2 * dh w i d + 1)).toInt = (dv w i d : Int) - (who w (2 * dh w i d)).toInt - (who w (2 * dh w i d + 1)).toInt by omega]
      exact h
    · subst e
      rw [if_pos rfl] at h
      have k2 : (1 * who w (2 * dh w i d + 1)).toInt = (who w (2 * dh w i d + 1)).toInt := by
        rw [ti_mul (by rw [t_1]; omega), t_1]; omega
      rw [ti_add (by rw [k1, k2]; omega), k1, k2]
      exact h
/-- the reference's look at a hill -/
theorem c_look {w : Wo} {σ : St} (hm : mW w (σ 126) (σ 128)) (hF : okF w) (hH : okH w) {i : Nat} (hi' : i < nh w) (F : St → Prop) (h : ∀ τ, Fr (fun a b => a = 122 ∧ 22 ≤ b ∧ b ≤ 24) σ τ → τ 122 22 = nI (lo w i) → τ 122 23 = nI (hi w i) → τ 122 24 = (if ag w i then 1 else 0) → F τ) : CallV hd_m_look [rf 55 122, iv (nI i)] σ F := by
  have hh := hH.1
  have hdn := (hH.2.2 i hi').2.2.1
  have cnt : ∀ τ : St, Fr (fun a b => a = 122 ∧ 22 ≤ b ∧ b ≤ 24) σ τ → τ 128 (25 + nI i).toNatClampNeg = nI (nd w i) := by
    intro τ hτ
    rw [show (25 : Int32) = nI 25 from rfl, nI_add, nI_clamp (by omega), hτ 128 _ (by omega)]
    exact (hm.2.2.2 i hi').2.2.1
  have vi : vp_in (25 + nI i) 169 := by
    rw [show (25 : Int32) = nI 25 from rfl, nI_add, vin, ti_nI (by omega)]; omega
  have loop : ∀ (m n : Nat), n + m = nd w i → ∀ τ : St, Fr (fun a b => a = 122 ∧ 22 ≤ b ∧ b ≤ 24) σ τ → τ 122 22 = nI (ends w i n).1 → τ 122 23 = nI (ends w i n).2.1 → At hd_m_look X0 16 [some (rf 55 122), some (iv (nI i)), some (iv (nI (ends w i n).2.2)), some (iv (nI n)), none, none] [] τ (retV F) := by
    intro m
    induction m with
    | zero =>
      intro n hn τ hτ e1 e2
      have hn : n = nd w i := by omega
      subst hn
      obtain ⟨o1, o2, o3⟩ := ends_ok hF hH hi' (nd w i) (Nat.le_refl _)
      refine l_m_look_16 _ _ _ _ _ ⟨vi, fun _ => ?_, fun q => ?_⟩
      · rw [e1, e2]
        have cmp : nI (ends w i (nd w i)).1 ≤ nI (ends w i (nd w i)).2.1 ↔ (ends w i (nd w i)).1 ≤ (ends w i (nd w i)).2.1 := nI_leI (by omega) (by omega)
        refine ⟨fun q => l_m_look_134 _ _ _ _ _ _ ⟨Or.inl rfl, ?_⟩, fun q => l_m_look_134 _ _ _ _ _ _ ⟨Or.inr rfl, ?_⟩⟩
        · rw [cmp] at q
          have hag : ag w i = false := by unfold ag; exact decide_eq_false (by omega)
          rw [up_at]
          refine ⟨fun _ => h _ ?_ ?_ ?_ ?_, fun z => absurd rfl z⟩
          · exact (hτ.up ⟨rfl, by omega, by omega⟩).up ⟨rfl, by omega, by omega⟩
          · simp (disch := omega) only [up_at, up_ka, up_jb]; exact e1
          · simp (disch := omega) only [up_at, up_ka, up_jb]; rw [e2]; unfold hi; rw [hag, if_neg (by decide)]
          · simp (disch := omega) only [up_at, up_ka, up_jb]; rw [hag]; rfl
        · rw [cmp] at q
          have hag : ag w i = true := by unfold ag; exact decide_eq_true (by omega)
          rw [up_at]
          refine ⟨fun z => absurd z (by decide), fun _ => h _ ?_ ?_ ?_ ?_⟩
          · exact (hτ.up ⟨rfl, by omega, by omega⟩).up ⟨rfl, by omega, by omega⟩
          · simp (disch := omega) only [up_at, up_ka, up_jb]; exact e1
          · simp (disch := omega) only [up_at, up_ka, up_jb]; unfold hi; rw [hag, if_pos rfl]
          · simp (disch := omega) only [up_at, up_ka, up_jb]; rw [hag]; rfl
      · rw [cnt τ hτ] at q; exact absurd ((fa_le _ _).mpr (Int.le_refl _)) q
    | succ m ih =>
      intro n hn τ hτ e1 e2
      have hnd : n < nd w i := by omega
      obtain ⟨o1, o2, o3⟩ := ends_ok hF hH hi' n (by omega)
      obtain ⟨d1, d2⟩ := dlo_le hF hH hi' hnd
      have hmτ : mW w (τ 126) (τ 128) := mW_fr (hτ.mn fun a b q => by unfold MS; omega) hm
      refine l_m_look_16 _ _ _ _ _ ⟨vi, fun q => ?_, fun _ => q_end hmτ hF hH hi' hnd _ (Or.inl rfl) _ (q_end hmτ hF hH hi' hnd _ (Or.inr rfl) _ ?_)⟩
      · exfalso
        rw [cnt τ hτ, nI_leI (by omega) (by omega)] at q
        omega
      · rw [if_neg (by decide), if_pos rfl, e1]
        have cmp : nI (dlo w i n) ≤ nI (ends w i n).1 ↔ dlo w i n ≤ (ends w i n).1 := nI_leI (by omega) (by omega)
        have cmp2 : nI (ends w i n).2.1 ≤ nI (dhi w i n) ↔ (ends w i n).2.1 ≤ dhi w i n := nI_leI (by omega) (by omega)
        -- from 86 on
        have at86 : ∀ s0, s0 = nI (ends w i (n + 1)).1 → At hd_m_look X0 86 [some (rf 55 122), some (iv (nI i)), some (iv (nI (ends w i (n + 1)).2.2)), some (iv (nI n)), some (iv (nI (dlo w i n))), some (iv (nI (dhi w i n)))] [iv s0, rf 55 122] τ (retV F) := by
          intro s0 hs0
          refine l_m_look_86 _ _ _ _ _ _ _ _ ?_
          have u : up τ 122 22 s0 122 23 = nI (ends w i n).2.1 := by rw [up_jb _ _ (by omega), e2]
          rw [u, nI_1, cmp2]
          refine ⟨fun q => ih (n + 1) (by omega) _ ?_ ?_ ?_, fun q => ih (n + 1) (by omega) _ ?_ ?_ ?_⟩
          · exact (hτ.up ⟨rfl, by omega, by omega⟩).up ⟨rfl, by omega, by omega⟩
          · simp (disch := omega) only [up_at, up_ka, up_jb]; exact hs0
          · rw [up_at]; simp only [ends]; rw [if_neg (by omega)]
          · exact (hτ.up ⟨rfl, by omega, by omega⟩).up ⟨rfl, by omega, by omega⟩
          · simp (disch := omega) only [up_at, up_ka, up_jb]; exact hs0
          · rw [up_at]; simp only [ends]; rw [if_pos (by omega)]
        have at66 : ∀ s0, s0 = nI (ends w i (n + 1)).2.2 → At hd_m_look X0 66 [some (rf 55 122), some (iv (nI i)), some (iv (nI (ends w i n).2.2)), some (iv (nI n)), some (iv (nI (dlo w i n))), some (iv (nI (dhi w i n)))] [iv s0] τ (retV F) := by
          intro s0 hs0
          subst hs0
          refine l_m_look_66 _ _ _ _ _ _ _ _ ?_
          rw [e1, cmp]
          refine ⟨fun q => at86 _ ?_, fun q => at86 _ ?_⟩
          · simp only [ends]; rw [if_neg (by omega)]
          · simp only [ends]; rw [if_pos (by omega)]
        rw [cmp]
        refine ⟨fun q => at66 _ ?_, fun q => ⟨fun q2 => at66 _ ?_, fun q2 => at66 _ ?_⟩⟩
        · have : n = 0 := by rw [show (0 : Int32) = nI 0 from rfl, nI_eq (by omega) (by omega)] at q; exact q
          simp only [ends]; rw [if_pos (Or.inl this)]
        · have : ¬ n = 0 := fun e => q (by rw [e]; rfl)
          simp only [ends]; rw [if_neg (by omega)]
        · simp only [ends]; rw [if_pos (Or.inr (by omega))]
  refine e_m_look _ _ _ ?_
  refine loop (nd w i) 0 (by omega) _ ?_ ?_ ?_
  · exact (Fr.rf.up ⟨rfl, by omega, by omega⟩).up ⟨rfl, by omega, by omega⟩
  · simp (disch := omega) only [up_at, up_ka, up_jb]; rfl
  · rw [up_at]; rfl
