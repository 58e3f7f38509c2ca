/-! where stories have hills -/
def whS (w : Wo) (s : Nat) : Int32 := wst w (2 * s)
def fOf (w : Wo) (s : Nat) : Nat := if whS w s = 2 then 1 else n1 w
/-- start, step by ages, of a fire (the crack): c = 0 x, 1 y -/
def stS (w : Wo) (s f c : Nat) : Int32 := if whS w s = 2 then wcr w c else wfi w (6 * f + c)
def spS (w : Wo) (s f c : Nat) : Int32 := if whS w s = 2 then wcr w (2 + c) else if whS w s = 1 then -wfi w (6 * f + (2 + c)) else 0
def drS (w : Wo) (s c a : Nat) : Int32 := if whS w s = 2 then 0 else drf w (c + 1) a
def wdS (w : Wo) (s f : Nat) : Int32 := if whS w s = 2 then wcr w 4 else wfi w (6 * f + 5)
def plc (w : Wo) (s f a c : Nat) : Int32 := stS w s f c + spS w s f c * nI a + drS w s c a
theorem mulN (a b : Nat) : nI a * nI b = nI (a * b) := pk_mul a b
theorem six (f c : Nat) : nI f * 6 + nI c = nI (6 * f + c) := by rw [show (6 : Int32) = nI 6 from rfl, mulN, nI_add, Nat.mul_comm]
theorem two (s : Nat) : nI s * 2 + 0 = nI (2 * s) := by rw [show (2 : Int32) = nI 2 from rfl, show (0 : Int32) = nI 0 from rfl, mulN, nI_add, Nat.mul_comm]; rfl
theorem fOf_le {w : Wo} (hF : okF w) (s : Nat) : fOf w s ≤ 4 := by unfold fOf; have := hF.1.2.1; split <;> omega
theorem fOf_f {w : Wo} (hF : okF w) {s f : Nat} (hf : f < fOf w s) : f < 4 ∧ (¬ whS w s = 2 → f < n1 w) ∧ (whS w s = 2 → f = 0) := by
  have := hF.1.2.1
  unfold fOf at hf
  by_cases c : whS w s = 2
  · rw [if_pos c] at hf; exact ⟨by omega, fun q => absurd c q, fun _ => by omega⟩
  · rw [if_neg c] at hf; exact ⟨by omega, fun _ => hf, fun q => absurd q c⟩
section XP
variable {w : Wo} {σ : St}
theorem x_li (hc : cW w 36 50 σ) (hF : okF w) {s : Nat} (hs : s < n4 w) : p_li_at_L_stories 45 (nI s) 0 σ = whS w s := by
  unfold p_li_at_L_stories
  have := hF.1.2.2.2.2.1
  rw [two, nI_clamp (by omega)]
  exact hc.2.1.2.2.2.2 _ (by omega)
theorem x_crack (hc : cW w 36 50 σ) (hF : okF w) {s : Nat} (hs : s < n4 w) : p_fl_isCrack 36 (nI s) σ = if whS w s = 2 then 1 else 0 := by
  unfold p_fl_isCrack
  rw [show 36 + 9 = 45 from rfl, x_li hc hF hs]
theorem x_vs (hF : okF w) {s : Nat} (hs : s < n4 w) : vp_in (nI s * 2 + 0) 8 := by
  have := hF.1.2.2.2.2.1
  exact vin0 (2 * s) (two s) (by omega) (by omega)
theorem x_firesOf (hc : cW w 36 50 σ) (hF : okF w) {s : Nat} (hs : s < n4 w) : p_fl_firesOf 36 (nI s) σ = nI (fOf w s) := by
  unfold p_fl_firesOf fOf
  rw [x_crack hc hF hs, show σ (36 + 3) 2 = nI (n1 w) from hc.1.2.1]
  by_cases c : whS w s = 2
  · rw [if_pos c, if_pos c, if_neg one_ne]; rfl
  · rw [if_neg c, if_neg c, if_pos rfl]
theorem x_isFire (hc : cW w 36 50 σ) (hF : okF w) {s : Nat} (hs : s < n4 w) (a : Int32) : p_x_isFireOf (nI s) a σ = if 0 ≤ a.toInt ∧ a.toInt < fOf w s then 1 else 0 := by
  unfold p_x_isFireOf
  rw [x_firesOf hc hF hs, in_lt (by have := fOf_le hF s; omega)]
theorem x_fi (hc : cW w 36 50 σ) (hF : okF w) {f c : Nat} (hf : f < n1 w) (hcc : c < 6) : p_li_at_L_fires 39 (nI f) (nI c) σ = wfi w (6 * f + c) := by
  unfold p_li_at_L_fires
  have := hF.1.2.1
  rw [six, nI_clamp (by omega)]
  exact hc.2.1.2.1 _ (by omega)
theorem x_cr (hc : cW w 36 50 σ) (hF : okF w) {c : Nat} (h3 : 0 < n3 w) (hcc : c < 5) : p_li_at_L_cracks 43 0 (nI c) σ = wcr w c := by
  unfold p_li_at_L_cracks
  rw [show (0 : Int32) * 5 + nI c = nI c by rw [show (0 : Int32) * 5 = nI 0 from rfl, nI_add, Nat.zero_add], nI_clamp (by omega)]
  exact hc.2.1.2.2.2.1 _ (by omega)
theorem cr3 (hF : okF w) {s : Nat} (hs : s < n4 w) (c : whS w s = 2) : 0 < n3 w := (hF.2.2.2.2.2 s hs).2.2 c
theorem ad0 (c : Nat) : 0 + nI c = nI c := by rw [show (0 : Int32) = nI 0 from rfl, nI_add, Nat.zero_add]
theorem ad2 (c : Nat) : 2 + nI c = nI (2 + c) := nI_add 2 c
theorem x_st (hc : cW w 36 50 σ) (hF : okF w) {s f c : Nat} (hs : s < n4 w) (hf : f < fOf w s) (hcc : c < 2) (F : Int32 → St → Prop) (h : F (stS w s f c) σ) : CallI hd_fl_startOf [rf 42 36, iv (nI s), iv (nI f), iv (nI c)] σ F := by
  obtain ⟨f4, fn, f0⟩ := fOf_f hF hf
  refine q_fl_startOf _ _ _ _ _ _ (x_vs hF hs) (fun _ => ?_) (fun _ => ?_) ?_
  · rw [ad0]; exact vin0 _ (six f c) (by omega) (by omega)
  · rw [ad0]; exact vin0 c (by rw [show (0 : Int32) * 5 = nI 0 from rfl, nI_add, Nat.zero_add]) (by omega) (by omega)
  · unfold p_fl_startOf
    rw [x_crack hc hF hs, ad0]
    unfold stS at h
    by_cases c2 : whS w s = 2
    · rw [if_pos c2, if_neg one_ne, show 36 + 7 = 43 from rfl, x_cr hc hF (cr3 hF hs c2) (by omega)]
      rw [if_pos c2] at h; exact h
    · rw [if_neg c2, if_pos rfl, show 36 + 3 = 39 from rfl, x_fi hc hF (fn c2) (by omega)]
      rw [if_neg c2] at h; exact h
theorem x_sp (hc : cW w 36 50 σ) (hF : okF w) {s f c : Nat} (hs : s < n4 w) (hf : f < fOf w s) (hcc : c < 2) (F : Int32 → St → Prop) (h : F (spS w s f c) σ) : CallI hd_fl_stepOf [rf 42 36, iv (nI s), iv (nI f), iv (nI c)] σ F := by
  obtain ⟨f4, fn, f0⟩ := fOf_f hF hf
  refine q_fl_stepOf _ _ _ _ _ _ (x_vs hF hs) (fun _ => x_vs hF hs) (fun _ _ => ?_) (fun _ => ?_) ?_
  · rw [ad2]; exact vin0 _ (six f (2 + c)) (by omega) (by omega)
  · rw [ad2]; exact vin0 (2 + c) (by rw [show (0 : Int32) * 5 = nI 0 from rfl, nI_add, Nat.zero_add]) (by omega) (by omega)
  · unfold p_fl_stepOf
    rw [x_crack hc hF hs, ad2, show 36 + 9 = 45 from rfl, x_li hc hF hs]
    unfold spS at h
    by_cases c2 : whS w s = 2
    · rw [if_pos c2, if_neg one_ne, show 36 + 7 = 43 from rfl, x_cr hc hF (cr3 hF hs c2) (by omega)]
      rw [if_pos c2] at h; exact h
    · rw [if_neg c2, if_pos rfl]
      rw [if_neg c2] at h
      by_cases c1 : whS w s = 1
      · rw [if_pos c1] at h ⊢
        rw [show 36 + 3 = 39 from rfl, x_fi hc hF (fn c2) (by omega)]; exact h
      · rw [if_neg c1] at h ⊢; exact h
theorem x_wd (hc : cW w 36 50 σ) (hF : okF w) {s f : Nat} (hs : s < n4 w) (hf : f < fOf w s) (F : Int32 → St → Prop) (h : F (wdS w s f) σ) : CallI hd_fl_wideOf [rf 42 36, iv (nI s), iv (nI f)] σ F := by
  obtain ⟨f4, fn, f0⟩ := fOf_f hF hf
  refine q_fl_wideOf _ _ _ _ _ (x_vs hF hs) (fun _ => ?_) (fun _ => ?_) ?_
  · exact vin0 _ (six f 5) (by omega) (by omega)
  · exact vin0 4 rfl (by omega) (by omega)
  · unfold p_fl_wideOf
    rw [x_crack hc hF hs]
    unfold wdS at h
    by_cases c2 : whS w s = 2
    · rw [if_pos c2, if_neg one_ne, show 36 + 7 = 43 from rfl, show (4 : Int32) = nI 4 from rfl, x_cr hc hF (cr3 hF hs c2) (by omega)]
      rw [if_pos c2] at h; exact h
    · rw [if_neg c2, if_pos rfl, show 36 + 3 = 39 from rfl, show (5 : Int32) = nI 5 from rfl, x_fi hc hF (fn c2) (by omega)]
      rw [if_neg c2] at h; exact h
/-- the row of drift that a story takes: its place, and what it holds -/
theorem x_dr (hc : cW w 36 50 σ) (hD : cD w 36 σ) (hF : okF w) {s c : Nat} (hs : s < n4 w) (hcc : c < 2) (F : Nat → St → Prop) (h : ∀ r, (47 ≤ r ∧ r ≤ 49) → (∀ a, a < 100 → σ r a = drS w s c a) → F r σ) : CallR hd_fl_driftOf [rf 42 36, iv (nI s), iv (nI c)] σ F := by
  refine q_fl_driftOf _ _ _ _ _ (x_vs hF hs) ?_
  unfold p_fl_driftOf
  rw [x_crack hc hF hs]
  by_cases c2 : whS w s = 2
  · rw [if_pos c2, if_neg one_ne]
    refine h _ (by omega) fun a ha => ?_
    unfold drS
    rw [if_pos c2]; exact (hD a ha).2.2.1
  · rw [if_neg c2, if_pos rfl]
    rcases (show c = 0 ∨ c = 1 by omega) with e | e
    · subst e
      rw [if_pos (show nI 0 = 0 from rfl)]
      refine h _ (by omega) fun a ha => ?_
      unfold drS
      rw [if_neg c2]; exact (hD a ha).1
    · subst e
      rw [if_neg (by decide)]
      refine h _ (by omega) fun a ha => ?_
      unfold drS
      rw [if_neg c2]; exact (hD a ha).2.1
theorem x_plc (hc : cW w 36 50 σ) (hD : cD w 36 σ) (hF : okF w) {s f a c : Nat} (hs : s < n4 w) (hf : f < fOf w s) (ha : a < 100) (hcc : c < 2) (F : Int32 → St → Prop) (h : F (plc w s f a c) σ) : CallI hd_fl_placeOf [rf 42 36, iv (nI s), iv (nI f), iv (nI a), iv (nI c)] σ F := by
  refine e_fl_placeOf _ _ _ _ _ _ _ (x_st hc hF hs hf hcc _ (x_sp hc hF hs hf hcc _ (x_dr hc hD hF hs hcc _ fun r hr hv => ⟨vin0 a rfl (by omega) (by omega), ?_⟩)))
  rw [nI_clamp (by omega), hv a ha]
  exact h
theorem x_there (hc : cW w 36 50 σ) (hF : okF w) : p_wo_isThere 35 σ = if 0 < n4 w then 1 else 0 := by
  unfold p_wo_isThere
  have := hF.1.2.2.2.2.1
  rw [show σ (35 + 1 + 9) 2 = nI (n4 w) from hc.1.2.2.2.2]
  by_cases h : 0 < n4 w
  · rw [if_neg (by rw [show (0 : Int32) = nI 0 from rfl, nI_leI (by omega) (by omega)]; omega), if_pos h]
  · rw [if_pos (by rw [show (0 : Int32) = nI 0 from rfl, nI_leI (by omega) (by omega)]; omega), if_neg h]
end XP
section MP
variable {w : Wo} {σ : St}
theorem m_wh (hm : mW w (σ 126) (σ 128)) (hF : okF w) {s : Nat} (hs : s < n4 w) : p_m_which (nI s) σ = whS w s := by
  unfold p_m_which
  have := hF.1.2.2.2.2.1
  rw [show (54 : Int32) + 2 * nI s = nI (54 + 2 * s) by rw [show (54 : Int32) = nI 54 from rfl, show (2 : Int32) = nI 2 from rfl, mulN, nI_add], nI_clamp (by omega)]
  exact hm.2.1.2.2.2.2 _ (by omega)
theorem m_vs (hF : okF w) {s : Nat} (hs : s < n4 w) : vp_in (54 + 2 * nI s) 62 := by
  have := hF.1.2.2.2.2.1
  exact vin0 (54 + 2 * s) (by rw [show (54 : Int32) = nI 54 from rfl, show (2 : Int32) = nI 2 from rfl, mulN, nI_add]) (by omega) (by omega)
theorem m_ixf (f c : Nat) : 17 + 6 * nI f + nI c = nI (17 + 6 * f + c) := by rw [show (17 : Int32) = nI 17 from rfl, show (6 : Int32) = nI 6 from rfl, mulN, nI_add, nI_add]
theorem m_vf {f c : Nat} (hf : f < 4) (hc : c < 6) : vp_in (17 + 6 * nI f + nI c) 62 := vin0 _ (m_ixf f c) (by omega) (by omega)
theorem m_fi (hm : mW w (σ 126) (σ 128)) (hF : okF w) {f c : Nat} (hf : f < n1 w) (hcc : c < 6) : p_m_fireOf (nI f) (nI c) σ = wfi w (6 * f + c) := by
  unfold p_m_fireOf
  have := hF.1.2.1
  rw [m_ixf, nI_clamp (by omega), show 17 + 6 * f + c = 17 + (6 * f + c) by omega]
  exact hm.2.1.2.1 _ (by omega)
theorem m_firesOf (hm : mW w (σ 126) (σ 128)) (hF : okF w) {s : Nat} (hs : s < n4 w) : p_m_firesOf (nI s) σ = nI (fOf w s) := by
  unfold p_m_firesOf fOf
  rw [m_wh hm hF hs, c_1, hm.1.2.1]
  by_cases c : whS w s = 2
  · rw [if_pos c, if_pos c]; rfl
  · rw [if_neg c, if_neg c]
theorem q_mfires (hm : mW w (σ 126) (σ 128)) (hF : okF w) {s : Nat} (hs : s < n4 w) (F : Int32 → St → Prop) (h : F (nI (fOf w s)) σ) : CallI hd_m_firesOf [rf 55 122, iv (nI s)] σ F := by
  refine q_m_firesOf _ _ _ (m_vs hF hs) (fun _ => vin0 1 rfl (by decide) (by decide)) ?_
  rw [m_firesOf hm hF hs]; exact h
theorem m_plx (hm : mW w (σ 126) (σ 128)) (hD : mD w σ) (hF : okF w) {s f a : Nat} (hs : s < n4 w) (hf : f < fOf w s) (ha : a < 100) (F : Int32 → St → Prop) (h : F (plc w s f a 0) σ) : CallI hd_m_placeX [rf 55 122, iv (nI s), iv (nI f), iv (nI a)] σ F := by
  obtain ⟨f4, fn, f0⟩ := fOf_f hF hf
  have va : vp_in (nI a) 100 := vin0 a rfl ha (by decide)
  refine q_m_placeX _ _ _ _ _ (m_vs hF hs) (fun _ => m_vf (c := 0) f4 (by decide)) (fun _ _ => va) (fun _ _ => m_vf (c := 2) f4 (by decide)) (fun _ _ => va) (fun _ => vin0 49 rfl (by decide) (by decide)) (fun _ => vin0 51 rfl (by decide) (by decide)) ?_
  unfold p_m_placeX
  rw [m_wh hm hF hs]
  unfold plc stS spS drS at h
  by_cases c2 : whS w s = 2
  · rw [if_pos c2, c_49, c_51]
    simp only [if_pos c2] at h
    have k3 := cr3 hF hs c2
    have y0 := hm.2.1.2.2.2.1 0 (by omega)
    have y2 := hm.2.1.2.2.2.1 2 (by omega)
    rw [show σ 126 49 = wcr w 0 from y0, show σ 126 51 = wcr w 2 from y2]
    have e : wcr w 0 + nI a * wcr w 2 = wcr w 0 + wcr w (2 + 0) * nI a + 0 := by rw [show 2 + 0 = 2 from rfl]; grind
    rw [e]; exact h
  · rw [if_neg c2, nI_clamp (by omega), (hD a ha).1]
    simp only [if_neg c2] at h
    rw [show (0 : Int32) = nI 0 from rfl, show (2 : Int32) = nI 2 from rfl, m_fi hm hF (fn c2) (by decide), m_fi hm hF (fn c2) (by decide)]
    by_cases c1 : whS w s = 1
    · rw [if_pos c1]
      simp only [if_pos c1] at h
      have e : wfi w (6 * f + 0) - nI a * wfi w (6 * f + 2) + drf w 1 a = wfi w (6 * f + 0) + -wfi w (6 * f + (2 + 0)) * nI a + drf w (0 + 1) a := by rw [show 2 + 0 = 2 from rfl, show 0 + 1 = 1 from rfl]; grind
      rw [e]; exact h
    · rw [if_neg c1]
      simp only [if_neg c1] at h
      have e : wfi w (6 * f + 0) - nI 0 + drf w 1 a = wfi w (6 * f + 0) + 0 * nI a + drf w (0 + 1) a := by rw [show nI 0 = 0 from rfl, show 0 + 1 = 1 from rfl]; grind
      rw [e]; exact h
theorem m_ply (hm : mW w (σ 126) (σ 128)) (hD : mD w σ) (hF : okF w) {s f a : Nat} (hs : s < n4 w) (hf : f < fOf w s) (ha : a < 100) (F : Int32 → St → Prop) (h : F (plc w s f a 1) σ) : CallI hd_m_placeY [rf 55 122, iv (nI s), iv (nI f), iv (nI a)] σ F := by
  obtain ⟨f4, fn, f0⟩ := fOf_f hF hf
  have va : vp_in (nI a) 100 := vin0 a rfl ha (by decide)
  refine q_m_placeY _ _ _ _ _ (m_vs hF hs) (fun _ => m_vf (c := 1) f4 (by decide)) (fun _ _ => va) (fun _ _ => m_vf (c := 3) f4 (by decide)) (fun _ _ => va) (fun _ => vin0 50 rfl (by decide) (by decide)) (fun _ => vin0 52 rfl (by decide) (by decide)) ?_
  unfold p_m_placeY
  rw [m_wh hm hF hs]
  unfold plc stS spS drS at h
  by_cases c2 : whS w s = 2
  · rw [if_pos c2, c_50, c_52]
    simp only [if_pos c2] at h
    have k3 := cr3 hF hs c2
    have y0 := hm.2.1.2.2.2.1 1 (by omega)
    have y2 := hm.2.1.2.2.2.1 3 (by omega)
    rw [show σ 126 50 = wcr w 1 from y0, show σ 126 52 = wcr w 3 from y2]
    have e : wcr w 1 + nI a * wcr w 3 = wcr w 1 + wcr w (2 + 1) * nI a + 0 := by rw [show 2 + 1 = 3 from rfl]; grind
    rw [e]; exact h
  · rw [if_neg c2, nI_clamp (by omega), (hD a ha).2]
    simp only [if_neg c2] at h
    rw [show (1 : Int32) = nI 1 from rfl, show (3 : Int32) = nI 3 from rfl, m_fi hm hF (fn c2) (by decide), m_fi hm hF (fn c2) (by decide)]
    by_cases c1 : whS w s = nI 1
    · rw [if_pos c1]
      simp only [if_pos (show whS w s = 1 from c1)] at h
      have e : wfi w (6 * f + 1) - nI a * wfi w (6 * f + 3) + drf w 2 a = wfi w (6 * f + 1) + -wfi w (6 * f + (2 + 1)) * nI a + drf w (1 + 1) a := by rw [show 2 + 1 = 3 from rfl, show 1 + 1 = 2 from rfl]; grind
      rw [e]; exact h
    · rw [if_neg c1]
      simp only [if_neg (show ¬ whS w s = 1 from c1)] at h
      have e : wfi w (6 * f + 1) - 0 + drf w 2 a = wfi w (6 * f + 1) + 0 * nI a + drf w (1 + 1) a := by rw [show 1 + 1 = 2 from rfl]; grind
      rw [e]; exact h
end MP
