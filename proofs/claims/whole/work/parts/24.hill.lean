/-! both sides' worlds apart -/
def XW (w : Wo) (σ : St) : Prop := cW w 36 50 σ ∧ cD w 36 σ
def MW (w : Wo) (σ : St) : Prop := mW w (σ 126) (σ 128) ∧ mD w σ ∧ σ 122 7 = (if n4 w = 0 then 0 else 1)
def PXc (a _b : Nat) : Prop := (36 ≤ a ∧ a ≤ 60) ∨ (114 ≤ a ∧ a ≤ 119)
def PMc (a b : Nat) : Prop := MS a b ∨ a = 126 ∨ a = 128 ∨ a = 130 ∨ a = 131
theorem XW_e {w : Wo} {σ τ : St} (e : ∀ a b, 36 ≤ a → a ≤ 60 → τ a b = σ a b) (h : XW w σ) : XW w τ := by
  refine ⟨cW_frm e h.1, fun a ha => ?_⟩
  rw [e _ _ (by omega) (by omega), e _ _ (by omega) (by omega), e _ _ (by omega) (by omega), e _ _ (by omega) (by omega)]; exact h.2 a ha
theorem MW_e {w : Wo} {σ τ : St} (e : ∀ a b, (a = 126 ∨ a = 128 ∨ a = 130 ∨ a = 131 ∨ (a = 122 ∧ b = 7)) → τ a b = σ a b) (h : MW w σ) : MW w τ := by
  have e1 : τ 126 = σ 126 := funext fun b => e 126 b (by omega)
  have e2 : τ 128 = σ 128 := funext fun b => e 128 b (by omega)
  refine ⟨by rw [e1, e2]; exact h.1, fun a ha => ?_, by rw [e 122 7 (by omega)]; exact h.2.2⟩
  rw [e 130 a (by omega), e 131 a (by omega)]; exact h.2.1 a ha
theorem XW_m {w : Wo} {σ τ : St} (f : Fr PMc σ τ) (h : XW w σ) : XW w τ := XW_e (fun a b h1 h2 => f a b (by unfold PMc MS; omega)) h
theorem MW_x {w : Wo} {σ τ : St} (f : Fr PXc σ τ) (h : MW w σ) : MW w τ := MW_e (fun a b h1 => f a b (by unfold PXc; omega)) h
theorem RW_mk {w : Wo} {σ : St} (h1 : okF w) (h2 : okH w) (h3 : XW w σ) (h4 : MW w σ) : RW σ := ⟨w, h1, h2, h3.1, h3.2, h4.1, h4.2.1, h4.2.2⟩
theorem px_pw {σ τ : St} (h : Fr PXc σ τ) : Fr PW σ τ := h.mn fun a b q => by unfold PXc at q; unfold PW SC; omega
theorem pm_pw {σ τ : St} (h : Fr PMc σ τ) : Fr PW σ τ := h.mn fun a b q => by unfold PMc at q; unfold PW SC; rcases q with q | q; exact Or.inl (Or.inr q); omega
theorem ph_px {σ τ : St} (h : Fr PH σ τ) : Fr PXc σ τ := h.mn fun a b q => by unfold PH at q; unfold PXc; omega
theorem m28_pm {σ τ : St} (h : Fr (fun p _ => p = 128) σ τ) : Fr PMc σ τ := h.mn fun a b q => by unfold PMc; omega
theorem fz {σ τ : St} (h : Fr PMc σ τ) : Fr PMc σ (up τ 122 0 0) := h.up (Or.inl (Or.inl ⟨rfl, Or.inl rfl⟩))
theorem xadd {w : Wo} {σ : St} (hx : XW w σ) (hn : nh w < 12) (a b : Int32) (F : St → Prop) (h : ∀ τ, Fr PXc σ τ → XW (addH w a b) τ → F τ) : CallV hd_hi_add [rf 43 50, iv a, iv b] σ F :=
  x_add hx.1 hn a b F fun τ ht hb ho hc => h τ (ph_px ht) ⟨hc, cD_cg (w := w) rfl rfl fun a ha => by
    obtain ⟨g1, g2, g3, g4⟩ := hx.2 a ha
    exact ⟨by rw [ho _ _ (by omega)]; exact g1, by rw [ho _ _ (by omega)]; exact g2, by rw [ho _ _ (by omega)]; exact g3, fun q => hb a (g4 q)⟩⟩
theorem madd {w : Wo} {σ : St} (hm : MW w σ) (hn : nh w < 12) (hH : okH w) (a b : Int32) (F : Int32 → St → Prop) (h : ∀ τ, Fr PMc σ τ → MW (addH w a b) τ → F (nI (nh w)) τ) : CallI hd_m_newHill [rf 55 122, iv a, iv b] σ F :=
  m_add hm.1 hn hH a b F fun τ ht hc => h τ (m28_pm ht) ⟨hc, mD_cg (w := w) rfl rfl fun a ha => by
    rw [ht _ _ (by omega), ht _ _ (by omega)]; exact hm.2.1 a ha, by rw [ht _ _ (by omega)]; exact hm.2.2⟩
theorem vroom {w : Wo} {σ : St} (hc : cW w 36 50 σ) (hH : okH w) {m : Nat} (hm : m ≤ 100) : p_hi_hasRoom 50 (nI m) σ = if nh w + m ≤ 12 then 1 else 0 := by
  have := hH.1
  unfold p_hi_hasRoom
  rw [show σ 50 8 = nI (nh w) from hc.2.2.1, nI_add, show (12 : Int32) = nI 12 from rfl]
  have e : nI 12 < nI (nh w + m) ↔ 12 < nh w + m := nI_ltI (by omega) (by omega)
  by_cases c : nh w + m ≤ 12
  · rw [if_pos c, if_neg (by rw [e]; omega)]
  · rw [if_neg c, if_pos (by rw [e]; omega)]
theorem r_hill (a1 a2 : Int32) (σ : St) (G : Int32 → Int32 → St → Prop) (hR : RW σ) (k : KW σ G) :
    CallI hd_x_hill [rf 54 0, iv a1, iv a2] σ (fun r σ1 => CallI hd_m_hill [rf 55 122, iv a1, iv a2] σ1 (fun r' σ2 => G r r' σ2)) := by
  have hR' := hR
  obtain ⟨w, hF, hH, hc, hcd, hm, hmd, h7⟩ := hR
  have hx : XW w σ := ⟨hc, hcd⟩
  have hM : MW w σ := ⟨hm, hmd, h7⟩
  have nhh := hH.1
  have kb : ∀ r, G r r (up σ 122 0 0) := fun r => k _ _ (sc_pw fr0) (RW_fr fr0 hR')
  refine e_x_hill a1 a2 σ _ (gx_place (fun c1 => on ?_) (fun c => of (e_m_hill _ _ _ _ (gm_place0 c (of (kb _))))))
  refine gx_place (fun c2 => on' ?_) (fun c => of' (e_m_hill _ _ _ _ (gm_place1 c1 (on (gm_place0 c (of' (kb _)))))))
  refine gx_there hc hF (fun h4 => on' ?_) (fun h4 => of' (e_m_hill _ _ _ _ (gm_place1 c1 (on (gm_place1 c2 (on' ?_))))))
  rotate_left
  · rw [mt0 h7 h4]; exact of' (kb _)
  refine q_hi_hasRoom _ _ _ _ ?_
  rw [show (1 : Int32) = nI 1 from rfl, vroom hc hH (by omega)]
  by_cases c : nh w + 1 ≤ 12
  · rw [if_pos c]
    refine on' (xadd hx (by omega) a1 a2 _ fun τ ht hxt => ?_)
    rw [show τ 50 8 = nI (nh w + 1) from hxt.1.2.2.1, show nI (nh w + 1) - nI 1 = nI (nh w) by rw [← nI_1]; show nI (nh w) + 1 - 1 = _; grind]
    have hM0 : MW w (up τ 122 0 0) := MW_e (fun a b q => by rw [up_o _ _ (by omega)]) (MW_x ht hM)
    refine e_m_hill _ _ _ _ (gm_place1 c1 (on (gm_place1 c2 (on' ?_))))
    rw [mt1 (MW_x ht hM).2.2 h4]
    refine on' ⟨vz, ?_⟩
    rw [c_0, hM0.1.2.2.1]
    refine ⟨fun _ => madd hM0 (by omega) hH a1 a2 _ fun ρ hr hm2 => ?_, fun q => ?_⟩
    · have f2 : Fr PMc τ ρ := (fz Fr.rf).tr hr
      exact k _ _ ((px_pw ht).tr (pm_pw f2)) (RW_mk (okF_cg (w := w) (w' := addH w a1 a2) rfl rfl hF) (okH_add hH (by omega) h4 c1 c2) (XW_m f2 hxt) hm2)
    · rw [show (12 : Int32) = nI 12 from rfl, nI_eq (by omega) (by omega)] at q; omega
  · rw [if_neg c]
    refine of' (e_m_hill _ _ _ _ (gm_place1 c1 (on (gm_place1 c2 (on' ?_)))))
    rw [mt1 h7 h4]
    refine on' ⟨vz, ?_⟩
    rw [c_0, (mWs_fr fr0 hm).2.2.1]
    refine ⟨fun q => ?_, fun _ => kb _⟩
    rw [show (12 : Int32) = nI 12 from rfl, nI_eq (by omega) (by omega)] at q; omega
def setN (w : Wo) (i : Nat) (y s : Int32) : Wo := (w.1, w.2.1, w.2.2.1, w.2.2.2.1, ((fun j => if j = i then true else wnl w j), (fun j => if j = i then y else wny w j), (fun j => if j = i then s else wnw w j)))
theorem setN_lo {w : Wo} {i j : Nat} {y s : Int32} : lo (setN w i y s) j = lo w j ∧ hi (setN w i y s) j = hi w j ∧ ag (setN w i y s) j = ag w j := lo_cg rfl rfl fun _ _ => ⟨rfl, rfl⟩
theorem r_needle (a1 a2 a3 : Int32) (σ : St) (G : Int32 → Int32 → St → Prop) (hR : RW σ) (k : KW σ G) :
    CallI hd_x_needle [rf 54 0, iv a1, iv a2, iv a3] σ (fun r σ1 => CallI hd_m_needle [rf 55 122, iv a1, iv a2, iv a3] σ1 (fun r' σ2 => G r r' σ2)) := by
  have hR' := hR
  obtain ⟨w, hF, hH, hc, hcd, hm, hmd, h7⟩ := hR
  have hx : XW w σ := ⟨hc, hcd⟩
  have hM : MW w σ := ⟨hm, hmd, h7⟩
  have nhh := hH.1
  have hm0 := mWs_fr fr0 hm
  have kb : ∀ r, G r r (up σ 122 0 0) := fun r => k _ _ (sc_pw fr0) (RW_fr fr0 hR')
  refine e_x_needle a1 a2 a3 σ _ (gx_hill hc hH (fun i hi' e => on ?_) (fun c => of (e_m_needle _ _ _ _ _ (gm_hill0 hm0 hH c (of (kb _))))))
  subst e
  refine gx_place (fun c2 => on ?_) (fun c => of (e_m_needle _ _ _ _ _ (gm_hill1 hm0 hH hi' (on (gm_place0 c (of (kb _)))))))
  refine gx_within 0 999 (fun c3 => on' ?_) (fun c => of' (e_m_needle _ _ _ _ _ (gm_hill1 hm0 hH hi' (on (gm_place1 c2 (on (gm_in0 (by rw [i2l, tl_0, tl_999]; exact c) (of' (kb _)))))))))
  have v12 : vp_in (nI i) 12 := vin0 i rfl (by omega) (by decide)
  rw [t_0, t_999] at c3
  have ci : (nI i).toNatClampNeg = i := nI_clamp (by omega)
  rw [ci]
  refine ⟨v12, v12, ?_⟩
  have hF2 : okF (setN w i a2 a3) := okF_cg rfl rfl hF
  have hH2 : okH (setN w i a2 a3) := by
    refine ⟨hH.1, hH.2.1, fun j hj => ?_⟩
    obtain ⟨g1, g2, g3, g4, g5⟩ := hH.2.2 j hj
    refine ⟨g1, g2, g3, fun q => ?_, g5⟩
    by_cases e : j = i
    · subst e
      show wi (if j = j then a2 else _) _ _ ∧ wi (if j = j then a3 else _) _ _
      rw [if_pos rfl, if_pos rfl]; exact ⟨c2, c3⟩
    · show wi (if j = i then a2 else wny w j) _ _ ∧ wi (if j = i then a3 else wnw w j) _ _
      have q : (if j = i then true else wnl w j) = true := q
      rw [if_neg e] at q ⊢; rw [if_neg e]; exact g4 q
  generalize hτ : up (up σ 57 i a2) 58 i a3 = τ
  have ft : Fr PXc σ τ := by
    rw [← hτ]
    have p : ∀ x, 36 ≤ x → x ≤ 60 → ∀ y, PXc x y := fun x h1 h2 _ => Or.inl ⟨h1, h2⟩
    exact (Fr.rf.up (p _ (by omega) (by omega) _)).up (p _ (by omega) (by omega) _)
  have hx2 : XW (setN w i a2 a3) τ := by
    refine ⟨?_, cD_cg (w := w) rfl rfl fun a ha => ?_⟩
    · obtain ⟨⟨c1, c2, c3, c4, c5⟩, ⟨d1, d2, d3, d4, d5⟩, c6, c7⟩ := hc
      have e : ∀ a b, ¬ a = 57 → ¬ a = 58 → τ a b = σ a b := fun a b h1 h2 => by rw [← hτ]; simp (disch := omega) only [up_ka]
      refine ⟨⟨?_, ?_, ?_, ?_, ?_⟩, ⟨fun i hi => ?_, fun i hi => ?_, fun i hi => ?_, fun i hi => ?_, fun i hi => ?_⟩, ?_, fun j hj => ?_⟩
      · rw [e _ _ (by omega) (by omega)]; exact c1
      · rw [e _ _ (by omega) (by omega)]; exact c2
      · rw [e _ _ (by omega) (by omega)]; exact c3
      · rw [e _ _ (by omega) (by omega)]; exact c4
      · rw [e _ _ (by omega) (by omega)]; exact c5
      · rw [e _ _ (by omega) (by omega)]; exact d1 i hi
      · rw [e _ _ (by omega) (by omega)]; exact d2 i hi
      · rw [e _ _ (by omega) (by omega)]; exact d3 i hi
      · rw [e _ _ (by omega) (by omega)]; exact d4 i hi
      · rw [e _ _ (by omega) (by omega)]; exact d5 i hi
      · rw [e _ _ (by omega) (by omega)]; exact c6
      · obtain ⟨g1, g2, g3, g4, g5, g6, g7, g8, g9⟩ := c7 j hj
        obtain ⟨l1, l2, l3⟩ := @setN_lo w i j a2 a3
        rw [e _ _ (by omega) (by omega), e _ _ (by omega) (by omega), e _ _ (by omega) (by omega), e _ _ (by omega) (by omega), e _ _ (by omega) (by omega), e _ _ (by omega) (by omega), l1, l2, l3]
        refine ⟨g1, g2, g3, g4, g5, g6, ?_, ?_, fun d hd => ?_⟩
        · show (if j = i then true else wnl w j) = true → τ 57 j = (if j = i then a2 else wny w j)
          rw [← hτ, up_ka _ _ (by omega)]
          by_cases z : j = i
          · subst z; rw [up_at, if_pos rfl, if_pos rfl]; exact fun _ => rfl
          · rw [up_jb _ _ z, if_neg z, if_neg z]; exact g7
        · show τ 58 j = (if (if j = i then true else wnl w j) = true then (if j = i then a3 else wnw w j) else -1)
          rw [← hτ]
          by_cases z : j = i
          · subst z; rw [up_at, if_pos rfl, if_pos rfl, if_pos rfl]
          · rw [up_jb _ _ z, if_neg z, if_neg z, up_ka _ _ (by omega)]; exact g8
        · rw [e _ _ (by omega) (by omega), e _ _ (by omega) (by omega)]; exact g9 d hd
    · rw [← hτ]; simp (disch := omega) only [up_ka]; exact hcd a ha
  have hM1 := MW_x ft hM
  have hM0 : MW w (up τ 122 0 0) := MW_e (fun a b q => by rw [up_o _ _ (by omega)]) hM1
  refine e_m_needle _ _ _ _ _ (gm_hill1 hM0.1 hH hi' (on (gm_place1 c2 (on (gm_in1 (by rw [i2l, tl_0, tl_999]; exact c3) (on' ?_))))))
  have e37 : (37 : Int32) + nI i = nI (37 + i) := nI_add 37 i
  have e49 : (49 : Int32) + nI i = nI (49 + i) := nI_add 49 i
  have e61 : (61 : Int32) + nI i = nI (61 + i) := nI_add 61 i
  refine ⟨vin0 _ e37 (by omega) (by decide), vin0 _ e49 (by omega) (by decide), vin0 _ e61 (by omega) (by decide), ?_⟩
  rw [e37, e49, e61, nI_clamp (by omega), nI_clamp (by omega), nI_clamp (by omega)]
  have f2 : Fr PMc τ (up (up (up (up τ 122 0 0) 128 (37 + i) 1) 128 (49 + i) a2) 128 (61 + i) a3) := by
    have p : ∀ y, PMc 128 y := fun _ => Or.inr (Or.inr (Or.inl rfl))
    exact (((fz Fr.rf).up (p _)).up (p _)).up (p _)
  refine k _ _ ((px_pw ft).tr (pm_pw f2)) (RW_mk hF2 hH2 (XW_m f2 hx2) ⟨?_, mD_cg (w := w) rfl rfl fun a ha => ?_, ?_⟩)
  · obtain ⟨⟨c1, c2, c3, c4, c5⟩, ⟨d1, d2, d3, d4, d5⟩, c6, c7⟩ := hM1.1
    have e126 : up (up (up (up τ 122 0 0) 128 (37 + i) 1) 128 (49 + i) a2) 128 (61 + i) a3 126 = τ 126 := funext fun x => by
      simp (disch := omega) only [up_ka]
    rw [e126]
    refine ⟨⟨c1, c2, c3, c4, c5⟩, ⟨d1, d2, d3, d4, d5⟩, ?_, fun j hj => ?_⟩
    · simp (disch := omega) only [up_at, up_ka, up_jb]; exact c6
    · obtain ⟨g1, g2, g3, g4, g5, g6⟩ := c7 j hj
      have hj12 : j < 12 := by have : j < nh w := hj; omega
      simp (disch := omega) only [up_at, up_ka, up_jb]
      refine ⟨g1, g2, g3, ?_, ?_, fun d hd => g6 d hd⟩
      · show _ = if (if j = i then true else wnl w j) = true then 1 else 0
        by_cases z : j = i
        · subst z; rw [up_at, if_pos rfl]; rfl
        · rw [up_jb _ _ (by omega), if_neg z, up_ka _ _ (by omega)]; exact g4
      · show (if j = i then true else wnl w j) = true → _ = (if j = i then a2 else wny w j) ∧ _ = (if j = i then a3 else wnw w j)
        by_cases z : j = i
        · subst z; intro _; rw [up_at, up_at, if_pos rfl, if_pos rfl]; exact ⟨rfl, rfl⟩
        · rw [if_neg z, if_neg z, if_neg z, up_jb _ _ (by omega), up_jb _ _ (by omega), up_jb _ _ (by omega), up_jb _ _ (by omega), up_jb _ _ (by omega), up_ka _ _ (by omega)]
          exact g5
  · simp (disch := omega) only [up_ka]; exact hM1.2.1 a ha
  · simp (disch := omega) only [up_ka, up_jb]; exact hM1.2.2
