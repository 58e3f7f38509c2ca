/-! a world made -/
theorem plc_cg {w w' : Wo} (h1 : w'.1 = w.1) (h2 : w'.2.1 = w.2.1) (s f a c : Nat) : plc w' s f a c = plc w s f a c ∧ fOf w' s = fOf w s ∧ n4 w' = n4 w := by
  have e1 : wst w' = wst w := by unfold wst; rw [h2]
  have e2 : wcr w' = wcr w := by unfold wcr; rw [h2]
  have e3 : wfi w' = wfi w := by unfold wfi; rw [h2]
  have e4 : n1 w' = n1 w := by unfold n1; rw [h1]
  have e5 : n4 w' = n4 w := by unfold n4; rw [h1]
  refine ⟨?_, ?_, e5⟩
  · unfold plc stS spS drS whS; rw [e1, e2, e3, drf_cg h1 h2]
  · unfold fOf whS; rw [e1, e4]
theorem dv99 : ∀ e, e < 21 → 1 ≤ e → (99 : Int32) / nI e + 1 = nI (99 / e + 1) := by decide +kernel
theorem r_made (a1 a2 a3 : Int32) (σ : St) (G : Int32 → Int32 → St → Prop) (hR : RW σ) (k : KW σ G) :
    CallI hd_x_made [rf 54 0, iv a1, iv a2, iv a3] σ (fun r σ1 => CallI hd_m_made [rf 55 122, iv a1, iv a2, iv a3] σ1 (fun r' σ2 => G r r' σ2)) := by
  have hR' := hR
  obtain ⟨w, hF, hH, hc, hcd, hm, hmd, h7⟩ := hR
  have hx : XW w σ := ⟨hc, hcd⟩
  have hM : MW w σ := ⟨hm, hmd, h7⟩
  have nhh := hH.1
  have hm0 := mWs_fr fr0 hm
  have kb : ∀ r, G r r (up σ 122 0 0) := fun r => k _ _ (sc_pw fr0) (RW_fr fr0 hR')
  refine e_x_made a1 a2 a3 σ _ (gx_story hc hF (fun s hs e => on ?_) (fun c => of (e_m_made _ _ _ _ _ (gm_story0 hm0 hF c (of (kb _))))))
  subst e
  refine gx_fire hc hF hs (fun f hf e => on ?_) (fun c => of (e_m_made _ _ _ _ _ (gm_story1 hm0 hF hs (on (gm_fire0 hm0 hF hs c (of (kb _)))))))
  subst e
  refine gx_within 1 6 (fun c3 => on' ?_) (fun c => of' (e_m_made _ _ _ _ _ (gm_story1 hm0 hF hs (on (gm_fire1 hm0 hF hs hf (on (gm_in0 (by rw [i2l, tl_1, tl_6]; exact c) (of' (kb _)))))))))
  rw [t_1, t_6] at c3
  have c3' : (1 : Int64).toInt ≤ a3.toInt64.toInt ∧ a3.toInt64.toInt ≤ (6 : Int64).toInt := by rw [i2l, tl_1, tl_6]; exact c3
  obtain ⟨n, hn, en, -, tn⟩ := ixe (x := a3) (n := 7) (by omega) (by decide)
  subst en
  have h4 : 0 < n4 w := by omega
  have hf1 : f < n1 w := by
    have := hF.1.2.2.2.2.2 h4
    by_cases c2 : whS w s = 2
    · have := (fOf_f hF hf).2.2 c2; omega
    · exact (fOf_f hF hf).2.1 c2
  have f4 := (fOf_f hF hf).1
  have hev := (hF.2.2.1 f hf1).2.2.2.2.1
  unfold wi at hev
  obtain ⟨ev, hev1, eev, -, tev⟩ := ixe (x := wfi w (6 * f + 4)) (n := 21) (by omega) (by decide)
  have ev1 : 1 ≤ ev := by omega
  refine q_li_at_L_fires _ _ _ _ _ (vin0 _ (six f 4) (by omega) (by decide)) ?_
  rw [show (4 : Int32) = nI 4 from rfl, x_fi hc hF hf1 (by omega), eev]
  have hq : 99 / ev ≤ 99 := Nat.div_le_self _ _
  have mulq : ∀ j, j < 99 / ev + 1 → j * ev < 100 := fun j hj => by
    have : j * ev ≤ 99 := by
      have h1 : j ≤ 99 / ev := by omega
      exact Nat.le_trans (Nat.mul_le_mul_right ev h1) (Nat.div_mul_le_self 99 ev)
    omega
  have ev0 : ¬ nI ev = 0 := by rw [show (0 : Int32) = nI 0 from rfl, nI_eq (by omega) (by omega)]; omega
  obtain ⟨c, ec1, ec2, hcn, hcq⟩ : ∃ c, (if nI (99 / ev + 1) < nI n then nI (99 / ev + 1) else nI n) = nI c ∧ ((n ≤ 99 / ev + 1 → c = n) ∧ (¬ n ≤ 99 / ev + 1 → c = 99 / ev + 1)) ∧ c ≤ 6 ∧ c ≤ 99 / ev + 1 := by
    have e : nI (99 / ev + 1) < nI n ↔ 99 / ev + 1 < n := nI_ltI (by omega) (by omega)
    by_cases z : 99 / ev + 1 < n
    · exact ⟨99 / ev + 1, by rw [if_pos (e.mpr z)], ⟨fun q => by omega, fun _ => rfl⟩, by omega, by omega⟩
    · exact ⟨n, by rw [if_neg (fun q => z (e.mp q))], ⟨fun _ => rfl, fun q => by omega⟩, by omega, by omega⟩
  have m74 : ∀ (τ : St) (F : Int32 → St → Prop), MW w (up τ 122 0 0) → At hd_m_made X0 74 [some (rf 55 122), some (iv (nI s)), some (iv (nI f)), some (iv (nI n)), some (iv (nI ev)), some (iv (nI (99 / ev + 1))), none, none] [iv (nI c)] (up τ 122 0 0) (retI F) → CallI hd_m_made [rf 55 122, iv (nI s), iv (nI f), iv (nI n)] τ F := by
    intro τ F hM0 h
    refine e_m_made _ _ _ _ _ (gm_story1 hM0.1 hF hs (on (gm_fire1 hM0.1 hF hs hf (on (gm_in1 c3' (on' (q_m_fireOf _ _ _ _ (m_vf (c := 4) f4 (by decide)) ?_)))))))
    rw [show (4 : Int32) = nI 4 from rfl, m_fi hM0.1 hF hf1 (by decide), eev, dv99 ev hev1 ev1]
    have e : nI n ≤ nI (99 / ev + 1) ↔ n ≤ 99 / ev + 1 := nI_leI (by omega) (by omega)
    refine ⟨ev0, fun q => ?_, fun q => ?_⟩
    · rw [← ec2.1 (e.mp q)]; rw [← ec2.1 (e.mp q)] at h; exact h
    · have ce := ec2.2 (fun z => q (e.mpr z))
      rw [ce] at h; exact h
  rw [dv99 ev hev1 ev1, ec1]
  have one_le : (1 : Int32) ≤ nI ev := by rw [show (1 : Int32) = nI 1 from rfl, nI_leI (by omega) (by omega)]; omega
  refine ⟨fun _ => ⟨ev0, l_x_made_68 _ _ _ _ _ _ _ (q_hi_hasRoom _ _ _ _ ?_)⟩, fun q => absurd one_le q⟩
  rw [vroom hc hH (by omega)]
  by_cases cr : nh w + c ≤ 12
  rotate_left
  · rw [if_neg cr]
    refine of' (m74 σ _ ⟨hm0, mDs_fr fr0 hmd, by rw [up_jb _ _ (by omega)]; exact h7⟩ (l_m_made_74 _ _ _ _ _ _ _ _ ⟨vz, fun q => ?_, fun _ => kb _⟩))
    exfalso
    rw [c_0, hm0.2.2.1, nI_add, show (12 : Int32) = nI 12 from rfl, nI_leI (by omega) (by omega)] at q
    omega
  rw [if_pos cr]
  refine on' ?_
  have ws : ∀ j, j ≤ c → okH (addN w (fun j => plc w s f (j * ev) 0) (fun j => plc w s f (j * ev) 1) j) := fun j hj => addN_ok hH h4 j (by omega) fun q hq => by
    have b0 := plc_b hF hs hf (mulq q (by omega)) (c := 0) (by omega)
    have b1 := plc_b hF hs hf (mulq q (by omega)) (c := 1) (by omega)
    unfold wi
    exact ⟨by omega, by omega⟩
  generalize hxs : (fun j => plc w s f (j * ev) 0) = xs at ws
  generalize hys : (fun j => plc w s f (j * ev) 1) = ys at ws
  have xsj : ∀ j, plc w s f (j * ev) 0 = xs j := fun j => by rw [← hxs]
  have ysj : ∀ j, plc w s f (j * ev) 1 = ys j := fun j => by rw [← hys]
  have cg := fun j => addN_1 w xs ys j
  have fj : ∀ j, okF (addN w xs ys j) := fun j => okF_cg (cg j).1 (cg j).2 hF
  have sj : ∀ j, s < n4 (addN w xs ys j) := fun j => by rw [(plc_cg (cg j).1 (cg j).2 s f 0 0).2.2]; exact hs
  have ffj : ∀ j, f < fOf (addN w xs ys j) s := fun j => by rw [(plc_cg (cg j).1 (cg j).2 s f 0 0).2.1]; exact hf
  have xl : ∀ (F : Int32 → St → Prop), (∀ τ, Fr PXc σ τ → XW (addN w xs ys c) τ → F (nI (nh w + c)) τ) → ∀ m j, j + m = c → ∀ τ, Fr PXc σ τ → XW (addN w xs ys j) τ → At hd_x_made X0 91 [some (rf 54 0), some (iv (nI s)), some (iv (nI f)), some (iv (nI n)), some (iv (nI ev)), some (iv (nI c)), some (iv (nI j)), none] [] τ (retI F) := by
    intro F h m
    induction m with
    | zero =>
      intro j hj τ ht hxt
      have : j = c := by omega
      subst this
      refine l_x_made_91 _ _ _ _ _ _ _ _ ⟨fun _ => ?_, fun q => absurd (by rw [nI_leI (by omega) (by omega)]; omega) q⟩
      rw [show τ 50 8 = nI (nh (addN w xs ys j)) from hxt.1.2.2.1, addN_nh]; exact h τ ht hxt
    | succ m ih =>
      intro j hj τ ht hxt
      refine l_x_made_91 _ _ _ _ _ _ _ _ ⟨fun q => ?_, fun _ => ?_⟩
      · exfalso; rw [nI_leI (by omega) (by omega)] at q; omega
      · rw [mulN]
        refine x_plc (c := 0) hxt.1 hxt.2 (fj j) (sj j) (ffj j) (mulq j (by omega)) (by omega) _ (x_plc (c := 1) hxt.1 hxt.2 (fj j) (sj j) (ffj j) (mulq j (by omega)) (by omega) _ ?_)
        rw [(plc_cg (cg j).1 (cg j).2 s f (j * ev) 0).1, (plc_cg (cg j).1 (cg j).2 s f (j * ev) 1).1, xsj, ysj]
        refine xadd hxt (by rw [addN_nh]; omega) _ _ _ fun ρ hr hxr => ?_
        rw [nI_1]
        exact ih (j + 1) (by omega) ρ (ht.tr hr) hxr
  have ml : ∀ (F : Int32 → St → Prop) (μ : St), (∀ τ, Fr PMc μ τ → MW (addN w xs ys c) τ → F (nI (nh w + c)) τ) → ∀ m j, j + m = c → ∀ τ, Fr PMc μ τ → MW (addN w xs ys j) τ → At hd_m_made X0 96 [some (rf 55 122), some (iv (nI s)), some (iv (nI f)), some (iv (nI n)), some (iv (nI ev)), some (iv (nI c)), some (iv (nI j)), none] [] τ (retI F) := by
    intro F μ h m
    induction m with
    | zero =>
      intro j hj τ ht hxt
      have : j = c := by omega
      subst this
      refine l_m_made_96 _ _ _ _ _ _ _ _ ⟨fun _ => ⟨vz, ?_⟩, fun q => absurd (by rw [nI_leI (by omega) (by omega)]; omega) q⟩
      rw [c_0, hxt.1.2.2.1, addN_nh]; exact h τ ht hxt
    | succ m ih =>
      intro j hj τ ht hxt
      refine l_m_made_96 _ _ _ _ _ _ _ _ ⟨fun q => ?_, fun _ => ?_⟩
      · exfalso; rw [nI_leI (by omega) (by omega)] at q; omega
      · rw [mulN]
        refine m_plx hxt.1 hxt.2.1 (fj j) (sj j) (ffj j) (mulq j (by omega)) _ (m_ply hxt.1 hxt.2.1 (fj j) (sj j) (ffj j) (mulq j (by omega)) _ ?_)
        rw [(plc_cg (cg j).1 (cg j).2 s f (j * ev) 0).1, (plc_cg (cg j).1 (cg j).2 s f (j * ev) 1).1, xsj, ysj]
        refine madd hxt (by rw [addN_nh]; omega) (ws j (by omega)) _ _ _ fun ρ hr hxr => ?_
        rw [nI_1]
        exact ih (j + 1) (by omega) ρ (ht.tr hr) hxr
  refine xl _ (fun τ ht hxt => ?_) c 0 (by omega) σ Fr.rf hx
  have hM1 : MW w (up τ 122 0 0) := MW_e (fun a b q => by rw [up_o _ _ (by omega)]) (MW_x ht hM)
  refine m74 _ _ hM1 (l_m_made_74 _ _ _ _ _ _ _ _ ⟨vz, fun _ => ?_, fun q => ?_⟩)
  · refine ml _ _ (fun ρ hr hMr => ?_) c 0 (by omega) _ Fr.rf hM1
    have f2 : Fr PMc τ ρ := (fz Fr.rf).tr hr
    exact k _ _ ((px_pw ht).tr (pm_pw f2)) (RW_mk (fj c) (ws c (by omega)) (XW_m f2 hxt) hMr)
  · exfalso
    apply q
    rw [c_0, hM1.1.2.2.1, nI_add, show (12 : Int32) = nI 12 from rfl, nI_leI (by omega) (by omega)]
    omega
