/-! what rests on the searches -/
def ftp (w : Wo) (i s : Nat) : Bool := (near w i s).2.2.2
def nfi (w : Wo) (i s : Nat) : Nat := (near w i s).2.1
def nag (w : Wo) (i s : Nat) : Nat := (near w i s).2.2.1
def nof (w : Wo) (i s : Nat) : Int32 := (near w i s).1
theorem xAc_of {w : Wo} {τ : St} (hF : okF w) (hH : okH w) {i s : Nat} (hi' : i < nh w) (hs : s < n4 w) (hx : xAc (near w i s) τ) : τ 114 2 = nI (nfi w i s) ∧ τ 114 3 = nI (nag w i s) ∧ τ 114 4 = nof w i s ∧ τ 114 5 = (if ftp w i s then 1 else 0) := by
  have h := (near_b hF hH hi' hs).2.2
  exact ⟨(hx.2 h).1, (hx.2 h).2.1, hx.1, (hx.2 h).2.2⟩
theorem mAc_of {w : Wo} {τ : St} (hF : okF w) (hH : okH w) {i s : Nat} (hi' : i < nh w) (hs : s < n4 w) (hx : mAc (near w i s) τ) : τ 122 25 = nI (nfi w i s) ∧ τ 122 26 = nI (nag w i s) ∧ τ 122 27 = nof w i s ∧ τ 122 28 = (if ftp w i s then 1 else 0) := by
  have h := (near_b hF hH hi' hs).2.2
  have h1 := hx.1
  rw [if_neg h] at h1
  exact ⟨(hx.2 h).1, (hx.2 h).2.1, h1, (hx.2 h).2.2⟩
def bitP (p : Nat → Bool) : Nat → Int32
  | 0 => 0
  | n + 1 => bitP p n ||| (if p n then 1 <<< (nI n &&& 31) else 0)
theorem bitP_f {p : Nat → Bool} {n : Nat} (h : p n = false) : bitP p (n + 1) = bitP p n ||| 0 := by simp only [bitP]; simp [h]
theorem bitP_t {p : Nat → Bool} {n : Nat} (h : p n = true) : bitP p (n + 1) = bitP p n ||| (1 <<< (nI n &&& 31)) := by simp only [bitP]; simp [h]
theorem b10 {b : Bool} : ((if b then (1 : Int32) else 0) = 0 ↔ b = false) := by cases b <;> decide
theorem b11 {b : Bool} : (¬ (if b then (1 : Int32) else 0) = 0 ↔ b = true) := by cases b <;> decide
theorem x_fitting {w : Wo} {σ : St} (hc : cW w 36 50 σ) (hD : cD w 36 σ) (hF : okF w) (hH : okH w) {s : Nat} (hs : s < n4 w) (F : Int32 → St → Prop) (h : ∀ τ, Fr PX σ τ → F (bitP (fun i => ftp w i s) (nh w)) τ) : CallI hd_so_fitting [rf 50 114, iv (nI s)] σ F := by
  have nhh := hH.1
  have loop : ∀ (m n : Nat), n + m = nh w → ∀ τ, Fr PX σ τ → At hd_so_fitting X0 4 [some (rf 50 114), some (iv (nI s)), some (iv (bitP (fun i => ftp w i s) n)), some (iv (nI n))] [] τ (retI F) := by
    intro m
    induction m with
    | zero =>
      intro n hn τ ht
      refine l_so_fitting_4 _ _ _ _ _ ?_
      rw [(x_row ht hc).2.2.1]
      exact ⟨fun _ => by rw [show n = nh w by omega]; exact h τ ht, fun q => absurd (by rw [nI_leI (by omega) (by omega)]; omega) q⟩
    | succ m ih =>
      intro n hn τ ht
      refine l_so_fitting_4 _ _ _ _ _ ?_
      rw [(x_row ht hc).2.2.1]
      refine ⟨fun q => ?_, fun _ => c_find (x_row ht hc) (x_rowD ht hD) hF hH (by omega) hs _ fun ρ hr hx => ?_⟩
      · exfalso; rw [nI_leI (by omega) (by omega)] at q; omega
      · rw [(xAc_of hF hH (by omega) hs hx).2.2.2, b10, Bool.not_eq_false, nI_1]
        have key := ih (n + 1) (by omega) ρ (ht.tr hr)
        refine ⟨fun q => ?_, fun q => ?_⟩
        · rw [show bitP (fun i => ftp w i s) (n + 1) = bitP (fun i => ftp w i s) n ||| 0 from bitP_f q] at key; exact key
        · rw [show bitP (fun i => ftp w i s) (n + 1) = bitP (fun i => ftp w i s) n ||| (1 <<< (nI n &&& 31)) from bitP_t q] at key; exact key
  exact e_so_fitting _ _ _ (loop (nh w) 0 (by omega) σ Fr.rf)
theorem x_fittingBy {w : Wo} {σ : St} (hc : cW w 36 50 σ) (hD : cD w 36 σ) (hF : okF w) (hH : okH w) {s f : Nat} (hs : s < n4 w) (hf : f < 4) (F : Int32 → St → Prop) (h : ∀ τ, Fr PX σ τ → F (bitP (fun i => ftp w i s && (nfi w i s == f)) (nh w)) τ) : CallI hd_so_fittingBy [rf 50 114, iv (nI s), iv (nI f)] σ F := by
  have nhh := hH.1
  have loop : ∀ (m n : Nat), n + m = nh w → ∀ τ, Fr PX σ τ → At hd_so_fittingBy X0 5 [some (rf 50 114), some (iv (nI s)), some (iv (nI f)), some (iv (bitP (fun i => ftp w i s && (nfi w i s == f)) n)), some (iv (nI n))] [] τ (retI F) := by
    intro m
    induction m with
    | zero =>
      intro n hn τ ht
      refine l_so_fittingBy_5 _ _ _ _ _ _ ?_
      rw [(x_row ht hc).2.2.1]
      exact ⟨fun _ => by rw [show n = nh w by omega]; exact h τ ht, fun q => absurd (by rw [nI_leI (by omega) (by omega)]; omega) q⟩
    | succ m ih =>
      intro n hn τ ht
      refine l_so_fittingBy_5 _ _ _ _ _ _ ?_
      rw [(x_row ht hc).2.2.1]
      refine ⟨fun q => ?_, fun _ => c_find (x_row ht hc) (x_rowD ht hD) hF hH (by omega) hs _ fun ρ hr hx => ?_⟩
      · exfalso; rw [nI_leI (by omega) (by omega)] at q; omega
      · have hx2 := xAc_of hF hH (by omega) hs hx
        have nf := near_f hF hH (i := n) (by omega) hs
        have f4 := fOf_le hF s
        rw [hx2.2.2.2, hx2.1, b10, Bool.not_eq_false, nI_1, nI_eq (by unfold nfi; omega) (by omega)]
        have key := ih (n + 1) (by omega) ρ (ht.tr hr)
        have kf : (ftp w n s && (nfi w n s == f)) = false → At hd_so_fittingBy X0 5 [some (rf 50 114), some (iv (nI s)), some (iv (nI f)), some (iv (bitP (fun i => ftp w i s && (nfi w i s == f)) n ||| 0)), some (iv (nI (n + 1)))] [] ρ (retI F) := fun q => by
          rw [show bitP (fun i => ftp w i s && (nfi w i s == f)) (n + 1) = bitP (fun i => ftp w i s && (nfi w i s == f)) n ||| 0 from bitP_f q] at key; exact key
        have kt : (ftp w n s && (nfi w n s == f)) = true → At hd_so_fittingBy X0 5 [some (rf 50 114), some (iv (nI s)), some (iv (nI f)), some (iv (bitP (fun i => ftp w i s && (nfi w i s == f)) n ||| (1 <<< (nI n &&& 31)))), some (iv (nI (n + 1)))] [] ρ (retI F) := fun q => by
          rw [show bitP (fun i => ftp w i s && (nfi w i s == f)) (n + 1) = bitP (fun i => ftp w i s && (nfi w i s == f)) n ||| (1 <<< (nI n &&& 31)) from bitP_t q] at key; exact key
        exact ⟨fun q => kf (by rw [q]; rfl), fun q => ⟨fun z => kf (by rw [q, beq_eq_false_iff_ne.mpr z]; rfl), fun z => kt (by rw [q, z]; simp)⟩⟩
  exact e_so_fittingBy _ _ _ _ (loop (nh w) 0 (by omega) σ Fr.rf)
/-- the reference: of any fire (none32), or of one -/
theorem m_fitting {w : Wo} {σ : St} (hm : mW w (σ 126) (σ 128)) (hD : mD w σ) (hF : okF w) (hH : okH w) {s : Nat} (hs : s < n4 w) (v : Int32) (p : Nat → Bool) (hp : ∀ i, i < nh w → p i = (ftp w i s && (decide (v = none32) || decide (nI (nfi w i s) = v)))) (F : Int32 → St → Prop) (h : ∀ τ, Fr PM σ τ → F (bitP p (nh w)) τ) : CallI hd_m_fitting [rf 55 122, iv (nI s), iv v] σ F := by
  have nhh := hH.1
  have loop : ∀ (m n : Nat), n + m = nh w → ∀ τ, Fr PM σ τ → At hd_m_fitting X0 5 [some (rf 55 122), some (iv (nI s)), some (iv v), some (iv (bitP p n)), some (iv (nI n))] [] τ (retI F) := by
    intro m
    induction m with
    | zero =>
      intro n hn τ ht
      refine l_m_fitting_5 _ _ _ _ _ _ ⟨vz, ?_⟩
      rw [c_0, (m_row ht hm).2.2.1]
      exact ⟨fun _ => by rw [show n = nh w by omega]; exact h τ ht, fun q => absurd (by rw [nI_leI (by omega) (by omega)]; omega) q⟩
    | succ m ih =>
      intro n hn τ ht
      refine l_m_fitting_5 _ _ _ _ _ _ ⟨vz, ?_⟩
      rw [c_0, (m_row ht hm).2.2.1]
      refine ⟨fun q => ?_, fun _ => c_seek (m_row ht hm) (m_rowD ht hD) hF hH (by omega) hs _ fun ρ hr hx => ?_⟩
      · exfalso; rw [nI_leI (by omega) (by omega)] at q; omega
      · have hx2 := mAc_of hF hH (by omega) hs hx
        rw [hx2.2.2.2, hx2.1, b10, Bool.not_eq_false, nI_1]
        have key := ih (n + 1) (by omega) ρ (ht.tr hr)
        have hpn := hp n (by omega)
        have kf : p n = false → At hd_m_fitting X0 5 [some (rf 55 122), some (iv (nI s)), some (iv v), some (iv (bitP p n ||| 0)), some (iv (nI (n + 1)))] [] ρ (retI F) := fun q => by
          rw [show bitP p (n + 1) = bitP p n ||| 0 from bitP_f q] at key; exact key
        have kt : p n = true → At hd_m_fitting X0 45 [some (rf 55 122), some (iv (nI s)), some (iv v), some (iv (bitP p n)), some (iv (nI n))] [iv (bitP p n)] ρ (retI F) := fun q => by
          refine l_m_fitting_45 _ _ _ _ _ _ _ ?_
          rw [nI_1]
          rw [show bitP p (n + 1) = bitP p n ||| (1 <<< (nI n &&& 31)) from bitP_t q] at key; exact key
        refine ⟨fun q => kf (by rw [hpn, q]; rfl), fun q => ⟨fun z => kt (by rw [hpn, q, decide_eq_true (show v = none32 from z)]; rfl), fun z => ⟨fun y => kf ?_, fun y => kt ?_⟩⟩⟩
        · rw [hpn, q, decide_eq_false (show ¬ v = none32 from z), decide_eq_false y]; rfl
        · rw [hpn, q, decide_eq_true y]; simp
  exact e_m_fitting _ _ _ _ (loop (nh w) 0 (by omega) σ Fr.rf)
theorem vst : vp_in 4 62 := vin0 4 rfl (by decide) (by decide)
theorem pxsc {σ τ : St} (h : Fr PX σ τ) : Fr SC σ τ := h.mn fun _ _ => PX_SC
theorem pmsc {σ τ : St} (h : Fr PM σ τ) : Fr SC σ τ := h.mn fun _ _ q => Or.inr (PM_MS q)
theorem r_fits (a1 : Int32) (σ : St) (G : Int32 → Int32 → St → Prop) (hR : RW σ) (k : KQ σ G) :
    CallI hd_x_fits [rf 54 0, iv a1] σ (fun r σ1 => CallI hd_m_fits [rf 55 122, iv a1] σ1 (fun r' σ2 => G r r' σ2)) := by
  obtain ⟨w, hF, hH, hc, hcd, hm, hmd, -⟩ := hR
  have n4b := hF.1.2.2.2.2.1
  refine e_x_fits a1 σ _ (q_x_isStory _ _ _ ?_)
  rw [x_story hc hF]
  by_cases h1 : 0 ≤ a1.toInt ∧ a1.toInt < n4 w
  rotate_left
  · rw [if_neg h1]
    refine ⟨fun _ => e_m_fits a1 _ _ (q_m_isStory _ _ _ vst ?_), fun q => absurd rfl q⟩
    rw [m_story (mWs_fr fr0 hm) hF, if_neg h1]
    exact ⟨fun _ => k _ _ fr0, fun q => absurd rfl q⟩
  rw [if_pos h1]
  obtain ⟨s, hs, e1, e2, e3⟩ := ixe h1 (by omega)
  refine ⟨fun q => absurd q one_ne, fun _ => ?_⟩
  subst e1
  refine x_fitting hc hcd hF hH hs _ fun τ ht => ?_
  have hm1 := mWs_fr ((pxsc ht).tr fr0) hm
  refine e_m_fits _ _ _ (q_m_isStory _ _ _ vst ?_)
  rw [m_story hm1 hF, if_pos h1]
  refine ⟨fun q => absurd q one_ne, fun _ => ?_⟩
  refine m_fitting hm1 (mDs_fr ((pxsc ht).tr fr0) hmd) hF hH hs _ (fun i => ftp w i s) (fun i _ => ?_) _ fun ρ hr => k _ _ (((pxsc ht).tr fr0).tr (pmsc hr))
  rw [decide_eq_true (show (-1000000 : Int32) = none32 from rfl)]; simp
theorem r_belong (a1 a2 : Int32) (σ : St) (G : Int32 → Int32 → St → Prop) (hR : RW σ) (k : KQ σ G) :
    CallI hd_x_belong [rf 54 0, iv a1, iv a2] σ (fun r σ1 => CallI hd_m_belong [rf 55 122, iv a1, iv a2] σ1 (fun r' σ2 => G r r' σ2)) := by
  obtain ⟨w, hF, hH, hc, hcd, hm, hmd, -⟩ := hR
  have n4b := hF.1.2.2.2.2.1
  refine e_x_belong a1 a2 σ _ (q_x_isStory _ _ _ ?_)
  rw [x_story hc hF]
  by_cases h1 : 0 ≤ a1.toInt ∧ a1.toInt < n4 w
  rotate_left
  · rw [if_neg h1]
    refine ⟨fun _ => e_m_belong a1 a2 _ _ (q_m_isStory _ _ _ vst ?_), fun q => absurd rfl q⟩
    rw [m_story (mWs_fr fr0 hm) hF, if_neg h1]
    exact ⟨fun _ => k _ _ fr0, fun q => absurd rfl q⟩
  rw [if_pos h1]
  obtain ⟨s, hs, e1, e2, e3⟩ := ixe h1 (by omega)
  refine ⟨fun q => absurd q one_ne, fun _ => ?_⟩
  subst e1
  have f4 := fOf_le hF s
  refine q_x_isFireOf _ _ _ _ (x_vs hF hs) ?_
  rw [x_isFire hc hF hs]
  by_cases h2 : 0 ≤ a2.toInt ∧ a2.toInt < fOf w s
  rotate_left
  · rw [if_neg h2]
    refine ⟨fun _ => e_m_belong _ a2 _ _ (q_m_isStory _ _ _ vst ?_), fun q => absurd rfl q⟩
    rw [m_story (mWs_fr fr0 hm) hF, if_pos h1]
    refine ⟨fun q => absurd q one_ne, fun _ => q_mfires (mWs_fr fr0 hm) hF hs _ (q_m_in _ _ _ _ _ ?_)⟩
    rw [in_m (by omega), if_neg h2]
    exact ⟨fun _ => k _ _ fr0, fun q => absurd rfl q⟩
  rw [if_pos h2]
  obtain ⟨f, hf, g1, g2, g3⟩ := ixe h2 (by omega)
  refine ⟨fun q => absurd q one_ne, fun _ => ?_⟩
  subst g1
  refine x_fittingBy hc hcd hF hH hs (by omega) _ fun τ ht => ?_
  have hm1 := mWs_fr ((pxsc ht).tr fr0) hm
  refine e_m_belong _ _ _ _ (q_m_isStory _ _ _ vst ?_)
  rw [m_story hm1 hF, if_pos h1]
  refine ⟨fun q => absurd q one_ne, fun _ => q_mfires hm1 hF hs _ (q_m_in _ _ _ _ _ ?_)⟩
  rw [in_m (by omega), if_pos h2]
  refine ⟨fun q => absurd q one_ne, fun _ => ?_⟩
  refine m_fitting hm1 (mDs_fr ((pxsc ht).tr fr0) hmd) hF hH hs _ (fun i => ftp w i s && (nfi w i s == f)) (fun i hi' => ?_) _ fun ρ hr => k _ _ (((pxsc ht).tr fr0).tr (pmsc hr))
  have nf := near_f hF hH hi' hs
  rw [decide_eq_false (show ¬ nI f = none32 by intro e; rw [fa_eq, ti_nI (by omega)] at e; have : none32.toInt = -1000000 := rfl; omega), Bool.false_or]
  congr 1
  rw [Bool.eq_iff_iff, beq_iff_eq, decide_eq_true_eq, nI_eq (by unfold nfi; omega) (by omega)]
theorem r_nearest (a1 a2 a3 : Int32) (σ : St) (G : Int32 → Int32 → St → Prop) (hR : RW σ) (k : KQ σ G) :
    CallI hd_x_nearest [rf 54 0, iv a1, iv a2, iv a3] σ (fun r σ1 => CallI hd_m_nearest [rf 55 122, iv a1, iv a2, iv a3] σ1 (fun r' σ2 => G r r' σ2)) := by
  obtain ⟨w, hF, hH, hc, hcd, hm, hmd, -⟩ := hR
  have n4b := hF.1.2.2.2.2.1
  have nhh := hH.1
  have hm0 := mWs_fr fr0 hm
  refine e_x_nearest a1 a2 a3 σ _ (q_x_isHill _ _ _ ?_)
  rw [x_hill hc hH]
  by_cases h1 : 0 ≤ a1.toInt ∧ a1.toInt < nh w
  rotate_left
  · rw [if_neg h1]
    refine ⟨fun _ => e_m_nearest a1 a2 a3 _ _ (q_m_isHill _ _ _ vz ?_), fun q => absurd rfl q⟩
    rw [m_hill hm0 hH, if_neg h1]
    exact ⟨fun _ => k _ _ fr0, fun q => absurd rfl q⟩
  rw [if_pos h1]
  refine ⟨fun q => absurd q one_ne, fun _ => q_x_isStory _ _ _ ?_⟩
  rw [x_story hc hF]
  by_cases h2 : 0 ≤ a2.toInt ∧ a2.toInt < n4 w
  rotate_left
  · rw [if_neg h2]
    refine ⟨fun _ => e_m_nearest a1 a2 a3 _ _ (q_m_isHill _ _ _ vz ?_), fun q => absurd rfl q⟩
    rw [m_hill hm0 hH, if_pos h1]
    refine ⟨fun q => absurd q one_ne, fun _ => q_m_isStory _ _ _ vst ?_⟩
    rw [m_story hm0 hF, if_neg h2]
    exact ⟨fun _ => k _ _ fr0, fun q => absurd rfl q⟩
  rw [if_pos h2]
  refine ⟨fun q => absurd q one_ne, fun _ => q_x_isBelow _ _ _ _ ?_⟩
  rw [v_below, t_4]
  by_cases h3 : 0 ≤ a3.toInt ∧ a3.toInt < 4
  rotate_left
  · rw [if_neg h3]
    refine ⟨fun q => absurd rfl q, fun _ => e_m_nearest a1 a2 a3 _ _ (q_m_isHill _ _ _ vz ?_)⟩
    rw [m_hill hm0 hH, if_pos h1]
    refine ⟨fun q => absurd q one_ne, fun _ => q_m_isStory _ _ _ vst ?_⟩
    rw [m_story hm0 hF, if_pos h2]
    refine ⟨fun q => absurd q one_ne, fun _ => q_m_in _ _ _ _ _ ?_⟩
    rw [v_in, i2l, tl_0, tl_3, if_neg (by omega)]
    exact ⟨fun q => absurd rfl q, fun _ => k _ _ fr0⟩
  rw [if_pos h3]
  obtain ⟨i, hi', e1, e2, e3⟩ := ixe h1 (by omega)
  obtain ⟨s, hs, f1, f2, f3⟩ := ixe h2 (by omega)
  subst e1; subst f1
  refine ⟨fun _ => c_find hc hcd hF hH hi' hs _ fun τ ht hx => ?_, fun q => absurd q one_ne⟩
  obtain ⟨x1, x2, x3, x4⟩ := xAc_of hF hH hi' hs hx
  have hm1 := mWs_fr ((pxsc ht).tr fr0) hm
  have hd1 := mDs_fr ((pxsc ht).tr fr0) hmd
  have other : ∀ r : Int32, (a3 = 0 → r = nI (nfi w i s)) → (a3 = 1 → r = nI (nag w i s)) → (a3 = 2 → r = nof w i s) → (a3 = 3 → r = (if ftp w i s then 1 else 0)) → CallI hd_m_nearest [rf 55 122, iv (nI i), iv (nI s), iv a3] τ (fun r' σ2 => G r r' σ2) := by
    intro r r0 r1 r2 r3
    refine e_m_nearest _ _ a3 _ _ (q_m_isHill _ _ _ vz ?_)
    rw [m_hill hm1 hH, if_pos h1]
    refine ⟨fun q => absurd q one_ne, fun _ => q_m_isStory _ _ _ vst ?_⟩
    rw [m_story hm1 hF, if_pos h2]
    refine ⟨fun q => absurd q one_ne, fun _ => q_m_in _ _ _ _ _ ?_⟩
    rw [v_in, i2l, tl_0, tl_3, if_pos (by omega)]
    refine ⟨fun _ => c_seek hm1 hd1 hF hH hi' hs _ fun ρ hr hy => ?_, fun q => absurd q one_ne⟩
    obtain ⟨y1, y2, y3, y4⟩ := mAc_of hF hH hi' hs hy
    have hfr : Fr SC σ ρ := ((pxsc ht).tr fr0).tr (pmsc hr)
    have fin : ∀ r', r = r' → G r r' ρ := fun r' e => by rw [← e]; exact k _ _ hfr
    rw [y1, y2, y3, y4]
    refine ⟨fun q0 => ⟨fun q1 => ⟨fun q2 => ?_, fun q2 => fin _ (r2 q2)⟩, fun q1 => fin _ (r1 q1)⟩, fun q0 => fin _ (r0 q0)⟩
    have a33 : a3 = 3 := by
      rw [fa_eq, t_0] at q0
      rw [fa_eq, t_1] at q1
      rw [fa_eq, t_2] at q2
      rw [fa_eq, t_3]; omega
    rw [b10, Bool.not_eq_false]
    exact ⟨fun z => fin _ (by rw [r3 a33, z]; rfl), fun z => fin _ (by rw [r3 a33, z]; rfl)⟩
  rw [x1, x2, x3, x4, b10, Bool.not_eq_false]
  have a3n : ∀ n : Nat, n < 100 → a3.toInt ≠ n → ¬ a3 = nI n := fun n hn h e => h (by rw [e, ti_nI (by omega)])
  refine ⟨fun q => ⟨fun z => other 0 ?_ ?_ ?_ (fun _ => by rw [z]; rfl), fun z => other 1 ?_ ?_ ?_ (fun _ => by rw [z]; rfl)⟩, fun q => other _ (fun _ => rfl) ?_ ?_ ?_, fun q => other _ ?_ (fun _ => rfl) ?_ ?_, fun q => other _ ?_ ?_ (fun _ => rfl) ?_, trivial⟩
  all_goals
    intro e
    exfalso
    rw [e] at q
    revert q
    decide
