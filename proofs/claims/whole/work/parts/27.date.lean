/-! dates -/
def addD (w : Wo) (i h v : Nat) : Wo := (w.1, w.2.1, (nh w, wx w, wy w, fun j => if j = i then nd w i + 1 else nd w j), ((fun j d => if j = i ∧ d = nd w i then h else dh w j d), (fun j d => if j = i ∧ d = nd w i then v else dv w j d)), w.2.2.2.2)
theorem v_age (a : Int32) : p_hi_asAge a = nI (hld a.toInt) := by
  unfold p_hi_asAge hld
  by_cases c1 : a < 99
  · have c1' := (fa_lt _ _).mp c1
    rw [t_99] at c1'
    rw [if_pos c1]
    by_cases c2 : 0 < a
    · have c2' := (fa_lt _ _).mp c2
      rw [t_0] at c2'
      rw [if_pos c2, if_neg (by omega), if_neg (by omega), fa_eq, ti_nI (by omega)]; omega
    · have c2' : ¬ (0 : Int) < a.toInt := fun q => c2 ((fa_lt _ _).mpr (by rw [t_0]; exact q))
      rw [if_neg c2]
      by_cases c3 : a.toInt < 0
      · rw [if_pos c3]; rfl
      · rw [if_neg c3, if_neg (by omega), show a.toInt.toNat = 0 by omega]; rfl
  · have c1' : ¬ a.toInt < 99 := fun q => c1 ((fa_lt _ _).mpr (by rw [t_99]; exact q))
    rw [if_neg c1, if_pos (by decide), if_neg (by omega)]
    by_cases c3 : 99 < a.toInt
    · rw [if_pos c3]; rfl
    · rw [if_neg c3, show a.toInt.toNat = 99 by omega]; rfl
theorem c_fe {w : Wo} {σ : St} (hF : okF w) (hH : okH w) {i : Nat} (hi' : i < nh w) (h1 : 1 ≤ nd w i) (c53 : σ 53 i = nI (nd w i)) (cd : ∀ d, d < nd w i → σ 59 (4 * i + d) = nI (dh w i d) ∧ σ 60 (4 * i + d) = nI (dv w i d)) (cho : ∀ j, j < 2 * n2 w → σ 42 j = who w j) (F : St → Prop) (h : F (up (up (up σ 56 i (if ag w i then 1 else 0)) 54 i (nI (lo w i))) 55 i (nI (hi w i)))) : CallV hd_hi_findEnds [rf 43 50, iv (nI i), rf 39 41] σ F := by
  have nhh := hH.1
  have hdn := (hH.2.2 i hi').2.2.1
  have n2b := hF.1.2.2.1
  have v12 : vp_in (nI i) 12 := vin0 i rfl (by omega) (by decide)
  have ci : (nI i).toNatClampNeg = i := nI_clamp (by omega)
  have e4 : nI i * 4 = nI (4 * i) := by rw [show (4 : Int32) = nI 4 from rfl, mulN, Nat.mul_comm]
  have eN : nI (4 * i) + nI (nd w i) = nI (4 * i + nd w i) := nI_add _ _
  have loop : ∀ (m n : Nat), n + m = nd w i → At hd_hi_findEnds X0 15 [some (rf 43 50), some (iv (nI i)), some (rf 39 41), some (iv (if n = 0 then -1 else nI (ends w i n).1)), some (iv (nI (ends w i n).2.1)), some (iv (nI (ends w i n).2.2)), some (iv (nI (4 * i + n))), none, none, none, none] [] σ (retV F) := by
    intro m
    induction m with
    | zero =>
      intro n hn
      have hn : n = nd w i := by omega
      subst hn
      obtain ⟨o1, o2, o3⟩ := ends_ok hF hH hi' (nd w i) (Nat.le_refl _)
      rw [if_neg (by omega)]
      refine l_hi_findEnds_15 _ _ _ _ _ _ _ _ _ ⟨v12, fun _ => ?_, fun q => ?_⟩
      · have cmp : nI (ends w i (nd w i)).1 ≤ nI (ends w i (nd w i)).2.1 ↔ (ends w i (nd w i)).1 ≤ (ends w i (nd w i)).2.1 := nI_leI (by omega) (by omega)
        refine ⟨fun q => l_hi_findEnds_125 _ _ _ _ _ _ _ _ _ _ ⟨fun _ => l_hi_findEnds_142 _ _ _ _ _ _ _ _ _ _ _ ⟨v12, v12, fun _ => ⟨v12, ?_⟩, fun z => absurd rfl z⟩, fun z => absurd rfl z⟩, fun q => l_hi_findEnds_125 _ _ _ _ _ _ _ _ _ _ ⟨fun z => absurd z one_ne, fun _ => l_hi_findEnds_142 _ _ _ _ _ _ _ _ _ _ _ ⟨v12, v12, fun z => absurd z one_ne, fun _ => ⟨v12, ?_⟩⟩⟩⟩
        · rw [cmp] at q
          have hag : ag w i = false := by unfold ag; exact decide_eq_false (by omega)
          have hhi : hi w i = (ends w i (nd w i)).2.1 := by unfold hi; rw [hag, if_neg (by decide)]
          rw [ci]
          rw [hag, hhi, show (if false = true then (1 : Int32) else 0) = 0 from rfl] at h
          exact h
        · rw [cmp] at q
          have hag : ag w i = true := by unfold ag; exact decide_eq_true (by omega)
          have hhi : hi w i = (ends w i (nd w i)).2.2 := by unfold hi; rw [hag, if_pos rfl]
          rw [ci]
          rw [hag, hhi, show (if true = true then (1 : Int32) else 0) = 1 from rfl] at h
          exact h
      · rw [ci, show σ (50 + 3) i = nI (nd w i) from c53, e4, eN] at q
        exact absurd ((fa_le _ _).mpr (Int.le_refl _)) q
    | succ m ih =>
      intro n hn
      have hnd : n < nd w i := by omega
      obtain ⟨o1, o2, o3⟩ := ends_ok hF hH hi' n (by omega)
      obtain ⟨d1, d2⟩ := dlo_le hF hH hi' hnd
      obtain ⟨k1, k2⟩ := (hH.2.2 i hi').2.2.2.2 n hnd
      obtain ⟨b1, b2⟩ := hF.2.2.2.1 _ k1
      unfold wi at b1 b2
      have v48 : vp_in (nI (4 * i + n)) 48 := vin0 _ rfl (by omega) (by decide)
      have cn : (nI (4 * i + n)).toNatClampNeg = 4 * i + n := nI_clamp (by omega)
      obtain ⟨p1, p2⟩ := cd n hnd
      have eh0 : nI (dh w i n) * 2 + 0 = nI (2 * dh w i n) := two _
      have eh1 : nI (dh w i n) * 2 + 1 = nI (2 * dh w i n + 1) := by rw [show (2 : Int32) = nI 2 from rfl, show (1 : Int32) = nI 1 from rfl, mulN, nI_add, Nat.mul_comm]
      have q0 : p_li_at_L_houses 41 (nI (dh w i n)) 0 σ = who w (2 * dh w i n) := by unfold p_li_at_L_houses; rw [eh0, nI_clamp (by omega)]; exact cho _ (by omega)
      have q1 : p_li_at_L_houses 41 (nI (dh w i n)) 1 σ = who w (2 * dh w i n + 1) := by unfold p_li_at_L_houses; rw [eh1, nI_clamp (by omega)]; exact cho _ (by omega)
      refine l_hi_findEnds_15 _ _ _ _ _ _ _ _ _ ⟨v12, fun q => ?_, fun _ => ⟨v48, v48, ?_⟩⟩
      · exfalso
        rw [ci, show σ (50 + 3) i = nI (nd w i) from c53, e4, eN, nI_leI (by omega) (by omega)] at q
        omega
      · rw [cn, show σ (50 + 9) (4 * i + n) = nI (dh w i n) from p1, show σ (50 + 10) (4 * i + n) = nI (dv w i n) from p2]
        refine q_li_at_L_houses _ _ _ _ _ (vin0 _ eh0 (by omega) (by decide)) ?_
        rw [q0, show σ (50 + 9) (4 * i + n) = nI (dh w i n) from p1]
        refine ⟨v48, q_li_at_L_houses _ _ _ _ _ (vin0 _ eh1 (by omega) (by decide)) ?_⟩
        rw [q1]
        refine q_hi_asAge _ _ _ (q_hi_asAge _ _ _ ?_)
        have tdv : (nI (dv w i n)).toInt = dv w i n := ti_nI (by omega)
        have s1 : (nI (dv w i n) - who w (2 * dh w i n)).toInt = (dv w i n : Int) - (who w (2 * dh w i n)).toInt := by rw [ti_sub (by rw [tdv]; omega), tdv]
        have s2 : (nI (dv w i n) - who w (2 * dh w i n) - who w (2 * dh w i n + 1)).toInt = (dv w i n : Int) - (who w (2 * dh w i n)).toInt - (who w (2 * dh w i n + 1)).toInt := by rw [ti_sub (by rw [s1]; omega), s1]
        have s3 : (nI (dv w i n) - who w (2 * dh w i n) + who w (2 * dh w i n + 1)).toInt = (dv w i n : Int) - (who w (2 * dh w i n)).toInt + (who w (2 * dh w i n + 1)).toInt := by rw [ti_add (by rw [s1]; omega), s1]
        rw [v_age, v_age, s2, s3]
        show (nI (dlo w i n) ≤ _ → _) ∧ (¬ nI (dlo w i n) ≤ _ → _)
        have eS : nI (4 * i + n) + 1 = nI (4 * i + (n + 1)) := nI_1 _
        have min1 : (if nI (dhi w i n) < nI (ends w i n).2.1 then nI (dhi w i n) else nI (ends w i n).2.1) = nI (ends w i (n + 1)).2.1 := by
          have c : nI (dhi w i n) < nI (ends w i n).2.1 ↔ dhi w i n < (ends w i n).2.1 := nI_ltI (by omega) (by omega)
          simp only [ends]
          by_cases z : dhi w i n < (ends w i n).2.1
          · rw [if_pos (c.mpr z), if_pos z]
          · rw [if_neg (fun q => z (c.mp q)), if_neg z]
        have key := ih (n + 1) (by omega)
        rw [if_neg (by omega)] at key
        have cmp : nI (dlo w i n) ≤ (if n = 0 then -1 else nI (ends w i n).1) ↔ (¬ n = 0 ∧ dlo w i n ≤ (ends w i n).1) := by
          by_cases z : n = 0
          · rw [if_pos z, fa_le, ti_nI (by omega), t_m1]; omega
          · rw [if_neg z, nI_leI (by omega) (by omega)]; omega
        rw [cmp]
        refine ⟨fun q => l_hi_findEnds_99 _ _ _ _ _ _ _ _ _ _ _ _ _ ?_, fun q => l_hi_findEnds_99 _ _ _ _ _ _ _ _ _ _ _ _ _ ?_⟩
        · show At _ _ _ [_, _, _, _, some (iv (if nI (dhi w i n) < nI (ends w i n).2.1 then nI (dhi w i n) else nI (ends w i n).2.1)), _, _, _, _, _, _] _ _ _
          rw [min1, eS, if_neg q.1]
          have e1 : (ends w i (n + 1)).1 = (ends w i n).1 := by simp only [ends]; rw [if_neg (by omega)]
          have e2 : (ends w i (n + 1)).2.2 = (ends w i n).2.2 := by simp only [ends]; rw [if_neg (by omega)]
          rw [e1, e2] at key; exact key
        · show At _ _ _ [_, _, _, _, some (iv (if nI (dhi w i n) < nI (ends w i n).2.1 then nI (dhi w i n) else nI (ends w i n).2.1)), _, _, _, _, _, _] _ _ _
          rw [min1, eS]
          have e1 : (ends w i (n + 1)).1 = dlo w i n := by
            simp only [ends]
            by_cases z : (ends w i n).1 < dlo w i n
            · rw [if_pos z]
            · have n0 : n = 0 := by omega
              subst n0
              rw [if_neg z]
              have : (ends w i 0).1 = 0 := rfl
              omega
          have e2 : (ends w i (n + 1)).2.2 = dhi w i n := by
            simp only [ends]; rw [if_pos]
            by_cases z : n = 0
            · exact Or.inl z
            · exact Or.inr (by omega)
          rw [e1, e2] at key; exact key
  refine e_hi_findEnds _ _ _ _ _ ?_
  have key := loop (nd w i) 0 (by omega)
  rw [e4]; exact key
theorem r_date (a1 a2 a3 : Int32) (σ : St) (G : Int32 → Int32 → St → Prop) (hR : RW σ) (k : KW σ G) :
    CallI hd_x_date [rf 54 0, iv a1, iv a2, iv a3] σ (fun r σ1 => CallI hd_m_date [rf 55 122, iv a1, iv a2, iv a3] σ1 (fun r' σ2 => G r r' σ2)) := by
  have hR' := hR
  obtain ⟨w, hF, hH, hc, hcd, hm, hmd, h7⟩ := hR
  have hx : XW w σ := ⟨hc, hcd⟩
  have hM : MW w σ := ⟨hm, hmd, h7⟩
  have nhh := hH.1
  have hm0 := mWs_fr fr0 hm
  have kb : ∀ r, G r r (up σ 122 0 0) := fun r => k _ _ (sc_pw fr0) (RW_fr fr0 hR')
  refine e_x_date a1 a2 a3 σ _ (gx_hill hc hH (fun i hi' e => on ?_) (fun c => of (e_m_date _ _ _ _ _ (gm_hill0 hm0 hH c (of (kb _))))))
  subst e
  refine gx_house hc hF (fun hs hhs e => on ?_) (fun c => of (e_m_date _ _ _ _ _ (gm_hill1 hm0 hH hi' (on (gm_house0 hm0 hF c (of (kb _)))))))
  subst e
  refine gx_age (fun v hv e => on' ?_) (fun c => of' (e_m_date _ _ _ _ _ (gm_hill1 hm0 hH hi' (on (gm_house1 hm0 hF hhs (on (gm_age0 c (of' (kb _)))))))))
  subst e
  have n2b := hF.1.2.2.1
  have v12 : vp_in (nI i) 12 := vin0 i rfl (by omega) (by decide)
  have ci : (nI i).toNatClampNeg = i := nI_clamp (by omega)
  have hd4 := (hH.2.2 i hi').2.2.1
  have e25 : (25 : Int32) + nI i = nI (25 + i) := nI_add 25 i
  have k25 : (nI (25 + i)).toNatClampNeg = 25 + i := nI_clamp (by omega)
  have v25 : vp_in ((25 : Int32) + nI i) 169 := vin0 _ e25 (by omega) (by decide)
  have c53 : σ 53 i = nI (nd w i) := (hc.2.2.2 i hi').2.2.1
  rw [ci, c53]
  have cmp : nI (nd w i) < 4 ↔ nd w i < 4 := by rw [show (4 : Int32) = nI 4 from rfl]; exact nI_ltI (by omega) (by omega)
  rw [cmp]
  refine ⟨v12, fun hlt => ?_, fun q => e_m_date _ _ _ _ _ (gm_hill1 hm0 hH hi' (on (gm_house1 hm0 hF hhs (on (gm_age1 hv (on' ⟨v25, fun z => ?_, fun _ => kb _⟩))))))⟩
  rotate_left
  · exfalso
    apply z
    rw [e25, k25, (hm0.2.2.2 i hi').2.2.1, show nd w i = 4 by omega]; rfl
  have e4 : nI i * 4 = nI (4 * i) := by rw [show (4 : Int32) = nI 4 from rfl, mulN, Nat.mul_comm]
  have eN : nI (4 * i) + nI (nd w i) = nI (4 * i + nd w i) := nI_add _ _
  have kN : (nI (4 * i + nd w i)).toNatClampNeg = 4 * i + nd w i := nI_clamp (by omega)
  have vN : vp_in (nI (4 * i + nd w i)) 48 := vin0 _ rfl (by omega) (by decide)
  refine e_hi_addDate 50 _ _ _ 41 _ _ ?_
  rw [ci, show σ (50 + 3) i = nI (nd w i) from c53, e4, eN, kN]
  refine ⟨v12, vN, vN, v12, v12, ?_⟩
  have u53 : up (up σ (50 + 9) (4 * i + nd w i) (nI hs)) (50 + 10) (4 * i + nd w i) (nI v) (50 + 3) i = nI (nd w i) := by
    simp (disch := omega) only [up_ka]; exact c53
  rw [u53, nI_1]
  have hF2 : okF (addD w i hs v) := okF_cg (w := w) rfl rfl hF
  have nd2 : ∀ j, nd (addD w i hs v) j = if j = i then nd w i + 1 else nd w j := fun j => rfl
  have dh2 : ∀ j d, dh (addD w i hs v) j d = if j = i ∧ d = nd w i then hs else dh w j d := fun j d => rfl
  have dv2 : ∀ j d, dv (addD w i hs v) j d = if j = i ∧ d = nd w i then v else dv w j d := fun j d => rfl
  have hH2 : okH (addD w i hs v) := by
    refine ⟨hH.1, hH.2.1, fun j hj => ?_⟩
    obtain ⟨g1, g2, g3, g4, g5⟩ := hH.2.2 j hj
    refine ⟨g1, g2, ?_, g4, fun d hd => ?_⟩
    · rw [nd2]; by_cases z : j = i
      · rw [if_pos z]; omega
      · rw [if_neg z]; exact g3
    · rw [dh2, dv2]
      by_cases z : j = i ∧ d = nd w i
      · rw [if_pos z, if_pos z]; exact ⟨hhs, by omega⟩
      · rw [if_neg z, if_neg z]
        refine g5 d ?_
        rw [nd2] at hd
        by_cases z2 : j = i
        · subst z2; rw [if_pos rfl] at hd; omega
        · rw [if_neg z2] at hd; exact hd
  have old : ∀ j, j < nh w → ∀ d, d < nd w j → dh (addD w i hs v) j d = dh w j d ∧ dv (addD w i hs v) j d = dv w j d := fun j hj d hd => by
    rw [dh2, dv2, if_neg (by rintro ⟨rfl, z⟩; omega), if_neg (by rintro ⟨rfl, z⟩; omega)]; exact ⟨rfl, rfl⟩
  generalize hτ : up (up (up σ (50 + 9) (4 * i + nd w i) (nI hs)) (50 + 10) (4 * i + nd w i) (nI v)) (50 + 3) i (nI (nd w i + 1)) = τ
  obtain ⟨⟨x1, x2, x3, x4, x5⟩, ⟨y1, y2, y3, y4, y5⟩, x6, x7⟩ := hc
  have hi2 : i < nh (addD w i hs v) := hi'
  have ndi : nd (addD w i hs v) i = nd w i + 1 := by rw [nd2, if_pos rfl]
  refine c_fe hF2 hH2 hi2 (by omega) ?_ ?_ ?_ _ ?_
  · rw [← hτ, ndi, up_at]
  · intro d hd
    rw [ndi] at hd
    rw [← hτ, dh2, dv2]
    by_cases z : d = nd w i
    · subst z; rw [if_pos ⟨rfl, rfl⟩, if_pos ⟨rfl, rfl⟩]; simp (disch := omega) only [up_at, up_ka]; exact ⟨trivial, trivial⟩
    · rw [if_neg (fun q => z q.2), if_neg (fun q => z q.2)]
      rw [up_ka _ _ (by omega), up_ka _ _ (by omega), up_jb _ _ (by omega), up_ka _ _ (by omega), up_jb _ _ (by omega), up_ka _ _ (by omega)]
      exact (x7 i hi').2.2.2.2.2.2.2.2 d (by omega)
  · intro j hj
    rw [← hτ]; simp (disch := omega) only [up_ka]; exact y3 j hj
  generalize hμ : up (up (up τ 56 i (if ag (addD w i hs v) i then 1 else 0)) 54 i (nI (lo (addD w i hs v) i))) 55 i (nI (hi (addD w i hs v) i)) = μ
  have eμ : ∀ a b, a ≠ 53 → a ≠ 54 → a ≠ 55 → a ≠ 56 → a ≠ 59 → a ≠ 60 → μ a b = σ a b := fun a b h1 h2 h3 h4 h5 h6 => by
    rw [← hμ, ← hτ]; simp (disch := omega) only [up_ka]
  have ft : Fr PXc σ μ := fun a b n => eμ a b (by unfold PXc at n; omega) (by unfold PXc at n; omega) (by unfold PXc at n; omega) (by unfold PXc at n; omega) (by unfold PXc at n; omega) (by unfold PXc at n; omega)
  have m53 : μ 53 i = nI (nd w i + 1) := by rw [← hμ, ← hτ]; simp (disch := omega) only [up_at, up_ka]
  have hx2 : XW (addD w i hs v) μ := by
    refine ⟨⟨⟨?_, ?_, ?_, ?_, ?_⟩, ⟨fun i hi => ?_, fun i hi => ?_, fun i hi => ?_, fun i hi => ?_, fun i hi => ?_⟩, ?_, fun j hj => ?_⟩, cD_cg (w := w) rfl rfl fun a ha => ?_⟩
    · rw [eμ _ _ (by omega) (by omega) (by omega) (by omega) (by omega) (by omega)]; exact x1
    · rw [eμ _ _ (by omega) (by omega) (by omega) (by omega) (by omega) (by omega)]; exact x2
    · rw [eμ _ _ (by omega) (by omega) (by omega) (by omega) (by omega) (by omega)]; exact x3
    · rw [eμ _ _ (by omega) (by omega) (by omega) (by omega) (by omega) (by omega)]; exact x4
    · rw [eμ _ _ (by omega) (by omega) (by omega) (by omega) (by omega) (by omega)]; exact x5
    · rw [eμ _ _ (by omega) (by omega) (by omega) (by omega) (by omega) (by omega)]; exact y1 i hi
    · rw [eμ _ _ (by omega) (by omega) (by omega) (by omega) (by omega) (by omega)]; exact y2 i hi
    · rw [eμ _ _ (by omega) (by omega) (by omega) (by omega) (by omega) (by omega)]; exact y3 i hi
    · rw [eμ _ _ (by omega) (by omega) (by omega) (by omega) (by omega) (by omega)]; exact y4 i hi
    · rw [eμ _ _ (by omega) (by omega) (by omega) (by omega) (by omega) (by omega)]; exact y5 i hi
    · rw [eμ _ _ (by omega) (by omega) (by omega) (by omega) (by omega) (by omega)]; exact x6
    · obtain ⟨g1, g2, g3, g4, g5, g6, g7, g8, g9⟩ := x7 j hj
      refine ⟨?_, ?_, ?_, ?_, ?_, ?_, fun q => ?_, ?_, fun d hd => ?_⟩
      · rw [eμ _ _ (by omega) (by omega) (by omega) (by omega) (by omega) (by omega)]; exact g1
      · rw [eμ _ _ (by omega) (by omega) (by omega) (by omega) (by omega) (by omega)]; exact g2
      · show μ 53 j = _
        rw [nd2]
        by_cases z : j = i
        · subst z; rw [if_pos rfl]; exact m53
        · rw [if_neg z, ← hμ, ← hτ]
          rw [up_ka _ _ (by omega), up_ka _ _ (by omega), up_ka _ _ (by omega), up_jb _ _ z, up_ka _ _ (by omega), up_ka _ _ (by omega)]; exact g3
      · show μ 54 j = _
        by_cases z : j = i
        · subst z; rw [← hμ, up_ka _ _ (by omega), up_at]
        · have l := lo_cg (w := w) (w' := addD w i hs v) (i := j) rfl (by rw [nd2, if_neg z]) (old j hj)
          rw [l.1, ← hμ, ← hτ]
          rw [up_ka _ _ (by omega), up_jb _ _ z, up_ka _ _ (by omega), up_ka _ _ (by omega), up_ka _ _ (by omega), up_ka _ _ (by omega)]; exact g4
      · show μ 55 j = _
        by_cases z : j = i
        · subst z; rw [← hμ, up_at]
        · have l := lo_cg (w := w) (w' := addD w i hs v) (i := j) rfl (by rw [nd2, if_neg z]) (old j hj)
          rw [l.2.1, ← hμ, ← hτ]
          rw [up_jb _ _ z, up_ka _ _ (by omega), up_ka _ _ (by omega), up_ka _ _ (by omega), up_ka _ _ (by omega), up_ka _ _ (by omega)]; exact g5
      · show μ 56 j = _
        by_cases z : j = i
        · subst z; rw [← hμ, up_ka _ _ (by omega), up_ka _ _ (by omega), up_at]
        · have l := lo_cg (w := w) (w' := addD w i hs v) (i := j) rfl (by rw [nd2, if_neg z]) (old j hj)
          rw [l.2.2, ← hμ, ← hτ]
          rw [up_ka _ _ (by omega), up_ka _ _ (by omega), up_jb _ _ z, up_ka _ _ (by omega), up_ka _ _ (by omega), up_ka _ _ (by omega)]; exact g6
      · rw [eμ _ _ (by omega) (by omega) (by omega) (by omega) (by omega) (by omega)]; exact g7 q
      · rw [eμ _ _ (by omega) (by omega) (by omega) (by omega) (by omega) (by omega)]; exact g8
      · show μ 59 (4 * j + d) = _ ∧ μ 60 (4 * j + d) = _
        have jd4 : nd w j ≤ 4 := (hH.2.2 j hj).2.2.1
        rw [nd2] at hd
        by_cases z : j = i ∧ d = nd w i
        · obtain ⟨rfl, rfl⟩ := z
          rw [dh2, dv2, if_pos ⟨rfl, rfl⟩, if_pos ⟨rfl, rfl⟩, ← hμ, ← hτ]
          simp (disch := omega) only [up_at, up_ka]
          exact ⟨trivial, trivial⟩
        · have hd' : d < nd w j := by
            by_cases z2 : j = i
            · subst z2; rw [if_pos rfl] at hd; omega
            · rw [if_neg z2] at hd; exact hd
          have ne : 4 * j + d ≠ 4 * i + nd w i := by
            intro q
            apply z
            omega
          rw [(old j hj d hd').1, (old j hj d hd').2, ← hμ, ← hτ]
          rw [up_ka _ _ (by omega), up_ka _ _ (by omega), up_ka _ _ (by omega), up_ka _ _ (by omega), up_ka _ _ (by omega), up_jb _ _ ne, up_ka _ _ (by omega), up_ka _ _ (by omega), up_ka _ _ (by omega), up_ka _ _ (by omega), up_jb _ _ ne, up_ka _ _ (by omega)]
          exact g9 d hd'
    · obtain ⟨g1, g2, g3, g4⟩ := hcd a ha
      refine ⟨?_, ?_, ?_, fun q => ?_⟩
      · rw [eμ _ _ (by omega) (by omega) (by omega) (by omega) (by omega) (by omega)]; exact g1
      · rw [eμ _ _ (by omega) (by omega) (by omega) (by omega) (by omega) (by omega)]; exact g2
      · rw [eμ _ _ (by omega) (by omega) (by omega) (by omega) (by omega) (by omega)]; exact g3
      · show isB (μ 56 a)
        rw [← hμ, up_ka _ _ (by omega), up_ka _ _ (by omega)]
        by_cases z : a = i
        · subst z; rw [up_at]; unfold isB; split
          · exact Or.inr rfl
          · exact Or.inl rfl
        · rw [up_jb _ _ z, ← hτ, up_ka _ _ (by omega), up_ka _ _ (by omega), up_ka _ _ (by omega)]; exact g4 q
  rw [m53]
  refine ⟨v12, ?_⟩
  have hM1 := MW_x ft hM
  have hM0 : MW w (up μ 122 0 0) := MW_e (fun a b q => by rw [up_o _ _ (by omega)]) hM1
  have m25 : up μ 122 0 0 128 (25 + i) = nI (nd w i) := (hM0.1.2.2.2 i hi').2.2.1
  have eA : 73 + 8 * nI i + 2 * nI (nd w i) = nI (73 + 8 * i + 2 * nd w i) := by
    rw [show (73 : Int32) = nI 73 from rfl, show (8 : Int32) = nI 8 from rfl, show (2 : Int32) = nI 2 from rfl, mulN, mulN, nI_add, nI_add]
  have eB : nI (73 + 8 * i + 2 * nd w i) + 1 = nI (73 + 8 * i + 2 * nd w i + 1) := nI_1 _
  refine e_m_date _ _ _ _ _ (gm_hill1 hM0.1 hH hi' (on (gm_house1 hM0.1 hF hhs (on (gm_age1 hv (on' ?_))))))
  rw [e25, k25, m25, eA, eB, nI_clamp (by omega), nI_clamp (by omega)]
  have ur : up (up (up μ 122 0 0) 128 (73 + 8 * i + 2 * nd w i) (nI hs)) 128 (73 + 8 * i + 2 * nd w i + 1) (nI v) 128 (25 + i) = nI (nd w i) := by
    rw [up_jb _ _ (by omega), up_jb _ _ (by omega)]; exact m25
  rw [ur, up_at, nI_1]
  have v25' : vp_in (nI (25 + i)) 169 := vin0 _ rfl (by omega) (by decide)
  refine ⟨v25', fun _ => ⟨v25', vin0 _ rfl (by omega) (by decide), vin0 _ rfl (by omega) (by decide), v25', v25', v25', ?_⟩, fun q => ?_⟩
  rotate_left
  · exfalso; rw [show (4 : Int32) = nI 4 from rfl, nI_eq (by omega) (by omega)] at q; omega
  generalize hρ : up (up (up (up μ 122 0 0) 128 (73 + 8 * i + 2 * nd w i) (nI hs)) 128 (73 + 8 * i + 2 * nd w i + 1) (nI v)) 128 (25 + i) (nI (nd w i + 1)) = ρ
  have f2 : Fr PMc μ ρ := by
    rw [← hρ]
    have p : ∀ y, PMc 128 y := fun _ => Or.inr (Or.inr (Or.inl rfl))
    exact (((fz Fr.rf).up (p _)).up (p _)).up (p _)
  refine k _ _ ((px_pw ft).tr (pm_pw f2)) (RW_mk hF2 hH2 (XW_m f2 hx2) ⟨?_, mD_cg (w := w) rfl rfl fun a ha => ?_, ?_⟩)
  · obtain ⟨c1, c2, c6, c7⟩ := hM1.1
    have e126 : ρ 126 = μ 126 := funext fun x => by rw [← hρ]; simp (disch := omega) only [up_ka]
    rw [e126]
    refine ⟨c1, c2, ?_, fun j hj => ?_⟩
    · rw [← hρ, up_jb _ _ (by omega), up_jb _ _ (by omega), up_jb _ _ (by omega), up_ka _ _ (by omega)]; exact c6
    · obtain ⟨g1, g2, g3, g4, g5, g6⟩ := c7 j hj
      have hj12 : j < 12 := by have : j < nh w := hj; omega
      have lowc : ∀ b, b < 73 → b ≠ 25 + i → ρ 128 b = μ 128 b := fun b hb hne => by
        rw [← hρ, up_jb _ _ hne, up_jb _ _ (by omega), up_jb _ _ (by omega), up_ka _ _ (by omega)]
      have jd4 : nd w j ≤ 4 := (hH.2.2 j hj).2.2.1
      refine ⟨?_, ?_, ?_, ?_, fun q => ⟨?_, ?_⟩, fun d hd => ?_⟩
      · rw [lowc _ (by omega) (by omega)]; exact g1
      · rw [lowc _ (by omega) (by omega)]; exact g2
      · rw [nd2]
        by_cases z : j = i
        · subst z; rw [if_pos rfl, ← hρ, up_at]
        · rw [if_neg z, lowc _ (by omega) (by omega)]; exact g3
      · rw [lowc _ (by omega) (by omega)]; exact g4
      · rw [lowc _ (by omega) (by omega)]; exact (g5 q).1
      · rw [lowc _ (by omega) (by omega)]; exact (g5 q).2
      · rw [nd2] at hd
        by_cases z : j = i ∧ d = nd w i
        · obtain ⟨rfl, rfl⟩ := z
          rw [dh2, dv2, if_pos ⟨rfl, rfl⟩, if_pos ⟨rfl, rfl⟩, ← hρ]
          rw [up_jb _ _ (by omega), up_jb _ _ (by omega), up_at, up_jb _ _ (by omega), up_at]
          exact ⟨rfl, rfl⟩
        · have hd' : d < nd w j := by
            by_cases z2 : j = i
            · subst z2; rw [if_pos rfl] at hd; omega
            · rw [if_neg z2] at hd; exact hd
          have ne : 8 * j + 2 * d ≠ 8 * i + 2 * nd w i := by
            intro q
            apply z
            omega
          rw [(old j hj d hd').1, (old j hj d hd').2, ← hρ]
          rw [up_jb _ _ (by omega), up_jb _ _ (by omega), up_jb _ _ (by omega), up_ka _ _ (by omega), up_jb _ _ (by omega), up_jb _ _ (by omega), up_jb _ _ (by omega), up_ka _ _ (by omega)]
          exact g6 d hd'
  · rw [← hρ]; simp (disch := omega) only [up_ka]; exact hM1.2.1 a ha
  · rw [← hρ]; simp (disch := omega) only [up_ka, up_jb]; exact hM1.2.2
