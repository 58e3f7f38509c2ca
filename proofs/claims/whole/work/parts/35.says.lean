/-! needles: wandered, says -/
theorem e1_ (i : Nat) : (1 : Int32) + nI i = nI (1 + i) := nI_add 1 i
theorem e13_ (i : Nat) : (13 : Int32) + nI i = nI (13 + i) := nI_add 13 i
theorem e25_ (i : Nat) : (25 : Int32) + nI i = nI (25 + i) := nI_add 25 i
theorem e37_ (i : Nat) : (37 : Int32) + nI i = nI (37 + i) := nI_add 37 i
theorem e49_ (i : Nat) : (49 : Int32) + nI i = nI (49 + i) := nI_add 49 i
theorem e61_ (i : Nat) : (61 : Int32) + nI i = nI (61 + i) := nI_add 61 i
theorem x_hasN {w : Wo} {σ : St} (hc : cW w 36 50 σ) (hH : okH w) {i : Nat} (hi' : i < nh w) {F : Int32 → St → Prop} (h1 : wnl w i = true → F 1 σ) (h0 : wnl w i = false → F 0 σ) : CallI hd_hi_hasNeedle [rf 43 50, iv (nI i)] σ F := by
  have nhh := hH.1
  refine q_hi_hasNeedle _ _ _ _ (vin0 i rfl (by omega) (by decide)) ?_
  unfold p_hi_hasNeedle
  rw [nI_clamp (by omega), (hc.2.2.2 i hi').2.2.2.2.2.2.2.1]
  by_cases c : wnl w i = true
  · have b := ((hH.2.2 i hi').2.2.2.1 c).2
    unfold wi at b
    rw [if_pos c, if_neg (fun z => by rw [z, t_m1] at b; omega)]
    exact h1 c
  · rw [if_neg c, if_pos rfl]; exact h0 (by simpa using c)
theorem r_wandered (a1 a2 a3 : Int32) (σ : St) (G : Int32 → Int32 → St → Prop) (hR : RW σ) (k : KQ σ G) :
    CallI hd_x_wandered [rf 54 0, iv a1, iv a2, iv a3] σ (fun r σ1 => CallI hd_m_wandered [rf 55 122, iv a1, iv a2, iv a3] σ1 (fun r' σ2 => G r r' σ2)) := by
  obtain ⟨w, hF, hH, hc, hcd, hm, hmd, h7⟩ := hR
  have hm0 := mWs_fr fr0 hm
  have nhh := hH.1
  refine e_x_wandered a1 a2 a3 σ _ (gx_hill hc hH (fun i hi' e => on ?_) (fun c => of (e_m_wandered _ _ _ _ _ (gm_hill0 hm0 hH c (of (k _ _ fr0))))))
  subst e
  refine gx_hill hc hH (fun j hj e => on ?_) (fun c => of (e_m_wandered _ _ _ _ _ (gm_hill1 hm0 hH hi' (on (gm_hill0 hm0 hH c (of (k _ _ fr0)))))))
  subst e
  refine ⟨fun e => e_m_wandered _ _ _ _ _ (gm_hill1 hm0 hH hi' (on (gm_hill1 hm0 hH hj (on ⟨fun _ => k _ _ fr0, fun q => absurd e q⟩)))), fun ne => gx_below 2 (by decide) (fun b hb e => on' ?_) (fun c => of' (e_m_wandered _ _ _ _ _ (gm_hill1 hm0 hH hi' (on (gm_hill1 hm0 hH hj (on ⟨fun q => absurd q ne, fun _ => gm_in0 (by rw [i2l, tl_0, tl_1]; omega) (of' (k _ _ fr0))⟩))))))⟩
  subst e
  have bb : (0 : Int64).toInt ≤ (nI b).toInt64.toInt ∧ (nI b).toInt64.toInt ≤ (1 : Int64).toInt := by rw [i2l, tl_0, tl_1, ti_nI (by omega)]; omega
  obtain ⟨f1, f2, f3, f4, f5, f6⟩ := hm0.2.2.2 i hi'
  obtain ⟨g1, g2, g3, g4, g5, g6⟩ := hm0.2.2.2 j hj
  have mm : ∀ r : Int32, (wnl w i = false ∨ wnl w j = false → r = -1000000) → (wnl w i = true → wnl w j = true → (nI b = 0 → r = (wny w i - wny w j) - (wnw w i + wnw w j)) ∧ (¬ nI b = 0 → r = (wny w i - wny w j) + (wnw w i + wnw w j))) → CallI hd_m_wandered [rf 55 122, iv (nI i), iv (nI j), iv (nI b)] σ (fun r' σ2 => G r r' σ2) := by
    intro r r0 r1
    refine e_m_wandered _ _ _ _ _ (gm_hill1 hm0 hH hi' (on (gm_hill1 hm0 hH hj (on ⟨fun q => absurd q ne, fun _ => gm_in1 bb (on' ⟨vin0 _ (e61_ i) (by omega) (by decide), vin0 _ (e61_ j) (by omega) (by decide), l_m_wandered_60 _ _ _ _ _ _ ⟨vin0 _ (e37_ i) (by omega) (by decide), ?_⟩⟩)⟩))))
    rw [e37_, e37_, e49_, e49_, e61_, e61_, nI_clamp (by omega), nI_clamp (by omega), nI_clamp (by omega), nI_clamp (by omega), nI_clamp (by omega), nI_clamp (by omega), f4, g4]
    refine ⟨fun q => ?_, fun q => ⟨vin0 (37 + j) rfl (by omega) (by decide), fun q2 => ⟨vin0 (49 + i) rfl (by omega) (by decide), vin0 (49 + j) rfl (by omega) (by decide), ?_⟩, fun q2 => ?_⟩⟩
    · rw [r0 (Or.inl (b10.mp q))]; exact k _ _ fr0
    · rw [b11] at q q2
      obtain ⟨s1, s2⟩ := r1 q q2
      rw [(f5 q).1, (f5 q).2, (g5 q2).1, (g5 q2).2]
      refine ⟨fun z => ?_, fun z => ?_⟩
      · rw [s2 z]; exact k _ _ fr0
      · rw [s1 z, show (wny w i - wny w j) - (wnw w i + wnw w j) = (wny w i - wny w j) + -(wnw w i + wnw w j) by grind]; exact k _ _ fr0
    · rw [r0 (Or.inr (b10.mp q2))]; exact k _ _ fr0
  have v1 : vp_in (nI i) 12 := vin0 i rfl (by omega) (by decide)
  have v2 : vp_in (nI j) 12 := vin0 j rfl (by omega) (by decide)
  refine x_hasN hc hH hi' (fun c1 => on (x_hasN hc hH hj (fun c2 => on' ⟨v1, v2, v1, v2, ?_⟩) (fun c2 => of' (mm _ (fun _ => rfl) (fun _ z => absurd z (by simp [c2])))))) (fun c1 => of (mm _ (fun _ => rfl) (fun z => absurd z (by simp [c1]))))
  obtain ⟨p1, p2, p3, p4, p5, p6, p7, p8, p9⟩ := hc.2.2.2 i hi'
  obtain ⟨q1, q2, q3, q4, q5, q6, q7, q8, q9⟩ := hc.2.2.2 j hj
  rw [if_pos c1] at p8
  rw [if_pos c2] at q8
  rw [nI_clamp (by omega), nI_clamp (by omega), show σ 57 i = wny w i from p7 c1, show σ 57 j = wny w j from q7 c2, show σ 58 i = wnw w i from p8, show σ 58 j = wnw w j from q8]
  exact ⟨fun z => mm _ (fun q => by simp [c1, c2] at q) (fun _ _ => ⟨fun y => absurd y z, fun _ => rfl⟩), fun z => mm _ (fun q => by simp [c1, c2] at q) (fun _ _ => ⟨fun _ => rfl, fun y => absurd z y⟩)⟩
/-- how far north a story has the fire of hill i when it came -/
def nrt (w : Wo) (i s : Nat) : Int32 := stS w s (nfi w i s) 1 + spS w s (nfi w i s) 1 * nI (nag w i s)
def sy (w : Wo) (s : Nat) : Nat → Int32
  | 0 => 0
  | n + 1 => if wnl w n then (if wnw w n < ab (nrt w n s - wny w n) then sy w s n + 0 else sy w s n + 1) else sy w s n
theorem x_saying {w : Wo} {σ : St} (hc : cW w 36 50 σ) (hD : cD w 36 σ) (hF : okF w) (hH : okH w) {s : Nat} (hs : s < n4 w) (F : Int32 → St → Prop) (h : ∀ τ, Fr PX σ τ → F (sy w s (nh w)) τ) : CallI hd_so_needlesSaying [rf 50 114, iv (nI s)] σ F := by
  have nhh := hH.1
  have loop : ∀ (m n : Nat), n + m = nh w → ∀ τ, Fr PX σ τ → At hd_so_needlesSaying X0 4 [some (rf 50 114), some (iv (nI s)), some (iv (sy w s n)), some (iv (nI n)), none] [] τ (retI F) := by
    intro m
    induction m with
    | zero =>
      intro n hn τ ht
      refine l_so_needlesSaying_4 _ _ _ _ _ ?_
      rw [(x_row ht hc).2.2.1]
      exact ⟨fun _ => by rw [show n = nh w by omega]; exact h τ ht, fun q => absurd (by rw [nI_leI (by omega) (by omega)]; omega) q⟩
    | succ m ih =>
      intro n hn τ ht
      have key := ih (n + 1) (by omega)
      simp only [sy] at key
      refine l_so_needlesSaying_4 _ _ _ _ _ ?_
      rw [(x_row ht hc).2.2.1]
      refine ⟨fun q => ?_, fun _ => x_hasN (x_row ht hc) hH (by omega) (fun c => on (c_find (x_row ht hc) (x_rowD ht hD) hF hH (by omega) hs _ fun ρ hr hx => ?_)) (fun c => of ?_)⟩
      · exfalso; rw [nI_leI (by omega) (by omega)] at q; omega
      · obtain ⟨y1, y2, y3, y4⟩ := xAc_of hF hH (by omega) hs hx
        have fr := ht.tr hr
        have hcr := x_row fr hc
        have nf := near_f hF hH (i := n) (by omega) hs
        obtain ⟨p1, p2, p3, p4, p5, p6, p7, p8, p9⟩ := hcr.2.2.2 n (by omega)
        rw [if_pos c] at p8
        rw [y1]
        refine x_st (c := 1) hcr hF hs nf.1 (by decide) _ ?_
        rw [y1]
        refine x_sp (c := 1) hcr hF hs nf.1 (by decide) _ ⟨vin0 n rfl (by omega) (by decide), vin0 n rfl (by omega) (by decide), ?_⟩
        rw [nI_clamp (by omega), show ρ 57 n = wny w n from p7 c, show ρ 58 n = wnw w n from p8, y2, nI_1]
        rw [if_pos c] at key
        refine ⟨fun q => ?_, fun q => ?_⟩
        · rw [if_pos (show wnw w n < ab (nrt w n s - wny w n) from q)] at key; exact key ρ fr
        · rw [if_neg (show ¬ wnw w n < ab (nrt w n s - wny w n) from q)] at key; exact key ρ fr
      · rw [if_neg (by simp [c])] at key
        rw [nI_1]; exact key τ ht
  exact e_so_needlesSaying _ _ _ (loop (nh w) 0 (by omega) σ Fr.rf)
theorem nrt_m {w : Wo} {n s : Nat} (h2 : ¬ whS w s = 2) : (whS w s = 1 → nrt w n s = wfi w (6 * nfi w n s + 1) - nI (nag w n s) * wfi w (6 * nfi w n s + 3)) ∧ (¬ whS w s = 1 → nrt w n s = wfi w (6 * nfi w n s + 1) - 0) := by
  unfold nrt stS spS
  rw [if_neg h2, if_neg h2]
  refine ⟨fun c => ?_, fun c => ?_⟩
  · rw [if_pos c, show 2 + 1 = 3 from rfl]; grind
  · rw [if_neg c]; grind
theorem r_says (a1 : Int32) (σ : St) (G : Int32 → Int32 → St → Prop) (hR : RW σ) (k : KQ σ G) :
    CallI hd_x_says [rf 54 0, iv a1] σ (fun r σ1 => CallI hd_m_says [rf 55 122, iv a1] σ1 (fun r' σ2 => G r r' σ2)) := by
  obtain ⟨w, hF, hH, hc, hcd, hm, hmd, h7⟩ := hR
  have hm0 := mWs_fr fr0 hm
  have nhh := hH.1
  have n4b := hF.1.2.2.2.2.1
  refine e_x_says a1 σ _ (gx_story hc hF (fun s hs e => on ?_) (fun c => of (e_m_says _ _ _ (gm_story0 hm0 hF c (of (k _ _ fr0))))))
  subst e
  have wb : wi (whS w s) 0 3 := (hF.2.2.2.2.2 s hs).1
  unfold wi at wb
  refine q_fl_isOfNeedles _ _ _ _ (x_vs hF hs) (fun _ => x_vs hF hs) ?_
  unfold p_fl_isOfNeedles
  rw [x_li hc hF hs]
  have mw : ∀ (τ : St) (F : Int32 → St → Prop), mW w (τ 126) (τ 128) → F (whS w s) τ → CallI hd_m_which [rf 55 122, iv (nI s)] τ F := fun τ F q h => q_m_which _ _ _ (m_vs hF hs) (by rw [m_wh q hF hs]; exact h)
  by_cases c01 : whS w s = 0 ∨ whS w s = 1
  rotate_left
  · have z0 : ¬ whS w s = 0 := fun e => c01 (Or.inl e)
    have z1 : ¬ whS w s = 1 := fun e => c01 (Or.inr e)
    rw [if_neg z0, if_neg z1]
    refine of' (e_m_says _ _ _ (gm_story1 hm0 hF hs (on (mw _ _ hm0 ⟨fun q => ?_, fun _ => k _ _ fr0⟩))))
    exfalso
    rw [fa_le, t_1] at q
    rw [fa_eq, t_0] at z0
    rw [fa_eq, t_1] at z1
    omega
  have e1 : (if whS w s = 0 then (1 : Int32) else if whS w s = 1 then 1 else 0) = 1 := by
    rcases c01 with c | c
    · rw [if_pos c]
    · by_cases z : whS w s = 0
      · rw [if_pos z]
      · rw [if_neg z, if_pos c]
  have h2 : ¬ whS w s = 2 := fun z => by rcases c01 with c | c <;> rw [c] at z <;> exact absurd z (by decide)
  rw [e1]
  refine on' (x_saying hc hcd hF hH hs _ fun τ ht => ?_)
  have f0 : Fr SC σ (up τ 122 0 0) := (pxsc ht).tr fr0
  have hm1 := mWs_fr f0 hm
  have hd1 := mDs_fr f0 hmd
  have loop : ∀ (m n : Nat), n + m = nh w → ∀ ρ, Fr PM (up τ 122 0 0) ρ → At hd_m_says X0 29 [some (rf 55 122), some (iv (nI s)), some (iv (sy w s n)), some (iv (nI n)), none] [] ρ (retI (fun r' σ2 => G (sy w s (nh w)) r' σ2)) := by
    intro m
    induction m with
    | zero =>
      intro n hn ρ hr
      refine l_m_says_29 _ _ _ _ _ ⟨vz, ?_⟩
      rw [c_0, (m_row hr hm1).2.2.1]
      exact ⟨fun _ => by rw [show n = nh w by omega]; exact k _ _ (f0.tr (pmsc hr)), fun q => absurd (by rw [nI_leI (by omega) (by omega)]; omega) q⟩
    | succ m ih =>
      intro n hn ρ hr
      have key := ih (n + 1) (by omega)
      simp only [sy] at key
      obtain ⟨p1, p2, p3, p4, p5, p6⟩ := (m_row hr hm1).2.2.2 n (by omega)
      refine l_m_says_29 _ _ _ _ _ ⟨vz, ?_⟩
      rw [c_0, (m_row hr hm1).2.2.1]
      refine ⟨fun q => ?_, fun _ => ⟨vin0 _ (e37_ n) (by omega) (by decide), ?_⟩⟩
      · exfalso; rw [nI_leI (by omega) (by omega)] at q; omega
      rw [e37_, nI_clamp (by omega), p4, nI_1]
      by_cases c : wnl w n = true
      rotate_left
      · rw [if_neg c] at key ⊢
        exact ⟨fun _ => key ρ hr, fun q => absurd q (by decide)⟩
      rw [if_pos c] at key ⊢
      refine ⟨fun q => absurd rfl q, fun _ => c_seek (m_row hr hm1) (m_rowD hr hd1) hF hH (by omega) hs _ fun κ hκ hx => ?_⟩
      have fk := hr.tr hκ
      have hmk := m_row fk hm1
      obtain ⟨y1, y2, y3, y4⟩ := mAc_of hF hH (by omega) hs hx
      have nf := near_f hF hH (i := n) (by omega) hs
      have ff := fOf_f hF nf.1
      obtain ⟨z1, z2, z3, z4, z5, z6⟩ := hmk.2.2.2 n (by omega)
      have a94 : ∀ s0 s1 : Int32, s1 - s0 = nrt w n s → At hd_m_says X0 94 [some (rf 55 122), some (iv (nI s)), some (iv (sy w s n)), some (iv (nI n)), none] [iv s0, iv s1] κ (retI (fun r' σ2 => G (sy w s (nh w)) r' σ2)) := fun s0 s1 e => by
        refine l_m_says_94 _ _ _ _ _ _ _ ⟨vin0 _ (e49_ n) (by omega) (by decide), q_m_size _ _ _ ⟨vin0 _ (e61_ n) (by omega) (by decide), ?_⟩⟩
        rw [e49_, e61_, nI_clamp (by omega), nI_clamp (by omega), (z5 c).1, (z5 c).2, v_size, e, nI_1]
        refine ⟨fun q => ?_, fun q => ?_⟩
        · rw [if_pos q] at key; exact key κ fk
        · rw [if_neg q] at key; exact key κ fk
      rw [y1]
      refine q_m_fireOf _ _ _ _ (m_vf (c := 1) ff.1 (by decide)) (mw _ _ hmk ?_)
      rw [y1, y2, show (1 : Int32) = nI 1 from rfl, m_fi (f := nfi w n s) (c := 1) hmk hF (ff.2.1 h2) (by decide), show nI 1 = (1 : Int32) from rfl]
      refine ⟨fun q => a94 _ _ ((nrt_m h2).2 q).symm, fun q => q_m_fireOf _ _ _ _ (m_vf (c := 3) ff.1 (by decide)) ?_⟩
      rw [show (3 : Int32) = nI 3 from rfl, m_fi (f := nfi w n s) (c := 3) hmk hF (ff.2.1 h2) (by decide)]
      exact a94 _ _ ((nrt_m h2).1 q).symm
  refine e_m_says _ _ _ (gm_story1 hm1 hF hs (on (mw _ _ hm1 ⟨fun _ => loop (nh w) 0 (by omega) _ Fr.rf, fun q => ?_⟩)))
  exfalso
  apply q
  rcases c01 with c | c <;> rw [c] <;> decide
