/-! drift, where, fault, status -/
theorem on {A B : Prop} (b : B) : ((1 : Int32) = 0 → A) ∧ (¬ (1 : Int32) = 0 → B) := ⟨fun q => absurd q one_ne, fun _ => b⟩
theorem of {A B : Prop} (a : A) : ((0 : Int32) = 0 → A) ∧ (¬ (0 : Int32) = 0 → B) := ⟨fun _ => a, fun q => absurd rfl q⟩
theorem on' {A B : Prop} (b : B) : (¬ (1 : Int32) = 0 → B) ∧ ((1 : Int32) = 0 → A) := ⟨fun _ => b, fun q => absurd q one_ne⟩
theorem of' {A B : Prop} (a : A) : (¬ (0 : Int32) = 0 → B) ∧ ((0 : Int32) = 0 → A) := ⟨fun q => absurd rfl q, fun _ => a⟩
/-! guards: both answers -/
section GX
variable {w : Wo} {σ : St} {F : Int32 → St → Prop}
theorem gx_hill (hc : cW w 36 50 σ) (hH : okH w) {a : Int32} (h1 : ∀ i, i < nh w → a = nI i → F 1 σ) (h0 : ¬ (0 ≤ a.toInt ∧ a.toInt < nh w) → F 0 σ) : CallI hd_x_isHill [rf 54 0, iv a] σ F := by
  refine q_x_isHill _ _ _ ?_
  rw [x_hill hc hH]
  by_cases c : 0 ≤ a.toInt ∧ a.toInt < nh w
  · obtain ⟨i, hi', e, -⟩ := ixe c (by have := hH.1; omega)
    rw [if_pos c]; exact h1 i hi' e
  · rw [if_neg c]; exact h0 c
theorem gx_story (hc : cW w 36 50 σ) (hF : okF w) {a : Int32} (h1 : ∀ s, s < n4 w → a = nI s → F 1 σ) (h0 : ¬ (0 ≤ a.toInt ∧ a.toInt < n4 w) → F 0 σ) : CallI hd_x_isStory [rf 54 0, iv a] σ F := by
  refine q_x_isStory _ _ _ ?_
  rw [x_story hc hF]
  by_cases c : 0 ≤ a.toInt ∧ a.toInt < n4 w
  · obtain ⟨i, hi', e, -⟩ := ixe c (by have := hF.1.2.2.2.2.1; omega)
    rw [if_pos c]; exact h1 i hi' e
  · rw [if_neg c]; exact h0 c
theorem gx_house (hc : cW w 36 50 σ) (hF : okF w) {a : Int32} (h1 : ∀ s, s < n2 w → a = nI s → F 1 σ) (h0 : ¬ (0 ≤ a.toInt ∧ a.toInt < n2 w) → F 0 σ) : CallI hd_x_isHouse [rf 54 0, iv a] σ F := by
  refine q_x_isHouse _ _ _ ?_
  rw [x_house hc hF]
  by_cases c : 0 ≤ a.toInt ∧ a.toInt < n2 w
  · obtain ⟨i, hi', e, -⟩ := ixe c (by have := hF.1.2.2.1; omega)
    rw [if_pos c]; exact h1 i hi' e
  · rw [if_neg c]; exact h0 c
theorem gx_fire (hc : cW w 36 50 σ) (hF : okF w) {s : Nat} (hs : s < n4 w) {a : Int32} (h1 : ∀ f, f < fOf w s → a = nI f → F 1 σ) (h0 : ¬ (0 ≤ a.toInt ∧ a.toInt < fOf w s) → F 0 σ) : CallI hd_x_isFireOf [rf 54 0, iv (nI s), iv a] σ F := by
  refine q_x_isFireOf _ _ _ _ (x_vs hF hs) ?_
  rw [x_isFire hc hF hs]
  by_cases c : 0 ≤ a.toInt ∧ a.toInt < fOf w s
  · obtain ⟨i, hi', e, -⟩ := ixe c (by have := fOf_le hF s; omega)
    rw [if_pos c]; exact h1 i hi' e
  · rw [if_neg c]; exact h0 c
theorem gx_age {a : Int32} (h1 : ∀ i, i < 100 → a = nI i → F 1 σ) (h0 : ¬ (0 ≤ a.toInt ∧ a.toInt < 100) → F 0 σ) : CallI hd_x_isAge [iv a] σ F := by
  refine q_x_isAge _ _ _ ?_
  rw [v_xage]
  by_cases c : 0 ≤ a.toInt ∧ a.toInt < 100
  · obtain ⟨i, hi', e, -⟩ := ixe c (by decide)
    rw [if_pos c]; exact h1 i hi' e
  · rw [if_neg c]; exact h0 c
theorem gx_below (n : Nat) (hn : n < 2147483648) {a : Int32} (h1 : ∀ i, i < n → a = nI i → F 1 σ) (h0 : ¬ (0 ≤ a.toInt ∧ a.toInt < n) → F 0 σ) : CallI hd_x_isBelow [iv a, iv (nI n)] σ F := by
  refine q_x_isBelow _ _ _ _ ?_
  rw [in_lt hn]
  by_cases c : 0 ≤ a.toInt ∧ a.toInt < n
  · obtain ⟨i, hi', e, -⟩ := ixe c (by omega)
    rw [if_pos c]; exact h1 i hi' e
  · rw [if_neg c]; exact h0 c
theorem gx_place {a : Int32} (h1 : -99999 ≤ a.toInt ∧ a.toInt ≤ 99999 → F 1 σ) (h0 : ¬ (-99999 ≤ a.toInt ∧ a.toInt ≤ 99999) → F 0 σ) : CallI hd_x_isPlace [iv a] σ F := by
  refine q_x_isPlace _ _ _ ?_
  rw [v_xplace]
  by_cases c : -99999 ≤ a.toInt ∧ a.toInt ≤ 99999
  · rw [if_pos c]; exact h1 c
  · rw [if_neg c]; exact h0 c
theorem gx_within (b c : Int32) {a : Int32} (h1 : b.toInt ≤ a.toInt ∧ a.toInt ≤ c.toInt → F 1 σ) (h0 : ¬ (b.toInt ≤ a.toInt ∧ a.toInt ≤ c.toInt) → F 0 σ) : CallI hd_x_isWithin [iv a, iv b, iv c] σ F := by
  refine q_x_isWithin _ _ _ _ _ ?_
  rw [v_within]
  by_cases h : b.toInt ≤ a.toInt ∧ a.toInt ≤ c.toInt
  · rw [if_pos h]; exact h1 h
  · rw [if_neg h]; exact h0 h
theorem gx_there (hc : cW w 36 50 σ) (hF : okF w) (h1 : 0 < n4 w → F 1 σ) (h0 : n4 w = 0 → F 0 σ) : CallI hd_wo_isThere [rf 44 35] σ F := by
  refine q_wo_isThere _ _ _ ?_
  rw [x_there hc hF]
  by_cases c : 0 < n4 w
  · rw [if_pos c]; exact h1 c
  · rw [if_neg c]; exact h0 (by omega)
theorem ti_lt {i n : Nat} (h : i < n) (hn : n ≤ 2147483648) : 0 ≤ (nI i).toInt ∧ (nI i).toInt < n := by rw [ti_nI (by omega)]; omega
theorem gm_hill1 (hm : mW w (σ 126) (σ 128)) (hH : okH w) {i : Nat} (hi' : i < nh w) (h : F 1 σ) : CallI hd_m_isHill [rf 55 122, iv (nI i)] σ F := by
  refine q_m_isHill _ _ _ vz ?_
  rw [m_hill hm hH, if_pos (ti_lt hi' (by have := hH.1; omega))]; exact h
theorem gm_hill0 (hm : mW w (σ 126) (σ 128)) (hH : okH w) {a : Int32} (c : ¬ (0 ≤ a.toInt ∧ a.toInt < nh w)) (h : F 0 σ) : CallI hd_m_isHill [rf 55 122, iv a] σ F := by
  refine q_m_isHill _ _ _ vz ?_
  rw [m_hill hm hH, if_neg c]; exact h
theorem gm_story1 (hm : mW w (σ 126) (σ 128)) (hF : okF w) {i : Nat} (hi' : i < n4 w) (h : F 1 σ) : CallI hd_m_isStory [rf 55 122, iv (nI i)] σ F := by
  refine q_m_isStory _ _ _ vst ?_
  rw [m_story hm hF, if_pos (ti_lt hi' (by have := hF.1.2.2.2.2.1; omega))]; exact h
theorem gm_story0 (hm : mW w (σ 126) (σ 128)) (hF : okF w) {a : Int32} (c : ¬ (0 ≤ a.toInt ∧ a.toInt < n4 w)) (h : F 0 σ) : CallI hd_m_isStory [rf 55 122, iv a] σ F := by
  refine q_m_isStory _ _ _ vst ?_
  rw [m_story hm hF, if_neg c]; exact h
theorem gm_house1 (hm : mW w (σ 126) (σ 128)) (hF : okF w) {i : Nat} (hi' : i < n2 w) (h : F 1 σ) : CallI hd_m_isHouse [rf 55 122, iv (nI i)] σ F := by
  refine q_m_isHouse _ _ _ (vin0 2 rfl (by decide) (by decide)) ?_
  rw [m_house hm hF, if_pos (ti_lt hi' (by have := hF.1.2.2.1; omega))]; exact h
theorem gm_house0 (hm : mW w (σ 126) (σ 128)) (hF : okF w) {a : Int32} (c : ¬ (0 ≤ a.toInt ∧ a.toInt < n2 w)) (h : F 0 σ) : CallI hd_m_isHouse [rf 55 122, iv a] σ F := by
  refine q_m_isHouse _ _ _ (vin0 2 rfl (by decide) (by decide)) ?_
  rw [m_house hm hF, if_neg c]; exact h
theorem gm_age1 {i : Nat} (hi' : i < 100) (h : F 1 σ) : CallI hd_m_isAge [iv (nI i)] σ F := by
  refine q_m_isAge _ _ _ ?_
  rw [v_mage, if_pos (by rw [ti_nI (by omega)]; omega)]; exact h
theorem gm_age0 {a : Int32} (c : ¬ (0 ≤ a.toInt ∧ a.toInt < 100)) (h : F 0 σ) : CallI hd_m_isAge [iv a] σ F := by
  refine q_m_isAge _ _ _ ?_
  rw [v_mage, if_neg c]; exact h
theorem gm_place1 {a : Int32} (c : -99999 ≤ a.toInt ∧ a.toInt ≤ 99999) (h : F 1 σ) : CallI hd_m_isPlace [iv a] σ F := by
  refine q_m_isPlace _ _ _ ?_
  rw [v_mplace, if_pos c]; exact h
theorem gm_place0 {a : Int32} (c : ¬ (-99999 ≤ a.toInt ∧ a.toInt ≤ 99999)) (h : F 0 σ) : CallI hd_m_isPlace [iv a] σ F := by
  refine q_m_isPlace _ _ _ ?_
  rw [v_mplace, if_neg c]; exact h
theorem gm_in1 {a b c : Int64} (q : b.toInt ≤ a.toInt ∧ a.toInt ≤ c.toInt) (h : F 1 σ) : CallI hd_m_in [jv a, jv b, jv c] σ F := by
  refine q_m_in _ _ _ _ _ ?_
  rw [v_in, if_pos q]; exact h
theorem gm_in0 {a b c : Int64} (q : ¬ (b.toInt ≤ a.toInt ∧ a.toInt ≤ c.toInt)) (h : F 0 σ) : CallI hd_m_in [jv a, jv b, jv c] σ F := by
  refine q_m_in _ _ _ _ _ ?_
  rw [v_in, if_neg q]; exact h
theorem gm_fire1 (hm : mW w (σ 126) (σ 128)) (hF : okF w) {s f : Nat} (hs : s < n4 w) (hf : f < fOf w s) {F : Int32 → St → Prop} (h : F 1 σ) : CallI hd_m_firesOf [rf 55 122, iv (nI s)] σ (fun r σ' => CallI hd_m_in [jv ((nI f).toInt64), jv 0, jv ((r - 1).toInt64)] σ' F) := by
  refine q_mfires hm hF hs _ (q_m_in _ _ _ _ _ ?_)
  have := fOf_le hF s
  rw [in_m (by omega), if_pos (ti_lt hf (by omega))]; exact h
theorem gm_fire0 (hm : mW w (σ 126) (σ 128)) (hF : okF w) {s : Nat} {a : Int32} (hs : s < n4 w) (c : ¬ (0 ≤ a.toInt ∧ a.toInt < fOf w s)) {F : Int32 → St → Prop} (h : F 0 σ) : CallI hd_m_firesOf [rf 55 122, iv (nI s)] σ (fun r σ' => CallI hd_m_in [jv (a.toInt64), jv 0, jv ((r - 1).toInt64)] σ' F) := by
  refine q_mfires hm hF hs _ (q_m_in _ _ _ _ _ ?_)
  have := fOf_le hF s
  rw [in_m (by omega), if_neg c]; exact h
end GX
theorem r_fault (σ : St) (G : Int32 → Int32 → St → Prop) (hT : σ 0 9 = σ 122 11) (k : KQ σ G) :
    CallI hd_x_fault [rf 54 0] σ (fun r σ1 => CallI hd_m_fault [rf 55 122] σ1 (fun r' σ2 => G r r' σ2)) := by
  refine e_x_fault _ _ (e_m_fault _ _ ?_)
  rw [up_jb _ _ (by omega), hT]; exact k _ _ fr0
theorem r_status (σ : St) (G : Int32 → Int32 → St → Prop) (hT : σ 0 10 = σ 122 1) (k : KQ σ G) :
    CallI hd_x_status [rf 54 0] σ (fun r σ1 => CallI hd_m_status [rf 55 122] σ1 (fun r' σ2 => G r r' σ2)) := by
  refine e_x_status _ _ (e_m_status _ _ ?_)
  rw [up_jb _ _ (by omega), hT]; exact k _ _ fr0
theorem mt0 {w : Wo} {τ : St} (h7 : τ 122 7 = (if n4 w = 0 then 0 else 1)) (h : n4 w = 0) : up τ 122 0 0 122 7 = 0 := by rw [up_jb _ _ (by omega), h7, if_pos h]
theorem mt1 {w : Wo} {τ : St} (h7 : τ 122 7 = (if n4 w = 0 then 0 else 1)) (h : 0 < n4 w) : up τ 122 0 0 122 7 = 1 := by rw [up_jb _ _ (by omega), h7, if_neg (by omega)]
theorem r_drift (a1 a2 : Int32) (σ : St) (G : Int32 → Int32 → St → Prop) (hR : RW σ) (k : KQ σ G) :
    CallI hd_x_drift [rf 54 0, iv a1, iv a2] σ (fun r σ1 => CallI hd_m_drift [rf 55 122, iv a1, iv a2] σ1 (fun r' σ2 => G r r' σ2)) := by
  obtain ⟨w, hF, hH, hc, hcd, hm, hmd, h7⟩ := hR
  refine e_x_drift a1 a2 σ _ (gx_age (fun a ha e => on ?_) (fun c => of (e_m_drift _ _ _ _ (gm_age0 c (of (k _ _ fr0))))))
  subst e
  refine gx_below 2 (by decide) (fun b hb e => on' ?_) (fun c => of' (e_m_drift _ _ _ _ (gm_age1 ha (on (gm_in0 (by rw [i2l, tl_0, tl_1]; omega) (of' (k _ _ fr0)))))))
  subst e
  have bb : (0 : Int64).toInt ≤ (nI b).toInt64.toInt ∧ (nI b).toInt64.toInt ≤ (1 : Int64).toInt := by rw [i2l, tl_0, tl_1, ti_nI (by omega)]; omega
  refine gx_there hc hF (fun h4 => on' ?_) (fun h4 => of' (e_m_drift _ _ _ _ (gm_age1 ha (on (gm_in1 bb (on' ?_))))))
  · have va : vp_in (nI a) 100 := vin0 a rfl ha (by decide)
    have hd0 := mDs_fr fr0 hmd
    rw [show (nI a).toNatClampNeg = a from nI_clamp (by omega), show σ 47 a = drf w 1 a from (hcd a ha).1, show σ 48 a = drf w 2 a from (hcd a ha).2.1]
    refine ⟨fun q => ⟨va, e_m_drift _ _ _ _ (gm_age1 ha (on (gm_in1 bb (on' ?_))))⟩, fun q => ⟨va, e_m_drift _ _ _ _ (gm_age1 ha (on (gm_in1 bb (on' ?_))))⟩⟩
    · rw [mt1 h7 h4]
      refine on' ⟨fun _ => ⟨va, ?_⟩, fun z => absurd z q⟩
      rw [nI_clamp (by omega), (hd0 a ha).2]; exact k _ _ fr0
    · rw [mt1 h7 h4]
      refine on' ⟨fun z => absurd q z, fun _ => ⟨va, ?_⟩⟩
      rw [nI_clamp (by omega), (hd0 a ha).1]; exact k _ _ fr0
  · rw [mt0 h7 h4]
    exact of' (k _ _ fr0)
theorem r_where (a1 a2 a3 a4 : Int32) (σ : St) (G : Int32 → Int32 → St → Prop) (hR : RW σ) (k : KQ σ G) :
    CallI hd_x_where [rf 54 0, iv a1, iv a2, iv a3, iv a4] σ (fun r σ1 => CallI hd_m_where [rf 55 122, iv a1, iv a2, iv a3, iv a4] σ1 (fun r' σ2 => G r r' σ2)) := by
  obtain ⟨w, hF, hH, hc, hcd, hm, hmd, h7⟩ := hR
  have hm0 := mWs_fr fr0 hm
  refine e_x_where a1 a2 a3 a4 σ _ (gx_story hc hF (fun s hs e => on ?_) (fun c => of (e_m_where _ _ _ _ _ _ (gm_story0 hm0 hF c (of (k _ _ fr0))))))
  subst e
  refine gx_fire hc hF hs (fun f hf e => on ?_) (fun c => of (e_m_where _ _ _ _ _ _ (gm_story1 hm0 hF hs (on (gm_fire0 hm0 hF hs c (of (k _ _ fr0)))))))
  subst e
  refine gx_age (fun a ha e => on ?_) (fun c => of (e_m_where _ _ _ _ _ _ (gm_story1 hm0 hF hs (on (gm_fire1 hm0 hF hs hf (on (gm_age0 c (of (k _ _ fr0)))))))))
  subst e
  refine gx_below 2 (by decide) (fun b hb e => on' ?_) (fun c => of' (e_m_where _ _ _ _ _ _ (gm_story1 hm0 hF hs (on (gm_fire1 hm0 hF hs hf (on (gm_age1 ha (on (gm_in0 (by rw [i2l, tl_0, tl_1]; omega) (of' (k _ _ fr0)))))))))))
  subst e
  have bb : (0 : Int64).toInt ≤ (nI b).toInt64.toInt ∧ (nI b).toInt64.toInt ≤ (1 : Int64).toInt := by rw [i2l, tl_0, tl_1, ti_nI (by omega)]; omega
  refine x_plc hc hcd hF hs hf ha hb _ (e_m_where _ _ _ _ _ _ (gm_story1 hm0 hF hs (on (gm_fire1 hm0 hF hs hf (on (gm_age1 ha (on (gm_in1 bb (on' ?_)))))))))
  rcases (show b = 0 ∨ b = 1 by omega) with e | e <;> subst e
  · exact ⟨fun q => absurd rfl q, fun _ => m_plx hm0 (mDs_fr fr0 hmd) hF hs hf ha _ (k _ _ fr0)⟩
  · exact ⟨fun _ => m_ply hm0 (mDs_fr fr0 hmd) hF hs hf ha _ (k _ _ fr0), fun q => absurd q (by decide)⟩
