/-! the reference's lines, one by one -/
theorem ixo (o C n c : Nat) : nI o + nI C * nI n + nI c = nI (o + (C * n + c)) := by rw [mulN, nI_add, nI_add, Nat.add_assoc]
theorem ixz (o C n : Nat) : nI o + nI C * nI n = nI (o + (C * n + 0)) := by rw [mulN, nI_add]; rfl
theorem adl_lit {fl : Fl} {y c : Nat} (h : ¬ (y = 0 ∧ c = 0)) {a b : Int32} (ha : lsv y c = a) (hb : msv y c = b) (v : Int32) : adB fl y c v = true ↔ a.toInt ≤ v.toInt ∧ v.toInt ≤ b.toInt := by
  unfold adB
  rw [decide_eq_false (fun q : y = 0 ∧ c = 0 ∧ 0 < fl.1 0 => h ⟨q.1, q.2.1⟩), ha, hb]
  simp only [Bool.and_eq_true, decide_eq_true_eq, Bool.not_false, Bool.true_or, and_true, fa_le]
theorem adl_0 {fl : Fl} (hf : flOk fl) {s0 : Int32} (e0 : fl.1 0 = 0 → s0 = 0) (e1 : ¬ fl.1 0 = 0 → s0 = fl.2 0 (3 * (fl.1 0 - 1))) (v : Int32) : adB fl 0 0 v = true ↔ (s0 + 1).toInt ≤ v.toInt ∧ v.toInt ≤ (99 : Int32).toInt := by
  have l0 : (lsv 0 0).toInt = 1 := by decide
  have m0 : (msv 0 0).toInt = 99 := by decide
  unfold adB
  by_cases c : fl.1 0 = 0
  · rw [e0 c, decide_eq_false (fun q : (0 : Nat) = 0 ∧ (0 : Nat) = 0 ∧ 0 < fl.1 0 => by omega)]
    simp only [Bool.and_eq_true, decide_eq_true_eq, Bool.not_false, Bool.true_or, and_true, fa_le, l0, m0]
    rw [show ((0 : Int32) + 1).toInt = 1 from rfl, t_99]
  · have b := hf.2.1 0 (fl.1 0 - 1) 0 (by omega) (by omega) (by decide)
    rw [l0, m0, show ncl 0 * (fl.1 0 - 1) + 0 = 3 * (fl.1 0 - 1) from rfl, ← e1 c] at b
    rw [decide_eq_true (show (0 : Nat) = 0 ∧ (0 : Nat) = 0 ∧ 0 < fl.1 0 from ⟨rfl, rfl, by omega⟩), ← e1 c, ti_add (by rw [t_1]; omega), t_1, t_99]
    simp only [Bool.and_eq_true, decide_eq_true_eq, Bool.not_true, Bool.false_or, fa_le, fa_lt, l0, m0]
    omega
theorem m_readFloor {T : Nat → Nat} {N : Nat} (hT : okT2 N T) {s : Tk × Fl} {σ : St} (hs : mL T N s σ) (hw : wB T s.1 0 = true) (F : St → Prop) (hF : ∀ τ, Fr PRm σ τ → mS T N (lin T N 0 s) τ → F τ) : CallV hd_m_readFloor [rf 55 122] σ F := by
  have hr := hs.2.2.2.2.2
  have hfl := hs.2.2.2.2.1
  have b4 := hr.1.1 0 (by omega)
  have a30 : ∀ s0 : Int32, (s.2.1 0 = 0 → s0 = 0) → (¬ s.2.1 0 = 0 → s0 = s.2.2 0 (3 * (s.2.1 0 - 1))) → At hd_m_readFloor X0 30 [some (rf 55 122), none, none] [iv s0] σ (retV F) := fun s0 e0 e1 => by
    refine l_m_readFloor_30 _ _ _ (m_beg (y := 0) hT (by omega) hs hw _ fun τ ht hc hq => ⟨vin0 0 rfl (by decide) (by decide), ?_⟩)
    rw [c_0, hc 0, (hfl 0 (by omega)).1]
    refine m_col (y := 0) (c := 0) hT hr (by omega) (by omega) (by decide) (by omega) hq (ixz 5 3 _) (adl_0 hr.1 e0 e1) _ fun τ1 h1 q1 => ?_
    refine m_col (y := 0) (c := 1) hT hr (by omega) (by omega) (by decide) (by omega) q1 (ixo 5 3 _ 1) (adl_lit (by decide) rfl rfl) _ fun τ2 h2 q2 => ?_
    refine m_col (y := 0) (c := 2) hT hr (by omega) (by omega) (by decide) (by omega) q2 (ixo 5 3 _ 2) (adl_lit (by decide) rfl rfl) _ fun τ3 h3 q3 => ?_
    exact m_end (y := 0) hT hr (by omega) (by omega) q3 _ fun ρ hρ hS => hF ρ (((((ht).tr h1).tr h2).tr h3).tr hρ) hS
  have c0 : nI (s.2.1 0) = 0 ↔ s.2.1 0 = 0 := nI_eq (b := 0) (by omega) (by omega)
  refine e_m_readFloor _ _ ⟨vin0 0 rfl (by decide) (by decide), ?_⟩
  rw [c_0, (hfl 0 (by omega)).1, c0]
  refine ⟨fun q => ?_, fun q => a30 _ (fun _ => rfl) (fun z => absurd q z)⟩
  have ei : (5 : Int32) + 3 * nI (s.2.1 0) - 3 = nI (5 + 3 * (s.2.1 0 - 1)) := by
    obtain ⟨m, hm⟩ : ∃ m, s.2.1 0 = m + 1 := ⟨s.2.1 0 - 1, by omega⟩
    rw [hm, Nat.add_sub_cancel, ← nI_1, ← nI_add, ← mulN]
    show (5 : Int32) + 3 * (nI m + 1) - 3 = 5 + 3 * nI m
    grind
  rw [ei]
  refine ⟨vin0 0 rfl (by decide) (by decide), vin0 _ rfl (by omega) (by decide), a30 _ (fun z => absurd z q) (fun _ => ?_)⟩
  rw [nI_clamp (by omega)]
  exact (hfl 0 (by omega)).2 _ (by show 3 * (s.2.1 0 - 1) < 3 * s.2.1 0; omega)
theorem m_readFire {T : Nat → Nat} {N : Nat} (hT : okT2 N T) {s : Tk × Fl} {σ : St} (hs : mL T N s σ) (hw : wB T s.1 1 = true) (F : St → Prop) (hF : ∀ τ, Fr PRm σ τ → mS T N (lin T N 1 s) τ → F τ) : CallV hd_m_readFire [rf 55 122] σ F := by
  have hr := hs.2.2.2.2.2
  have hfl := hs.2.2.2.2.1
  have b4 := hr.1.1 1 (by omega)
  refine e_m_readFire _ _ (m_beg (y := 1) hT (by omega) hs hw _ fun τ ht hc hq => ⟨vin0 1 rfl (by decide) (by decide), ?_⟩)
  rw [show (1 : Int32).toNatClampNeg = 1 from rfl, hc 1, (hfl 1 (by omega)).1]
  refine m_col (y := 1) (c := 0) hT hr (by omega) (by omega) (by decide) (by omega) hq (ixo 17 6 _ 0) (adl_lit (by decide) rfl rfl) _ fun τ1 h1 q1 => ?_
  refine m_col (y := 1) (c := 1) hT hr (by omega) (by omega) (by decide) (by omega) q1 (ixo 17 6 _ 1) (adl_lit (by decide) rfl rfl) _ fun τ2 h2 q2 => ?_
  refine m_col (y := 1) (c := 2) hT hr (by omega) (by omega) (by decide) (by omega) q2 (ixo 17 6 _ 2) (adl_lit (by decide) rfl rfl) _ fun τ3 h3 q3 => ?_
  refine m_col (y := 1) (c := 3) hT hr (by omega) (by omega) (by decide) (by omega) q3 (ixo 17 6 _ 3) (adl_lit (by decide) rfl rfl) _ fun τ4 h4 q4 => ?_
  refine m_col (y := 1) (c := 4) hT hr (by omega) (by omega) (by decide) (by omega) q4 (ixo 17 6 _ 4) (adl_lit (by decide) rfl rfl) _ fun τ5 h5 q5 => ?_
  refine m_col (y := 1) (c := 5) hT hr (by omega) (by omega) (by decide) (by omega) q5 (ixo 17 6 _ 5) (adl_lit (by decide) rfl rfl) _ fun τ6 h6 q6 => ?_
  exact m_end (y := 1) hT hr (by omega) (by omega) q6 _ fun ρ hρ hS => hF ρ ((((((((ht).tr h1).tr h2).tr h3).tr h4).tr h5).tr h6).tr hρ) hS
theorem m_readHouse {T : Nat → Nat} {N : Nat} (hT : okT2 N T) {s : Tk × Fl} {σ : St} (hs : mL T N s σ) (hw : wB T s.1 2 = true) (F : St → Prop) (hF : ∀ τ, Fr PRm σ τ → mS T N (lin T N 2 s) τ → F τ) : CallV hd_m_readHouse [rf 55 122] σ F := by
  have hr := hs.2.2.2.2.2
  have hfl := hs.2.2.2.2.1
  have b4 := hr.1.1 2 (by omega)
  refine e_m_readHouse _ _ (m_beg (y := 2) hT (by omega) hs hw _ fun τ ht hc hq => ⟨vin0 2 rfl (by decide) (by decide), ?_⟩)
  rw [show (2 : Int32).toNatClampNeg = 2 from rfl, hc 2, (hfl 2 (by omega)).1]
  refine m_col (y := 2) (c := 0) hT hr (by omega) (by omega) (by decide) (by omega) hq (ixz 41 2 _) (adl_lit (by decide) rfl rfl) _ fun τ1 h1 q1 => ?_
  refine m_col (y := 2) (c := 1) hT hr (by omega) (by omega) (by decide) (by omega) q1 (ixo 41 2 _ 1) (adl_lit (by decide) rfl rfl) _ fun τ2 h2 q2 => ?_
  exact m_end (y := 2) hT hr (by omega) (by omega) q2 _ fun ρ hρ hS => hF ρ ((((ht).tr h1).tr h2).tr hρ) hS
theorem m_readCrack {T : Nat → Nat} {N : Nat} (hT : okT2 N T) {s : Tk × Fl} {σ : St} (hs : mL T N s σ) (h30 : s.2.1 3 = 0) (hw : wB T s.1 3 = true) (F : St → Prop) (hF : ∀ τ, Fr PRm σ τ → mS T N (lin T N 3 s) τ → F τ) : CallV hd_m_readCrack [rf 55 122] σ F := by
  obtain ⟨hL, h0, ht', hm, hfl, hr⟩ := hs
  have s1 : s.1.2.2.1 = 1 := by unfold wB at hw; simp only [Bool.and_eq_true, decide_eq_true_eq] at hw; exact hw.1
  refine e_m_readCrack _ _ (m_must1 hT h0 hL ht' hm (by omega) fun τ hτ hk => ?_)
  have ht := lm_rm hτ
  have hq : mQ T N s.2 3 5 0 (lin T N 3 s) τ := by
    refine Or.inr ⟨tok T N s.1.2.1, fun _ => 0, by omega, ?_, tL_fr hτ hL, ?_, tok_ok ht'.2.1, hk, mFl_lm (lm_122 hτ) hfl, fun j hj => by omega, fun j hj => by omega⟩
    · unfold lin; rw [if_neg (by omega)]; rfl
    · rw [hτ _ _ (by unfold PLm; omega)]; exact h0
  refine m_col (y := 3) (c := 0) hT hr (by omega) (fun _ => h30) (by decide) (by omega) hq (by rw [h30]; rfl) (adl_lit (by decide) rfl rfl) _ fun τ1 h1 q1 => ?_
  refine m_col (y := 3) (c := 1) hT hr (by omega) (fun _ => h30) (by decide) (by omega) q1 (by rw [h30]; rfl) (adl_lit (by decide) rfl rfl) _ fun τ2 h2 q2 => ?_
  refine m_col (y := 3) (c := 2) hT hr (by omega) (fun _ => h30) (by decide) (by omega) q2 (by rw [h30]; rfl) (adl_lit (by decide) rfl rfl) _ fun τ3 h3 q3 => ?_
  refine m_col (y := 3) (c := 3) hT hr (by omega) (fun _ => h30) (by decide) (by omega) q3 (by rw [h30]; rfl) (adl_lit (by decide) rfl rfl) _ fun τ4 h4 q4 => ?_
  refine m_col (y := 3) (c := 4) hT hr (by omega) (fun _ => h30) (by decide) (by omega) q4 (by rw [h30]; rfl) (adl_lit (by decide) rfl rfl) _ fun τ5 h5 q5 => ?_
  exact m_end (y := 3) hT hr (by omega) (fun _ => h30) q5 _ fun ρ hρ hS => hF ρ (((((((ht).tr h1).tr h2).tr h3).tr h4).tr h5).tr hρ) hS
theorem wB_x {T : Nat → Nat} {N : Nat} {t : Tk} (ht : tOk T N t) (h3 : wB T t 3 = true) : wB T t 7 = false := by
  cases c : wB T t 7 with
  | false => rfl
  | true =>
    have e3 := (wv_k ht (by decide)).mpr h3
    have e7 := (wv_k ht (by decide)).mpr c
    have k3 := wk_v.2.2.2.1
    have k7 := wk_v.2.2.2.2.2.2.2
    omega
theorem m_readStory {T : Nat → Nat} {N : Nat} (hT : okT2 N T) {s : Tk × Fl} {σ : St} (hs : mL T N s σ) (hw : wB T s.1 4 = true) (F : St → Prop) (hF : ∀ τ, Fr PRm σ τ → mS T N (lin T N 4 s) τ → F τ) : CallV hd_m_readStory [rf 55 122] σ F := by
  have hr := hs.2.2.2.2.2
  have hfl := hs.2.2.2.2.1
  have b4 := hr.1.1 4 (by omega)
  have n2 : ncl 4 = 2 := rfl
  refine e_m_readStory _ _ (m_beg (y := 4) hT (by omega) hs hw _ fun τ ht hc hq => ⟨vst, ?_⟩)
  rw [show (4 : Int32).toNatClampNeg = 4 from rfl, hc 4, (hfl 4 (by omega)).1]
  -- dead from here on
  have dead : ∀ (v1 : Int32) (v2 : Int64) (v4 : Int32) (e : Er) (ρ : St), Fr PRm σ ρ → lin T N 4 s = .inl e → mE T N e ρ → At hd_m_readStory X0 108 [some (rf 55 122), some (iv v1), some (jv v2), none, some (iv v4)] [] ρ (retV F) := fun v1 v2 v4 e ρ fr er hE => by
    refine l_m_readStory_108 _ _ _ _ _ (m_numD (mE_n hE) ⟨fun _ => ?_, fun q => absurd q (mE_n hE)⟩)
    exact m_end (y := 4) (fl := s.2) hT hr (by omega) (by omega) (Or.inl ⟨e, er, hE⟩) _ fun μ hμ hS => hF μ (fr.tr hμ) hS
  rcases hq with ⟨e, er, hE⟩ | ⟨t, v, h4, er, hL, h0, htk, hm, hfm, hvo, hv⟩
  · obtain ⟨t, o1, o2⟩ := hE.2.2.2.2
    refine m_word hT hE.1.1 o1 o2 _ ⟨fun q => absurd q (mE_n hE), fun _ => ?_⟩
    refine ⟨fun _ => ⟨fun _ => ⟨fun _ => l_m_readStory_69 _ _ _ _ ⟨fun _ => l_m_readStory_83 _ _ _ _ _ ⟨fun _ => dead _ _ _ e τ ht er hE, fun q => absurd q (mE_n hE)⟩, fun q => absurd q (lg_w0 (k := 7) (by decide) ?_)⟩, fun q => absurd q (lg_w0 (k := 3) (by decide) ?_)⟩, fun q => absurd q (lg_w0 (k := 6) (by decide) ?_)⟩, fun q => absurd q (lg_w0 (k := 5) (by decide) ?_)⟩
    · rw [wk_v.2.2.2.2.2.2.2]; rfl
    · rw [wk_v.2.2.2.1]; rfl
    · rw [wk_v.2.2.2.2.2.2.1]; rfl
    · rw [wk_v.2.2.2.2.2.1]; rfl
  rw [n2] at er
  have e5 : ∀ x, x = ofs 4 + (ncl 4 * s.2.1 4 + 0) → x < 62 := fun x ex => by rw [ex, n2]; show 54 + (2 * s.2.1 4 + 0) < 62; omega
  have ix0 : (54 : Int32) + 2 * nI (s.2.1 4) = nI (ofs 4 + (ncl 4 * s.2.1 4 + 0)) := ixz 54 2 _
  have ix1 : (54 : Int32) + 2 * nI (s.2.1 4) + 1 = nI (ofs 4 + (ncl 4 * s.2.1 4 + 1)) := ixo 54 2 _ 1
  have er0 : lin T N 4 s = (match co1 T s.2 4 0 t with | .inl e => .inl e | .inr x => lnr T N s.2 4 1 1 (tok T N t.2.1) (upd v 0 x)) := er
  have ec : co1 T s.2 4 0 t = ow t.1 (whB T s.2 t) := by unfold co1; rw [if_pos ⟨rfl, rfl⟩]
  rw [ec] at er0
  -- what it is told as
  have a83 : ∀ (v2 : Int64) (x : Int32), (x = -1000000 → whB T s.2 t = none) → (¬ x = -1000000 → whB T s.2 t = some x ∧ t.2.2.1 = 1) → At hd_m_readStory X0 83 [some (rf 55 122), some (iv (54 + 2 * nI (s.2.1 4))), some (jv v2), none, none] [iv x] τ (retV F) := fun v2 x x0 x1 => by
    refine l_m_readStory_83 _ _ _ _ _ ⟨fun q => absurd h0 q, fun _ => ⟨fun q => ?_, fun q => ?_⟩⟩
    · rw [x0 q] at er0
      obtain ⟨k1, k2⟩ := bdU_E (k := 1) (by omega) hL htk hm
      exact m_must0 h0 (dead _ _ _ _ _ (ht.tr k2) er0 k1)
    · obtain ⟨y1, y2⟩ := x1 q
      rw [y1] at er0
      have er0 : lin T N 4 s = lnr T N s.2 4 1 1 (tok T N t.2.1) (upd v 0 x) := er0
      refine m_must1 hT h0 hL htk hm (by omega) fun ρ hρ hk => l_m_readStory_108 _ _ _ _ _ ?_
      have fρ : Fr PRm σ ρ := ht.tr (lm_rm hρ)
      have t1 : tOk T N (tok T N t.2.1) := tok_ok htk.2.1
      have L1 : tL N T ρ := tL_fr hρ hL
      have z1 : ρ 122 18 = 0 := by rw [hρ _ _ (by unfold PLm; omega)]; exact h0
      have f1 : mFl s.2 ρ := mFl_lm (lm_122 hρ) hfm
      simp only [lnr] at er0
      have e1 : co1 T s.2 4 1 (tok T N t.2.1) = if (tok T N t.2.1).2.2.1 = 2 then (if adB s.2 4 1 (tok T N t.2.1).2.2.2 then .inr (tok T N t.2.1).2.2.2 else .inl (2, (tok T N t.2.1).1)) else .inl (1, (tok T N t.2.1).1) := by
        unfold co1; rw [if_neg (by omega)]
      have hab := adl_lit (fl := s.2) (y := 4) (c := 1) (by decide) (a := 1) (b := 9) rfl rfl (tok T N t.2.1).2.2.2
      have die : ∀ (k : Nat) (e : Er), 1 ≤ k ∧ k ≤ 3 → e = (k, (tok T N t.2.1).1) → lin T N 4 s = .inl e → (¬ (bdU ρ k) 122 18 = 0 → CallV hd_m_ends [rf 55 122, iv 4] (bdU ρ k) (fun σ2 => F σ2)) ∧ ((bdU ρ k) 122 18 = 0 → vp_in (54 + 2 * nI (s.2.1 4)) 62 ∧ (CallV hd_m_ends [rf 55 122, iv 4] (up (bdU ρ k) 127 (54 + 2 * nI (s.2.1 4)).toNatClampNeg x) (fun σ3 => F σ3))) := fun k e hkk ee el => by
        obtain ⟨k1, k2⟩ := bdU_E (k := k) hkk L1 t1 hk
        rw [← ee] at k1
        exact ⟨fun _ => m_end (y := 4) (fl := s.2) hT hr (by omega) (by omega) (Or.inl ⟨e, el, k1⟩) _ fun μ hμ hS => hF μ ((fρ.tr k2).tr hμ) hS, fun q => absurd q (bdU_18 hkk)⟩
      rw [ix1]
      refine m_numL hT z1 L1 t1 hk (by rw [n2]; show 54 + (2 * s.2.1 4 + 1) < 62; omega) (fun q z κ hκ hk2 => ?_) (fun q z => die 2 _ (by omega) rfl ?_) (fun q => die 1 _ (by omega) rfl ?_)
      · have ad := hab.mpr z
        have e2 : co1 T s.2 4 1 (tok T N t.2.1) = .inr (tok T N t.2.1).2.2.2 := by rw [e1, if_pos q, if_pos ad]
        rw [e2] at er0
        have z2 : up κ 127 (ofs 4 + (ncl 4 * s.2.1 4 + 1)) (tok T N t.2.1).2.2.2 122 18 = 0 := by rw [up_ka _ _ (by omega), hκ _ _ (by unfold PLm; omega)]; exact z1
        refine ⟨fun w => absurd z2 w, fun _ => ?_⟩
        rw [ix0, nI_clamp (by have := e5 _ rfl; omega)]
        refine ⟨vin0 _ rfl (e5 _ rfl) (by decide), ?_⟩
        refine m_end (y := 4) (fl := s.2) hT hr (by omega) (by omega) (Or.inr ⟨tok T N (tok T N t.2.1).2.1, upd (upd v 0 x) 1 (tok T N t.2.1).2.2.2, h4, er0, tL_127 (tL_127 (tL_fr hκ L1)), ?_, tok_ok t1.2.1, mTk_127 (mTk_127 hk2), mFl_put hr (y := 4) (c := 0) (by omega) h4 (by omega) (by decide) (mFl_put hr (y := 4) (c := 1) (by omega) h4 (by omega) (by decide) (mFl_lm (lm_122 hκ) f1)), fun j hj => ?_, fun j hj => ?_⟩) _ fun μ hμ hS => hF μ (((fρ.tr (lm_rm hκ)).up (Or.inr rfl)).up (Or.inr rfl) |>.tr hμ) hS
        · rw [up_ka _ _ (by omega)]; exact z2
        · rw [n2] at hj
          by_cases j1 : j = 1
          · subst j1; rw [upd_1]; exact co1_ok e2
          · have j0 : j = 0 := by omega
            subst j0; rw [upd_2 (by omega), upd_1]
            exact co1_ok (c := 0) (T := T) (t := t) (by rw [ec, y1]; rfl)
        · rw [n2] at hj
          by_cases j1 : j = 1
          · subst j1; rw [up_jb _ _ (by omega), up_at, upd_1]
          · have j0 : j = 0 := by omega
            subst j0; rw [up_at, upd_2 (by omega), upd_1]
      · rw [e1, if_pos q, if_neg (fun w => z (hab.mp w))] at er0; exact er0
      · rw [e1, if_neg q] at er0; exact er0
  have w1 : ∀ {k : Nat}, wB T t k = true → t.2.2.1 = 1 := fun {k} q => by unfold wB at q; simp only [Bool.and_eq_true, decide_eq_true_eq] at q; exact q.1
  have w0 : whB T s.2 t = (if wB T t 5 then some 0 else if wB T t 6 then some 1 else if wB T t 7 then some 3 else if wB T t 3 then (if 0 < s.2.1 3 then some 2 else none) else none) := rfl
  refine m_word hT hL.1 htk hm _ ⟨fun _ => ?_, fun q => absurd h0 q⟩
  have l5 := lg_wk hT htk (k := 5) (by decide) (c := 495873784179) (by rw [wk_v.2.2.2.2.2.1]; rfl)
  have l6 := lg_wk hT htk (k := 6) (by decide) (c := 33602648987234931) (by rw [wk_v.2.2.2.2.2.2.1]; rfl)
  have l3 := lg_wk hT htk (k := 3) (by decide) (c := 427120747371) (by rw [wk_v.2.2.2.1]; rfl)
  have l7 := lg_wk hT htk (k := 7) (by decide) (c := 1818326117) (by rw [wk_v.2.2.2.2.2.2.2]; rfl)
  rw [l5, l6, l3]
  have a69 : ¬ wB T t 5 = true → ¬ wB T t 6 = true → (wB T t 3 = true → ¬ 0 < s.2.1 3) → At hd_m_readStory X0 69 [some (rf 55 122), some (iv (54 + 2 * nI (s.2.1 4))), some (jv (nL (wv T t))), none, none] [] τ (retV F) := fun q5 q6 q3 => by
    refine l_m_readStory_69 _ _ _ _ ?_
    rw [l7]
    refine ⟨fun q7 => a83 _ _ (fun _ => ?_) (fun q => absurd rfl q), fun q7 => a83 _ _ (fun q => absurd q (by decide)) (fun _ => ⟨?_, w1 q7⟩)⟩
    · rw [w0, if_neg q5, if_neg q6, if_neg q7]
      by_cases c : wB T t 3 = true
      · rw [if_pos c, if_neg (q3 c)]
      · rw [if_neg c]
    · rw [w0, if_neg q5, if_neg q6, if_pos q7]
  refine ⟨fun q5 => ⟨fun q6 => ⟨fun q3 => a69 q5 q6 (fun z => absurd z q3), fun q3 => ⟨vin0 3 rfl (by decide) (by decide), ?_⟩⟩, fun q6 => a83 _ _ (fun q => absurd q (by decide)) (fun _ => ⟨by rw [w0, if_neg q5, if_pos q6], w1 q6⟩)⟩, fun q5 => a83 _ _ (fun q => absurd q (by decide)) (fun _ => ⟨by rw [w0, if_pos q5], w1 q5⟩)⟩
  have b3 := hr.2
  rw [show (3 : Int32).toNatClampNeg = 3 from rfl, (hfm 3 (by omega)).1]
  have c1 : nI (s.2.1 3) = 1 ↔ s.2.1 3 = 1 := nI_eq (b := 1) (by omega) (by omega)
  rw [c1]
  refine ⟨fun q => a69 q5 q6 (fun _ => by omega), fun q => a83 _ _ (fun z => absurd z (by decide)) (fun _ => ⟨?_, w1 q3⟩)⟩
  rw [w0, if_neg q5, if_neg q6, if_neg (by simp [wB_x htk q3]), if_pos q3, if_pos (by omega)]
