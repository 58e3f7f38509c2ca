/-! hills come -/
def addH (w : Wo) (a b : Int32) : Wo := (w.1, w.2.1, (nh w + 1, (fun i => if i = nh w then a else wx w i), (fun i => if i = nh w then b else wy w i), (fun i => if i = nh w then 0 else nd w i)), w.2.2.2.1, ((fun i => if i = nh w then false else wnl w i), wny w, wnw w))
theorem drf_cg {w w' : Wo} (h1 : w'.1 = w.1) (h2 : w'.2.1 = w.2.1) (c : Nat) : ∀ a, drf w' c a = drf w c a := by
  have e0 : ∀ u n, lnOf w' u n = lnOf w u n := by
    intro u n
    induction n with
    | zero => rfl
    | succ n ih => simp only [lnOf, ih]; rw [show wfl w' = wfl w by unfold wfl; rw [h2]]
  intro a
  induction a with
  | zero => rfl
  | succ a ih => simp only [drf, ih, e0]; rw [show wfl w' = wfl w by unfold wfl; rw [h2], show n0 w' = n0 w by unfold n0; rw [h1]]
theorem cD_cg {w w' : Wo} {f : Nat} {σ : St} (h1 : w'.1 = w.1) (h2 : w'.2.1 = w.2.1) (h : cD w f σ) : cD w' f σ := fun a ha => by
  rw [drf_cg h1 h2, drf_cg h1 h2]; exact h a ha
theorem mD_cg {w w' : Wo} {σ : St} (h1 : w'.1 = w.1) (h2 : w'.2.1 = w.2.1) (h : mD w σ) : mD w' σ := fun a ha => by
  rw [drf_cg h1 h2, drf_cg h1 h2]; exact h a ha
theorem okF_cg {w w' : Wo} (h1 : w'.1 = w.1) (h2 : w'.2.1 = w.2.1) (h : okF w) : okF w' := by
  obtain ⟨q1, q2, q3⟩ := w; obtain ⟨p1, p2, p3⟩ := w'; simp only at h1 h2; subst h1; subst h2; exact h
theorem ends_cg {w w' : Wo} {i : Nat} (h2 : w'.2.1 = w.2.1) : ∀ n, (∀ d, d < n → dh w' i d = dh w i d ∧ dv w' i d = dv w i d) → ends w' i n = ends w i n := by
  intro n
  induction n with
  | zero => intro _; rfl
  | succ n ih =>
    intro h
    obtain ⟨e1, e2⟩ := h n (by omega)
    have e3 : who w' = who w := by unfold who; rw [h2]
    have k1 : dlo w' i n = dlo w i n := by unfold dlo; rw [e1, e2, e3]
    have k2 : dhi w' i n = dhi w i n := by unfold dhi; rw [e1, e2, e3]
    simp only [ends, ih (fun d hd => h d (by omega)), k1, k2]
theorem lo_cg {w w' : Wo} {i : Nat} (h2 : w'.2.1 = w.2.1) (hn : nd w' i = nd w i) (h : ∀ d, d < nd w i → dh w' i d = dh w i d ∧ dv w' i d = dv w i d) : lo w' i = lo w i ∧ hi w' i = hi w i ∧ ag w' i = ag w i := by
  have e := ends_cg h2 (nd w i) h
  have e3 : ag w' i = ag w i := by unfold ag; rw [hn, e]
  refine ⟨?_, ?_, e3⟩
  · unfold lo; rw [hn, e]
  · unfold hi; rw [e3, hn, e]
theorem ad_old {w : Wo} {a b : Int32} {i : Nat} (h : i < nh w) : wx (addH w a b) i = wx w i ∧ wy (addH w a b) i = wy w i ∧ nd (addH w a b) i = nd w i ∧ wnl (addH w a b) i = wnl w i ∧ lo (addH w a b) i = lo w i ∧ hi (addH w a b) i = hi w i ∧ ag (addH w a b) i = ag w i := by
  have hne : ¬ i = nh w := by omega
  have e : nd (addH w a b) i = nd w i := if_neg hne
  have l := lo_cg (w := w) (w' := addH w a b) (i := i) rfl e fun d _ => ⟨rfl, rfl⟩
  exact ⟨if_neg hne, if_neg hne, e, if_neg hne, l.1, l.2.1, l.2.2⟩
theorem ad_new {w : Wo} {a b : Int32} : wx (addH w a b) (nh w) = a ∧ wy (addH w a b) (nh w) = b ∧ nd (addH w a b) (nh w) = 0 ∧ wnl (addH w a b) (nh w) = false ∧ lo (addH w a b) (nh w) = 0 ∧ hi (addH w a b) (nh w) = 99 ∧ ag (addH w a b) (nh w) = false := by
  have e : nd (addH w a b) (nh w) = 0 := if_pos rfl
  have e2 : ag (addH w a b) (nh w) = false := by unfold ag; rw [e]; rfl
  refine ⟨if_pos rfl, if_pos rfl, e, if_pos rfl, ?_, ?_, e2⟩
  · unfold lo; rw [e]; rfl
  · unfold hi; rw [e2, e]; rfl
theorem okH_add {w : Wo} {a b : Int32} (hH : okH w) (hn : nh w < 12) (h4 : 0 < n4 w) (ha : wi a (-99999) 99999) (hb : wi b (-99999) 99999) : okH (addH w a b) := by
  refine ⟨hn, fun _ => h4, fun i hi' => ?_⟩
  by_cases e : i = nh w
  · subst e
    obtain ⟨e1, e2, e3, e4, -⟩ := @ad_new w a b
    rw [e1, e2, e3, e4]
    exact ⟨ha, hb, by omega, fun q => absurd q (by decide), fun d hd => by omega⟩
  · have hlt : i < nh w := by have : i < nh w + 1 := hi'; omega
    obtain ⟨e1, e2, e3, e4, -⟩ := @ad_old w a b i hlt
    rw [e1, e2, e3, e4]
    exact hH.2.2 i hlt
def PH (a _b : Nat) : Prop := 50 ≤ a ∧ a ≤ 60
theorem x_add {w : Wo} {σ : St} (hc : cW w 36 50 σ) (hn : nh w < 12) (a b : Int32) (F : St → Prop) (h : ∀ τ, Fr PH σ τ → (∀ q, isB (σ 56 q) → isB (τ 56 q)) → (∀ p q, p < 50 → τ p q = σ p q) → cW (addH w a b) 36 50 τ → F τ) : CallV hd_hi_add [rf 43 50, iv a, iv b] σ F := by
  have c8 : σ 50 8 = nI (nh w) := hc.2.2.1
  have cl : (nI (nh w)).toNatClampNeg = nh w := nI_clamp (by omega)
  have v12 : vp_in (nI (nh w)) 12 := vin0 _ rfl hn (by decide)
  have vn : vp_nar .boolean (0 : Int32) = 0 := by decide
  refine e_hi_add 50 a b σ F ?_
  simp (disch := omega) only [up_at, up_ka, up_jb, c8, cl, vn]
  refine ⟨v12, v12, v12, v12, v12, v12, v12, h _ ?_ (fun q hq => ?_) (fun p q hp => by simp (disch := omega) only [up_ka]) ?_⟩
  · have p : ∀ x, 50 ≤ x → x ≤ 60 → ∀ y, PH x y := fun x h1 h2 _ => ⟨h1, h2⟩
    exact (((((((Fr.rf.up (p _ (by omega) (by omega) _)).up (p _ (by omega) (by omega) _)).up (p _ (by omega) (by omega) _)).up (p _ (by omega) (by omega) _)).up (p _ (by omega) (by omega) _)).up (p _ (by omega) (by omega) _)).up (p _ (by omega) (by omega) _)).up (p _ (by omega) (by omega) _)
  · by_cases z : q = nh w
    · subst z; simp (disch := omega) only [up_at, up_ka]; exact Or.inl rfl
    · simp (disch := omega) only [up_ka, up_jb]; exact hq
  · obtain ⟨⟨c1, c2, c3, c4, c5⟩, ⟨d1, d2, d3, d4, d5⟩, c6, c7⟩ := hc
    refine ⟨⟨?_, ?_, ?_, ?_, ?_⟩, ⟨fun i hi => ?_, fun i hi => ?_, fun i hi => ?_, fun i hi => ?_, fun i hi => ?_⟩, ?_, fun i hi' => ?_⟩
    · simp (disch := omega) only [up_at, up_ka, up_jb]; exact c1
    · simp (disch := omega) only [up_at, up_ka, up_jb]; exact c2
    · simp (disch := omega) only [up_at, up_ka, up_jb]; exact c3
    · simp (disch := omega) only [up_at, up_ka, up_jb]; exact c4
    · simp (disch := omega) only [up_at, up_ka, up_jb]; exact c5
    · simp (disch := omega) only [up_at, up_ka, up_jb]; exact d1 i hi
    · simp (disch := omega) only [up_at, up_ka, up_jb]; exact d2 i hi
    · simp (disch := omega) only [up_at, up_ka, up_jb]; exact d3 i hi
    · simp (disch := omega) only [up_at, up_ka, up_jb]; exact d4 i hi
    · simp (disch := omega) only [up_at, up_ka, up_jb]; exact d5 i hi
    · simp (disch := omega) only [up_at, up_ka, up_jb]; exact nI_1 _
    · by_cases e : i = nh w
      · subst e
        obtain ⟨e1, e2, e3, e4, e5, e6, e7⟩ := @ad_new w a b
        rw [e1, e2, e3, e4, e5, e6, e7]
        simp (disch := omega) only [up_at, up_ka, up_jb]
        refine ⟨trivial, trivial, rfl, rfl, rfl, rfl, fun q => absurd q (by decide), rfl, fun d hd => by omega⟩
      · have hlt : i < nh w := by have : i < nh w + 1 := hi'; omega
        obtain ⟨e1, e2, e3, e4, e5, e6, e7⟩ := @ad_old w a b i hlt
        rw [e1, e2, e3, e4, e5, e6, e7]
        simp (disch := omega) only [up_at, up_ka, up_jb]
        exact c7 i hlt
theorem m_add {w : Wo} {σ : St} (hm : mW w (σ 126) (σ 128)) (hn : nh w < 12) (hH : okH w) (a b : Int32) (F : Int32 → St → Prop) (h : ∀ τ, Fr (fun p _ => p = 128) σ τ → mW (addH w a b) (τ 126) (τ 128) → F (nI (nh w)) τ) : CallI hd_m_newHill [rf 55 122, iv a, iv b] σ F := by
  have c8 : σ 128 0 = nI (nh w) := hm.2.2.1
  have e1 : (1 : Int32) + nI (nh w) = nI (1 + nh w) := nI_add 1 _
  have e13 : (13 : Int32) + nI (nh w) = nI (13 + nh w) := nI_add 13 _
  have e25 : (25 : Int32) + nI (nh w) = nI (25 + nh w) := nI_add 25 _
  have e37 : (37 : Int32) + nI (nh w) = nI (37 + nh w) := nI_add 37 _
  have k1 : (nI (1 + nh w)).toNatClampNeg = 1 + nh w := nI_clamp (by omega)
  have k13 : (nI (13 + nh w)).toNatClampNeg = 13 + nh w := nI_clamp (by omega)
  have k25 : (nI (25 + nh w)).toNatClampNeg = 25 + nh w := nI_clamp (by omega)
  have k37 : (nI (37 + nh w)).toNatClampNeg = 37 + nh w := nI_clamp (by omega)
  refine e_m_newHill a b σ F ?_
  rw [c_0, c8, e1, e13, e25, e37, k1, k13, k25, k37]
  have u0 : up (up (up (up σ 128 (1 + nh w) a) 128 (13 + nh w) b) 128 (25 + nh w) 0) 128 (37 + nh w) 0 128 0 = nI (nh w) := by
    simp (disch := omega) only [up_at, up_ka, up_jb]; exact c8
  rw [u0, nI_1]
  refine ⟨vz, vin0 _ rfl (by omega) (by decide), vin0 _ rfl (by omega) (by decide), vin0 _ rfl (by omega) (by decide), vin0 _ rfl (by omega) (by decide), vz, vz, h _ ?_ ?_⟩
  · intro x y n
    have n : ¬ x = 128 := n
    simp (disch := omega) only [up_ka]
  · obtain ⟨⟨c1, c2, c3, c4, c5⟩, ⟨d1, d2, d3, d4, d5⟩, c6, c7⟩ := hm
    have e126 : up (up (up (up (up σ 128 (1 + nh w) a) 128 (13 + nh w) b) 128 (25 + nh w) 0) 128 (37 + nh w) 0) 128 0 (nI (nh w + 1)) 126 = σ 126 := funext fun x => by
      simp (disch := omega) only [up_at, up_ka, up_jb]
    rw [e126]
    refine ⟨⟨c1, c2, c3, c4, c5⟩, ⟨d1, d2, d3, d4, d5⟩, up_at _ _ _ _, fun i hi' => ?_⟩
    by_cases e : i = nh w
    · subst e
      obtain ⟨e1, e2, e3, e4, e5, e6, e7⟩ := @ad_new w a b
      rw [e1, e2, e3, e4]
      simp (disch := omega) only [up_at, up_ka, up_jb]
      refine ⟨trivial, trivial, rfl, rfl, fun q => absurd q (by decide), fun d hd => by omega⟩
    · have hlt : i < nh w := by have : i < nh w + 1 := hi'; omega
      obtain ⟨e1, e2, e3, e4, e5, e6, e7⟩ := @ad_old w a b i hlt
      obtain ⟨g1, g2, g3, g4, g5, g6⟩ := c7 i hlt
      have g0 := (hH.2.2 i hlt).2.2.1
      rw [e1, e2, e3, e4]
      simp (disch := omega) only [up_at, up_ka, up_jb]
      refine ⟨g1, g2, g3, g4, g5, fun d hd => ?_⟩
      exact g6 d hd
/-- a call that changes the world alone -/
def PW (a b : Nat) : Prop := SC a b ∨ (36 ≤ a ∧ a ≤ 60) ∨ a = 126 ∨ a = 128 ∨ a = 130 ∨ a = 131
def KW (σ : St) (G : Int32 → Int32 → St → Prop) : Prop := ∀ (r : Int32) (τ : St), Fr PW σ τ → RW τ → G r r τ
theorem sc_pw {σ τ : St} (h : Fr SC σ τ) : Fr PW σ τ := h.mn fun _ _ q => Or.inl q
theorem ph_pw {σ τ : St} (h : Fr PH σ τ) : Fr PW σ τ := h.mn fun a b q => by unfold PH at q; unfold PW; omega
theorem m28_pw {σ τ : St} (h : Fr (fun p _ => p = 128) σ τ) : Fr PW σ τ := h.mn fun a b q => by unfold PW; omega
theorem cW_frm {w : Wo} {σ τ : St} (e : ∀ a b, 36 ≤ a → a ≤ 60 → τ a b = σ a b) (hc : cW w 36 50 σ) : cW w 36 50 τ := by
  obtain ⟨⟨c1, c2, c3, c4, c5⟩, ⟨d1, d2, d3, d4, d5⟩, c6, c7⟩ := hc
  refine ⟨⟨?_, ?_, ?_, ?_, ?_⟩, ⟨fun i hi => ?_, fun i hi => ?_, fun i hi => ?_, fun i hi => ?_, fun i hi => ?_⟩, ?_, fun i hi => ?_⟩
  · rw [e _ _ (by omega) (by omega)]; exact c1
  · rw [e _ _ (by omega) (by omega)]; exact c2
  · rw [e _ _ (by omega) (by omega)]; exact c3
  · rw [e _ _ (by omega) (by omega)]; exact c4
  · rw [e _ _ (by omega) (by omega)]; exact c5
  · rw [e _ _ (by omega) (by omega)]; exact d1 i hi
  · rw [e _ _ (by omega) (by omega)]; exact d2 i hi
  · rw [e _ _ (by omega) (by omega)]; exact d3 i hi
  · rw [e _ _ (by omega) (by omega)]; exact d4 i hi
  · rw [e _ _ (by omega) (by omega)]; exact d5 i hi
  · rw [e _ _ (by omega) (by omega)]; exact c6
  · obtain ⟨g1, g2, g3, g4, g5, g6, g7, g8, g9⟩ := c7 i hi
    refine ⟨?_, ?_, ?_, ?_, ?_, ?_, fun hn => ?_, ?_, fun d hd => ⟨?_, ?_⟩⟩
    · rw [e _ _ (by omega) (by omega)]; exact g1
    · rw [e _ _ (by omega) (by omega)]; exact g2
    · rw [e _ _ (by omega) (by omega)]; exact g3
    · rw [e _ _ (by omega) (by omega)]; exact g4
    · rw [e _ _ (by omega) (by omega)]; exact g5
    · rw [e _ _ (by omega) (by omega)]; exact g6
    · rw [e _ _ (by omega) (by omega)]; exact g7 hn
    · rw [e _ _ (by omega) (by omega)]; exact g8
    · rw [e _ _ (by omega) (by omega)]; exact (g9 d hd).1
    · rw [e _ _ (by omega) (by omega)]; exact (g9 d hd).2
theorem RW_of {w : Wo} {σ : St} (h1 : okF w) (h2 : okH w) (h3 : cW w 36 50 σ) (h4 : cD w 36 σ) (h5 : mW w (σ 126) (σ 128)) (h6 : mD w σ) (h7 : σ 122 7 = (if n4 w = 0 then 0 else 1)) : RW σ := ⟨w, h1, h2, h3, h4, h5, h6, h7⟩
theorem RW_fr {σ τ : St} (h : Fr SC σ τ) (hR : RW σ) : RW τ := by
  obtain ⟨w, hF, hH, hc, hcd, hm, hmd, h7⟩ := hR
  exact ⟨w, hF, hH, cW_fr h hc, cD_fr h hcd, mWs_fr h hm, mDs_fr h hmd, by rw [h 122 7 (by unfold SC MS; omega)]; exact h7⟩
