/-! the class reads a text -/
theorem x_crk {N : Nat} {T : Nat → Nat} {σ : St} (hT : okT2 N T) {s : Tk × Fl} (hs : xS T N s σ) (F : Int32 → St → Prop) (h : xRes T N (crk T N s) σ F) : CallI hd_re_readCrack [rf 49 20] σ F := by
  have ⟨htx, htk, hk, hfl, hf⟩ := hs
  unfold crk at h
  refine e_re_readCrack _ _ (xw_3 hT htx htk hk (fun a => on ?_) (fun a => of ?_))
  · rw [if_pos a] at h
    refine xl_3 hT hs _ ?_
    cases hl : lin T N 3 s with
    | inl e => rw [hl] at h; exact fun μ hμ he => ⟨fun _ => ⟨Or.inl rfl, h μ hμ he⟩, fun w => absurd rfl w⟩
    | inr s1 => rw [hl] at h; exact fun μ hμ hs1 => ⟨fun w => absurd w one_ne, fun _ => ⟨Or.inr rfl, h μ hμ hs1⟩⟩
  · rw [if_neg (by simp [a])] at h
    exact ⟨Or.inr rfl, h σ Fr.rf hs⟩
theorem crk_ok {T : Nat → Nat} {N : Nat} {s s' : Tk × Fl} (hf : flOk s.2) (e : crk T N s = .inr s') : flOk s'.2 ∧ (∀ z, z ≠ 3 → s'.2.1 z = s.2.1 z) ∧ s'.2.1 3 ≤ s.2.1 3 + 1 := by
  unfold crk at e
  by_cases c : wB T s.1 3 = true
  · rw [if_pos c] at e
    obtain ⟨g1, g2⟩ := lin_ok (by omega) hf e
    refine ⟨g1, fun z hz => by rw [g2]; simp [hz], by rw [g2]; simp⟩
  · rw [if_neg c] at e; injection e with e; subst e; exact ⟨hf, fun _ _ => rfl, by omega⟩
theorem x_read {N : Nat} {T : Nat → Nat} {σ : St} (hT : okT2 N T) (hx : tX N T σ) (F : Int32 → St → Prop) (h : xRes T N (prs T N) σ F) : CallI hd_re_read [rf 49 20] σ F := by
  refine e_re_read _ _ (e_fl_clear _ _ _ ?_)
  generalize hμ : up (up (up (up (up (up σ (21 + 1) 2 0) (21 + 3) 2 0) (21 + 5) 2 0) (21 + 7) 2 0) (21 + 9) 2 0) 20 6 0 = μ
  have fμ : Fr PRd σ μ := by
    rw [← hμ]
    exact (((((Fr.rf.up (Or.inr (by omega))).up (Or.inr (by omega))).up (Or.inr (by omega))).up (Or.inr (by omega))).up (Or.inr (by omega))).up (Or.inl rfl)
  have zμ : ∀ y, y < 5 → μ (22 + 2 * y) 2 = 0 := fun y hy => by
    rw [← hμ, up_ka _ _ (by omega)]
    rcases (show y = 0 ∨ y = 1 ∨ y = 2 ∨ y = 3 ∨ y = 4 by omega) with e | e | e | e | e
    · subst e; rw [up_ka _ _ (by omega), up_ka _ _ (by omega), up_ka _ _ (by omega), up_ka _ _ (by omega), up_at]
    · subst e; rw [up_ka _ _ (by omega), up_ka _ _ (by omega), up_ka _ _ (by omega), up_at]
    · subst e; rw [up_ka _ _ (by omega), up_ka _ _ (by omega), up_at]
    · subst e; rw [up_ka _ _ (by omega), up_at]
    · subst e; rw [up_at]
  refine x_adv hT (tX_rd fμ hx) (p := 0) (by omega) (by rw [← hμ, up_at]; rfl) _ fun τ ht hk => ?_
  have fτ : Fr PRd σ τ := fμ.tr (lx_rd ht)
  have s0 : xS T N (tok T N 0, fl0) τ := by
    refine ⟨tX_rd fτ hx, tok_ok (by omega), hk, fun y hy => ⟨?_, fun i hi => ?_⟩, fl0_ok⟩
    · rw [ht _ _ (by unfold PLx; omega), zμ y hy]; rfl
    · exact absurd hi (by show ¬ i < ncl y * 0; omega)
  unfold prs at h
  refine xr_0 hT (need := 1) (by omega) s0 rfl _ ?_
  cases h1 : rq2 T N 0 1 (tok T N 0, fl0) with
  | inl e =>
    rw [h1] at h
    have h : ∀ τ, Fr PRd σ τ → xE e τ → F 0 τ := h
    exact fun μ hμ he => ⟨fun _ => ⟨Or.inl rfl, h μ (fτ.tr hμ) he⟩, fun w => absurd rfl w⟩
  | inr s1 =>
  rw [h1] at h
  intro τ1 f1 x1
  obtain ⟨o1, n1', z1⟩ := rq_ok (by omega) fl0_ok h1
  have f1 := fτ.tr f1
  refine ⟨fun w => absurd w one_ne, fun _ => xr_1 hT (need := 1) (by omega) x1 (z1 1 (by omega)) _ ?_⟩
  have h : xRes T N (bd (bd (bd (bd (rq2 T N 1 1 s1) (rq2 T N 2 0)) (crk T N)) (rq2 T N 4 1)) fin) σ F := h
  cases h2 : rq2 T N 1 1 s1 with
  | inl e =>
    rw [h2] at h
    have h : ∀ τ, Fr PRd σ τ → xE e τ → F 0 τ := h
    exact fun μ hμ he => ⟨fun _ => ⟨Or.inl rfl, h μ (f1.tr hμ) he⟩, fun w => absurd rfl w⟩
  | inr s2 =>
  rw [h2] at h
  intro τ2 f2 x2
  obtain ⟨o2, n2', z2⟩ := rq_ok (by omega) o1 h2
  have f2 := f1.tr f2
  refine ⟨fun w => absurd w one_ne, fun _ => xr_2 hT (need := 0) (by omega) x2 (by rw [z2 2 (by omega), z1 2 (by omega)]; rfl) _ ?_⟩
  have h : xRes T N (bd (bd (bd (rq2 T N 2 0 s2) (crk T N)) (rq2 T N 4 1)) fin) σ F := h
  cases h3 : rq2 T N 2 0 s2 with
  | inl e =>
    rw [h3] at h
    have h : ∀ τ, Fr PRd σ τ → xE e τ → F 0 τ := h
    exact fun μ hμ he => ⟨fun _ => ⟨Or.inl rfl, h μ (f2.tr hμ) he⟩, fun w => absurd rfl w⟩
  | inr s3 =>
  rw [h3] at h
  intro τ3 f3 x3
  obtain ⟨o3, n3', z3⟩ := rq_ok (by omega) o2 h3
  have f3 := f2.tr f3
  refine ⟨fun w => absurd w one_ne, fun _ => x_crk hT x3 _ ?_⟩
  have h : xRes T N (bd (bd (crk T N s3) (rq2 T N 4 1)) fin) σ F := h
  cases h4 : crk T N s3 with
  | inl e =>
    rw [h4] at h
    have h : ∀ τ, Fr PRd σ τ → xE e τ → F 0 τ := h
    exact fun μ hμ he => ⟨fun _ => ⟨Or.inl rfl, h μ (f3.tr hμ) he⟩, fun w => absurd rfl w⟩
  | inr s4 =>
  rw [h4] at h
  intro τ4 f4 x4
  obtain ⟨o4, z4, -⟩ := crk_ok o3 h4
  have f4 := f3.tr f4
  refine ⟨fun w => absurd w one_ne, fun _ => xr_4 hT (need := 1) (by omega) x4 (by rw [z4 4 (by omega), z3 4 (by omega), z2 4 (by omega), z1 4 (by omega)]; rfl) _ ?_⟩
  have h : xRes T N (bd (rq2 T N 4 1 s4) fin) σ F := h
  cases h5 : rq2 T N 4 1 s4 with
  | inl e =>
    rw [h5] at h
    have h : ∀ τ, Fr PRd σ τ → xE e τ → F 0 τ := h
    exact fun μ hμ he => ⟨fun _ => ⟨Or.inl rfl, h μ (f4.tr hμ) he⟩, fun w => absurd rfl w⟩
  | inr s5 =>
  rw [h5] at h
  intro τ5 f5 x5
  have f5 := f4.tr f5
  have h : xRes T N (fin s5) σ F := h
  unfold fin at h
  have b := x5.2.1.2.2.1
  refine ⟨fun w => absurd w one_ne, fun _ => ?_⟩
  rw [x5.2.2.1.2.2.1]
  have c0 : nI s5.1.2.2.1 = 0 ↔ s5.1.2.2.1 = 0 := nI_eq (b := 0) (by omega) (by omega)
  rw [c0]
  refine ⟨fun q => ?_, fun q => ?_⟩
  · rw [if_pos q] at h; exact ⟨Or.inr rfl, h τ5 f5 x5⟩
  · rw [if_neg q] at h
    exact x_refuse (σ := σ) (e := (1, s5.1.1)) f5 x5.2.2.1.1 (fun μ hμ he => ⟨fun _ => ⟨Or.inl rfl, h μ hμ he⟩, fun w => absurd rfl w⟩)
