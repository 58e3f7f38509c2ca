/-! every call keeps what both sides share; the law's loop -/
def RA (σ : St) : Prop := RSh σ ∧ RW σ ∧ RI σ ∧ RTp σ ∧ RTr σ ∧ σ 0 9 = σ 122 11 ∧ σ 0 10 = σ 122 1
theorem RTr_e {σ τ : St} (e : ∀ a b, (a = 120 ∧ b = 1) ∨ a = 121 ∨ (a = 122 ∧ b = 41) ∨ a = 140 → τ a b = σ a b) (h : RTr σ) : RTr τ := by
  obtain ⟨l, h1, ⟨h2, h3⟩, h4, h5⟩ := h
  exact ⟨l, h1, ⟨by rw [e _ _ (by omega)]; exact h2, fun i hi => by rw [e _ _ (by omega)]; exact h3 i hi⟩, by rw [e _ _ (by omega)]; exact h4, fun i hi => by rw [e _ _ (by omega)]; exact h5 i hi⟩
theorem RTp_e {σ τ : St} (e : ∀ a b, (a = 18 ∧ b = 1) ∨ a = 19 ∨ a = 129 ∨ (a = 122 ∧ b = 10) → τ a b = σ a b) (h : RTp σ) : RTp τ := by
  obtain ⟨N, T, h1, ⟨h2, h3⟩, h4, h5⟩ := h
  exact ⟨N, T, h1, ⟨by rw [e _ _ (by omega)]; exact h2, fun i hi => by rw [e _ _ (by omega)]; exact h3 i hi⟩, fun i hi => by rw [e _ _ (by omega)]; exact h4 i hi, by rw [e _ _ (by omega)]; exact h5⟩
theorem RI_e {σ τ : St} (e : ∀ a b, (62 ≤ a ∧ a ≤ 113) ∨ (137 ≤ a ∧ a ≤ 139) → τ a b = σ a b) (e7 : σ 122 7 = 1 → τ 122 7 = 1) (h : RI σ) : RI τ := fun k hk => RI1_e (fun p q n => e p q (by omega)) e7 (h k hk)
theorem RSh_e {σ τ : St} (e : ∀ a b, (2 ≤ a ∧ a < 18) ∨ (123 ≤ a ∧ a ≤ 125) → τ a b = σ a b) (h : RSh σ) : RSh τ := RSh_fr (fun a b q => e a b q) h
section KK
variable {σ : St} {G : Int32 → Int32 → St → Prop}
theorem k_q (hA : RA σ) (k : ∀ r τ, RA τ → G r r τ) : KQ σ G := fun r τ f => by
  obtain ⟨h1, h2, h3, h4, h5, h6, h7⟩ := hA
  have e : ∀ a b, ¬ SC a b → τ a b = σ a b := f
  refine k r τ ⟨RSh_e (fun a b q => e a b (by unfold SC MS; omega)) h1, RW_fr f h2, RI_e (fun a b q => e a b (by unfold SC MS; omega)) (fun q => by rw [e _ _ (by unfold SC MS; omega)]; exact q) h3, RTp_e (fun a b q => e a b (by unfold SC MS; omega)) h4, RTr_e (fun a b q => e a b (by unfold SC MS; omega)) h5, ?_, ?_⟩
  · rw [e 0 9 (by unfold SC MS; omega), e 122 11 (by unfold SC MS; omega)]; exact h6
  · rw [e 0 10 (by unfold SC MS; omega), e 122 1 (by unfold SC MS; omega)]; exact h7
theorem k_s (hA : RA σ) (k : ∀ r τ, RA τ → G r r τ) : KS σ G := fun r τ f h10 => by
  obtain ⟨h1, h2, h3, h4, h5, h6, h7⟩ := hA
  have e : ∀ a b, ¬ (SC a b ∨ (a = 0 ∧ b = 10) ∨ (a = 122 ∧ b = 1)) → τ a b = σ a b := f
  refine k r τ ⟨RSh_e (fun a b q => e a b (by unfold SC MS; omega)) h1, RW_e (fun a b q => e a b (by unfold SC MS; omega)) h2, RI_e (fun a b q => e a b (by unfold SC MS; omega)) (fun q => by rw [e _ _ (by unfold SC MS; omega)]; exact q) h3, RTp_e (fun a b q => e a b (by unfold SC MS; omega)) h4, RTr_e (fun a b q => e a b (by unfold SC MS; omega)) h5, ?_, h10⟩
  rw [e 0 9 (by unfold SC MS; omega), e 122 11 (by unfold SC MS; omega)]; exact h6
theorem k_sh (hA : RA σ) (k : ∀ r τ, RA τ → G r r τ) : KSh σ G := fun r τ hS h10 e => by
  obtain ⟨h1, h2, h3, h4, h5, h6, h7⟩ := hA
  refine k r τ ⟨hS, RW_e (fun a b q => e a b (by unfold PSh DSh; omega)) h2, RI_e (fun a b q => e a b (by unfold PSh DSh; omega)) (fun q => by rw [e _ _ (by unfold PSh DSh; omega)]; exact q) h3, RTp_e (fun a b q => e a b (by unfold PSh DSh; omega)) h4, RTr_e (fun a b q => e a b (by unfold PSh DSh; omega)) h5, ?_, h10⟩
  rw [e 0 9 (by unfold PSh DSh; omega), e 122 11 (by unfold PSh DSh; omega)]; exact h6
theorem k_w (hA : RA σ) (k : ∀ r τ, RA τ → G r r τ) : KW σ G := fun r τ f hW => by
  obtain ⟨h1, h2, h3, h4, h5, h6, h7⟩ := hA
  have e : ∀ a b, ¬ PW a b → τ a b = σ a b := f
  refine k r τ ⟨RSh_e (fun a b q => e a b (by unfold PW SC MS; omega)) h1, hW, RI_e (fun a b q => e a b (by unfold PW SC MS; omega)) (fun q => by rw [e _ _ (by unfold PW SC MS; omega)]; exact q) h3, RTp_e (fun a b q => e a b (by unfold PW SC MS; omega)) h4, RTr_e (fun a b q => e a b (by unfold PW SC MS; omega)) h5, ?_, ?_⟩
  · rw [e 0 9 (by unfold PW SC MS; omega), e 122 11 (by unfold PW SC MS; omega)]; exact h6
  · rw [e 0 10 (by unfold PW SC MS; omega), e 122 1 (by unfold PW SC MS; omega)]; exact h7
theorem k_sw (hA : RA σ) (k : ∀ r τ, RA τ → G r r τ) : KSW σ G := fun r τ f hW h10 => by
  obtain ⟨h1, h2, h3, h4, h5, h6, h7⟩ := hA
  have e : ∀ a b, ¬ PS a b → τ a b = σ a b := f
  refine k r τ ⟨RSh_e (fun a b q => e a b (by unfold PS PW SC MS; omega)) h1, hW, RI_e (fun a b q => e a b (by unfold PS PW SC MS; omega)) (fun q => by rw [e _ _ (by unfold PS PW SC MS; omega)]; exact q) h3, RTp_e (fun a b q => e a b (by unfold PS PW SC MS; omega)) h4, RTr_e (fun a b q => e a b (by unfold PS PW SC MS; omega)) h5, ?_, h10⟩
  rw [e 0 9 (by unfold PS PW SC MS; omega), e 122 11 (by unfold PS PW SC MS; omega)]; exact h6
theorem k_i (hA : RA σ) (k : ∀ r τ, RA τ → G r r τ) : KI σ G := fun r τ f hI => by
  obtain ⟨h1, h2, h3, h4, h5, h6, h7⟩ := hA
  have e : ∀ a b, ¬ PI a b → τ a b = σ a b := f
  refine k r τ ⟨RSh_e (fun a b q => e a b (by unfold PI; omega)) h1, RW_e (fun a b q => e a b (by unfold PI; omega)) h2, hI, RTp_e (fun a b q => e a b (by unfold PI; omega)) h4, RTr_e (fun a b q => e a b (by unfold PI; omega)) h5, ?_, ?_⟩
  · rw [e 0 9 (by unfold PI; omega), e 122 11 (by unfold PI; omega)]; exact h6
  · rw [e 0 10 (by unfold PI; omega), e 122 1 (by unfold PI; omega)]; exact h7
theorem k_t (hA : RA σ) (k : ∀ r τ, RA τ → G r r τ) : KT σ G := fun r τ f hT => by
  obtain ⟨h1, h2, h3, h4, h5, h6, h7⟩ := hA
  have e : ∀ a b, ¬ PTp a b → τ a b = σ a b := f
  refine k r τ ⟨RSh_e (fun a b q => e a b (by unfold PTp; omega)) h1, RW_e (fun a b q => e a b (by unfold PTp; omega)) h2, RI_e (fun a b q => e a b (by unfold PTp; omega)) (fun q => by rw [e _ _ (by unfold PTp; omega)]; exact q) h3, hT, RTr_e (fun a b q => e a b (by unfold PTp; omega)) h5, ?_, ?_⟩
  · rw [e 0 9 (by unfold PTp; omega), e 122 11 (by unfold PTp; omega)]; exact h6
  · rw [e 0 10 (by unfold PTp; omega), e 122 1 (by unfold PTp; omega)]; exact h7
theorem k_f (hA : RA σ) (k : ∀ r τ, RA τ → G r r τ) : KF σ G := fun r τ f hW hT h9 h7' => by
  obtain ⟨h1, h2, h3, h4, h5, h6, h7⟩ := hA
  have e : ∀ a b, ¬ PF a b → τ a b = σ a b := f
  refine k r τ ⟨RSh_e (fun a b q => e a b (by unfold PF; omega)) h1, hW, RI_e (fun a b q => e a b (by unfold PF; omega)) h7' h3, hT, RTr_e (fun a b q => e a b (by unfold PF; omega)) h5, h9, ?_⟩
  rw [e 0 10 (by unfold PF; omega), e 122 1 (by unfold PF; omega)]; exact h7
theorem k_a (hA : RA σ) (k : ∀ r τ, RA τ → G r r τ) : ∀ (r : Int32) (τ : St), Fr PT σ τ → RTr τ → G r r τ := fun r τ f hT => by
  obtain ⟨h1, h2, h3, h4, h5, h6, h7⟩ := hA
  have e : ∀ a b, ¬ PT a b → τ a b = σ a b := f
  refine k r τ ⟨RSh_e (fun a b q => e a b (by unfold PT SC MS PA PB; omega)) h1, RW_e (fun a b q => e a b (by unfold PT SC MS PA PB; omega)) h2, RI_e (fun a b q => e a b (by unfold PT SC MS PA PB; omega)) (fun q => by rw [e _ _ (by unfold PT SC MS PA PB; omega)]; exact q) h3, RTp_e (fun a b q => e a b (by unfold PT SC MS PA PB; omega)) h4, hT, ?_, ?_⟩
  · rw [e 0 9 (by unfold PT SC MS PA PB; omega), e 122 11 (by unfold PT SC MS PA PB; omega)]; exact h6
  · rw [e 0 10 (by unfold PT SC MS PA PB; omega), e 122 1 (by unfold PT SC MS PA PB; omega)]; exact h7
end KK
set_option maxRecDepth 100000 in
theorem law_loop {X : Ro} {L : Nat} (hX : X.1 = L + 1) (hL : L ≤ 384) (F : Int32 → St → Prop) (hF : ∀ τ, F 1 τ) : ∀ m i, i ≤ 390 → L < i + m → ∀ σ, RA σ → At hd_law X 18 [some (rf 56 2000), some (rf 54 0), some (rf 55 122), some (iv (nI i))] [] σ (retI F) := by
  intro m
  induction m with
  | zero =>
    intro i hi him σ hA
    have c : Int32.ofNat (X.1 - 1) - 6 < nI i := by
      rw [show X.1 - 1 = L by omega, show Int32.ofNat L = nI L from rfl, fa_lt, ti_sub (by rw [ti_nI (by omega), t_6]; omega), ti_nI (by omega), ti_nI (by omega), t_6]; omega
    exact l_law_18 _ _ _ _ ⟨by omega, fun _ => ⟨Or.inr rfl, hF σ⟩, fun q => absurd c q⟩
  | succ m ih =>
    intro i hi him σ hA
    have cc : Int32.ofNat (X.1 - 1) - 6 < nI i ↔ (L : Int) - 6 < i := by
      rw [show X.1 - 1 = L by omega, show Int32.ofNat L = nI L from rfl, fa_lt, ti_sub (by rw [ti_nI (by omega), t_6]; omega), ti_nI (by omega), ti_nI (by omega), t_6]
    refine l_law_18 _ _ _ _ ⟨by omega, fun _ => ⟨Or.inr rfl, hF σ⟩, fun q => ?_⟩
    have lt : i + 6 ≤ L := by rw [cc] at q; omega
    have v0 : vp_in (nI i) (X.1 - 1) := vin0 i rfl (by omega) (by omega)
    have v1 : vp_in (nI i + 1) (X.1 - 1) := vin0 (i + 1) (nI_add i 1) (by omega) (by omega)
    have v2 : vp_in (nI i + 2) (X.1 - 1) := vin0 (i + 2) (nI_add i 2) (by omega) (by omega)
    have v3 : vp_in (nI i + 3) (X.1 - 1) := vin0 (i + 3) (nI_add i 3) (by omega) (by omega)
    have v4 : vp_in (nI i + 4) (X.1 - 1) := vin0 (i + 4) (nI_add i 4) (by omega) (by omega)
    have v5 : vp_in (nI i + 5) (X.1 - 1) := vin0 (i + 5) (nI_add i 5) (by omega) (by omega)
    have nx : ∀ τ, RA τ → At hd_law X 18 [some (rf 56 2000), some (rf 54 0), some (rf 55 122), some (iv (nI i + 6))] [] τ (retI F) := fun τ h => by
      rw [show nI i + 6 = nI (i + 6) from nI_add i 6]; exact ih (i + 6) (by omega) (by omega) τ h
    have kk : ∀ (r : Int32) (τ : St), RA τ → (r = r → At hd_law X 18 [some (rf 56 2000), some (rf 54 0), some (rf 55 122), some (iv (nI i + 6))] [] τ (retI F)) ∧ (¬ r = r → isB 0 ∧ F 0 τ) := fun r τ h => ⟨fun _ => nx τ h, fun q => absurd rfl q⟩
    have ⟨hSh, hW, hI, hTp, hTr, h9, h10⟩ := hA
    have hT18 : σ 18 1 = σ 122 10 := by
      obtain ⟨N, T, -, ⟨z1, -⟩, -, z2⟩ := hTp
      rw [z1, z2]
    refine ⟨v0, fun _ => nx σ hA, fun _ => ⟨v1, v2, v3, callI_mono (fun _ _ h => ⟨v1, v2, v3, h⟩) (r_sheet _ _ _ σ _ hSh h10 (k_sh hA kk))⟩, fun _ => ⟨v1, v2, v3, callI_mono (fun _ _ h => ⟨v1, v2, v3, h⟩) (r_set _ _ _ σ _ hSh h10 (k_sh hA kk))⟩, fun _ => ⟨v1, v2, v3, v4, v5, callI_mono (fun _ _ h => ⟨v1, v2, v3, v4, v5, h⟩) (r_copy _ _ _ _ _ σ _ hSh h10 (k_sh hA kk))⟩, fun _ => ⟨v1, callI_mono (fun _ _ h => ⟨v1, h⟩) (r_drop _ σ _ hSh h10 (k_sh hA kk))⟩, fun _ => ⟨v1, v2, v3, callI_mono (fun _ _ h => ⟨v1, v2, v3, h⟩) (r_feed _ _ σ _ hTp (k_t hA kk))⟩, fun _ => r_floor σ _ hW hTp h9 (k_f hA kk), fun _ => r_fault σ _ h9 (k_q hA kk), fun _ => ⟨v1, v2, callI_mono (fun _ _ h => ⟨v1, v2, h⟩) (r_drift _ _ σ _ hW (k_q hA kk))⟩, fun _ => ⟨v1, v2, v3, v4, callI_mono (fun _ _ h => ⟨v1, v2, v3, v4, h⟩) (r_where _ _ _ _ σ _ hW (k_q hA kk))⟩, fun _ => ⟨v1, v2, callI_mono (fun _ _ h => ⟨v1, v2, h⟩) (r_hill _ _ σ _ hW (k_w hA kk))⟩, fun _ => ⟨v1, v2, v3, callI_mono (fun _ _ h => ⟨v1, v2, v3, h⟩) (r_hills _ _ _ σ _ hSh h10 hW (k_sw hA kk))⟩, fun _ => ⟨v1, v2, v3, callI_mono (fun _ _ h => ⟨v1, v2, v3, h⟩) (r_date _ _ _ σ _ hW (k_w hA kk))⟩, fun _ => ⟨v1, v2, v3, callI_mono (fun _ _ h => ⟨v1, v2, v3, h⟩) (r_needle _ _ _ σ _ hW (k_w hA kk))⟩, fun _ => ⟨v1, v2, callI_mono (fun _ _ h => ⟨v1, v2, h⟩) (r_told _ _ σ _ hW (k_q hA kk))⟩, fun _ => ⟨v1, v2, v3, callI_mono (fun _ _ h => ⟨v1, v2, v3, h⟩) (r_nearest _ _ _ σ _ hW (k_q hA kk))⟩, fun _ => ⟨v1, callI_mono (fun _ _ h => ⟨v1, h⟩) (r_fits _ σ _ hW (k_q hA kk))⟩, fun _ => ⟨v1, v2, callI_mono (fun _ _ h => ⟨v1, v2, h⟩) (r_odds _ _ σ _ hW (k_q hA kk))⟩, fun _ => ⟨v1, v2, callI_mono (fun _ _ h => ⟨v1, v2, h⟩) (r_belong _ _ σ _ hW (k_q hA kk))⟩, fun _ => ⟨v1, v2, v3, callI_mono (fun _ _ h => ⟨v1, v2, v3, h⟩) (r_made _ _ _ σ _ hW (k_w hA kk))⟩, fun _ => ⟨v1, v2, v3, callI_mono (fun _ _ h => ⟨v1, v2, v3, h⟩) (r_pace _ _ _ σ _ hW (k_q hA kk))⟩, fun _ => ⟨v1, v2, v3, callI_mono (fun _ _ h => ⟨v1, v2, v3, h⟩) (r_even _ _ _ σ _ hSh h10 hW (k_s hA kk))⟩, fun _ => ⟨v1, v2, v3, callI_mono (fun _ _ h => ⟨v1, v2, v3, h⟩) (r_bend _ _ _ σ _ hSh h10 hW (k_s hA kk))⟩, fun _ => ⟨v1, v2, v3, callI_mono (fun _ _ h => ⟨v1, v2, v3, h⟩) (r_people _ _ _ σ _ hSh h10 hW (k_s hA kk))⟩, fun _ => ⟨v1, v2, v3, callI_mono (fun _ _ h => ⟨v1, v2, v3, h⟩) (r_against _ _ _ σ _ hSh h10 hW (k_s hA kk))⟩, fun _ => ⟨v1, callI_mono (fun _ _ h => ⟨v1, h⟩) (r_turn _ σ _ hW (k_q hA kk))⟩, fun _ => ⟨v1, callI_mono (fun _ _ h => ⟨v1, h⟩) (r_says _ σ _ hW (k_q hA kk))⟩, fun _ => ⟨v1, v2, v3, callI_mono (fun _ _ h => ⟨v1, v2, v3, h⟩) (r_wandered _ _ _ σ _ hW (k_q hA kk))⟩, fun _ => ⟨v1, v2, v3, callI_mono (fun _ _ h => ⟨v1, v2, v3, h⟩) (r_leans _ _ _ σ _ hW (k_q hA kk))⟩, fun _ => r_orders σ _ hW (k_q hA kk), fun _ => r_chance σ _ hW (k_q hA kk), fun _ => r_bore σ _ hW (k_q hA kk), fun _ => ⟨v1, v2, callI_mono (fun _ _ h => ⟨v1, v2, h⟩) (r_next _ _ σ _ hW (k_q hA kk))⟩, fun _ => ⟨v1, callI_mono (fun _ _ h => ⟨v1, h⟩) (r_image _ σ _ hW hI (k_i hA kk))⟩, fun _ => ⟨v1, callI_mono (fun _ _ h => ⟨v1, h⟩) (r_restore _ σ _ hW hI (k_w hA kk))⟩, fun _ => ⟨v1, callI_mono (fun _ _ h => ⟨v1, h⟩) (r_kind _ σ _ hW (k_q hA kk))⟩, fun _ => ⟨v1, v2, callI_mono (fun _ _ h => ⟨v1, v2, h⟩) (r_as _ _ σ _ hW h10 (k_s hA kk))⟩, fun _ => ⟨v1, v2, callI_mono (fun _ _ h => ⟨v1, v2, h⟩) (r_ask _ _ σ _ hW hTr (k_a (G := fun r r2 τ => (r = r2 → At hd_law X 18 [some (rf 56 2000), some (rf 54 0), some (rf 55 122), some (iv (nI i + 6))] [] τ (retI F)) ∧ (¬ r = r2 → isB 0 ∧ F 0 τ)) hA kk))⟩, fun _ => ⟨v1, callI_mono (fun _ _ h => ⟨v1, h⟩) (r_trace _ σ _ hTr (k_q hA kk))⟩, fun _ => ⟨v1, callI_mono (fun _ _ h => ⟨v1, h⟩) (r_count _ σ _ hSh hT18 hW (k_q hA kk))⟩, fun _ => r_status σ _ h10 (k_q hA kk), trivial⟩
