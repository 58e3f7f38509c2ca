/-! images: rows copied, the drift laid anew -/
def cF (w : Wo) (f : Nat) (σ : St) : Prop :=
  (σ (f + 1) 2 = nI (n0 w) ∧ σ (f + 3) 2 = nI (n1 w) ∧ σ (f + 5) 2 = nI (n2 w) ∧ σ (f + 7) 2 = nI (n3 w) ∧ σ (f + 9) 2 = nI (n4 w)) ∧
  ((∀ i, i < 3 * n0 w → σ (f + 2) i = wfl w i) ∧ (∀ i, i < 6 * n1 w → σ (f + 4) i = wfi w i) ∧ (∀ i, i < 2 * n2 w → σ (f + 6) i = who w i) ∧ (∀ i, i < 5 * n3 w → σ (f + 8) i = wcr w i) ∧ (∀ i, i < 2 * n4 w → σ (f + 10) i = wst w i))
theorem cF_e {w : Wo} {f f' : Nat} {σ τ : St} (hF : okF w) (e : ∀ j, 1 ≤ j → j ≤ 10 → (j % 2 = 1 → τ (f' + j) 2 = σ (f + j) 2) ∧ (j % 2 = 0 → ∀ i, i < 24 → (j = 2 → i < 12) → (j = 6 → i < 8) → (j = 8 → i < 20) → (j = 10 → i < 8) → τ (f' + j) i = σ (f + j) i)) (h : cF w f σ) : cF w f' τ := by
  obtain ⟨⟨c1, c2, c3, c4, c5⟩, d1, d2, d3, d4, d5⟩ := h
  have b := hF.1
  refine ⟨⟨?_, ?_, ?_, ?_, ?_⟩, fun i hi => ?_, fun i hi => ?_, fun i hi => ?_, fun i hi => ?_, fun i hi => ?_⟩
  · rw [(e 1 (by omega) (by omega)).1 rfl]; exact c1
  · rw [(e 3 (by omega) (by omega)).1 rfl]; exact c2
  · rw [(e 5 (by omega) (by omega)).1 rfl]; exact c3
  · rw [(e 7 (by omega) (by omega)).1 rfl]; exact c4
  · rw [(e 9 (by omega) (by omega)).1 rfl]; exact c5
  · rw [(e 2 (by omega) (by omega)).2 rfl i (by omega) (by omega) (by omega) (by omega) (by omega)]; exact d1 i hi
  · rw [(e 4 (by omega) (by omega)).2 rfl i (by omega) (by omega) (by omega) (by omega) (by omega)]; exact d2 i hi
  · rw [(e 6 (by omega) (by omega)).2 rfl i (by omega) (by omega) (by omega) (by omega) (by omega)]; exact d3 i hi
  · rw [(e 8 (by omega) (by omega)).2 rfl i (by omega) (by omega) (by omega) (by omega) (by omega)]; exact d4 i hi
  · rw [(e 10 (by omega) (by omega)).2 rfl i (by omega) (by omega) (by omega) (by omega) (by omega)]; exact d5 i hi
theorem cF_fr {w : Wo} {f : Nat} {σ τ : St} (hF : okF w) (e : Fr (fun p _ => p = f + 11 ∨ p = f + 12) σ τ) (h : cF w f σ) : cF w f τ :=
  cF_e hF (fun j h1 h2 => ⟨fun _ => e _ _ (by omega), fun _ i _ _ _ _ _ => e _ _ (by omega)⟩) h
/-! which floor moved -/
theorem ln_c (w : Wo) (u : Nat) : ∀ N, (∀ j, j < lnOf w u N → (wfl w (3 * j)).toInt < u) ∧ (lnOf w u N < N → (u : Int) ≤ (wfl w (3 * lnOf w u N)).toInt)
  | 0 => ⟨fun j h => by simp [lnOf] at h, fun h => by simp at h⟩
  | N + 1 => by
    obtain ⟨h1, h2⟩ := ln_c w u N
    have hl := lnOf_le w u N
    simp only [lnOf]
    by_cases c : lnOf w u N = N ∧ (wfl w (3 * N)).toInt < u
    · rw [if_pos c]
      refine ⟨fun j hj => ?_, fun h => by omega⟩
      by_cases e : j = N
      · rw [e]; exact c.2
      · exact h1 j (by omega)
    · rw [if_neg c]
      refine ⟨h1, fun h => ?_⟩
      by_cases e : lnOf w u N = N
      · rw [e]
        have : ¬ (wfl w (3 * N)).toInt < u := fun z => c ⟨e, z⟩
        omega
      · exact h2 (by omega)
theorem ln_u {w : Wo} {u N m : Nat} (h : m ≤ N) (h1 : ∀ j, j < m → (wfl w (3 * j)).toInt < u) (h2 : m < N → (u : Int) ≤ (wfl w (3 * m)).toInt) : lnOf w u N = m := by
  obtain ⟨g1, g2⟩ := ln_c w u N
  have hl := lnOf_le w u N
  by_cases c : m < lnOf w u N
  · have := g1 m c
    have := h2 (by omega)
    omega
  · by_cases d : lnOf w u N < m
    · have := h1 _ d
      have := g2 (by omega)
      omega
    · omega
theorem ln_0 {w : Wo} (hF : okF w) {N : Nat} (hN : N < n0 w) : lnOf w 0 N = 0 := by
  refine ln_u (by omega) (fun j hj => by omega) (fun h => ?_)
  have := (hF.2.1 0 (by omega)).1
  unfold wi at this
  omega
theorem ln_s {w : Wo} (hF : okF w) {N u : Nat} (hN : N < n0 w) : (N ≤ lnOf w u N → lnOf w (u + 1) N = lnOf w u N) ∧ (lnOf w u N < N → (¬ ((u + 1 : Nat) : Int) ≤ (wfl w (3 * lnOf w u N)).toInt → lnOf w (u + 1) N = lnOf w u N + 1) ∧ (((u + 1 : Nat) : Int) ≤ (wfl w (3 * lnOf w u N)).toInt → lnOf w (u + 1) N = lnOf w u N)) := by
  obtain ⟨g1, g2⟩ := ln_c w u N
  have hl := lnOf_le w u N
  refine ⟨fun h => ln_u hl (fun j hj => ?_) (fun q => by omega), fun h => ⟨fun z => ln_u (by omega) (fun j hj => ?_) (fun q => ?_), fun z => ln_u hl (fun j hj => ?_) (fun _ => z)⟩⟩
  · have := g1 j hj; omega
  · by_cases e : j = lnOf w u N
    · rw [e]; omega
    · have := g1 j (by omega); omega
  · have h3 := (hF.2.1 (lnOf w u N + 1) (by omega)).2.2.2 (by omega)
    rw [Nat.add_sub_cancel] at h3
    have := g2 h
    omega
  · have := g1 j hj; omega
theorem thr (f c : Nat) : nI f * 3 + nI c = nI (3 * f + c) := by rw [show (3 : Int32) = nI 3 from rfl, mulN, nI_add, Nat.mul_comm]
theorem x_fl {w : Wo} {f : Nat} {σ : St} (hb : cF w f σ) (hF : okF w) {j c : Nat} (hj : j < n0 w) (hcc : c < 3) (F : Int32 → St → Prop) (h : F (wfl w (3 * j + c)) σ) : CallI hd_li_at [rf 37 (f + 1), iv (nI j), iv (nI c)] σ F := by
  have b := hF.1.1
  refine q_li_at_L_floors _ _ _ _ _ (vin0 _ (thr j c) (by omega) (by decide)) ?_
  unfold p_li_at_L_floors
  rw [thr, nI_clamp (by omega), show σ (f + 1 + 1) (3 * j + c) = wfl w (3 * j + c) from hb.2.1 _ (by omega)]
  exact h
theorem x_drift {w : Wo} {f : Nat} {σ : St} (hb : cF w f σ) (hF : okF w) (h0 : 0 < n0 w) (z1 : σ (f + 11) 0 = 0) (z2 : σ (f + 12) 0 = 0) (F : St → Prop) (h : ∀ τ, Fr (fun p _ => p = f + 11 ∨ p = f + 12) σ τ → (∀ u, u < 100 → τ (f + 11) u = drf w 1 u ∧ τ (f + 12) u = drf w 2 u) → F τ) : CallV hd_fl_addDrift [rf 42 f] σ F := by
  have b := hF.1.1
  have loop : ∀ m u, u + m = 99 → ∀ τ, Fr (fun p _ => p = f + 11 ∨ p = f + 12) σ τ → (∀ j, j < u + 1 → τ (f + 11) j = drf w 1 j ∧ τ (f + 12) j = drf w 2 j) → At hd_fl_addDrift X0 4 [some (rf 42 f), some (iv (nI (lnOf w u (n0 w - 1)))), some (iv (nI (u + 1)))] [] τ (retV F) := by
    intro m
    induction m with
    | zero =>
      intro u hu τ ht hd
      have : u = 99 := by omega
      subst this
      exact l_fl_addDrift_4 _ _ _ _ _ ⟨fun _ => h τ ht hd, fun q => absurd (by decide) q⟩
    | succ m ih =>
      intro u hu τ ht hd
      have ll := lnOf_le w u (n0 w - 1)
      have ll' := lnOf_le w (u + 1) (n0 w - 1)
      obtain ⟨s1, s2⟩ := ln_s hF (N := n0 w - 1) (u := u) (by omega)
      have cft := cF_fr hF ht hb
      have eu : nI (u + 1) - 1 = nI u := by rw [sub1 (by omega), Nat.add_sub_cancel]
      have at39 : At hd_fl_addDrift X0 39 [some (rf 42 f), some (iv (nI (lnOf w (u + 1) (n0 w - 1)))), some (iv (nI (u + 1)))] [] τ (retV F) := by
        have vu : vp_in (nI u) 100 := vin0 u rfl (by omega) (by decide)
        have vu1 : vp_in (nI (u + 1)) 100 := vin0 (u + 1) rfl (by omega) (by decide)
        refine l_fl_addDrift_39 _ _ _ _ _ ?_
        rw [eu, nI_clamp (by omega), nI_clamp (by omega)]
        refine ⟨vu, x_fl (c := 1) cft hF (by omega) (by decide) _ ⟨vu1, vu, ?_⟩⟩
        have f2 : Fr (fun p _ => p = f + 11 ∨ p = f + 12) σ (up τ (f + 11) (u + 1) (τ (f + 11) u + wfl w (3 * lnOf w (u + 1) (n0 w - 1) + 1))) := ht.up (Or.inl rfl)
        refine x_fl (c := 2) (cF_fr hF f2 hb) hF (by omega) (by decide) _ ⟨vu1, ?_⟩
        rw [nI_1]
        refine ih (u + 1) (by omega) _ (f2.up (Or.inr rfl)) (fun j hj => ?_)
        obtain ⟨k1, k2⟩ := hd u (by omega)
        by_cases e : j = u + 1
        · subst e
          rw [up_ka _ _ (by omega), up_at, up_at, up_ka _ _ (by omega), k1, k2]
          exact ⟨rfl, rfl⟩
        · rw [up_ka _ _ (by omega), up_jb _ _ e, up_jb _ _ e, up_ka _ _ (by omega)]
          exact hd j (by omega)
      have fb := hF.2.1 (lnOf w u (n0 w - 1)) (by omega)
      refine l_fl_addDrift_4 _ _ _ _ _ ⟨fun q => ?_, fun _ => ?_⟩
      · exfalso; rw [fa_lt, ti_nI (by omega), t_99] at q; omega
      rw [show τ (f + 1) 2 = nI (n0 w) from cft.1.1, sub1 (by omega), nI_leI (by omega) (by omega)]
      refine ⟨fun q => ?_, fun q => x_fl (c := 0) cft hF (by omega) (by decide) _ ?_⟩
      · rw [← s1 q]; exact at39
      obtain ⟨s3, s4⟩ := s2 (by omega)
      rw [Nat.add_zero, fa_le, ti_nI (by omega), nI_1]
      refine ⟨fun z => ?_, fun z => ?_⟩
      · rw [← s4 z]; exact at39
      · rw [← s3 z]; exact at39
  refine e_fl_addDrift _ _ _ ?_
  have := loop 99 0 (by omega) σ Fr.rf (fun j hj => by rw [show j = 0 by omega]; exact ⟨z1, z2⟩)
  rw [ln_0 hF (by omega)] at this
  exact this
theorem m_lay {w : Wo} {σ : St} (hm1 : σ 126 0 = nI (n0 w)) (hm2 : ∀ i, i < 3 * n0 w → σ 126 (5 + i) = wfl w i) (hF : okF w) (h0 : 0 < n0 w) (z1 : σ 130 0 = 0) (z2 : σ 131 0 = 0) (F : St → Prop) (h : ∀ τ, Fr (fun p _ => p = 130 ∨ p = 131) σ τ → mD w τ → F τ) : CallV hd_m_layDrift [rf 55 122] σ F := by
  have b := hF.1.1
  have ex : ∀ l : Nat, (5 : Int32) + 3 * nI l = nI (5 + 3 * l) := fun l => by rw [show (5 : Int32) = nI 5 from rfl, show (3 : Int32) = nI 3 from rfl, mulN, nI_add]
  have loop : ∀ m u, u + m = 99 → ∀ τ, Fr (fun p _ => p = 130 ∨ p = 131) σ τ → (∀ j, j < u + 1 → τ 130 j = drf w 1 j ∧ τ 131 j = drf w 2 j) → At hd_m_layDrift X0 4 [some (rf 55 122), some (iv (nI (lnOf w u (n0 w - 1)))), some (iv (nI (u + 1)))] [] τ (retV F) := by
    intro m
    induction m with
    | zero =>
      intro u hu τ ht hd
      have : u = 99 := by omega
      subst this
      exact l_m_layDrift_4 _ _ _ _ ⟨fun _ => h τ ht hd, fun q => absurd (by decide) q⟩
    | succ m ih =>
      intro u hu τ ht hd
      have ll' := lnOf_le w (u + 1) (n0 w - 1)
      obtain ⟨g1, g2⟩ := ln_c w (u + 1) (n0 w - 1)
      have eu : nI (u + 1) - 1 = nI u := by rw [sub1 (by omega), Nat.add_sub_cancel]
      have e0 : τ 126 0 = nI (n0 w) := by rw [ht _ _ (by omega)]; exact hm1
      have e2 : ∀ i, i < 3 * n0 w → τ 126 (5 + i) = wfl w i := fun i hi => by rw [ht _ _ (by omega)]; exact hm2 i hi
      have at42 : At hd_m_layDrift X0 42 [some (rf 55 122), some (iv (nI (lnOf w (u + 1) (n0 w - 1)))), some (iv (nI (u + 1)))] [] τ (retV F) := by
        have vu : vp_in (nI u) 100 := vin0 u rfl (by omega) (by decide)
        have vu1 : vp_in (nI (u + 1)) 100 := vin0 (u + 1) rfl (by omega) (by decide)
        refine l_m_layDrift_42 _ _ _ _ ?_
        rw [eu, ex, show nI (5 + 3 * lnOf w (u + 1) (n0 w - 1)) + 1 = nI (5 + (3 * lnOf w (u + 1) (n0 w - 1) + 1)) from nI_1 _, show nI (5 + 3 * lnOf w (u + 1) (n0 w - 1)) + 2 = nI (5 + (3 * lnOf w (u + 1) (n0 w - 1) + 2)) from nI_add _ 2, nI_clamp (by omega), nI_clamp (by omega), nI_clamp (by omega), nI_clamp (by omega), e2 _ (by omega), up_ka _ _ (by omega), up_ka _ _ (by omega), e2 _ (by omega), nI_1]
        refine ⟨vu, vin0 _ rfl (by omega) (by decide), vu1, vu, vin0 _ rfl (by omega) (by decide), vu1, ?_⟩
        refine ih (u + 1) (by omega) _ ((ht.up (Or.inl rfl)).up (Or.inr rfl)) (fun j hj => ?_)
        obtain ⟨k1, k2⟩ := hd u (by omega)
        by_cases e : j = u + 1
        · subst e
          rw [up_ka _ _ (by omega), up_at, up_at, k1, k2]
          exact ⟨rfl, rfl⟩
        · rw [up_ka _ _ (by omega), up_jb _ _ e, up_jb _ _ e, up_ka _ _ (by omega)]
          exact hd j (by omega)
      have inner : ∀ r l, l + r = lnOf w (u + 1) (n0 w - 1) → At hd_m_layDrift X0 10 [some (rf 55 122), some (iv (nI l)), some (iv (nI (u + 1)))] [] τ (retV F) := by
        intro r
        induction r with
        | zero =>
          intro l hl
          have : l = lnOf w (u + 1) (n0 w - 1) := by omega
          subst this
          refine l_m_layDrift_10 _ _ _ _ ⟨vin0 0 rfl (by decide) (by decide), ?_⟩
          rw [c_0, e0, sub1 (by omega), nI_leI (by omega) (by omega)]
          refine ⟨fun _ => at42, fun q => ⟨vin0 _ (ex _) (by omega) (by decide), fun _ => at42, fun z => ?_⟩⟩
          exfalso
          apply z
          rw [ex, nI_clamp (by omega), e2 _ (by omega), fa_le, ti_nI (by omega)]
          exact g2 (by omega)
        | succ r ih2 =>
          intro l hl
          refine l_m_layDrift_10 _ _ _ _ ⟨vin0 0 rfl (by decide) (by decide), ?_⟩
          rw [c_0, e0, sub1 (by omega), nI_leI (by omega) (by omega)]
          refine ⟨fun q => by omega, fun q => ⟨vin0 _ (ex _) (by omega) (by decide), fun z => ?_, fun _ => ?_⟩⟩
          · exfalso
            rw [ex, nI_clamp (by omega), e2 _ (by omega), fa_le, ti_nI (by omega)] at z
            have := g1 l (by omega)
            omega
          · rw [nI_1]; exact ih2 (l + 1) (by omega)
      obtain ⟨s1, s2⟩ := ln_s hF (N := n0 w - 1) (u := u) (by omega)
      have mono : lnOf w u (n0 w - 1) ≤ lnOf w (u + 1) (n0 w - 1) := by
        by_cases c : lnOf w u (n0 w - 1) < n0 w - 1
        · by_cases d : ((u + 1 : Nat) : Int) ≤ (wfl w (3 * lnOf w u (n0 w - 1))).toInt
          · rw [(s2 c).2 d]; omega
          · rw [(s2 c).1 d]; omega
        · rw [s1 (by omega)]; omega
      refine l_m_layDrift_4 _ _ _ _ ⟨fun q => ?_, fun _ => inner (lnOf w (u + 1) (n0 w - 1) - lnOf w u (n0 w - 1)) _ (by omega)⟩
      exfalso; rw [fa_le, ti_nI (by omega), t_100] at q; omega
  refine e_m_layDrift _ _ ?_
  have := loop 99 0 (by omega) σ Fr.rf (fun j hj => by rw [show j = 0 by omega]; exact ⟨z1, z2⟩)
  rw [ln_0 hF (by omega)] at this
  exact this
/-! lines taken over -/
def TK (σ : St) (k0 k1 N : Nat) : St := upr (up σ k0 2 (σ k1 2)) (k0 + 1) (va_cpy ((up σ k0 2 (σ k1 2)) (k1 + 1)) ((up σ k0 2 (σ k1 2)) (k0 + 1)) 0 0 N)
theorem TK_f (σ : St) (k0 k1 N : Nat) : Fr (fun p _ => p = k0 ∨ p = k0 + 1) σ (TK σ k0 k1 N) := (Fr.rf.up (Or.inl rfl)).row fun _ => Or.inr rfl
theorem TK_n (σ : St) {k0 k1 N : Nat} : TK σ k0 k1 N k0 2 = σ k1 2 := by unfold TK; rw [upr_ka _ _ (by omega), up_at]
theorem TK_i (σ : St) {k0 k1 N : Nat} (h : k1 + 1 ≠ k0) {i : Nat} (hi : i < N) : TK σ k0 k1 N (k0 + 1) i = σ (k1 + 1) i := by
  unfold TK
  rw [upr_kb]
  unfold va_cpy
  rw [if_pos (by omega), up_ka _ _ h, Nat.zero_add, Nat.sub_zero]
theorem x_fltake {w : Wo} {a b : Nat} {σ : St} (hab : a + 14 ≤ b ∨ b + 14 ≤ a) (hF : okF w) (h0 : 0 < n0 w) (hb : cF w b σ) (z1 : σ (a + 11) 0 = 0) (z2 : σ (a + 12) 0 = 0) (F : St → Prop) (h : ∀ τ, Fr (fun p _ => a < p ∧ p ≤ a + 12) σ τ → cF w a τ → (∀ u, u < 100 → τ (a + 11) u = drf w 1 u ∧ τ (a + 12) u = drf w 2 u) → F τ) : CallV hd_fl_take [rf 42 a, rf 42 b] σ F := by
  refine e_fl_take a b σ F (e_li_take_L_floors_L_floors _ _ _ _ ⟨by decide, fun τ1 e1 => e_li_take_L_fires_L_fires _ _ _ _ ⟨by decide, fun τ2 e2 => e_li_take_L_houses_L_houses _ _ _ _ ⟨by decide, fun τ3 e3 => e_li_take_L_cracks_L_cracks _ _ _ _ ⟨by decide, fun τ4 e4 => e_li_take_L_stories_L_stories _ _ _ _ ⟨by decide, fun τ5 e5 => ?_⟩⟩⟩⟩⟩)
  have e1 : τ1 = TK σ (a + 1) (b + 1) 12 := e1
  have e2 : τ2 = TK τ1 (a + 3) (b + 3) 24 := e2
  have e3 : τ3 = TK τ2 (a + 5) (b + 5) 8 := e3
  have e4 : τ4 = TK τ3 (a + 7) (b + 7) 20 := e4
  have e5 : τ5 = TK τ4 (a + 9) (b + 9) 8 := e5
  have f1 : Fr (fun p _ => p = a + 1 ∨ p = a + 1 + 1) σ τ1 := by rw [e1]; exact TK_f _ _ _ _
  have f2 : Fr (fun p _ => p = a + 3 ∨ p = a + 3 + 1) τ1 τ2 := by rw [e2]; exact TK_f _ _ _ _
  have f3 : Fr (fun p _ => p = a + 5 ∨ p = a + 5 + 1) τ2 τ3 := by rw [e3]; exact TK_f _ _ _ _
  have f4 : Fr (fun p _ => p = a + 7 ∨ p = a + 7 + 1) τ3 τ4 := by rw [e4]; exact TK_f _ _ _ _
  have f5 : Fr (fun p _ => p = a + 9 ∨ p = a + 9 + 1) τ4 τ5 := by rw [e5]; exact TK_f _ _ _ _
  have fa : Fr (fun p _ => a < p ∧ p ≤ a + 10) σ τ5 := fun p q n => by
    rw [f5 p q (by omega), f4 p q (by omega), f3 p q (by omega), f2 p q (by omega), f1 p q (by omega)]
  have cf : cF w a τ5 := by
    refine cF_e hF (fun j h1 h2 => ⟨fun ho => ?_, fun he i hi k2 k6 k8 k10 => ?_⟩) hb
    · rcases (show j = 1 ∨ j = 3 ∨ j = 5 ∨ j = 7 ∨ j = 9 by omega) with e | e | e | e | e
      · subst e; rw [f5 _ _ (by omega), f4 _ _ (by omega), f3 _ _ (by omega), f2 _ _ (by omega), e1, TK_n]
      · subst e; rw [f5 _ _ (by omega), f4 _ _ (by omega), f3 _ _ (by omega), e2, TK_n, f1 _ _ (by omega)]
      · subst e; rw [f5 _ _ (by omega), f4 _ _ (by omega), e3, TK_n, f2 _ _ (by omega), f1 _ _ (by omega)]
      · subst e; rw [f5 _ _ (by omega), e4, TK_n, f3 _ _ (by omega), f2 _ _ (by omega), f1 _ _ (by omega)]
      · subst e; rw [e5, TK_n, f4 _ _ (by omega), f3 _ _ (by omega), f2 _ _ (by omega), f1 _ _ (by omega)]
    · rcases (show j = 2 ∨ j = 4 ∨ j = 6 ∨ j = 8 ∨ j = 10 by omega) with e | e | e | e | e
      · subst e; rw [f5 _ _ (by omega), f4 _ _ (by omega), f3 _ _ (by omega), f2 _ _ (by omega), e1, show a + 2 = a + 1 + 1 from rfl, TK_i _ (by omega) (k2 rfl)]
      · subst e; rw [f5 _ _ (by omega), f4 _ _ (by omega), f3 _ _ (by omega), e2, show a + 4 = a + 3 + 1 from rfl, TK_i _ (by omega) hi, f1 _ _ (by omega)]
      · subst e; rw [f5 _ _ (by omega), f4 _ _ (by omega), e3, show a + 6 = a + 5 + 1 from rfl, TK_i _ (by omega) (k6 rfl), f2 _ _ (by omega), f1 _ _ (by omega)]
      · subst e; rw [f5 _ _ (by omega), e4, show a + 8 = a + 7 + 1 from rfl, TK_i _ (by omega) (k8 rfl), f3 _ _ (by omega), f2 _ _ (by omega), f1 _ _ (by omega)]
      · subst e; rw [e5, show a + 10 = a + 9 + 1 from rfl, TK_i _ (by omega) (k10 rfl), f4 _ _ (by omega), f3 _ _ (by omega), f2 _ _ (by omega), f1 _ _ (by omega)]
  refine x_drift cf hF h0 (by rw [fa _ _ (by omega)]; exact z1) (by rw [fa _ _ (by omega)]; exact z2) _ fun τ ht hd => h τ (fun p q n => ?_) (cF_fr hF ht cf) hd
  rw [ht p q (by omega), fa p q (by omega)]
/-! hills taken over -/
def HT (a b j : Nat) (σ τ : St) : Prop := Fr (fun p _ => a < p ∧ p ≤ a + j) σ τ ∧ ∀ j' i, 1 ≤ j' → j' ≤ j → i < 48 → (j' ≤ 8 → i < 12) → τ (a + j') i = σ (b + j') i
theorem ht_s {a b j N : Nat} {σ τ τ' : St} (hab : a + 11 ≤ b ∨ b + 11 ≤ a) (hj : j < 10) (h : HT a b j σ τ) (hN : N = if j + 1 ≤ 8 then 12 else 48) (e : τ' = upr τ (a + (j + 1)) (va_cpy (τ (b + (j + 1))) (τ (a + (j + 1))) 0 0 N)) : HT a b (j + 1) σ τ' := by
  have f : Fr (fun p _ => p = a + (j + 1)) τ τ' := by rw [e]; exact Fr.rf.row fun _ => rfl
  refine ⟨fun p q n => by rw [f p q (by omega), h.1 p q (by omega)], fun j' i h1 h2 hi h8 => ?_⟩
  by_cases c : j' = j + 1
  · subst c
    have hiN : i < N := by rw [hN]; split <;> omega
    rw [e, upr_kb]
    unfold va_cpy
    rw [if_pos (by omega), Nat.zero_add, Nat.sub_zero, h.1 _ _ (by omega)]
  · rw [f _ _ (by omega)]; exact h.2 j' i h1 (by omega) hi h8
theorem fitB {x : Int32} (h : isB x) : fits .boolean (.int x) = true := by
  rcases h with e | e <;> subst e <;> decide
theorem x_hitake {a b : Nat} {σ : St} (hab : a + 11 ≤ b ∨ b + 11 ≤ a) (hB : ∀ i, i < 12 → isB (σ (b + 6) i)) (F : St → Prop) (h : ∀ τ, Fr (fun p _ => a ≤ p ∧ p ≤ a + 10) σ τ → τ a 8 = σ b 8 → (∀ j i, 1 ≤ j → j ≤ 10 → i < 48 → (j ≤ 8 → i < 12) → τ (a + j) i = σ (b + j) i) → F τ) : CallV hd_hi_take [rf 43 a, rf 43 b] σ F := by
  have H0 : HT a b 0 σ σ := ⟨Fr.rf, fun j' i h1 h2 => by omega⟩
  refine e_hi_take a b σ F ⟨by decide, fun τ1 e1 => ?_⟩
  have H1 := ht_s hab (by omega) H0 (N := 12) rfl e1
  refine ⟨by decide, fun τ2 e2 => ?_⟩
  have H2 := ht_s hab (by omega) H1 (N := 12) rfl e2
  refine ⟨by decide, fun τ3 e3 => ?_⟩
  have H3 := ht_s hab (by omega) H2 (N := 12) rfl e3
  refine ⟨by decide, fun τ4 e4 => ?_⟩
  have H4 := ht_s hab (by omega) H3 (N := 12) rfl e4
  refine ⟨by decide, fun τ5 e5 => ?_⟩
  have H5 := ht_s hab (by omega) H4 (N := 12) rfl e5
  refine ⟨by decide, fun τ6 e6 => ?_⟩
  have H6 := ht_s hab (by omega) H5 (N := 12) rfl e6
  refine ⟨by decide, fun τ7 e7 => ?_⟩
  have H7 := ht_s hab (by omega) H6 (N := 12) rfl e7
  refine ⟨by decide, fun τ8 e8 => ?_⟩
  have H8 := ht_s hab (by omega) H7 (N := 12) rfl e8
  refine ⟨by decide, fun τ9 e9 => ?_⟩
  have H9 := ht_s hab (by omega) H8 (N := 48) rfl e9
  refine ⟨by decide, fun τ10 e10 => ?_⟩
  have H10 := ht_s hab (by omega) H9 (N := 48) rfl e10
  refine h _ (fun p q n => ?_) ?_ (fun j i h1 h2 hi h8 => ?_)
  · rw [up_ka _ _ (by omega), H10.1 p q (by omega)]
  · rw [up_at, H10.1 _ _ (by omega)]
  · rw [up_ka _ _ (by omega)]; exact H10.2 j i h1 h2 hi h8
/-- a world taken over -/
theorem x_wotake {w : Wo} {a b : Nat} {σ : St} (hab : a + 26 ≤ b ∨ b + 26 ≤ a) (hF : okF w) (hH : okH w) (h0 : 0 < n0 w) (hc : cW w (b + 1) (b + 15) σ) (hD : cD w (b + 1) σ) (hZ : ∀ u, u < 100 → (u = 0 → σ (a + 1 + 11) u = 0 ∧ σ (a + 1 + 12) u = 0) ∧ σ (a + 1 + 13) u = 0) (F : St → Prop) (h : ∀ τ, Fr (fun p _ => a < p ∧ p ≤ a + 25) σ τ → cW w (a + 1) (a + 15) τ → cD w (a + 1) τ → F τ) : CallV hd_wo_take [rf 44 a, rf 44 b] σ F := by
  have nhh := hH.1
  have z0 := (hZ 0 (by omega)).1 rfl
  refine e_wo_take a b σ F (x_fltake (w := w) (by omega) hF h0 ⟨hc.1, hc.2.1⟩ z0.1 z0.2 _ fun τ ht cf hd => x_hitake (by omega) (fun i hi => ?_) _ fun ρ hr r8 rj => ?_)
  · rw [ht _ _ (by omega)]; exact (hD i (by omega)).2.2.2 hi
  have cf' : cF w (a + 1) ρ := cF_e hF (fun j h1 h2 => ⟨fun _ => hr _ _ (by omega), fun _ i _ _ _ _ _ => hr _ _ (by omega)⟩) cf
  refine h ρ (fun p q n => by rw [hr p q (by omega), ht p q (by omega)]) ⟨cf'.1, cf'.2, ?_, fun i hi' => ?_⟩ (fun u hu => ?_)
  · rw [r8, ht _ _ (by omega)]; exact hc.2.2.1
  · obtain ⟨g1, g2, g3, g4, g5, g6, g7, g8, g9⟩ := hc.2.2.2 i hi'
    have d4 := (hH.2.2 i hi').2.2.1
    have e : ∀ j i', 1 ≤ j → j ≤ 10 → i' < 48 → (j ≤ 8 → i' < 12) → ρ (a + 15 + j) i' = σ (b + 15 + j) i' := fun j i' q1 q2 q3 q4 => by rw [rj j i' q1 q2 q3 q4, ht _ _ (by omega)]
    refine ⟨?_, ?_, ?_, ?_, ?_, ?_, fun c => ?_, ?_, fun d hd => ⟨?_, ?_⟩⟩
    · rw [e 1 i (by omega) (by omega) (by omega) (by omega)]; exact g1
    · rw [e 2 i (by omega) (by omega) (by omega) (by omega)]; exact g2
    · rw [e 3 i (by omega) (by omega) (by omega) (by omega)]; exact g3
    · rw [e 4 i (by omega) (by omega) (by omega) (by omega)]; exact g4
    · rw [e 5 i (by omega) (by omega) (by omega) (by omega)]; exact g5
    · rw [e 6 i (by omega) (by omega) (by omega) (by omega)]; exact g6
    · rw [e 7 i (by omega) (by omega) (by omega) (by omega)]; exact g7 c
    · rw [e 8 i (by omega) (by omega) (by omega) (by omega)]; exact g8
    · rw [e 9 _ (by omega) (by omega) (by omega) (by omega)]; exact (g9 d hd).1
    · rw [e 10 _ (by omega) (by omega) (by omega) (by omega)]; exact (g9 d hd).2
  · obtain ⟨k1, k2⟩ := hd u hu
    refine ⟨?_, ?_, ?_, fun hu' => ?_⟩
    · rw [hr _ _ (by omega)]; exact k1
    · rw [hr _ _ (by omega)]; exact k2
    · rw [hr _ _ (by omega), ht _ _ (by omega)]; exact (hZ u hu).2
    · have : ρ (a + 15 + 6) u = σ (b + 15 + 6) u := by rw [rj 6 u (by omega) (by omega) (by omega) (by omega), ht _ _ (by omega)]
      show isB (ρ (a + 15 + 6) u)
      rw [this]; exact (hD u hu).2.2.2 hu'
/-! the images -/
def RI1 (k : Nat) (σ : St) : Prop := ∃ w : Wo, okF w ∧ okH w ∧ cW w (63 + 26 * k) (77 + 26 * k) σ ∧ cD w (63 + 26 * k) σ ∧ mW w (fun i => σ 138 (62 * k + i)) (fun i => σ 139 (169 * k + i)) ∧ σ 137 k = (if n4 w = 0 then 0 else 1) ∧ (n4 w = 0 ∨ σ 122 7 = 1)
def RI (σ : St) : Prop := ∀ k, k < 2 → RI1 k σ
theorem mW_cg {w : Wo} {ld nw ld' nw' : NI} (hF : okF w) (hH : okH w) (e1 : ∀ i, i < 62 → ld' i = ld i) (e2 : ∀ i, i < 169 → nw' i = nw i) (h : mW w ld nw) : mW w ld' nw' := by
  obtain ⟨⟨c1, c2, c3, c4, c5⟩, ⟨d1, d2, d3, d4, d5⟩, c6, c7⟩ := h
  have b := hF.1
  have nhh := hH.1
  refine ⟨⟨?_, ?_, ?_, ?_, ?_⟩, ⟨fun i hi => ?_, fun i hi => ?_, fun i hi => ?_, fun i hi => ?_, fun i hi => ?_⟩, ?_, fun i hi' => ?_⟩
  · rw [e1 _ (by omega)]; exact c1
  · rw [e1 _ (by omega)]; exact c2
  · rw [e1 _ (by omega)]; exact c3
  · rw [e1 _ (by omega)]; exact c4
  · rw [e1 _ (by omega)]; exact c5
  · rw [e1 _ (by omega)]; exact d1 i hi
  · rw [e1 _ (by omega)]; exact d2 i hi
  · rw [e1 _ (by omega)]; exact d3 i hi
  · rw [e1 _ (by omega)]; exact d4 i hi
  · rw [e1 _ (by omega)]; exact d5 i hi
  · rw [e2 _ (by omega)]; exact c6
  · obtain ⟨g1, g2, g3, g4, g5, g6⟩ := c7 i hi'
    have d4 := (hH.2.2 i hi').2.2.1
    refine ⟨?_, ?_, ?_, ?_, fun c => ⟨?_, ?_⟩, fun d hd => ⟨?_, ?_⟩⟩
    · rw [e2 _ (by omega)]; exact g1
    · rw [e2 _ (by omega)]; exact g2
    · rw [e2 _ (by omega)]; exact g3
    · rw [e2 _ (by omega)]; exact g4
    · rw [e2 _ (by omega)]; exact (g5 c).1
    · rw [e2 _ (by omega)]; exact (g5 c).2
    · rw [e2 _ (by omega)]; exact (g6 d hd).1
    · rw [e2 _ (by omega)]; exact (g6 d hd).2
theorem cW_e2 {w : Wo} {f h : Nat} {σ τ : St} (e : ∀ p q, (f ≤ p ∧ p ≤ f + 10) ∨ (h ≤ p ∧ p ≤ h + 10) → τ p q = σ p q) (hc : cW w f h σ) : cW w f h τ := by
  obtain ⟨⟨c1, c2, c3, c4, c5⟩, ⟨d1, d2, d3, d4, d5⟩, c6, c7⟩ := hc
  refine ⟨⟨?_, ?_, ?_, ?_, ?_⟩, ⟨fun i hi => ?_, fun i hi => ?_, fun i hi => ?_, fun i hi => ?_, fun i hi => ?_⟩, ?_, fun i hi' => ?_⟩
  · rw [e _ _ (by omega)]; exact c1
  · rw [e _ _ (by omega)]; exact c2
  · rw [e _ _ (by omega)]; exact c3
  · rw [e _ _ (by omega)]; exact c4
  · rw [e _ _ (by omega)]; exact c5
  · rw [e _ _ (by omega)]; exact d1 i hi
  · rw [e _ _ (by omega)]; exact d2 i hi
  · rw [e _ _ (by omega)]; exact d3 i hi
  · rw [e _ _ (by omega)]; exact d4 i hi
  · rw [e _ _ (by omega)]; exact d5 i hi
  · rw [e _ _ (by omega)]; exact c6
  · obtain ⟨g1, g2, g3, g4, g5, g6, g7, g8, g9⟩ := c7 i hi'
    refine ⟨?_, ?_, ?_, ?_, ?_, ?_, fun c => ?_, ?_, fun d hd => ⟨?_, ?_⟩⟩
    · rw [e _ _ (by omega)]; exact g1
    · rw [e _ _ (by omega)]; exact g2
    · rw [e _ _ (by omega)]; exact g3
    · rw [e _ _ (by omega)]; exact g4
    · rw [e _ _ (by omega)]; exact g5
    · rw [e _ _ (by omega)]; exact g6
    · rw [e _ _ (by omega)]; exact g7 c
    · rw [e _ _ (by omega)]; exact g8
    · rw [e _ _ (by omega)]; exact (g9 d hd).1
    · rw [e _ _ (by omega)]; exact (g9 d hd).2
theorem RI1_e {k : Nat} {σ τ : St} (e : ∀ p q, (62 + 26 * k ≤ p ∧ p ≤ 87 + 26 * k) ∨ (p = 137 ∧ q = k) ∨ (p = 138 ∧ 62 * k ≤ q ∧ q < 62 * k + 62) ∨ (p = 139 ∧ 169 * k ≤ q ∧ q < 169 * k + 169) → τ p q = σ p q) (e7 : σ 122 7 = 1 → τ 122 7 = 1) (h : RI1 k σ) : RI1 k τ := by
  obtain ⟨w, hF, hH, hc, hd, hm, h7, h8⟩ := h
  refine ⟨w, hF, hH, cW_e2 (fun p q n => e p q (by omega)) hc, fun u hu => ?_, mW_cg hF hH (fun i hi => e _ _ (by omega)) (fun i hi => e _ _ (by omega)) hm, by rw [e _ _ (by omega)]; exact h7, h8.imp id e7⟩
  rw [e _ _ (by omega), e _ _ (by omega), e _ _ (by omega), e _ _ (by omega)]; exact hd u hu
def PI (a b : Nat) : Prop := (62 ≤ a ∧ a ≤ 113) ∨ (137 ≤ a ∧ a ≤ 139) ∨ (a = 122 ∧ b = 0)
def KI (σ : St) (G : Int32 → Int32 → St → Prop) : Prop := ∀ (r : Int32) (τ : St), Fr PI σ τ → RI τ → G r r τ
theorem RI_z {σ : St} (h : RI σ) : RI (up σ 122 0 0) := fun k hk => RI1_e (fun p q n => by rw [up_ka _ _ (by omega)]) (fun q => by rw [up_jb _ _ (by omega)]; exact q) (h k hk)
theorem fr0I {σ : St} : Fr PI σ (up σ 122 0 0) := Fr.rf.up (Or.inr (Or.inr ⟨rfl, rfl⟩))
theorem r_image (a1 : Int32) (σ : St) (G : Int32 → Int32 → St → Prop) (hR : RW σ) (hI : RI σ) (k : KI σ G) :
    CallI hd_x_image [rf 54 0, iv a1] σ (fun r σ1 => CallI hd_m_image [rf 55 122, iv a1] σ1 (fun r' σ2 => G r r' σ2)) := by
  obtain ⟨w, hF, hH, hc, hcd, hm, hmd, h7⟩ := hR
  have kz : ∀ r, G r r (up σ 122 0 0) := fun r => k r _ fr0I (RI_z hI)
  refine e_x_image a1 σ _ (gx_below 2 (by decide) (fun j hj e => on' ?_) (fun c => of' (e_m_image _ _ _ (gm_in0 (by rw [i2l, tl_0, tl_1]; omega) (of' (kz _))))))
  subst e
  have bb : (0 : Int64).toInt ≤ (nI j).toInt64.toInt ∧ (nI j).toInt64.toInt ≤ (1 : Int64).toInt := by rw [i2l, tl_0, tl_1, ti_nI (by omega)]; omega
  have vj : vp_in (nI j) 2 := vin0 j rfl hj (by decide)
  refine gx_there hc hF (fun h4 => on' ⟨vj, ?_⟩) (fun h4 => of' (e_m_image _ _ _ (gm_in1 bb (on' ?_))))
  rotate_left
  · rw [mt0 h7 h4]; exact of' (kz _)
  have h0 := (hF.1.2.2.2.2.2 h4).1
  rw [nI_clamp (by omega)]
  obtain ⟨wi', iF, iH, ic, id', im, i7, i8⟩ := hI j hj
  refine x_wotake (w := w) (a := 62 + 26 * j) (b := 35) (by omega) hF hH h0 hc hcd (fun u hu => ?_) _ fun τ ht tc td => ?_
  · obtain ⟨q1, q2, q3, q4⟩ := id' u hu
    rw [show 62 + 26 * j + 1 + 11 = 63 + 26 * j + 11 by omega, show 62 + 26 * j + 1 + 12 = 63 + 26 * j + 12 by omega, show 62 + 26 * j + 1 + 13 = 63 + 26 * j + 13 by omega]
    exact ⟨fun e => by subst e; exact ⟨q1, q2⟩, q3⟩
  have f7 : τ 122 7 = (if n4 w = 0 then 0 else 1) := by rw [ht _ _ (by omega)]; exact h7
  -- the reference copies its rows
  have e62 : ∀ i : Nat, (62 : Int32) * nI j + nI i = nI (62 * j + i) := fun i => by rw [show (62 : Int32) = nI 62 from rfl, mulN, nI_add]
  have e169 : ∀ i : Nat, (169 : Int32) * nI j + nI i = nI (169 * j + i) := fun i => by rw [show (169 : Int32) = nI 169 from rfl, mulN, nI_add]
  let P : Nat → Nat → Prop := fun p q => (p = 138 ∧ 62 * j ≤ q ∧ q < 62 * j + 62) ∨ (p = 139 ∧ 169 * j ≤ q ∧ q < 169 * j + 169)
  have l2 : ∀ m i, i + m = 169 → ∀ ρ, Fr P (up τ 122 0 0) ρ → (∀ q, q < 62 → ρ 138 (62 * j + q) = σ 126 q) → (∀ q, q < i → ρ 139 (169 * j + q) = σ 128 q) → At hd_m_image X0 61 [some (rf 55 122), some (iv (nI j)), some (iv (nI i))] [] ρ (retI (fun r' σ2 => G 1 r' σ2)) := by
    intro m
    induction m with
    | zero =>
      intro i hi ρ hr k1 k2
      have : i = 169 := by omega
      subst this
      refine l_m_image_61 _ _ _ _ ⟨fun _ => ⟨vj, ?_⟩, fun q => absurd (by decide) q⟩
      rw [nI_clamp (by omega), show vp_nar .boolean (1 : Int32) = 1 by decide]
      have fr : ∀ p q, ¬ PI p q → up ρ 137 j 1 p q = σ p q := fun p q n => by
        unfold PI at n
        rw [up_ka _ _ (by omega), hr p q (by show ¬ (_ ∨ _); omega), up_o _ _ (by omega), ht p q (by omega)]
      refine k 1 _ fr fun k' hk' => ?_
      by_cases c : k' = j
      · subst c
        refine ⟨w, hF, hH, ?_, ?_, ?_, ?_, Or.inr ?_⟩
        · have : cW w (63 + 26 * k') (77 + 26 * k') τ := by
            rw [show 62 + 26 * k' + 1 = 63 + 26 * k' by omega, show 62 + 26 * k' + 15 = 77 + 26 * k' by omega] at tc; exact tc
          exact cW_e2 (fun p q n => by rw [up_ka _ _ (by omega), hr p q (by show ¬ (_ ∨ _); omega), up_ka _ _ (by omega)]) this
        · intro u hu
          rw [show 62 + 26 * k' + 1 = 63 + 26 * k' by omega] at td
          have e : ∀ p q, 63 + 26 * k' ≤ p → p ≤ 87 + 26 * k' → up ρ 137 k' 1 p q = τ p q := fun p q n1 n2 => by rw [up_ka _ _ (by omega), hr p q (by show ¬ (_ ∨ _); omega), up_ka _ _ (by omega)]
          rw [e _ _ (by omega) (by omega), e _ _ (by omega) (by omega), e _ _ (by omega) (by omega), e _ _ (by omega) (by omega)]
          exact td u hu
        · exact mW_cg hF hH (fun i hi => by rw [up_ka _ _ (by omega)]; exact k1 i hi) (fun i hi => by rw [up_ka _ _ (by omega)]; exact k2 i hi) hm
        · rw [up_at, if_neg (by omega)]
        · rw [up_ka _ _ (by omega), hr 122 7 (by show ¬ (_ ∨ _); omega), up_jb _ _ (by omega), f7, if_neg (by omega)]
      · refine RI1_e (fun p q n => ?_) (fun _ => ?_) (hI k' hk')
        rotate_left
        · rw [up_ka _ _ (by omega), hr 122 7 (by show ¬ (_ ∨ _); omega), up_jb _ _ (by omega), f7, if_neg (by omega)]
        by_cases e137 : p = 137
        · subst e137
          rw [up_jb _ _ (by omega), hr 137 q (by show ¬ (_ ∨ _); omega), up_ka _ _ (by omega), ht 137 q (by omega)]
        · rw [up_ka _ _ e137, hr p q (by show ¬ (_ ∨ _); omega), up_ka _ _ (by omega), ht p q (by omega)]
    | succ m ih =>
      intro i hi ρ hr k1 k2
      refine l_m_image_61 _ _ _ _ ⟨fun q => ?_, fun _ => ⟨vin0 i rfl (by omega) (by decide), vin0 _ (e169 i) (by omega) (by decide), ?_⟩⟩
      · exfalso; rw [fa_le, ti_nI (by omega), t_169] at q; omega
      rw [e169, nI_clamp (by omega), nI_clamp (by omega), nI_1]
      refine ih (i + 1) (by omega) _ (hr.up (Or.inr ⟨rfl, by omega, by omega⟩)) (fun q hq => by rw [up_ka _ _ (by omega)]; exact k1 q hq) (fun q hq => ?_)
      by_cases c : q = i
      · subst c; rw [up_at, hr 128 q (by show ¬ (_ ∨ _); omega), up_ka _ _ (by omega), ht 128 q (by omega)]
      · rw [up_jb _ _ (by omega)]; exact k2 q (by omega)
  have l1 : ∀ m i, i + m = 62 → ∀ ρ, Fr P (up τ 122 0 0) ρ → (∀ q, q < i → ρ 138 (62 * j + q) = σ 126 q) → At hd_m_image X0 30 [some (rf 55 122), some (iv (nI j)), some (iv (nI i))] [] ρ (retI (fun r' σ2 => G 1 r' σ2)) := by
    intro m
    induction m with
    | zero =>
      intro i hi ρ hr k1
      have : i = 62 := by omega
      subst this
      exact l_m_image_30 _ _ _ _ ⟨fun _ => l2 169 0 (by omega) ρ hr k1 (fun q hq => by omega), fun q => absurd (by decide) q⟩
    | succ m ih =>
      intro i hi ρ hr k1
      refine l_m_image_30 _ _ _ _ ⟨fun q => ?_, fun _ => ⟨vin0 i rfl (by omega) (by decide), vin0 _ (e62 i) (by omega) (by decide), ?_⟩⟩
      · exfalso; rw [fa_le, ti_nI (by omega), t_62] at q; omega
      rw [e62, nI_clamp (by omega), nI_clamp (by omega), nI_1]
      refine ih (i + 1) (by omega) _ (hr.up (Or.inl ⟨rfl, by omega, by omega⟩)) (fun q hq => ?_)
      by_cases c : q = i
      · subst c; rw [up_at, hr 126 q (by show ¬ (_ ∨ _); omega), up_ka _ _ (by omega), ht 126 q (by omega)]
      · rw [up_jb _ _ (by omega)]; exact k1 q (by omega)
  refine e_m_image _ _ _ (gm_in1 bb (on' ?_))
  rw [mt1 f7 h4]
  exact on' (l1 62 0 (by omega) _ Fr.rf (fun q hq => by omega))
theorem r_restore (a1 : Int32) (σ : St) (G : Int32 → Int32 → St → Prop) (hR : RW σ) (hI : RI σ) (k : KW σ G) :
    CallI hd_x_restore [rf 54 0, iv a1] σ (fun r σ1 => CallI hd_m_restore [rf 55 122, iv a1] σ1 (fun r' σ2 => G r r' σ2)) := by
  have kz : ∀ r, G r r (up σ 122 0 0) := fun r => k r _ (sc_pw fr0) (RW_fr fr0 hR)
  refine e_x_restore a1 σ _ (gx_below 2 (by decide) (fun j hj e => on' ?_) (fun c => of' (e_m_restore _ _ _ (gm_in0 (by rw [i2l, tl_0, tl_1]; omega) (of' (kz _))))))
  subst e
  have bb : (0 : Int64).toInt ≤ (nI j).toInt64.toInt ∧ (nI j).toInt64.toInt ≤ (1 : Int64).toInt := by rw [i2l, tl_0, tl_1, ti_nI (by omega)]; omega
  have vj : vp_in (nI j) 2 := vin0 j rfl hj (by decide)
  obtain ⟨wo, oF, oH, oc, ocd, om, omd, o7⟩ := hR
  obtain ⟨w, hF, hH, hc, hcd, hm, h7, h8⟩ := hI j hj
  have n4b := hF.1.2.2.2.2.1
  refine ⟨vj, ?_⟩
  rw [nI_clamp (by omega)]
  refine q_wo_isThere _ _ _ ?_
  unfold p_wo_isThere
  rw [show σ (62 + 26 * j + 1 + 9) 2 = nI (n4 w) by rw [show 62 + 26 * j + 1 + 9 = 63 + 26 * j + 9 by omega]; exact hc.1.2.2.2.2]
  have cc : nI (n4 w) ≤ 0 ↔ n4 w ≤ 0 := nI_leI (a := n4 w) (b := 0) (by omega) (by omega)
  by_cases h4 : n4 w ≤ 0
  · rw [if_pos (cc.mpr h4)]
    refine of' (e_m_restore _ _ _ (gm_in1 bb (on' ⟨vj, ?_⟩)))
    rw [nI_clamp (by omega), up_ka _ _ (by omega), h7, if_pos (by omega)]
    exact of' (kz _)
  rw [if_neg (fun q => h4 (cc.mp q))]
  have h0 := (hF.1.2.2.2.2.2 (by omega)).1
  refine on' ⟨vj, x_wotake (w := w) (a := 35) (b := 62 + 26 * j) (by omega) hF hH h0 ?_ ?_ (fun u hu => ?_) _ fun τ ht tc td => ?_⟩
  · rw [show 62 + 26 * j + 1 = 63 + 26 * j by omega, show 62 + 26 * j + 15 = 77 + 26 * j by omega]; exact hc
  · rw [show 62 + 26 * j + 1 = 63 + 26 * j by omega]; exact hcd
  · obtain ⟨q1, q2, q3, q4⟩ := ocd u hu
    exact ⟨fun e => by subst e; exact ⟨q1, q2⟩, q3⟩
  have e62 : ∀ i : Nat, (62 : Int32) * nI j + nI i = nI (62 * j + i) := fun i => by rw [show (62 : Int32) = nI 62 from rfl, mulN, nI_add]
  have e169 : ∀ i : Nat, (169 : Int32) * nI j + nI i = nI (169 * j + i) := fun i => by rw [show (169 : Int32) = nI 169 from rfl, mulN, nI_add]
  let P : Nat → Nat → Prop := fun p _ => p = 126 ∨ p = 128
  have l2 : ∀ m i, i + m = 169 → ∀ ρ, Fr P (up τ 122 0 0) ρ → (∀ q, q < 62 → ρ 126 q = σ 138 (62 * j + q)) → (∀ q, q < i → ρ 128 q = σ 139 (169 * j + q)) → At hd_m_restore X0 63 [some (rf 55 122), some (iv (nI j)), some (iv (nI i))] [] ρ (retI (fun r' σ2 => G 1 r' σ2)) := by
    intro m
    induction m with
    | zero =>
      intro i hi ρ hr k1 k2
      have : i = 169 := by omega
      subst this
      have mw : mW w (ρ 126) (ρ 128) := mW_cg hF hH (fun i hi => k1 i hi) (fun i hi => k2 i hi) hm
      have z := omd 0 (by omega)
      have r130 : ∀ q, ρ 130 q = σ 130 q := fun q => by rw [hr 130 q (by show ¬ (_ ∨ _); omega), up_ka _ _ (by omega), ht 130 q (by omega)]
      have r131 : ∀ q, ρ 131 q = σ 131 q := fun q => by rw [hr 131 q (by show ¬ (_ ∨ _); omega), up_ka _ _ (by omega), ht 131 q (by omega)]
      refine l_m_restore_63 _ _ _ _ ⟨fun _ => m_lay mw.1.1 mw.2.1.1 hF h0 (by rw [r130]; exact z.1) (by rw [r131]; exact z.2) _ fun κ hκ hd => ?_, fun q => absurd (by decide) q⟩
      have ek : ∀ p q, ¬ (p = 126 ∨ p = 128 ∨ p = 130 ∨ p = 131 ∨ (p = 122 ∧ q = 0)) → κ p q = τ p q := fun p q n => by
        rw [hκ p q (by omega), hr p q (by show ¬ (_ ∨ _); omega), up_o _ _ (by omega)]
      refine k 1 κ (fun p q n => ?_) ?_
      · unfold PW SC MS at n
        rw [ek p q (by omega), ht p q (by omega)]
      · refine RW_of hF hH (cW_frm (fun p q n1 n2 => ek p q (by omega)) tc) (fun u hu => ?_) ?_ hd ?_
        · rw [ek _ _ (by omega), ek _ _ (by omega), ek _ _ (by omega), ek _ _ (by omega)]; exact td u hu
        · have e1 : κ 126 = ρ 126 := funext fun q => hκ 126 q (by omega)
          have e2 : κ 128 = ρ 128 := funext fun q => hκ 128 q (by omega)
          rw [e1, e2]; exact mw
        · rw [ek _ _ (by omega), ht _ _ (by omega), if_neg (by omega)]
          rcases h8 with z | z
          · omega
          · exact z
    | succ m ih =>
      intro i hi ρ hr k1 k2
      refine l_m_restore_63 _ _ _ _ ⟨fun q => ?_, fun _ => ⟨vin0 _ (e169 i) (by omega) (by decide), vin0 i rfl (by omega) (by decide), ?_⟩⟩
      · exfalso; rw [fa_le, ti_nI (by omega), t_169] at q; omega
      rw [e169, nI_clamp (by omega), nI_clamp (by omega), nI_1]
      refine ih (i + 1) (by omega) _ (hr.up (Or.inr rfl)) (fun q hq => by rw [up_ka _ _ (by omega)]; exact k1 q hq) (fun q hq => ?_)
      by_cases c : q = i
      · subst c; rw [up_at, hr 139 _ (by show ¬ (_ ∨ _); omega), up_ka _ _ (by omega), ht 139 _ (by omega)]
      · rw [up_jb _ _ (by omega)]; exact k2 q (by omega)
  have l1 : ∀ m i, i + m = 62 → ∀ ρ, Fr P (up τ 122 0 0) ρ → (∀ q, q < i → ρ 126 q = σ 138 (62 * j + q)) → At hd_m_restore X0 32 [some (rf 55 122), some (iv (nI j)), some (iv (nI i))] [] ρ (retI (fun r' σ2 => G 1 r' σ2)) := by
    intro m
    induction m with
    | zero =>
      intro i hi ρ hr k1
      have : i = 62 := by omega
      subst this
      exact l_m_restore_32 _ _ _ _ ⟨fun _ => l2 169 0 (by omega) ρ hr k1 (fun q hq => by omega), fun q => absurd (by decide) q⟩
    | succ m ih =>
      intro i hi ρ hr k1
      refine l_m_restore_32 _ _ _ _ ⟨fun q => ?_, fun _ => ⟨vin0 _ (e62 i) (by omega) (by decide), vin0 i rfl (by omega) (by decide), ?_⟩⟩
      · exfalso; rw [fa_le, ti_nI (by omega), t_62] at q; omega
      rw [e62, nI_clamp (by omega), nI_clamp (by omega), nI_1]
      refine ih (i + 1) (by omega) _ (hr.up (Or.inl rfl)) (fun q hq => ?_)
      by_cases c : q = i
      · subst c; rw [up_at, hr 138 _ (by show ¬ (_ ∨ _); omega), up_ka _ _ (by omega), ht 138 _ (by omega)]
      · rw [up_jb _ _ (by omega)]; exact k1 q (by omega)
  refine e_m_restore _ _ _ (gm_in1 bb (on' ⟨vj, ?_⟩))
  rw [nI_clamp (by omega), up_ka _ _ (by omega), ht _ _ (by omega), h7, if_neg (by omega)]
  exact on' (l1 62 0 (by omega) _ Fr.rf (fun q hq => by omega))
