/-! floors -/
def ckw (T : Nat → Nat) (y : Nat) (s : Tk × Fl) : PR1 := if wB T s.1 y then .inr s else .inl (1, s.1.1)
theorem chk_req {T : Nat → Nat} {N y : Nat} {s : Tk × Fl} : bd (ckw T y s) (lns T N y 5) = req T N y s := by
  unfold ckw req
  by_cases c : wB T s.1 y = true
  · rw [if_pos c, if_pos c]; rfl
  · rw [if_neg c, if_neg c]; rfl
theorem m_chk {T : Nat → Nat} {N : Nat} (hT : okT2 N T) {y : Nat} (hy : y < 5) {c : Int64} (hc : c.toInt = wk y) {r0 : PR1} {σ : St} (hs : mS T N r0 σ) (L : St → Prop) (hL : ∀ τ, Fr PRm σ τ → mS T N (bd r0 (ckw T y)) τ → L τ) : CallJ hd_m_word [rf 55 122] σ (fun r σ2 => (lg_cmp r c = 0 → L σ2) ∧ (¬ lg_cmp r c = 0 → CallV hd_m_bad [rf 55 122, iv 1] σ2 (fun σ4 => L σ4))) := by
  cases r0 with
  | inl e =>
    have hE : mE T N e σ := hs
    obtain ⟨t, o1, o2⟩ := hE.2.2.2.2
    exact m_word hT hE.1.1 o1 o2 _ ⟨fun q => absurd q (mE_n hE), fun _ => ⟨fun q => absurd q (lg_w0 (by omega) hc), fun _ => m_badD (mE_n hE) (hL σ Fr.rf hs)⟩⟩
  | inr s =>
    have hM : mL T N s σ := hs
    obtain ⟨l1, h0, ht, hm, hfl, hr⟩ := hM
    refine m_word hT l1.1 ht hm _ ⟨fun _ => ?_, fun q => absurd h0 q⟩
    rw [lg_wk hT ht (by omega) hc]
    have e : bd (.inr s) (ckw T y) = ckw T y s := rfl
    rw [e] at hL
    unfold ckw at hL
    refine ⟨fun q => ?_, fun q => ?_⟩
    · rw [if_pos q] at hL; exact hL σ Fr.rf hs
    · rw [if_neg q] at hL
      obtain ⟨k1, k2⟩ := bdU_E (k := 1) (by omega) l1 ht hm
      exact m_badL (k := 1) h0 (hL _ k2 k1)
theorem m_loop {T : Nat → Nat} {N : Nat} (hT : okT2 N T) {y : Nat} (hy : y < 5) {c : Int64} (hc : c.toInt = wk y) (rd : HD) (L EXIT : St → Prop)
    (hl : ∀ σ, CallJ hd_m_word [rf 55 122] σ (fun r σ1 => (¬ lg_cmp r c = 0 → EXIT σ1) ∧ (lg_cmp r c = 0 → CallV rd [rf 55 122] σ1 (fun σ6 => L σ6))) → L σ)
    (hrd : ∀ s σ F, mL T N s σ → wB T s.1 y = true → (∀ τ, Fr PRm σ τ → mS T N (lin T N y s) τ → F τ) → CallV rd [rf 55 122] σ F) :
    ∀ f r σ, (∀ s, r = .inr s → s.2.1 y + f = 5) → mS T N r σ → (∀ τ, Fr PRm σ τ → mS T N (bd r (lns T N y f)) τ → EXIT τ) → L σ := by
  have dead : ∀ e σ, mE T N e σ → (∀ τ, Fr PRm σ τ → mE T N e τ → EXIT τ) → L σ := fun e σ hE hX => by
    obtain ⟨t, o1, o2⟩ := hE.2.2.2.2
    exact hl σ (m_word hT hE.1.1 o1 o2 _ ⟨fun q => absurd q (mE_n hE), fun _ => ⟨fun _ => hX σ Fr.rf hE, fun q => absurd q (lg_w0 (by omega) hc)⟩⟩)
  intro f
  induction f with
  | zero =>
    intro r σ hcnt hs hX
    cases r with
    | inl e => exact dead e σ hs hX
    | inr s =>
      have hM : mL T N s σ := hs
      have := hM.2.2.2.2.2.1.1 y hy
      have := hcnt s rfl
      omega
  | succ f ih =>
    intro r σ hcnt hs hX
    cases r with
    | inl e => exact dead e σ hs hX
    | inr s =>
      have hM : mL T N s σ := hs
      have ⟨l1, h0, ht, hm, hfl, hr⟩ := hM
      refine hl σ (m_word hT l1.1 ht hm _ ⟨fun _ => ?_, fun q => absurd h0 q⟩)
      rw [lg_wk hT ht (by omega) hc]
      refine ⟨fun q => hX σ Fr.rf ?_, fun q => hrd s σ _ hM q fun τ hτ hS => ?_⟩
      · have : bd (.inr s) (lns T N y (f + 1)) = .inr s := by show lns T N y (f + 1) s = _; simp only [lns]; rw [if_neg q]
        rw [this]; exact hs
      · refine ih (lin T N y s) τ (fun s1 e1 => ?_) hS (fun ρ hρ hS2 => hX ρ (hτ.tr hρ) ?_)
        · have := (lin_ok hy hr.1 e1).2
          have e2 : s1.2.1 y = s.2.1 y + 1 := by rw [this]; simp
          have := hcnt s rfl
          omega
        · have : bd (.inr s) (lns T N y (f + 1)) = bd (lin T N y s) (lns T N y f) := by
            show lns T N y (f + 1) s = _
            simp only [lns]; rw [if_pos q]
            cases lin T N y s <;> rfl
          rw [this]; exact hS2
theorem prs_ok {T : Nat → Nat} {N : Nat} {s : Tk × Fl} (e : prs T N = .inr s) : rmOk s.2 ∧ 1 ≤ s.2.1 0 ∧ 1 ≤ s.2.1 1 ∧ 1 ≤ s.2.1 4 := by
  unfold prs at e
  cases h1 : rq2 T N 0 1 (tok T N 0, fl0) with
  | inl q => rw [h1] at e; simp [bd] at e
  | inr s1 =>
  rw [h1] at e
  have e : bd (bd (bd (bd (rq2 T N 1 1 s1) (rq2 T N 2 0)) (crk T N)) (rq2 T N 4 1)) fin = .inr s := e
  obtain ⟨o1, n1', z1⟩ := rq_ok (by omega) fl0_ok h1
  cases h2 : rq2 T N 1 1 s1 with
  | inl q => rw [h2] at e; simp [bd] at e
  | inr s2 =>
  rw [h2] at e
  have e : bd (bd (bd (rq2 T N 2 0 s2) (crk T N)) (rq2 T N 4 1)) fin = .inr s := e
  obtain ⟨o2, n2', z2⟩ := rq_ok (by omega) o1 h2
  cases h3 : rq2 T N 2 0 s2 with
  | inl q => rw [h3] at e; simp [bd] at e
  | inr s3 =>
  rw [h3] at e
  have e : bd (bd (crk T N s3) (rq2 T N 4 1)) fin = .inr s := e
  obtain ⟨o3, n3', z3⟩ := rq_ok (by omega) o2 h3
  cases h4 : crk T N s3 with
  | inl q => rw [h4] at e; simp [bd] at e
  | inr s4 =>
  rw [h4] at e
  have e : bd (rq2 T N 4 1 s4) fin = .inr s := e
  obtain ⟨o4, z4, m4⟩ := crk_ok o3 h4
  cases h5 : rq2 T N 4 1 s4 with
  | inl q => rw [h5] at e; simp [bd] at e
  | inr s5 =>
  rw [h5] at e
  have e : fin s5 = .inr s := e
  obtain ⟨o5, n5', z5⟩ := rq_ok (by omega) o4 h5
  unfold fin at e
  split at e
  · injection e with e
    subst e
    refine ⟨⟨o5, ?_⟩, ?_, ?_, n5'⟩
    · rw [z5 3 (by omega)]
      have : s3.2.1 3 = 0 := by rw [z3 3 (by omega), z2 3 (by omega), z1 3 (by omega)]; rfl
      omega
    · rw [z5 0 (by omega), z4 0 (by omega), z3 0 (by omega), z2 0 (by omega)]; exact n1'
    · rw [z5 1 (by omega), z4 1 (by omega), z3 1 (by omega)]; exact n2'
  · simp at e
def PF1 (a b : Nat) : Prop := PRm a b ∨ (a = 122 ∧ (b = 0 ∨ b = 10 ∨ b = 12))
theorem m_pars {T : Nat → Nat} {N : Nat} {σ : St} (hT : okT2 N T) (hx : tM N T σ) (h10 : σ 122 10 = nI N) (F : Int32 → St → Prop) (hF : ∀ v τ, Fr PF1 σ τ → τ 122 10 = 0 → mS T N (prs T N) τ → At hd_m_floor X0 208 [some (rf 55 122), some (iv v)] [] τ (retI F)) : CallI hd_m_floor [rf 55 122] σ F := by
  have k0 : (439905906546 : Int64).toInt = wk 0 := by rw [wk_v.1]; rfl
  have k1 : (1718186597 : Int64).toInt = wk 1 := by rw [wk_v.2.1]; rfl
  have k2 : (448546567013 : Int64).toInt = wk 2 := by rw [wk_v.2.2.1]; rfl
  have k3 : (427120747371 : Int64).toInt = wk 3 := by rw [wk_v.2.2.2.1]; rfl
  have k4 : (495874699897 : Int64).toInt = wk 4 := by rw [wk_v.2.2.2.2.1]; rfl
  refine e_m_floor _ _ ?_
  generalize hμ : up (up (up (up (up σ 122 0 0) 122 12 ((up σ 122 0 0) 122 10)) 122 10 0) 122 13 0) 122 18 0 = μ
  have fμ : Fr PF1 σ μ := by
    rw [← hμ]
    exact ((((Fr.rf.up (Or.inr ⟨rfl, Or.inl rfl⟩)).up (Or.inr ⟨rfl, Or.inr (Or.inr rfl)⟩)).up (Or.inr ⟨rfl, Or.inr (Or.inl rfl)⟩)).up (Or.inl (Or.inl ⟨rfl, by omega, by omega⟩))).up (Or.inl (Or.inl ⟨rfl, by omega, by omega⟩))
  have μ12 : μ 122 12 = nI N := by rw [← hμ, up_jb _ _ (by omega), up_jb _ _ (by omega), up_jb _ _ (by omega), up_at, up_jb _ _ (by omega)]; exact h10
  have μ10 : μ 122 10 = 0 := by rw [← hμ, up_jb _ _ (by omega), up_jb _ _ (by omega), up_at]
  have μ13 : μ 122 13 = nI 0 := by rw [← hμ, up_jb _ _ (by omega), up_at]; rfl
  have μ18 : μ 122 18 = 0 := by rw [← hμ, up_at]
  have rmf : ∀ {τ ρ : St}, Fr PF1 σ τ → Fr PRm τ ρ → Fr PF1 σ ρ := fun h k => h.tr (k.mn fun _ _ q => Or.inl q)
  have rm10 : ∀ {τ ρ : St}, Fr PRm τ ρ → τ 122 10 = 0 → ρ 122 10 = 0 := fun {τ ρ} k z => by rw [k _ _ (by unfold PRm; omega)]; exact z
  -- the steps in their order
  have l30 : ∀ m i, i + m = 62 → ∀ τ, Fr (fun a _ => a = 127) μ τ → (∀ j, j < i → τ 127 j = 0) → At hd_m_floor X0 30 [some (rf 55 122), some (iv (nI i))] [] τ (retI F) := by
    intro m
    induction m with
    | succ m ih =>
      intro i hi τ ht hz
      refine l_m_floor_30 _ _ _ ⟨fun q => ?_, fun _ => ⟨vin0 i rfl (by omega) (by decide), ?_⟩⟩
      · exfalso; rw [fa_le, ti_nI (by omega), t_62] at q; omega
      rw [nI_clamp (by omega), nI_1]
      refine ih (i + 1) (by omega) _ (ht.up rfl) (fun j hj => ?_)
      by_cases e : j = i
      · subst e; rw [up_at]
      · rw [up_jb _ _ e]; exact hz j (by omega)
    | zero =>
      intro i hi τ ht hz
      have : i = 62 := by omega
      subst this
      have fτ : Fr PF1 σ τ := fμ.tr (ht.mn fun a b q => Or.inl (Or.inr q))
      have Lτ : tL N T τ := ⟨fun i hi => by rw [fτ _ _ (by unfold PF1 PRm; omega)]; exact hx i hi, by rw [ht _ _ (by omega)]; exact μ12⟩
      refine l_m_floor_30 _ _ _ ⟨fun _ => m_next hT Lτ (p := 0) (by omega) (by rw [ht _ _ (by omega)]; exact μ13) _ fun ρ hρ hk => ?_, fun q => absurd (by decide) q⟩
      have fρ := rmf fτ (lm_rm hρ)
      have z10 : ρ 122 10 = 0 := rm10 (lm_rm hρ) (by rw [ht _ _ (by omega)]; exact μ10)
      have s0 : mS T N (.inr (tok T N 0, fl0)) ρ := by
        refine ⟨tL_fr hρ Lτ, ?_, tok_ok (by omega), hk, fun y hy => ⟨?_, fun i hi => absurd hi (by show ¬ i < ncl y * 0; omega)⟩, fl0_ok, by show 0 ≤ 1; omega⟩
        · rw [hρ _ _ (by unfold PLm; omega), ht _ _ (by omega)]; exact μ18
        · rw [hρ _ _ (by unfold PLm; omega), hz y (by omega)]; rfl
      -- floors
      refine m_chk hT (y := 0) (by omega) k0 s0 (fun τ => At hd_m_floor X0 69 [some (rf 55 122), some (iv (nI 62))] [] τ (retI F)) fun τ1 f1 r1 => ?_
      refine m_loop hT (y := 0) (by omega) k0 hd_m_readFloor (fun τ => At hd_m_floor X0 69 [some (rf 55 122), some (iv (nI 62))] [] τ (retI F)) _ (fun σ h => l_m_floor_69 _ _ _ h) (fun s σ F hs hw hF => m_readFloor hT hs hw F hF) 5 _ τ1 (fun s e => ?_) r1 fun τ2 f2 r2 => ?_
      · have e : ckw T 0 (tok T N 0, fl0) = .inr s := e
        unfold ckw at e
        split at e
        · injection e with e; subst e; rfl
        · simp at e
      have e2 : bd (bd (.inr (tok T N 0, fl0)) (ckw T 0)) (lns T N 0 5) = rq2 T N 0 1 (tok T N 0, fl0) := by
        show bd (ckw T 0 _) _ = _
        rw [chk_req, rq_req (by omega) fl0_ok rfl]
      rw [e2] at r2
      have F2 := rmf (rmf fρ f1) f2
      have Z2 := rm10 f2 (rm10 f1 z10)
      generalize hR1 : rq2 T N 0 1 (tok T N 0, fl0) = R1 at r2
      have g1 : ∀ s, R1 = .inr s → flOk s.2 ∧ (∀ z, z ≠ 0 → s.2.1 z = 0) := fun s e => by
        rw [e] at hR1
        obtain ⟨q1, -, q3⟩ := rq_ok (by omega) fl0_ok hR1
        exact ⟨q1, fun z hz => q3 z hz⟩
      -- fires
      refine m_chk hT (y := 1) (by omega) k1 r2 (fun τ => At hd_m_floor X0 103 [some (rf 55 122), some (iv (nI 62))] [] τ (retI F)) fun τ3 f3 r3 => ?_
      refine m_loop hT (y := 1) (by omega) k1 hd_m_readFire (fun τ => At hd_m_floor X0 103 [some (rf 55 122), some (iv (nI 62))] [] τ (retI F)) _ (fun σ h => l_m_floor_103 _ _ _ h) (fun s σ F hs hw hF => m_readFire hT hs hw F hF) 5 _ τ3 (fun s e => ?_) r3 fun τ4 f4 r4 => ?_
      · cases R1 with
        | inl q => simp [bd] at e
        | inr s1 =>
          have e : ckw T 1 s1 = .inr s := e
          unfold ckw at e
          split at e
          · injection e with e; subst e; rw [(g1 s1 rfl).2 1 (by omega)]
          · simp at e
      have e4 : bd (bd R1 (ckw T 1)) (lns T N 1 5) = bd R1 (rq2 T N 1 1) := by
        cases R1 with
        | inl q => rfl
        | inr s1 =>
          show bd (ckw T 1 s1) _ = rq2 T N 1 1 s1
          rw [chk_req, rq_req (by omega) (g1 s1 rfl).1 ((g1 s1 rfl).2 1 (by omega))]
      rw [e4] at r4
      have F4 := rmf (rmf F2 f3) f4
      have Z4 := rm10 f4 (rm10 f3 Z2)
      generalize hR2 : bd R1 (rq2 T N 1 1) = R2 at r4
      have g2 : ∀ s, R2 = .inr s → flOk s.2 ∧ s.2.1 2 = 0 ∧ s.2.1 3 = 0 ∧ s.2.1 4 = 0 := fun s e => by
        rw [e] at hR2
        cases R1 with
        | inl q => simp [bd] at hR2
        | inr s1 =>
          have hR2 : rq2 T N 1 1 s1 = .inr s := hR2
          obtain ⟨p1, p2⟩ := g1 s1 rfl
          obtain ⟨q1, -, q3⟩ := rq_ok (by omega) p1 hR2
          exact ⟨q1, by rw [q3 2 (by omega)]; exact p2 2 (by omega), by rw [q3 3 (by omega)]; exact p2 3 (by omega), by rw [q3 4 (by omega)]; exact p2 4 (by omega)⟩
      -- houses
      refine m_loop hT (y := 2) (by omega) k2 hd_m_readHouse (fun τ => At hd_m_floor X0 121 [some (rf 55 122), some (iv (nI 62))] [] τ (retI F)) _ (fun σ h => l_m_floor_121 _ _ _ h) (fun s σ F hs hw hF => m_readHouse hT hs hw F hF) 5 _ τ4 (fun s e => by rw [(g2 s e).2.1]) r4 fun τ5 f5 r5 => ?_
      have e5 : bd R2 (lns T N 2 5) = bd R2 (rq2 T N 2 0) := by
        cases R2 with
        | inl q => rfl
        | inr s2 => show lns T N 2 5 s2 = rq2 T N 2 0 s2; rw [rq_0]
      rw [e5] at r5
      have F5 := rmf F4 f5
      have Z5 := rm10 f5 Z4
      generalize hR3 : bd R2 (rq2 T N 2 0) = R3 at r5
      have g3 : ∀ s, R3 = .inr s → flOk s.2 ∧ s.2.1 3 = 0 ∧ s.2.1 4 = 0 := fun s e => by
        rw [e] at hR3
        cases R2 with
        | inl q => simp [bd] at hR3
        | inr s2 =>
          have hR3 : rq2 T N 2 0 s2 = .inr s := hR3
          obtain ⟨p1, p2, p3, p4⟩ := g2 s2 rfl
          obtain ⟨q1, -, q3⟩ := rq_ok (by omega) p1 hR3
          exact ⟨q1, by rw [q3 3 (by omega)]; exact p3, by rw [q3 4 (by omega)]; exact p4⟩
      -- stories, once the crack is read
      have a154 : ∀ τ, Fr PF1 σ τ → τ 122 10 = 0 → mS T N (bd R3 (crk T N)) τ → At hd_m_floor X0 154 [some (rf 55 122), some (iv (nI 62))] [] τ (retI F) := fun τ6 F6 Z6 r6 => by
        generalize hR4 : bd R3 (crk T N) = R4 at r6
        have g4 : ∀ s, R4 = .inr s → flOk s.2 ∧ s.2.1 4 = 0 := fun s e => by
          rw [e] at hR4
          cases R3 with
          | inl q => simp [bd] at hR4
          | inr s3 =>
            have hR4 : crk T N s3 = .inr s := hR4
            obtain ⟨p1, p2, p3⟩ := g3 s3 rfl
            obtain ⟨q1, q2, -⟩ := crk_ok p1 hR4
            exact ⟨q1, by rw [q2 4 (by omega)]; exact p3⟩
        refine l_m_floor_154 _ _ _ (m_chk hT (y := 4) (by omega) k4 r6 (fun τ => At hd_m_floor X0 170 [some (rf 55 122), some (iv (nI 62))] [] τ (retI F)) fun τ7 f7 r7 => ?_)
        refine m_loop hT (y := 4) (by omega) k4 hd_m_readStory (fun τ => At hd_m_floor X0 170 [some (rf 55 122), some (iv (nI 62))] [] τ (retI F)) _ (fun σ h => l_m_floor_170 _ _ _ h) (fun s σ F hs hw hF => m_readStory hT hs hw F hF) 5 _ τ7 (fun s e => ?_) r7 fun τ8 f8 r8 => ?_
        · cases R4 with
          | inl q => simp [bd] at e
          | inr s4 =>
            have e : ckw T 4 s4 = .inr s := e
            unfold ckw at e
            split at e
            · injection e with e; subst e; rw [(g4 s4 rfl).2]
            · simp at e
        have e8 : bd (bd R4 (ckw T 4)) (lns T N 4 5) = bd R4 (rq2 T N 4 1) := by
          cases R4 with
          | inl q => rfl
          | inr s4 =>
            show bd (ckw T 4 s4) _ = rq2 T N 4 1 s4
            rw [chk_req, rq_req (by omega) (g4 s4 rfl).1 (g4 s4 rfl).2]
        rw [e8] at r8
        have F8 := rmf (rmf F6 f7) f8
        have Z8 := rm10 f8 (rm10 f7 Z6)
        have ep : prs T N = bd (bd R4 (rq2 T N 4 1)) fin := by rw [← hR4, ← hR3, ← hR2, ← hR1]; rfl
        rw [ep] at hF
        generalize bd R4 (rq2 T N 4 1) = R5 at r8 hF
        cases R5 with
        | inl e =>
          have hE : mE T N e τ8 := r8
          exact ⟨fun _ => hF _ τ8 F8 Z8 hE, fun q => absurd q (mE_n hE)⟩
        | inr s5 =>
          have hM : mL T N s5 τ8 := r8
          have hF : ∀ v τ, Fr PF1 σ τ → τ 122 10 = 0 → mS T N (fin s5) τ → At hd_m_floor X0 208 [some (rf 55 122), some (iv v)] [] τ (retI F) := hF
          unfold fin at hF
          have ⟨q1, q2, q3, q4, q5, q6⟩ := hM
          rw [(tk_c q3 q4).2.2]
          refine ⟨fun q => absurd q2 q, fun _ => ⟨fun q => ?_, fun q => ?_⟩⟩
          · rw [if_pos q] at hF; exact hF _ τ8 F8 Z8 hM
          · rw [if_neg q] at hF
            obtain ⟨j1, j2⟩ := bdU_E (k := 1) (by omega) q1 q3 q4
            exact m_badL (k := 1) q2 (hF _ _ (rmf F8 j2) (rm10 j2 Z8) j1)
      cases R3 with
      | inl e =>
        have hE : mE T N e τ5 := r5
        obtain ⟨t, o1, o2⟩ := hE.2.2.2.2
        exact m_word hT hE.1.1 o1 o2 _ ⟨fun q => absurd q (mE_n hE), fun _ => ⟨fun _ => a154 τ5 F5 Z5 r5, fun q => absurd q (lg_w0 (k := 3) (by omega) k3)⟩⟩
      | inr s3 =>
        have hM : mL T N s3 τ5 := r5
        have ⟨q1, q2, q3, q4, q5, q6⟩ := hM
        refine m_word hT q1.1 q3 q4 _ ⟨fun _ => ?_, fun q => absurd q2 q⟩
        rw [lg_wk hT q3 (k := 3) (by omega) k3]
        have a154 : ∀ τ, Fr PF1 σ τ → τ 122 10 = 0 → mS T N (crk T N s3) τ → At hd_m_floor X0 154 [some (rf 55 122), some (iv (nI 62))] [] τ (retI F) := a154
        unfold crk at a154
        refine ⟨fun q => ?_, fun q => m_readCrack hT hM (g3 s3 rfl).2.1 q _ fun τ6 f6 r6 => ?_⟩
        · rw [if_neg q] at a154; exact a154 τ5 F5 Z5 hM
        · rw [if_pos q] at a154; exact a154 τ6 (rmf F5 f6) (rm10 f6 Z5) r6
  exact l30 62 0 (by omega) μ Fr.rf (fun j hj => by omega)
/-! the floor that stands then -/
def wof (fl : Fl) : Wo := ((fl.1 0, fl.1 1, fl.1 2, fl.1 3, fl.1 4), (fl.2 0, fl.2 1, fl.2 2, fl.2 3, fl.2 4), (0, fun _ => 0, fun _ => 0, fun _ => 0), (fun _ _ => 0, fun _ _ => 0), (fun _ => false, fun _ => 0, fun _ => 0))
theorem wof_F {fl : Fl} (h : rmOk fl) (h0 : 1 ≤ fl.1 0) (h1 : 1 ≤ fl.1 1) : okF (wof fl) := by
  obtain ⟨⟨c, r, u, k⟩, h3⟩ := h
  have rr : ∀ y j c', y < 5 → c' < ncl y → j < fl.1 y → ∀ a b : Int, (lsv y c').toInt = a → (msv y c').toInt = b → wi (fl.2 y (ncl y * j + c')) a b := fun y j c' hy hc hj a b ea eb => by
    have := r y j c' hy hj hc
    rw [ea, eb] at this; exact this
  refine ⟨⟨c 0 (by omega), c 1 (by omega), c 2 (by omega), h3, c 4 (by omega), fun _ => ⟨h0, h1⟩⟩, fun j hj => ⟨?_, ?_, ?_, fun hj0 => u j hj0 hj⟩, fun j hj => ⟨?_, ?_, ?_, ?_, ?_, ?_⟩, fun j hj => ⟨?_, ?_⟩, fun hj => ⟨?_, ?_, ?_, ?_, ?_⟩, fun j hj => ⟨?_, ?_, fun e => k j hj e⟩⟩
  · exact rr 0 j 0 (by omega) (by decide) hj 1 99 (by decide) (by decide)
  · exact rr 0 j 1 (by omega) (by decide) hj (-99) 99 (by decide) (by decide)
  · exact rr 0 j 2 (by omega) (by decide) hj (-99) 99 (by decide) (by decide)
  · exact rr 1 j 0 (by omega) (by decide) hj (-9999) 9999 (by decide) (by decide)
  · exact rr 1 j 1 (by omega) (by decide) hj (-9999) 9999 (by decide) (by decide)
  · exact rr 1 j 2 (by omega) (by decide) hj (-9) 9 (by decide) (by decide)
  · exact rr 1 j 3 (by omega) (by decide) hj (-9) 9 (by decide) (by decide)
  · exact rr 1 j 4 (by omega) (by decide) hj 1 20 (by decide) (by decide)
  · exact rr 1 j 5 (by omega) (by decide) hj 0 99 (by decide) (by decide)
  · exact rr 2 j 0 (by omega) (by decide) hj (-9) 9 (by decide) (by decide)
  · exact rr 2 j 1 (by omega) (by decide) hj 0 20 (by decide) (by decide)
  · exact rr 3 0 0 (by omega) (by decide) hj (-9999) 9999 (by decide) (by decide)
  · exact rr 3 0 1 (by omega) (by decide) hj (-9999) 9999 (by decide) (by decide)
  · exact rr 3 0 2 (by omega) (by decide) hj (-99) 99 (by decide) (by decide)
  · exact rr 3 0 3 (by omega) (by decide) hj (-99) 99 (by decide) (by decide)
  · exact rr 3 0 4 (by omega) (by decide) hj 0 99 (by decide) (by decide)
  · exact rr 4 j 0 (by omega) (by decide) hj 0 3 (by decide) (by decide)
  · exact rr 4 j 1 (by omega) (by decide) hj 1 9 (by decide) (by decide)
theorem wof_H {fl : Fl} (h4 : 1 ≤ fl.1 4) : okH (wof fl) := ⟨by show 0 ≤ 12; omega, fun _ => h4, fun i hi => absurd hi (by show ¬ i < 0; omega)⟩
def PF (a b : Nat) : Prop := (a = 0 ∧ b = 9) ∨ (a = 18 ∧ b = 1) ∨ a = 20 ∨ (22 ≤ a ∧ a ≤ 31) ∨ (36 ≤ a ∧ a ≤ 60) ∨ (a = 122 ∧ (b = 0 ∨ b = 7 ∨ (10 ≤ b ∧ b ≤ 19))) ∨ (126 ≤ a ∧ a ≤ 128) ∨ a = 130 ∨ a = 131
def KF (σ : St) (G : Int32 → Int32 → St → Prop) : Prop := ∀ (r : Int32) (τ : St), Fr PF σ τ → RW τ → RTp τ → τ 0 9 = τ 122 11 → (σ 122 7 = 1 → τ 122 7 = 1) → G r r τ
theorem RTp_0 {τ : St} (h1 : τ 18 1 = 0) (h2 : τ 122 10 = 0) : RTp τ := ⟨0, fun _ => 0, ⟨by omega, fun i hi => by omega⟩, ⟨h1, fun i hi => by omega⟩, fun i hi => by omega, h2⟩
theorem RW_e {σ τ : St} (e : ∀ a b, (36 ≤ a ∧ a ≤ 60) ∨ a = 126 ∨ a = 128 ∨ a = 130 ∨ a = 131 ∨ (a = 122 ∧ b = 7) → τ a b = σ a b) (h : RW σ) : RW τ := by
  obtain ⟨w, hF, hH, hc, hcd, hm, hmd, h7⟩ := h
  exact RW_mk hF hH (XW_e (fun a b h1 h2 => e a b (by omega)) ⟨hc, hcd⟩) (MW_e (fun a b q => e a b (by omega)) ⟨hm, hmd, h7⟩)
theorem r_floor (σ : St) (G : Int32 → Int32 → St → Prop) (hR : RW σ) (hTp : RTp σ) (h911 : σ 0 9 = σ 122 11) (k : KF σ G) :
    CallI hd_x_floor [rf 54 0] σ (fun r σ1 => CallI hd_m_floor [rf 55 122] σ1 (fun r' σ2 => G r r' σ2)) := by
  obtain ⟨N, T, hT, hx, hm, h10⟩ := hTp
  have hN := hT.1
  refine e_x_floor _ _ (x_read hT hx _ ?_)
  cases hp : prs T N with
  | inl e =>
    intro τ ht he
    refine ⟨fun w => absurd rfl w, fun _ => ?_⟩
    have g1 : up τ 18 1 0 20 1 = nI e.1 := by rw [up_ka _ _ (by omega)]; exact he.1
    rw [g1, up_ka _ _ (by omega), up_ka _ _ (by omega), he.2]
    generalize hμ : up (up τ 18 1 0) 0 9 (nI e.1) = μ
    have fμ : ∀ a b, ¬ ((a = 0 ∧ b = 9) ∨ (a = 18 ∧ b = 1) ∨ a = 20 ∨ (22 ≤ a ∧ a ≤ 31)) → μ a b = σ a b := fun a b n => by
      rw [← hμ, up_o _ _ (by omega), up_o _ _ (by omega), ht _ _ (by unfold PRd; omega)]
    refine m_pars hT (fun i hi => by rw [fμ _ _ (by omega)]; exact hm i hi) (by rw [fμ _ _ (by omega)]; exact h10) _ fun v ρ hρ z10 hS => ?_
    rw [hp] at hS
    have hE : mE T N e ρ := hS
    have fρ : ∀ a b, ¬ PF a b → ρ a b = σ a b := fun a b n => by
      unfold PF at n
      rw [hρ _ _ (by unfold PF1 PRm; omega), fμ _ _ (by omega)]
    refine l_m_floor_208 _ _ _ ⟨fun q => ?_, fun _ => ?_⟩
    · exfalso; have := hE.2.1; rw [hE.2.2.1, fa_le, ti_nI (by omega), t_0] at q; omega
    rw [hE.2.2.1, up_jb _ _ (by omega), hE.2.2.2.1]
    refine k _ _ (fun a b n => ?_) ?_ (RTp_0 ?_ ?_) ?_ (fun q => ?_)
    · have n' := n
      unfold PF at n'
      rw [up_o _ _ (by omega), fρ a b n]
    · refine RW_e (fun a b h => ?_) hR
      rw [up_o _ _ (by omega), hρ _ _ (by unfold PF1 PRm; omega), fμ _ _ (by omega)]
    · rw [up_ka _ _ (by omega), hρ _ _ (by unfold PF1 PRm; omega), ← hμ, up_ka _ _ (by omega), up_at]
    · rw [up_jb _ _ (by omega)]; exact z10
    · rw [up_at, up_ka _ _ (by omega), hρ _ _ (by unfold PF1 PRm; omega), ← hμ, up_at]
    · rw [up_jb _ _ (by omega), hρ _ _ (by unfold PF1 PRm; omega), fμ _ _ (by omega)]; exact q
  | inr s =>
    intro τ ht hs
    obtain ⟨hr, p0, p1, p4⟩ := prs_ok hp
    have hF := wof_F hr p0 p1
    have hH := wof_H p4
    obtain ⟨wo, oF, oH, oc, ocd, om, omd, o7⟩ := hR
    refine ⟨fun _ => e_wo_begin _ _ _ _ (x_fltake (w := wof s.2) (a := 36) (b := 21) (by omega) hF p0 ?_ ?_ ?_ _ fun ρ hρ hcf hd => ?_), fun w => absurd w one_ne⟩
    · have f := hs.2.2.2.1
      have g : ∀ y, y < 5 → up τ 18 1 0 (22 + 2 * y) 2 = nI (s.2.1 y) ∧ ∀ i, i < ncl y * s.2.1 y → up τ 18 1 0 (23 + 2 * y) i = s.2.2 y i := fun y hy => ⟨by rw [up_ka _ _ (by omega)]; exact (f y hy).1, fun i hi => by rw [up_ka _ _ (by omega)]; exact (f y hy).2 i hi⟩
      exact ⟨⟨(g 0 (by omega)).1, (g 1 (by omega)).1, (g 2 (by omega)).1, (g 3 (by omega)).1, (g 4 (by omega)).1⟩, (g 0 (by omega)).2, (g 1 (by omega)).2, (g 2 (by omega)).2, (g 3 (by omega)).2, (g 4 (by omega)).2⟩
    · rw [up_ka _ _ (by omega), ht _ _ (by unfold PRd; omega)]; exact (ocd 0 (by omega)).1
    · rw [up_ka _ _ (by omega), ht _ _ (by unfold PRd; omega)]; exact (ocd 0 (by omega)).2.1
    have e45 : up ρ (35 + 15) 8 0 45 2 = nI (s.2.1 4) := by rw [up_ka _ _ (by omega)]; exact hcf.1.2.2.2.2
    rw [e45]
    generalize hμ : up ρ (35 + 15) 8 0 = μ
    have fμ : ∀ a b, ¬ ((a = 18 ∧ b = 1) ∨ a = 20 ∨ (22 ≤ a ∧ a ≤ 31) ∨ (36 < a ∧ a ≤ 48) ∨ (a = 50 ∧ b = 8)) → μ a b = σ a b := fun a b n => by
      rw [← hμ, up_o _ _ (by omega), hρ _ _ (by omega), up_o _ _ (by omega), ht _ _ (by unfold PRd; omega)]
    have cx : cW (wof s.2) 36 50 μ := by
      have e : ∀ a b, 36 ≤ a → a ≤ 49 → μ a b = ρ a b := fun a b h1 h2 => by rw [← hμ, up_ka _ _ (by omega)]
      have cf : cF (wof s.2) 36 μ := cF_e hF (fun j h1 h2 => ⟨fun _ => e _ _ (by omega) (by omega), fun _ i _ _ _ _ _ => e _ _ (by omega) (by omega)⟩) hcf
      refine ⟨cf.1, cf.2, ?_, fun i hi => absurd hi (by show ¬ i < 0; omega)⟩
      rw [← hμ, up_at]; rfl
    have cxd : cD (wof s.2) 36 μ := fun u hu => by
      obtain ⟨d1, d2⟩ := hd u hu
      obtain ⟨q1, q2, q3, q4⟩ := ocd u hu
      refine ⟨?_, ?_, ?_, fun hu' => ?_⟩
      · rw [← hμ, up_ka _ _ (by omega)]; exact d1
      · rw [← hμ, up_ka _ _ (by omega)]; exact d2
      · rw [fμ _ _ (by omega)]; exact q3
      · rw [fμ _ _ (by omega)]; exact q4 hu'
    refine m_pars hT (fun i hi => by rw [fμ _ _ (by omega)]; exact hm i hi) (by rw [fμ _ _ (by omega)]; exact h10) _ fun v κ hκ z10 hS => ?_
    rw [hp] at hS
    have hM : mL T N s κ := hS
    obtain ⟨q1, q2, q3, q4, q5, q6⟩ := hM
    refine l_m_floor_208 _ _ _ ⟨fun _ => ⟨Or.inr rfl, ?_⟩, fun q => absurd (by rw [q2]; decide) q⟩
    have a264 : ∀ m i, i + m = 169 → ∀ π, Fr (fun a _ => a = 126 ∨ a = 128) (up κ 122 7 1) π → (∀ j, j < 62 → π 126 j = κ 127 j) → (∀ j, j < i → π 128 j = 0) → At hd_m_floor X0 264 [some (rf 55 122), some (iv (nI i))] [] π (retI (fun r' σ2 => G (nI (s.2.1 4)) r' σ2)) := by
      intro m
      induction m with
      | succ m ih =>
        intro i hi π hπ g6 g8
        refine l_m_floor_264 _ _ _ ⟨fun q => ?_, fun _ => ⟨vin0 i rfl (by omega) (by decide), ?_⟩⟩
        · exfalso; rw [fa_le, ti_nI (by omega), t_169] at q; omega
        rw [nI_clamp (by omega), nI_1]
        refine ih (i + 1) (by omega) _ (hπ.up (Or.inr rfl)) (fun j hj => by rw [up_ka _ _ (by omega)]; exact g6 j hj) (fun j hj => ?_)
        by_cases e : j = i
        · subst e; rw [up_at]
        · rw [up_jb _ _ e]; exact g8 j (by omega)
      | zero =>
        intro i hi π hπ g6 g8
        have : i = 169 := by omega
        subst this
        have g : ∀ y, y < 5 → π 126 y = nI (s.2.1 y) ∧ ∀ j, j < ncl y * s.2.1 y → π 126 (ofs y + j) = s.2.2 y j := fun y hy => ⟨by rw [g6 y (by omega)]; exact (q5 y hy).1, fun j hj => by rw [g6 _ (reg5 hy (in_sz q6 hy hj)).2]; exact (q5 y hy).2 j hj⟩
        have mw : mW (wof s.2) (π 126) (π 128) := by
          refine ⟨⟨(g 0 (by omega)).1, (g 1 (by omega)).1, (g 2 (by omega)).1, (g 3 (by omega)).1, (g 4 (by omega)).1⟩, ⟨(g 0 (by omega)).2, (g 1 (by omega)).2, (g 2 (by omega)).2, (g 3 (by omega)).2, (g 4 (by omega)).2⟩, g8 0 (by omega), fun i hi => absurd hi (by show ¬ i < 0; omega)⟩
        have oπ : ∀ a b, ¬ (PF1 a b ∨ a = 126 ∨ a = 128 ∨ (a = 122 ∧ b = 7)) → π a b = μ a b := fun a b n => by
          have n1 : ¬ PF1 a b := fun q => n (Or.inl q)
          rw [hπ _ _ (by omega), up_o _ _ (by omega), hκ _ _ n1]
        refine l_m_floor_264 _ _ _ ⟨fun _ => m_lay mw.1.1 mw.2.1.1 hF p0 ?_ ?_ _ fun ν hν hd2 => ⟨vst, ?_⟩, fun q => absurd (by decide) q⟩
        · rw [oπ _ _ (by unfold PF1 PRm; omega), fμ _ _ (by omega)]; exact (omd 0 (by omega)).1
        · rw [oπ _ _ (by unfold PF1 PRm; omega), fμ _ _ (by omega)]; exact (omd 0 (by omega)).2
        have e4 : ν 126 (4 : Int32).toNatClampNeg = nI (s.2.1 4) := by rw [hν _ _ (by omega)]; exact mw.1.2.2.2.2
        rw [e4]
        have oν : ∀ a b, ¬ (PF1 a b ∨ a = 126 ∨ a = 128 ∨ a = 130 ∨ a = 131 ∨ (a = 122 ∧ b = 7)) → ν a b = μ a b := fun a b n => by
          rw [hν _ _ (by omega), oπ _ _ (fun q => n (by rcases q with q | q | q | q; exact Or.inl q; exact Or.inr (Or.inl q); exact Or.inr (Or.inr (Or.inl q)); exact Or.inr (Or.inr (Or.inr (Or.inr (Or.inr q))))))]
        have ν7 : ν 122 7 = 1 := by rw [hν _ _ (by omega), hπ _ _ (by omega), up_at]
        refine k _ ν (fun a b n => ?_) ?_ (RTp_0 ?_ ?_) ?_ (fun _ => ν7)
        · unfold PF at n
          rw [oν _ _ (by unfold PF1 PRm; omega), fμ _ _ (by omega)]
        · refine RW_mk hF hH (XW_e (fun a b h1 h2 => oν _ _ (by unfold PF1 PRm; omega)) ⟨cx, cxd⟩) ⟨?_, hd2, ?_⟩
          · have e1 : ν 126 = π 126 := funext fun b => hν _ _ (by omega)
            have e2 : ν 128 = π 128 := funext fun b => hν _ _ (by omega)
            rw [e1, e2]; exact mw
          · rw [ν7, if_neg (by show ¬ s.2.1 4 = 0; omega)]
        · rw [oν _ _ (by unfold PF1 PRm; omega), ← hμ, up_ka _ _ (by omega), hρ _ _ (by omega), up_at]
        · rw [hν _ _ (by omega), hπ _ _ (by omega), up_jb _ _ (by omega)]; exact z10
        · rw [oν 0 9 (by unfold PF1 PRm; omega), oν 122 11 (by unfold PF1 PRm; omega), fμ _ _ (by omega), fμ _ _ (by omega)]; exact h911
    have a238 : ∀ m i, i + m = 62 → ∀ π, Fr (fun a _ => a = 126 ∨ a = 128) (up κ 122 7 1) π → (∀ j, j < i → π 126 j = κ 127 j) → At hd_m_floor X0 238 [some (rf 55 122), some (iv (nI i))] [] π (retI (fun r' σ2 => G (nI (s.2.1 4)) r' σ2)) := by
      intro m
      induction m with
      | succ m ih =>
        intro i hi π hπ g6
        refine l_m_floor_238 _ _ _ ⟨fun q => ?_, fun _ => ⟨vin0 i rfl (by omega) (by decide), vin0 i rfl (by omega) (by decide), ?_⟩⟩
        · exfalso; rw [fa_le, ti_nI (by omega), t_62] at q; omega
        rw [nI_clamp (by omega), nI_1]
        refine ih (i + 1) (by omega) _ (hπ.up (Or.inl rfl)) (fun j hj => ?_)
        by_cases e : j = i
        · subst e; rw [up_at, hπ _ _ (by omega), up_ka _ _ (by omega)]
        · rw [up_jb _ _ e]; exact g6 j (by omega)
      | zero =>
        intro i hi π hπ g6
        have : i = 62 := by omega
        subst this
        exact l_m_floor_238 _ _ _ ⟨fun _ => a264 169 0 (by omega) π hπ g6 (fun j hj => by omega), fun q => absurd (by decide) q⟩
    exact a238 62 0 (by omega) _ Fr.rf (fun j hj => by omega)
