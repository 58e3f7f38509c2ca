/-! many hills at once -/
def addN (w : Wo) (xs ys : NI) : Nat → Wo
  | 0 => w
  | n + 1 => addH (addN w xs ys n) (xs n) (ys n)
theorem addN_nh (w : Wo) (xs ys : NI) : ∀ n, nh (addN w xs ys n) = nh w + n
  | 0 => rfl
  | n + 1 => by show nh (addN w xs ys n) + 1 = _; rw [addN_nh w xs ys n]; omega
theorem addN_1 (w : Wo) (xs ys : NI) : ∀ n, (addN w xs ys n).1 = w.1 ∧ (addN w xs ys n).2.1 = w.2.1
  | 0 => ⟨rfl, rfl⟩
  | n + 1 => addN_1 w xs ys n
theorem addN_ok {w : Wo} {xs ys : NI} (hH : okH w) (h4 : 0 < n4 w) : ∀ n, nh w + n ≤ 12 → (∀ j, j < n → wi (xs j) (-99999) 99999 ∧ wi (ys j) (-99999) 99999) → okH (addN w xs ys n)
  | 0, _, _ => hH
  | n + 1, hn, hp => by
    refine okH_add (addN_ok hH h4 n (by omega) fun j hj => hp j (by omega)) (by rw [addN_nh]; omega) ?_ (hp n (by omega)).1 (hp n (by omega)).2
    unfold n4; rw [(addN_1 w xs ys n).1]; exact h4
theorem gx_miss {σ : St} {F : Int32 → St → Prop} (hR : RSh σ) {s : Nat} (hs : s < 8) (h1 : (σ (2 + 2 * s) 1).toInt = -1 → F 1 σ) (h0 : 0 ≤ (σ (2 + 2 * s) 1).toInt → F 0 σ) : CallI hd_sh_isMissing [rf 45 (2 + 2 * s)] σ F := by
  refine q_sh_isMissing _ _ _ ?_
  rw [v_missing]
  have := (hR s hs).1
  by_cases c : (σ (2 + 2 * s) 1).toInt = -1
  · rw [if_pos c]; exact h1 c
  · rw [if_neg c]; exact h0 (by omega)
theorem gx_has {σ : St} {F : Int32 → St → Prop} {k : Nat} {a b : Int32} (h1 : 0 ≤ a.toInt → 0 ≤ b.toInt → a.toInt + b.toInt ≤ (σ k 2).toInt → F 1 σ) (h0 : ¬ (0 ≤ a.toInt ∧ 0 ≤ b.toInt ∧ a.toInt + b.toInt ≤ (σ k 2).toInt) → F 0 σ) : CallI hd_sh_has [rf 45 k, jv a.toInt64, jv b.toInt64] σ F := by
  refine q_sh_has _ _ _ _ _ ?_
  rw [v_has _ _ _ _ (by rw [l_add32, i2l, i2l]), i2l, i2l]
  by_cases c : 0 ≤ a.toInt ∧ 0 ≤ b.toInt ∧ a.toInt + b.toInt ≤ (σ k 2).toInt
  · rw [if_pos c]; exact h1 c.1 c.2.1 c.2.2
  · rw [if_neg c]; exact h0 c
theorem gm_sheet1 {σ : St} {F : Int32 → St → Prop} {s : Nat} (hs : s < 8) (h : F 1 σ) : CallI hd_m_isSheet [iv (nI s)] σ F := by
  refine q_m_isSheet _ _ _ ?_
  rw [v_isSheet, if_pos (by rw [ti_nI (by omega)]; omega)]; exact h
theorem gm_sheet0 {σ : St} {F : Int32 → St → Prop} {a : Int32} (c : ¬ (0 ≤ a.toInt ∧ a.toInt < 8)) (h : F 0 σ) : CallI hd_m_isSheet [iv a] σ F := by
  refine q_m_isSheet _ _ _ ?_
  rw [v_isSheet, if_neg c]; exact h
/-- calls that change the world and the status -/
def PS (a b : Nat) : Prop := PW a b ∨ (a = 0 ∧ b = 10) ∨ (a = 122 ∧ b = 1)
def KSW (σ : St) (G : Int32 → Int32 → St → Prop) : Prop := ∀ (r : Int32) (τ : St), Fr PS σ τ → RW τ → τ 0 10 = τ 122 1 → G r r τ
def PQ (a b : Nat) : Prop := PXc a b ∨ PMc a b ∨ (a = 122 ∧ b = 1) ∨ (a = 0 ∧ b = 10)
theorem lcm {a b c : Int32} : lg_cmp (a.toInt64 + b.toInt64) c.toInt64 ≤ 0 ↔ a.toInt + b.toInt ≤ c.toInt := by rw [lg_le, l_add32, i2l]
theorem r_hills (a1 a2 a3 : Int32) (σ : St) (G : Int32 → Int32 → St → Prop) (hSh : RSh σ) (hT : σ 0 10 = σ 122 1) (hR : RW σ) (k : KSW σ G) :
    CallI hd_x_hills [rf 54 0, iv a1, iv a2, iv a3] σ (fun r σ1 => CallI hd_m_hills [rf 55 122, iv a1, iv a2, iv a3] σ1 (fun r' σ2 => G r r' σ2)) := by
  have hR' := hR
  obtain ⟨w, hF, hH, hc, hcd, hm, hmd, h7⟩ := hR
  have hx : XW w σ := ⟨hc, hcd⟩
  have hM : MW w σ := ⟨hm, hmd, h7⟩
  have nhh := hH.1
  have hm0 := mWs_fr fr0 hm
  have kb : ∀ r, G r r (up σ 122 0 0) := fun r => k _ _ (fr0.mn fun _ _ q => Or.inl (Or.inl q)) (RW_fr fr0 hR') (by rw [up_ka _ _ (by omega), up_jb _ _ (by omega)]; exact hT)
  have kf : ∀ n r, G r r (up (up (up σ 0 10 n) 122 0 0) 122 1 n) := fun n r => by
    have f : Fr PS σ (up (up (up σ 0 10 n) 122 0 0) 122 1 n) := ((Fr.rf.up (Or.inr (Or.inl ⟨rfl, rfl⟩))).up (Or.inl (Or.inl (Or.inr (Or.inl ⟨rfl, Or.inl rfl⟩))))).up (Or.inr (Or.inr ⟨rfl, rfl⟩))
    refine k _ _ f (RW_mk hF hH (XW_e (fun a b _ _ => ?_) hx) (MW_e (fun a b q => ?_) hM)) ?_
    · simp (disch := omega) only [up_ka]
    · rw [up_o _ _ (by omega), up_o _ _ (by omega), up_o _ _ (by omega)]
    · simp (disch := omega) only [up_at, up_ka, up_jb]
  refine e_x_hills a1 a2 a3 σ _ (gx_below 8 (by decide) (fun s hs e => on ?_) (fun c => of (e_m_hills _ _ _ _ _ (gm_sheet0 c (of (kb _))))))
  subst e
  refine gx_within 1 12 (fun c3 => on' ?_) (fun c => of' (e_m_hills _ _ _ _ _ (gm_sheet1 hs (on (gm_in0 (by rw [i2l, tl_1, tl_12]; exact c) (of' (kb _)))))))
  rw [t_1, t_12] at c3
  have c3' : (1 : Int64).toInt ≤ a3.toInt64.toInt ∧ a3.toInt64.toInt ≤ (12 : Int64).toInt := by rw [i2l, tl_1, tl_12]; exact c3
  obtain ⟨n, hn, en, -, tn⟩ := ixe (x := a3) (n := 13) (by omega) (by decide)
  subst en
  have hn1 : 1 ≤ n := by omega
  have v8 : vp_in (nI s) 8 := vin0 s rfl hs (by decide)
  have cs : (nI s).toNatClampNeg = s := nI_clamp (by omega)
  refine gx_there hc hF (fun h4 => on' ⟨v8, ?_⟩) (fun h4 => of' (e_m_hills _ _ _ _ _ (gm_sheet1 hs (on (gm_in1 c3' (on' ?_))))))
  rotate_left
  · rw [mt0 h7 h4]; exact of' (kb _)
  rw [cs]
  obtain ⟨g1, g2, g3⟩ := hSh s hs
  -- the other side's beginning
  have mb : ∀ (τ : St) (F : Int32 → St → Prop), τ 122 7 = σ 122 7 → τ 123 s = σ 123 s → τ 124 s = σ 124 s → ((0 ≤ (σ 123 s) → (a2 < 0 → CallI hd_m_finding [rf 55 122, iv 2] (up τ 122 0 0) (fun r6 σ5 => F r6 σ5)) ∧ (¬ a2 < 0 → (((a2.toInt + (2 * nI n).toInt ≤ (σ 124 s).toInt) → At hd_m_hills X0 91 [some (rf 55 122), some (iv (nI s)), some (iv a2), some (iv (nI n)), some (iv ((40 * nI s) + a2)), some (iv 0), none] [] (up τ 122 0 0) (retI F)) ∧ (¬ (a2.toInt + (2 * nI n).toInt ≤ (σ 124 s).toInt) → CallI hd_m_finding [rf 55 122, iv 2] (up τ 122 0 0) (fun r8 σ7 => F r8 σ7))))) ∧ (¬ 0 ≤ (σ 123 s) → CallI hd_m_finding [rf 55 122, iv 1] (up τ 122 0 0) (fun r10 σ9 => F r10 σ9))) → CallI hd_m_hills [rf 55 122, iv (nI s), iv a2, iv (nI n)] τ F := by
    intro τ F t7 t123 t124 h
    refine e_m_hills _ _ _ _ _ (gm_sheet1 hs (on (gm_in1 c3' (on' ?_))))
    rw [mt1 (t7.trans h7) h4]
    refine on' ⟨v8, ?_⟩
    rw [cs, up_ka _ _ (by omega), up_ka _ _ (by omega), t123, t124]
    refine ⟨fun q => ⟨(h.1 q).1, fun q2 => ⟨v8, fun q3 => ((h.1 q).2 q2).1 (lcm.mp q3), fun q3 => ((h.1 q).2 q2).2 fun z => q3 (lcm.mpr z)⟩⟩, h.2⟩
  refine gx_miss hSh hs (fun c => ⟨fun q => absurd q one_ne, fun _ => e_x_found _ _ _ (mb _ _ ?_ ?_ ?_ ⟨fun q => ?_, fun _ => e_m_finding _ _ _ (kf _ _)⟩)⟩) (fun c => of ⟨v8, ?_⟩)
  · rw [up_ka _ _ (by omega)]
  · rw [up_ka _ _ (by omega)]
  · rw [up_ka _ _ (by omega)]
  · exfalso; rw [g2, fa_le, t_0] at q; omega
  obtain ⟨g5, g6, g7⟩ := g3 c
  have h123 : 0 ≤ σ 123 s := by rw [g2, fa_le, t_0]; exact c
  have t2 : (2 * nI n).toInt = 2 * n := by rw [show (2 : Int32) = nI 2 from rfl, mulN, ti_nI (by omega)]; omega
  refine gx_has (fun c1 _ c2 => on' ⟨v8, ?_⟩) (fun cc => of' (e_x_found _ _ _ (mb _ _ (by rw [up_ka _ _ (by omega)]) (by rw [up_ka _ _ (by omega)]) (by rw [up_ka _ _ (by omega)]) ⟨fun _ => ⟨fun _ => e_m_finding _ _ _ (kf _ _), fun q => ⟨fun q2 => ?_, fun _ => e_m_finding _ _ _ (kf _ _)⟩⟩, fun q => absurd h123 q⟩)))
  rotate_left
  · exfalso
    apply cc
    rw [fa_lt, t_0] at q
    rw [g5] at q2
    exact ⟨by omega, by omega, q2⟩
  rw [t2] at c2
  obtain ⟨i, hi0, ei, -, ti⟩ := ixe (x := a2) (n := 41) (by omega) (by decide)
  subst ei
  have hi2 : i + 2 * n ≤ 40 := by omega
  have mb2 : ∀ (τ : St) (F : Int32 → St → Prop), τ 122 7 = σ 122 7 → τ 123 s = σ 123 s → τ 124 s = σ 124 s → At hd_m_hills X0 91 [some (rf 55 122), some (iv (nI s)), some (iv (nI i)), some (iv (nI n)), some (iv (nI (40 * s + i))), some (iv (nI 0)), none] [] (up τ 122 0 0) (retI F) → CallI hd_m_hills [rf 55 122, iv (nI s), iv (nI i), iv (nI n)] τ F := by
    intro τ F t7 t1 t2' h
    refine mb τ F t7 t1 t2' ⟨fun _ => ⟨fun q => ?_, fun _ => ⟨fun _ => ?_, fun q => ?_⟩⟩, fun q => absurd h123 q⟩
    · exfalso; rw [fa_lt, t_0] at q; omega
    · rw [show (40 : Int32) * nI s + nI i = nI (40 * s + i) by rw [show (40 : Int32) = nI 40 from rfl, mulN, nI_add]]; exact h
    · exfalso; apply q; rw [t2, g5]; omega
  -- items and their places
  have P0 : ∀ j, j < 2 * n → ∀ τ : St, Fr PQ σ τ → τ 125 (40 * s + i + j) = σ (3 + 2 * s) (i + j) ∧ τ (3 + 2 * s) (i + j) = σ (3 + 2 * s) (i + j) := by
    intro j hj τ ht
    have e1 := ht 125 (40 * s + i + j) (by unfold PQ PXc PMc MS; omega)
    have e2 := ht (3 + 2 * s) (i + j) (by unfold PQ PXc PMc MS; omega)
    rw [e1, e2, show 40 * s + i + j = 40 * s + (i + j) by omega]
    exact ⟨g7 (i + j) (by omega), rfl⟩
  -- the class's test
  have xt : ∀ (F : Int32 → St → Prop), ((∀ j, j < 2 * n → wi (σ (3 + 2 * s) (i + j)) (-99999) 99999) → CallI hd_hi_hasRoom [rf 43 50, iv (nI n)] σ (fun r2 σ1 => (¬ r2 = 0 → At hd_x_hills X0 141 [some (rf 54 0), some (iv (nI s)), some (iv (nI i)), some (iv (nI n)), some (rf 0 (3 + 2 * s)), some (iv 0)] [] σ1 (retI F)) ∧ (r2 = 0 → F (-1000003) σ1))) → ((∃ j, j < 2 * n ∧ ¬ wi (σ (3 + 2 * s) (i + j)) (-99999) 99999) → F (-1000001) σ) → ∀ m j, j + m = 2 * n → (∀ q, q < j → wi (σ (3 + 2 * s) (i + q)) (-99999) 99999) → At hd_x_hills X0 91 [some (rf 54 0), some (iv (nI s)), some (iv (nI i)), some (iv (nI n)), some (rf 0 (3 + 2 * s)), some (iv (nI (i + j)))] [] σ (retI F) := by
    intro F h1 h0 m
    have e0 : nI i + 2 * nI n = nI (i + 2 * n) := by rw [show (2 : Int32) = nI 2 from rfl, mulN, nI_add]
    induction m with
    | zero =>
      intro j hj hq
      refine l_x_hills_91 _ _ _ _ _ _ _ ⟨fun _ => h1 fun q hq2 => hq q (by omega), fun q => ?_⟩
      exact absurd (by rw [e0, nI_leI (by omega) (by omega)]; omega) q
    | succ m ih =>
      intro j hj hq
      refine l_x_hills_91 _ _ _ _ _ _ _ ⟨fun q => ?_, fun _ => ⟨vin0 (i + j) rfl (by omega) (by decide), gx_place (fun c => on' ?_) (fun c => of' (h0 ⟨j, by omega, ?_⟩))⟩⟩
      · exfalso; rw [e0, nI_leI (by omega) (by omega)] at q; omega
      · rw [nI_1]
        rw [nI_clamp (by omega)] at c
        exact ih (j + 1) (by omega) fun q hq2 => by
          by_cases z : q = j
          · subst z; exact c
          · exact hq q (by omega)
      · rw [nI_clamp (by omega)] at c; exact c
  have mt : ∀ (τ : St) (F : Int32 → St → Prop), Fr PQ σ τ → ((∀ j, j < 2 * n → wi (σ (3 + 2 * s) (i + j)) (-99999) 99999) → ((((τ 128 0) + nI n) ≤ 12 → At hd_m_hills X0 148 [some (rf 55 122), some (iv (nI s)), some (iv (nI i)), some (iv (nI n)), some (iv (nI (40 * s + i))), some (iv (nI 0)), none] [] (up τ 122 1 0) (retI F)) ∧ (¬ ((τ 128 0) + nI n) ≤ 12 → F (-1000003) τ))) → ((∃ j, j < 2 * n ∧ ¬ wi (σ (3 + 2 * s) (i + j)) (-99999) 99999) → F (-1000001) τ) → ∀ m j, j + m = 2 * n → (∀ q, q < j → wi (σ (3 + 2 * s) (i + q)) (-99999) 99999) → At hd_m_hills X0 91 [some (rf 55 122), some (iv (nI s)), some (iv (nI i)), some (iv (nI n)), some (iv (nI (40 * s + i))), some (iv (nI j)), none] [] τ (retI F) := by
    intro τ F ht h1 h0 m
    have e0 : 2 * nI n = nI (2 * n) := by rw [show (2 : Int32) = nI 2 from rfl, mulN]
    induction m with
    | zero =>
      intro j hj hq
      refine l_m_hills_91 _ _ _ _ _ _ _ ⟨fun _ => ⟨vz, h1 fun q hq2 => hq q (by omega)⟩, fun q => ?_⟩
      exact absurd (by rw [e0, nI_leI (by omega) (by omega)]; omega) q
    | succ m ih =>
      intro j hj hq
      have ej : nI (40 * s + i) + nI j = nI (40 * s + i + j) := nI_add _ _
      have pj := (P0 j (by omega) τ ht).1
      refine l_m_hills_91 _ _ _ _ _ _ _ ⟨fun q => ?_, fun _ => ⟨vin0 _ ej (by omega) (by decide), ?_⟩⟩
      · exfalso; rw [e0, nI_leI (by omega) (by omega)] at q; omega
      · rw [ej, nI_clamp (by omega), pj]
        by_cases c : -99999 ≤ (σ (3 + 2 * s) (i + j)).toInt ∧ (σ (3 + 2 * s) (i + j)).toInt ≤ 99999
        · refine gm_place1 c (on' ?_)
          rw [nI_1]
          exact ih (j + 1) (by omega) fun q hq2 => by
            by_cases z : q = j
            · subst z; exact c
            · exact hq q (by omega)
        · exact gm_place0 c (of' (h0 ⟨j, by omega, c⟩))
  have frz : Fr PQ σ (up σ 122 0 0) := Fr.rf.up (Or.inr (Or.inl (Or.inl (Or.inl ⟨rfl, Or.inl rfl⟩))))
  rw [show 2 + 2 * s + 1 = 3 + 2 * s by omega]
  refine xt _ (fun hall => ?_) (fun hex => ?_) (2 * n) 0 (by omega) (fun q hq => by omega)
  rotate_left
  · refine mb2 σ _ rfl rfl rfl (mt _ _ frz (fun h => ?_) (fun _ => kb _) (2 * n) 0 (by omega) (fun q hq => by omega))
    obtain ⟨j, hj, hb⟩ := hex
    exact absurd (h j hj) hb
  refine q_hi_hasRoom _ _ _ _ ?_
  rw [vroom hc hH (by omega)]
  have noBad : ∀ {A : Prop}, (∃ j, j < 2 * n ∧ ¬ wi (σ (3 + 2 * s) (i + j)) (-99999) 99999) → A := fun h => by
    obtain ⟨j, hj, hb⟩ := h
    exact absurd (hall j hj) hb
  by_cases cr : nh w + n ≤ 12
  rotate_left
  · rw [if_neg cr]
    refine of' (mb2 σ _ rfl rfl rfl (mt _ _ frz (fun _ => ⟨fun q => ?_, fun _ => kb _⟩) noBad (2 * n) 0 (by omega) (fun q hq => by omega)))
    exfalso
    rw [up_ka _ _ (by omega), hm.2.2.1, nI_add, show (12 : Int32) = nI 12 from rfl, nI_leI (by omega) (by omega)] at q
    omega
  rw [if_pos cr]
  refine on' ?_
  -- the hills
  have hX : ∀ j, j < n → wi (σ (3 + 2 * s) (i + 2 * j)) (-99999) 99999 ∧ wi (σ (3 + 2 * s) (i + 2 * j + 1)) (-99999) 99999 := fun j hj => ⟨hall (2 * j) (by omega), by rw [show i + 2 * j + 1 = i + (2 * j + 1) by omega]; exact hall (2 * j + 1) (by omega)⟩
  have ws : ∀ j, j ≤ n → okH (addN w (fun j => σ (3 + 2 * s) (i + 2 * j)) (fun j => σ (3 + 2 * s) (i + 2 * j + 1)) j) := fun j hj => addN_ok hH h4 j (by omega) fun q hq => hX q (by omega)
  generalize hxs : (fun j => σ (3 + 2 * s) (i + 2 * j)) = xs at ws
  generalize hys : (fun j => σ (3 + 2 * s) (i + 2 * j + 1)) = ys at ws
  have xsj : ∀ j, σ (3 + 2 * s) (i + 2 * j) = xs j := fun j => by rw [← hxs]
  have ysj : ∀ j, σ (3 + 2 * s) (i + 2 * j + 1) = ys j := fun j => by rw [← hys]
  have xl : ∀ (F : Int32 → St → Prop), (∀ τ, Fr PXc σ τ → XW (addN w xs ys n) τ → F (nI (nh w + n)) (up τ 0 10 0)) → ∀ m j, j + m = n → ∀ τ, Fr PXc σ τ → XW (addN w xs ys j) τ → At hd_x_hills X0 141 [some (rf 54 0), some (iv (nI s)), some (iv (nI i)), some (iv (nI n)), some (rf 0 (3 + 2 * s)), some (iv (nI j))] [] τ (retI F) := by
    intro F h m
    induction m with
    | zero =>
      intro j hj τ ht hxt
      have : j = n := by omega
      subst this
      refine l_x_hills_141 _ _ _ _ _ _ _ ⟨fun _ => e_x_unfound _ _ _ ?_, fun q => absurd (by rw [nI_leI (by omega) (by omega)]; omega) q⟩
      rw [show τ 50 8 = nI (nh (addN w xs ys j)) from hxt.1.2.2.1, addN_nh]; exact h τ ht hxt
    | succ m ih =>
      intro j hj τ ht hxt
      have ej : nI i + 2 * nI j = nI (i + 2 * j) := by rw [show (2 : Int32) = nI 2 from rfl, mulN, nI_add]
      have ej1 : nI (i + 2 * j) + 1 = nI (i + 2 * j + 1) := nI_1 _
      have p1 := ht (3 + 2 * s) (i + 2 * j) (by unfold PXc; omega)
      have p2 := ht (3 + 2 * s) (i + 2 * j + 1) (by unfold PXc; omega)
      refine l_x_hills_141 _ _ _ _ _ _ _ ⟨fun q => ?_, fun _ => ⟨vin0 _ ej (by omega) (by decide), by rw [ej, ej1]; exact vin0 _ rfl (by omega) (by decide), ?_⟩⟩
      · exfalso; rw [nI_leI (by omega) (by omega)] at q; omega
      · rw [ej, ej1, nI_clamp (by omega), nI_clamp (by omega), p1, p2, xsj, ysj]
        refine xadd hxt (by rw [addN_nh]; omega) _ _ _ fun ρ hr hxr => ?_
        rw [nI_1]
        exact ih (j + 1) (by omega) ρ (ht.tr hr) hxr
  have ml : ∀ (F : Int32 → St → Prop) (μ : St), Fr PQ σ μ → (∀ τ, Fr PMc μ τ → MW (addN w xs ys n) τ → F (nI (nh w + n)) τ) → ∀ m j, j + m = n → ∀ τ, Fr PMc μ τ → MW (addN w xs ys j) τ → At hd_m_hills X0 148 [some (rf 55 122), some (iv (nI s)), some (iv (nI i)), some (iv (nI n)), some (iv (nI (40 * s + i))), some (iv (nI j)), none] [] τ (retI F) := by
    intro F μ hμ h m
    induction m with
    | zero =>
      intro j hj τ ht hxt
      have : j = n := by omega
      subst this
      refine l_m_hills_148 _ _ _ _ _ _ _ ⟨fun _ => ⟨vz, ?_⟩, fun q => absurd (by rw [nI_leI (by omega) (by omega)]; omega) q⟩
      rw [c_0, hxt.1.2.2.1, addN_nh]; exact h τ ht hxt
    | succ m ih =>
      intro j hj τ ht hxt
      have ej : nI (40 * s + i) + 2 * nI j = nI (40 * s + i + 2 * j) := by rw [show (2 : Int32) = nI 2 from rfl, mulN, nI_add]
      have ej1 : nI (40 * s + i + 2 * j) + 1 = nI (40 * s + i + (2 * j + 1)) := nI_1 _
      have fτ : Fr PQ σ τ := hμ.tr (ht.mn fun _ _ q => Or.inr (Or.inl q))
      have p1 := (P0 (2 * j) (by omega) τ fτ).1
      have p2 := (P0 (2 * j + 1) (by omega) τ fτ).1
      refine l_m_hills_148 _ _ _ _ _ _ _ ⟨fun q => ?_, fun _ => ⟨vin0 _ ej (by omega) (by decide), by rw [ej, ej1]; exact vin0 _ rfl (by omega) (by decide), ?_⟩⟩
      · exfalso; rw [nI_leI (by omega) (by omega)] at q; omega
      · rw [ej, ej1, nI_clamp (by omega), nI_clamp (by omega), p1, p2, show i + (2 * j + 1) = i + 2 * j + 1 by omega, xsj, ysj]
        refine madd hxt (by rw [addN_nh]; omega) (ws j (by omega)) _ _ _ fun ρ hr hxr => ?_
        rw [nI_1]
        exact ih (j + 1) (by omega) ρ (ht.tr hr) hxr
  refine xl _ (fun τ ht hxt => ?_) n 0 (by omega) σ Fr.rf hx
  have b0 : Fr PQ σ τ := ht.mn fun _ _ q => Or.inl q
  have fτ : Fr PQ σ (up (up τ 0 10 0) 122 0 0) := (b0.up (Or.inr (Or.inr (Or.inr ⟨rfl, rfl⟩)))).up (Or.inr (Or.inl (Or.inl (Or.inl ⟨rfl, Or.inl rfl⟩))))
  have hM1 : MW w (up (up τ 0 10 0) 122 0 0) := MW_e (fun a b q => by rw [up_o _ _ (by omega), up_o _ _ (by omega)]) (MW_x ht hM)
  refine mb2 _ _ ?_ ?_ ?_ (mt _ _ fτ (fun _ => ⟨fun _ => ?_, fun q => ?_⟩) noBad (2 * n) 0 (by omega) (fun q hq => by omega))
  · rw [up_ka _ _ (by omega)]; exact ht _ _ (by unfold PXc; omega)
  · rw [up_ka _ _ (by omega)]; exact ht _ _ (by unfold PXc; omega)
  · rw [up_ka _ _ (by omega)]; exact ht _ _ (by unfold PXc; omega)
  · refine ml _ _ (fτ.up (Or.inr (Or.inr (Or.inl ⟨rfl, rfl⟩)))) (fun ρ hr hMr => ?_) n 0 (by omega) _ Fr.rf (MW_e (fun a b q => by rw [up_o _ _ (by omega)]) hM1)
    have f3 : Fr PQ σ ρ := (fτ.up (Or.inr (Or.inr (Or.inl ⟨rfl, rfl⟩)))).tr (hr.mn fun _ _ q => Or.inr (Or.inl q))
    refine k _ _ (f3.mn fun a b q => ?_) (RW_mk (okF_cg (addN_1 w xs ys n).1 (addN_1 w xs ys n).2 hF) (ws n (by omega)) (XW_m hr ?_) hMr) ?_
    · unfold PS PW SC
      unfold PQ PXc PMc at q
      rcases q with q | q | q
      · omega
      · rcases q with q | q
        · exact Or.inl (Or.inl (Or.inr q))
        · omega
      · omega
    · exact XW_e (fun a b _ _ => by simp (disch := omega) only [up_ka]) hxt
    · rw [hr 0 10 (by unfold PMc MS; omega), hr 122 1 (by unfold PMc MS; omega)]
      simp (disch := omega) only [up_at, up_ka, up_jb]
  · exfalso
    apply q
    rw [hM1.1.2.2.1, nI_add, show (12 : Int32) = nI 12 from rfl, nI_leI (by omega) (by omega)]
    omega
