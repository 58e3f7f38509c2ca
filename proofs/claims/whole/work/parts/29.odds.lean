/-! odds, pace -/
def ost (w : Wo) (s : Nat) : Nat := (wst w (2 * s + 1)).toInt.toNat
def cnt (w : Wo) (s : Nat) : Nat := pc12 (bitN (fun i => ftp w i s) (nh w))
def wt (w : Wo) (s : Nat) : Nat := ost w s * 3 ^ cnt w s
def swt (w : Wo) : Nat → Nat
  | 0 => 0
  | n + 1 => swt w n + wt w n
theorem ost_b {w : Wo} (hF : okF w) {s : Nat} (hs : s < n4 w) : 1 ≤ ost w s ∧ ost w s ≤ 9 ∧ wst w (2 * s + 1) = nI (ost w s) := by
  have h := (hF.2.2.2.2.2 s hs).2.1
  unfold wi at h
  unfold ost
  refine ⟨by omega, by omega, ?_⟩
  rw [fa_eq, ti_nI (by omega)]; omega
theorem p3 {c : Nat} (h : c ≤ 12) : 1 ≤ 3 ^ c ∧ 3 ^ c ≤ 531441 := ⟨Nat.pow_pos (by omega), Nat.le_trans (Nat.pow_le_pow_right (by omega) h) (by decide)⟩
theorem o3 {o c : Nat} (ho : 1 ≤ o ∧ o ≤ 9) (h : c ≤ 12) : 1 ≤ o * 3 ^ c ∧ o * 3 ^ c ≤ 4782969 := by
  obtain ⟨h1, h2⟩ := p3 h
  exact ⟨Nat.mul_pos ho.1 h1, Nat.le_trans (Nat.mul_le_mul ho.2 h2) (by decide)⟩
theorem wt_b {w : Wo} (hF : okF w) {s : Nat} (hs : s < n4 w) : 1 ≤ wt w s ∧ wt w s ≤ 4782969 := by
  have h := ost_b hF hs
  exact o3 ⟨h.1, h.2.1⟩ (pc_le _)
theorem swt_b {w : Wo} (hF : okF w) : ∀ n, n ≤ n4 w → n ≤ swt w n ∧ swt w n ≤ 4782969 * n
  | 0, _ => by simp [swt]
  | n + 1, hn => by
    have h1 := swt_b hF n (by omega)
    have h2 := wt_b hF (s := n) (by omega)
    simp only [swt]
    omega
theorem x_weight {w : Wo} {σ : St} (hx : XW w σ) (hF : okF w) (hH : okH w) {s : Nat} (hs : s < n4 w) (F : Int32 → St → Prop) (h : ∀ τ, Fr PX σ τ → F (nI (wt w s)) τ) : CallI hd_so_weight [rf 50 114, iv (nI s)] σ F := by
  have n4b := hF.1.2.2.2.2.1
  obtain ⟨o1, o2, o3'⟩ := ost_b hF hs
  have e1 : nI s * 2 + 1 = nI (2 * s + 1) := by rw [show (2 : Int32) = nI 2 from rfl, show (1 : Int32) = nI 1 from rfl, mulN, nI_add, Nat.mul_comm]
  have loop : ∀ τ, Fr PX σ τ → ∀ m j, j + m = cnt w s → At hd_so_weight X0 25 [some (rf 50 114), some (iv (nI s)), some (iv (nI (ost w s * 3 ^ j))), some (iv (nI (cnt w s))), some (iv (nI j))] [] τ (retI F) := by
    intro τ ht m
    have c12 : cnt w s ≤ 12 := pc_le _
    induction m with
    | zero =>
      intro j hj
      refine l_so_weight_25 _ _ _ _ _ _ ⟨fun _ => ?_, fun q => absurd (by rw [nI_leI (by omega) (by omega)]; omega) q⟩
      rw [show j = cnt w s by omega]; exact h τ ht
    | succ m ih =>
      intro j hj
      refine l_so_weight_25 _ _ _ _ _ _ ⟨fun q => ?_, fun _ => ?_⟩
      · exfalso; rw [nI_leI (by omega) (by omega)] at q; omega
      · rw [show (3 : Int32) = nI 3 from rfl, mulN, nI_1, Nat.mul_assoc, ← Nat.pow_succ]
        exact ih (j + 1) (by omega)
  refine e_so_weight _ _ _ (q_li_at_L_stories _ _ _ _ _ (vin0 _ e1 (by omega) (by decide)) ?_)
  have e2 : p_li_at_L_stories 45 (nI s) 1 σ = nI (ost w s) := by
    unfold p_li_at_L_stories
    rw [e1, nI_clamp (by omega), ← o3']; exact hx.1.2.1.2.2.2.2 _ (by omega)
  rw [e2]
  refine x_fitting hx.1 hx.2 hF hH hs _ fun τ ht => q_in_bitCount _ _ _ ?_
  have nhh := hH.1
  have b12 : bitN (fun i => ftp w i s) (nh w) < 4096 := Nat.lt_of_lt_of_le (bitN_lt _ _) (Nat.pow_le_pow_right (by omega) nhh)
  rw [bitP_N _ _ nhh, bc_all b12]
  have key := loop τ ht (cnt w s) 0 (by omega)
  rw [Nat.pow_zero, Nat.mul_one] at key
  exact key
theorem m_bits {x : Nat} (hx : x < 4096) (σ : St) (F : Int32 → St → Prop) (h : F (nI (pc12 x)) σ) : CallI hd_m_bits [iv (nI x)] σ F := by
  have loop : ∀ n y, y ≤ n → y < 4096 → pc12 y ≤ pc12 x → At hd_m_bits X0 4 [some (iv (nI x)), some (iv (nI (pc12 x - pc12 y))), some (iv (nI y))] [] σ (retI F) := by
    intro n
    induction n with
    | zero =>
      intro y hy hy2 _
      have y0 : y = 0 := Nat.le_zero.mp hy
      subst y0
      exact l_m_bits_4 _ _ _ _ _ ⟨fun _ => h, fun q => absurd rfl q⟩
    | succ n ih =>
      intro y hy hy2 hp
      by_cases y0 : y = 0
      · subst y0; exact l_m_bits_4 _ _ _ _ _ ⟨fun _ => h, fun q => absurd rfl q⟩
      obtain ⟨k1, k2, k3⟩ := kern hy2 (by omega)
      have ny : ¬ nI y = 0 := by rw [show (0 : Int32) = nI 0 from rfl, nI_eq (by omega) (by omega)]; omega
      refine l_m_bits_4 _ _ _ _ _ ⟨fun q => absurd q ny, fun _ => ?_⟩
      rw [k1, nI_1, show pc12 x - pc12 y + 1 = pc12 x - pc12 (y &&& (y - 1)) by omega]
      exact ih _ (by omega) (by omega) (by omega)
  have key := loop x x (Nat.le_refl _) hx (Nat.le_refl _)
  rw [Nat.sub_self] at key
  exact e_m_bits _ _ _ key
theorem m_oddsOf {w : Wo} {σ : St} (hM : MW w σ) (hF : okF w) (hH : okH w) {s : Nat} (hs : s < n4 w) (F : Int32 → St → Prop) (h : ∀ τ, Fr PM σ τ → F (nI (wt w s)) τ) : CallI hd_m_oddsOf [rf 55 122, iv (nI s)] σ F := by
  have n4b := hF.1.2.2.2.2.1
  obtain ⟨o1, o2, o3'⟩ := ost_b hF hs
  have e1 : 54 + 2 * nI s + 1 = nI (54 + 2 * s + 1) := by rw [show (54 : Int32) = nI 54 from rfl, show (2 : Int32) = nI 2 from rfl, show (1 : Int32) = nI 1 from rfl, mulN, nI_add, nI_add]
  have c12 : cnt w s ≤ 12 := pc_le _
  have loop : ∀ τ, Fr PM σ τ → ∀ m j, j + m = cnt w s → At hd_m_oddsOf X0 25 [some (rf 55 122), some (iv (nI s)), some (iv (nI (ost w s * 3 ^ j))), some (iv (nI m))] [] τ (retI F) := by
    intro τ ht m
    induction m with
    | zero =>
      intro j hj
      refine l_m_oddsOf_25 _ _ _ _ _ ⟨fun _ => ?_, fun q => absurd (by decide) q⟩
      rw [show j = cnt w s by omega]; exact h τ ht
    | succ m ih =>
      intro j hj
      refine l_m_oddsOf_25 _ _ _ _ _ ⟨fun q => ?_, fun _ => ?_⟩
      · exfalso; rw [show (0 : Int32) = nI 0 from rfl, nI_leI (by omega) (by omega)] at q; omega
      · rw [show (3 : Int32) = nI 3 from rfl, mulN, Nat.mul_assoc, ← Nat.pow_succ, show nI (m + 1) + (-1) = nI m by rw [← nI_1]; grind]
        exact ih (j + 1) (by omega)
  have nhh := hH.1
  have b12 : bitN (fun i => ftp w i s) (nh w) < 4096 := Nat.lt_of_lt_of_le (bitN_lt _ _) (Nat.pow_le_pow_right (by omega) nhh)
  refine e_m_oddsOf _ _ _ ⟨vin0 _ e1 (by omega) (by decide), ?_⟩
  refine m_fitting hM.1 hM.2.1 hF hH hs _ (fun i => ftp w i s) (fun i _ => ?_) _ fun τ ht => ?_
  · rw [decide_eq_true (show (-1000000 : Int32) = none32 from rfl)]; simp
  · rw [bitP_N _ _ nhh]
    refine m_bits b12 _ _ ?_
    rw [e1, nI_clamp (by omega), show 54 + 2 * s + 1 = 54 + (2 * s + 1) by omega, hM.1.2.1.2.2.2.2 _ (by omega), o3']
    have key := loop τ ht (cnt w s) 0 (by omega)
    rw [Nat.pow_zero, Nat.mul_one] at key
    exact key
theorem xw_px {w : Wo} {σ τ : St} (h : Fr PX σ τ) (hx : XW w σ) : XW w τ := XW_e (fun a b h1 h2 => h a b (by unfold PX; omega)) hx
theorem mw_px {w : Wo} {σ τ : St} (h : Fr PX σ τ) (hx : MW w σ) : MW w τ := MW_e (fun a b h1 => h a b (by unfold PX; omega)) hx
theorem mw_pm {w : Wo} {σ τ : St} (h : Fr PM σ τ) (hx : MW w σ) : MW w τ := MW_e (fun a b h1 => h a b (by unfold PM; omega)) hx
theorem mw_z {w : Wo} {σ : St} (hx : MW w σ) : MW w (up σ 122 0 0) := MW_e (fun a b q => by rw [up_o _ _ (by omega)]) hx
theorem mw_sc {w : Wo} {σ τ : St} (h : Fr SC σ τ) (hx : MW w σ) : MW w τ := MW_e (fun a b h1 => h a b (by unfold SC MS; omega)) hx
theorem r_odds (a1 a2 : Int32) (σ : St) (G : Int32 → Int32 → St → Prop) (hR : RW σ) (k : KQ σ G) :
    CallI hd_x_odds [rf 54 0, iv a1, iv a2] σ (fun r σ1 => CallI hd_m_odds [rf 55 122, iv a1, iv a2] σ1 (fun r' σ2 => G r r' σ2)) := by
  obtain ⟨w, hF, hH, hc, hcd, hm, hmd, h7⟩ := hR
  have hx : XW w σ := ⟨hc, hcd⟩
  have hM : MW w σ := ⟨hm, hmd, h7⟩
  have hm0 := mWs_fr fr0 hm
  have n4b := hF.1.2.2.2.2.1
  refine e_x_odds a1 a2 σ _ (gx_story hc hF (fun s hs e => on ?_) (fun c => of (e_m_odds _ _ _ _ (gm_story0 hm0 hF c (of (k _ _ fr0))))))
  subst e
  refine gx_below 2 (by decide) (fun b hb e => on' ?_) (fun c => of' (e_m_odds _ _ _ _ (gm_story1 hm0 hF hs (on (gm_in0 (by rw [i2l, tl_0, tl_1]; omega) (of' (k _ _ fr0)))))))
  subst e
  have bb : (0 : Int64).toInt ≤ (nI b).toInt64.toInt ∧ (nI b).toInt64.toInt ≤ (1 : Int64).toInt := by rw [i2l, tl_0, tl_1, ti_nI (by omega)]; omega
  have sb := swt_b hF (n4 w) (Nat.le_refl _)
  have wb := wt_b hF hs
  have mo : ∀ (τ : St) (r : Int32), Fr PX σ τ → (b = 0 → r = nI (wt w s / Nat.gcd (wt w s) (swt w (n4 w)))) → (b = 1 → r = nI (swt w (n4 w) / Nat.gcd (wt w s) (swt w (n4 w)))) → CallI hd_m_odds [rf 55 122, iv (nI s), iv (nI b)] τ (fun r' σ2 => G r r' σ2) := by
    intro τ r ht r0 r1
    have hM0 := mw_z (mw_px ht hM)
    have f0 : Fr SC σ (up τ 122 0 0) := (pxsc ht).tr fr0
    have loop : ∀ m j, j + m = n4 w → ∀ ρ, Fr PM (up τ 122 0 0) ρ → At hd_m_odds X0 31 [some (rf 55 122), some (iv (nI s)), some (iv (nI b)), some (iv (nI (swt w j))), some (iv (nI j))] [] ρ (retI (fun r' σ2 => G r r' σ2)) := by
      intro m
      induction m with
      | zero =>
        intro j hj ρ hr
        have hMr := mw_pm hr hM0
        refine l_m_odds_31 _ _ _ _ _ _ ⟨vst, ?_⟩
        rw [c_4, hMr.1.1.2.2.2.2]
        refine ⟨fun _ => m_oddsOf hMr hF hH hs _ fun μ hμ => ?_, fun q => absurd (by rw [nI_leI (by omega) (by omega)]; omega) q⟩
        rw [show j = n4 w by omega]
        have fin : ∀ r', r = r' → G r r' μ := fun r' e => by rw [← e]; exact k _ _ (f0.tr (pmsc (hr.tr hμ)))
        refine m_part (by omega) (by omega) (by omega) _ _ _ (fun q => fin _ (r1 ?_)) (fun q => fin _ (r0 ?_))
        · have : ¬ b = 0 := fun e => q (by rw [e]; rfl)
          omega
        · rw [show (0 : Int32) = nI 0 from rfl, nI_eq (by omega) (by omega)] at q; exact q
      | succ m ih =>
        intro j hj ρ hr
        have hMr := mw_pm hr hM0
        refine l_m_odds_31 _ _ _ _ _ _ ⟨vst, ?_⟩
        rw [c_4, hMr.1.1.2.2.2.2]
        refine ⟨fun q => ?_, fun _ => m_oddsOf hMr hF hH (by omega) _ fun μ hμ => ?_⟩
        · exfalso; rw [nI_leI (by omega) (by omega)] at q; omega
        · rw [nI_add, nI_1]
          exact ih (j + 1) (by omega) μ (hr.tr hμ)
    exact e_m_odds _ _ _ _ (gm_story1 hM0.1 hF hs (on (gm_in1 bb (on' (loop (n4 w) 0 (by omega) _ Fr.rf)))))
  have xl : ∀ m j, j + m = n4 w → ∀ τ, Fr PX σ τ → At hd_x_odds X0 27 [some (rf 54 0), some (iv (nI s)), some (iv (nI b)), some (iv (if s < j then nI (wt w s) else 0)), some (iv (nI (swt w j))), some (iv (nI j)), none] [] τ (retI (fun r σ1 => CallI hd_m_odds [rf 55 122, iv (nI s), iv (nI b)] σ1 (fun r' σ2 => G r r' σ2))) := by
    intro m
    induction m with
    | zero =>
      intro j hj τ ht
      refine l_x_odds_27 _ _ _ _ _ _ _ ?_
      rw [show τ 45 2 = nI (n4 w) from (xw_px ht hx).1.1.2.2.2.2, if_pos (by omega), show j = n4 w by omega]
      refine ⟨fun _ => ⟨fun q => x_low (by omega) (by omega) (by omega) _ _ _ (fun _ => mo τ _ ht (fun e => ?_) (fun _ => rfl)) (fun q => absurd rfl q), fun q => x_low (by omega) (by omega) (by omega) _ _ _ (fun q => absurd q one_ne) (fun _ => mo τ _ ht (fun _ => rfl) (fun e => ?_))⟩, fun q => absurd (by rw [nI_leI (by omega) (by omega)]; omega) q⟩
      · exact absurd (by rw [e]; rfl) q
      · rw [e] at q; exact absurd q (by decide)
    | succ m ih =>
      intro j hj τ ht
      refine l_x_odds_27 _ _ _ _ _ _ _ ?_
      rw [show τ 45 2 = nI (n4 w) from (xw_px ht hx).1.1.2.2.2.2]
      refine ⟨fun q => ?_, fun _ => x_weight (xw_px ht hx) hF hH (by omega) _ fun ρ hr => ?_⟩
      · exfalso; rw [nI_leI (by omega) (by omega)] at q; omega
      · have key := ih (j + 1) (by omega) ρ (ht.tr hr)
        have c : nI j = nI s ↔ j = s := nI_eq (by omega) (by omega)
        rw [c]
        refine ⟨fun q => l_x_odds_68 _ _ _ _ _ _ _ _ _ ?_, fun q => l_x_odds_68 _ _ _ _ _ _ _ _ _ ?_⟩
        · rw [nI_add, nI_1]
          have e : (if s < j then nI (wt w s) else 0) = (if s < j + 1 then nI (wt w s) else 0) := by
            by_cases z : s < j
            · rw [if_pos z, if_pos (by omega)]
            · rw [if_neg z, if_neg (by omega)]
          rw [e]; exact key
        · rw [nI_add, nI_1, q]
          rw [q, if_pos (by omega)] at key; exact key
  have key := xl (n4 w) 0 (by omega) σ Fr.rf
  rw [if_neg (by omega)] at key
  exact key
/-! how far, how fast -/
def apt (w : Wo) (a b : Nat) : Int32 := ab (wx w a - wx w b) + ab (wy w a - wy w b)
theorem apt_b {w : Wo} (hH : okH w) {a b : Nat} (ha : a < nh w) (hb : b < nh w) : 0 ≤ (apt w a b).toInt ∧ (apt w a b).toInt ≤ 400000 := by
  obtain ⟨x1, y1, -⟩ := hH.2.2 a ha
  obtain ⟨x2, y2, -⟩ := hH.2.2 b hb
  unfold wi at x1 x2 y1 y2
  have d1 : (wx w a - wx w b).toInt = (wx w a).toInt - (wx w b).toInt := ti_sub (by omega)
  have d2 : (wy w a - wy w b).toInt = (wy w a).toInt - (wy w b).toInt := ti_sub (by omega)
  have b1 := ab_b (v := wx w a - wx w b) (b := 199998) (by rw [d1]; omega) (by omega)
  have b2 := ab_b (v := wy w a - wy w b) (b := 199998) (by rw [d2]; omega) (by omega)
  unfold apt
  rw [ti_add (by omega)]; omega
theorem x_apart {w : Wo} {σ : St} (hc : cW w 36 50 σ) (hH : okH w) {a b : Nat} (ha : a < nh w) (hb : b < nh w) (F : Int32 → St → Prop) (h : F (apt w a b) σ) : CallI hd_hi_apart [rf 43 50, iv (nI a), iv (nI b)] σ F := by
  have nhh := hH.1
  refine q_hi_apart _ _ _ _ _ (vin0 a rfl (by omega) (by decide)) (vin0 b rfl (by omega) (by decide)) ?_
  unfold p_hi_apart
  rw [nI_clamp (by omega), nI_clamp (by omega), show σ (50 + 1) a = wx w a from (hc.2.2.2 a ha).1, show σ (50 + 1) b = wx w b from (hc.2.2.2 b hb).1, show σ (50 + 2) a = wy w a from (hc.2.2.2 a ha).2.1, show σ (50 + 2) b = wy w b from (hc.2.2.2 b hb).2.1]
  exact h
theorem m_apart {w : Wo} {σ : St} (hm : mW w (σ 126) (σ 128)) (hH : okH w) {a b : Nat} (ha : a < nh w) (hb : b < nh w) (F : Int32 → St → Prop) (h : F (apt w a b) σ) : CallI hd_m_apart [rf 55 122, iv (nI a), iv (nI b)] σ F := by
  have nhh := hH.1
  have e1 : ∀ a, (1 : Int32) + nI a = nI (1 + a) := fun a => nI_add 1 a
  have e13 : ∀ a, (13 : Int32) + nI a = nI (13 + a) := fun a => nI_add 13 a
  refine e_m_apart _ _ _ _ ⟨vin0 _ (e1 a) (by omega) (by decide), vin0 _ (e1 b) (by omega) (by decide), q_m_size _ _ _ ⟨vin0 _ (e13 a) (by omega) (by decide), vin0 _ (e13 b) (by omega) (by decide), q_m_size _ _ _ ?_⟩⟩
  rw [e1, e1, e13, e13, nI_clamp (by omega), nI_clamp (by omega), nI_clamp (by omega), nI_clamp (by omega), v_size, v_size, (hm.2.2.2 a ha).1, (hm.2.2.2 b hb).1, (hm.2.2.2 a ha).2.1, (hm.2.2.2 b hb).2.1]
  exact h
theorem lk_sc {σ τ : St} (h : Fr (fun a b => a = 122 ∧ 22 ≤ b ∧ b ≤ 24) σ τ) : Fr SC σ τ := h.mn fun a b q => by unfold SC MS; omega
theorem r_pace (a1 a2 a3 : Int32) (σ : St) (G : Int32 → Int32 → St → Prop) (hR : RW σ) (k : KQ σ G) :
    CallI hd_x_pace [rf 54 0, iv a1, iv a2, iv a3] σ (fun r σ1 => CallI hd_m_pace [rf 55 122, iv a1, iv a2, iv a3] σ1 (fun r' σ2 => G r r' σ2)) := by
  obtain ⟨w, hF, hH, hc, hcd, hm, hmd, h7⟩ := hR
  have hM : MW w σ := ⟨hm, hmd, h7⟩
  have hm0 := mWs_fr fr0 hm
  have nhh := hH.1
  refine e_x_pace a1 a2 a3 σ _ (gx_hill hc hH (fun a ha e => on ?_) (fun c => of (e_m_pace _ _ _ _ _ (gm_hill0 hm0 hH c (of (k _ _ fr0))))))
  subst e
  refine gx_hill hc hH (fun b hb e => on ?_) (fun c => of (e_m_pace _ _ _ _ _ (gm_hill1 hm0 hH ha (on (gm_hill0 hm0 hH c (of (k _ _ fr0)))))))
  subst e
  refine ⟨fun q => e_m_pace _ _ _ _ _ (gm_hill1 hm0 hH ha (on (gm_hill1 hm0 hH hb (on ⟨fun _ => k _ _ fr0, fun z => absurd q z⟩)))), fun hne => ?_⟩
  refine gx_below 4 (by decide) (fun c hc4 e => on' ?_) (fun c => of' (e_m_pace _ _ _ _ _ (gm_hill1 hm0 hH ha (on (gm_hill1 hm0 hH hb (on ⟨fun z => absurd z hne, fun _ => gm_in0 (by rw [i2l, tl_0, tl_3]; omega) (of' (k _ _ fr0))⟩))))))
  subst e
  have bb : (0 : Int64).toInt ≤ (nI c).toInt64.toInt ∧ (nI c).toInt64.toInt ≤ (3 : Int64).toInt := by rw [i2l, tl_0, tl_3, ti_nI (by omega)]; omega
  have la := lohi hF hH ha
  have lb := lohi hF hH hb
  have va : vp_in (nI a) 12 := vin0 a rfl (by omega) (by decide)
  have vb : vp_in (nI b) 12 := vin0 b rfl (by omega) (by decide)
  have ca : (nI a).toNatClampNeg = a := nI_clamp (by omega)
  have cb : (nI b).toNatClampNeg = b := nI_clamp (by omega)
  have two0 : ¬ (2 : Int32) = 0 := by decide
  have rm : nI c - nI c / 2 * 2 = nI (c % 2) := nI_rem (y := 2) (by omega) (by decide)
  have cc2 : (2 : Int32) ≤ nI c ↔ 2 ≤ c := by rw [show (2 : Int32) = nI 2 from rfl]; exact nI_leI (by omega) (by omega)
  have sub : ∀ p q : Nat, p ≤ 99 → q ≤ 99 → (0 < nI p - nI q ↔ q < p) ∧ (q < p → nI p - nI q = nI (p - q)) := by
    intro p q hp hq
    have t : (nI p - nI q).toInt = (p : Int) - q := by rw [ti_sub (by rw [ti_nI (by omega), ti_nI (by omega)]; omega), ti_nI (by omega), ti_nI (by omega)]
    refine ⟨by rw [fa_lt, t_0, t]; omega, fun h => by rw [fa_eq, t, ti_nI (by omega)]; omega⟩
  have ap := apt_b hH ha hb
  obtain ⟨d, hd, ed, -, td⟩ := ixe (x := apt w a b) (n := 400001) (by omega) (by decide)
  -- both sides from the difference of ages on
  have go : ∀ p q : Nat, p ≤ 99 → q ≤ 99 → (∀ (F : Int32 → St → Prop), (∀ ρ, Fr SC σ ρ → At hd_m_pace X0 71 [some (rf 55 122), some (iv (nI a)), some (iv (nI b)), some (iv (nI c)), none] [iv (nI p - nI q)] ρ (retI F)) → CallI hd_m_pace [rf 55 122, iv (nI a), iv (nI b), iv (nI c)] σ F) → At hd_x_pace X0 79 [some (rf 54 0), some (iv (nI a)), some (iv (nI b)), some (iv (nI c)), some (rf 43 50), none] [iv (nI p - nI q)] σ (retI (fun r σ1 => CallI hd_m_pace [rf 55 122, iv (nI a), iv (nI b), iv (nI c)] σ1 (fun r' σ2 => G r r' σ2))) := by
    intro p q hp hq mk
    obtain ⟨s1, s2⟩ := sub p q hp hq
    refine l_x_pace_79 _ _ _ _ _ _ ?_
    rw [s1]
    refine ⟨fun hlt => x_apart hc hH ha hb _ ⟨two0, ?_⟩, fun hn => mk _ fun ρ hr => l_m_pace_71 _ _ _ _ _ _ ?_⟩
    · rw [rm, ed, s2 hlt]
      have fin : ∀ r : Int32, (c % 2 = 0 → r = nI (d / Nat.gcd d (p - q))) → (¬ c % 2 = 0 → r = nI ((p - q) / Nat.gcd d (p - q))) → CallI hd_m_pace [rf 55 122, iv (nI a), iv (nI b), iv (nI c)] σ (fun r' σ2 => G r r' σ2) := by
        intro r r0 r1
        refine mk _ fun ρ hr => l_m_pace_71 _ _ _ _ _ _ ?_
        rw [s1]
        refine ⟨fun _ => m_apart (mWs_fr hr hm) hH ha hb _ ⟨two0, ?_⟩, fun z => absurd hlt z⟩
        rw [rm, ed, s2 hlt]
        have c0 : nI (c % 2) = 0 ↔ c % 2 = 0 := by rw [show (0 : Int32) = nI 0 from rfl]; exact nI_eq (by omega) (by omega)
        refine m_part (by omega) (by omega) (by omega) _ _ _ (fun z => ?_) (fun z => ?_)
        · rw [c0] at z; rw [← r1 z]; exact k _ _ hr
        · rw [c0] at z; rw [← r0 z]; exact k _ _ hr
      have c0 : nI (c % 2) = 0 ↔ c % 2 = 0 := by rw [show (0 : Int32) = nI 0 from rfl]; exact nI_eq (by omega) (by omega)
      rw [c0]
      refine ⟨fun z => x_low (by omega) (by omega) (by omega) _ _ _ (fun _ => fin _ (fun y => absurd y z) (fun _ => rfl)) (fun y => absurd rfl y), fun z => x_low (by omega) (by omega) (by omega) _ _ _ (fun y => absurd y one_ne) (fun _ => fin _ (fun _ => rfl) (fun y => absurd z y))⟩
    · rw [s1]; exact ⟨fun z => absurd z hn, fun _ => k _ _ hr⟩
  rw [ca, cb, show σ 54 a = nI (lo w a) from (hc.2.2.2 a ha).2.2.2.1, show σ 55 b = nI (hi w b) from (hc.2.2.2 b hb).2.2.2.2.1, show σ 55 a = nI (hi w a) from (hc.2.2.2 a ha).2.2.2.2.1, show σ 54 b = nI (lo w b) from (hc.2.2.2 b hb).2.2.2.1, cc2]
  refine ⟨fun z => ⟨va, vb, go _ _ (by omega) (by omega) fun F h => ?_⟩, fun z => ⟨va, vb, go _ _ (by omega) (by omega) fun F h => ?_⟩⟩
  · refine e_m_pace _ _ _ _ _ (gm_hill1 hm0 hH ha (on (gm_hill1 hm0 hH hb (on ⟨fun z => absurd z hne, fun _ => gm_in1 bb (on' ?_)⟩))))
    rw [cc2]
    exact ⟨fun _ => m_low hm0 hF hH ha _ fun τ ht => m_high (mWs_fr (lk_sc ht) hm0) hF hH hb _ fun ρ hr => h ρ ((fr0.tr (lk_sc ht)).tr (lk_sc hr)), fun y => absurd z y⟩
  · refine e_m_pace _ _ _ _ _ (gm_hill1 hm0 hH ha (on (gm_hill1 hm0 hH hb (on ⟨fun z => absurd z hne, fun _ => gm_in1 bb (on' ?_)⟩))))
    rw [cc2]
    exact ⟨fun y => absurd y z, fun _ => m_high hm0 hF hH ha _ fun τ ht => m_low (mWs_fr (lk_sc ht) hm0) hF hH hb _ fun ρ hr => h ρ ((fr0.tr (lk_sc ht)).tr (lk_sc hr))⟩
