/-! which hill to bore next, when the next one comes -/
def lsA (w : Wo) (i : Nat) : Nat → Nat
  | 0 => 99
  | s + 1 => if nag w i s < lsA w i s then nag w i s else lsA w i s
def msA (w : Wo) (i : Nat) : Nat → Nat
  | 0 => 0
  | s + 1 => if msA w i s < nag w i s then nag w i s else msA w i s
theorem nag_b {w : Wo} (hF : okF w) (hH : okH w) {i s : Nat} (hi' : i < nh w) (hs : s < n4 w) : nag w i s ≤ 99 := by
  have := (near_f hF hH hi' hs).2; unfold nag; omega
theorem lsA_b {w : Wo} (hF : okF w) (hH : okH w) {i : Nat} (hi' : i < nh w) : ∀ s, s ≤ n4 w → lsA w i s ≤ 99 ∧ msA w i s ≤ 99
  | 0, _ => by simp [lsA, msA]
  | s + 1, hs => by
    have := lsA_b hF hH hi' s (by omega)
    have := nag_b hF hH hi' (s := s) (by omega)
    simp only [lsA, msA]
    constructor <;> split <;> omega
theorem nmin {a b : Nat} (ha : a < 2147483648) (hb : b < 2147483648) : (if nI a < nI b then nI a else nI b) = nI (if a < b then a else b) := by
  by_cases c : a < b
  · rw [if_pos c, if_pos ((nI_ltI ha hb).mpr c)]
  · rw [if_neg c, if_neg (fun q => c ((nI_ltI ha hb).mp q))]
theorem nmax {a b : Nat} (ha : a < 2147483648) (hb : b < 2147483648) : (if nI a < nI b then nI b else nI a) = nI (if a < b then b else a) := by
  by_cases c : a < b
  · rw [if_pos c, if_pos ((nI_ltI ha hb).mpr c)]
  · rw [if_neg c, if_neg (fun q => c ((nI_ltI ha hb).mp q))]
def apv (w : Wo) (i : Nat) : Int32 := nI (msA w i (n4 w)) - nI (lsA w i (n4 w))
theorem apv_b {w : Wo} (hF : okF w) (hH : okH w) {i : Nat} (hi' : i < nh w) : -99 ≤ (apv w i).toInt ∧ (apv w i).toInt ≤ 99 := by
  have := lsA_b hF hH hi' (n4 w) (Nat.le_refl _)
  unfold apv
  rw [ti_sub (by rw [ti_nI (by omega), ti_nI (by omega)]; omega), ti_nI (by omega), ti_nI (by omega)]; omega
theorem x_ages {w : Wo} {σ : St} (hc : cW w 36 50 σ) (hD : cD w 36 σ) (hF : okF w) (hH : okH w) {i : Nat} (hi' : i < nh w) (F : Int32 → St → Prop) (h : ∀ τ, Fr PX σ τ → F (apv w i) τ) : CallI hd_so_agesApart [rf 50 114, iv (nI i)] σ F := by
  have n4b := hF.1.2.2.2.2.1
  have loop : ∀ m s, s + m = n4 w → ∀ τ, Fr PX σ τ → At hd_so_agesApart X0 8 [some (rf 50 114), some (iv (nI i)), some (iv (nI (lsA w i s))), some (iv (nI (msA w i s))), some (iv (nI s))] [] τ (retI F) := by
    intro m
    induction m with
    | zero =>
      intro s hs τ ht
      have : s = n4 w := by omega
      subst this
      refine l_so_agesApart_8 _ _ _ _ _ _ ?_
      rw [show τ 45 2 = nI (n4 w) from (x_row ht hc).1.2.2.2.2]
      exact ⟨fun _ => h τ ht, fun q => absurd (by rw [nI_leI (by omega) (by omega)]; omega) q⟩
    | succ m ih =>
      intro s hs τ ht
      have lb := lsA_b hF hH hi' s (by omega)
      have nb := nag_b hF hH hi' (s := s) (by omega)
      refine l_so_agesApart_8 _ _ _ _ _ _ ?_
      rw [show τ 45 2 = nI (n4 w) from (x_row ht hc).1.2.2.2.2]
      refine ⟨fun q => ?_, fun _ => c_find (x_row ht hc) (x_rowD ht hD) hF hH hi' (by omega) _ fun ρ hr hx => ?_⟩
      · exfalso; rw [nI_leI (by omega) (by omega)] at q; omega
      have key := ih (s + 1) (by omega) ρ (ht.tr hr)
      simp only [lsA, msA] at key
      rw [(xAc_of hF hH hi' (by omega) hx).2.1, nI_1, nmin (by omega) (by omega), nmax (by omega) (by omega)]
      exact key
  exact e_so_agesApart _ _ _ (loop (n4 w) 0 (by omega) σ Fr.rf)
def boS (w : Wo) : Nat → Int32 × Int32
  | 0 => (-1000000, -1)
  | h + 1 => if nd w h = 0 ∧ ¬ apv w h ≤ (boS w h).2 then (nI h, apv w h) else boS w h
theorem boS_b (w : Wo) : ∀ h, -1 ≤ (boS w h).2.toInt
  | 0 => by show -1 ≤ (-1 : Int32).toInt; decide
  | h + 1 => by
    have := boS_b w h
    simp only [boS]
    split
    · rename_i c
      have := c.2
      rw [fa_le] at this
      show -1 ≤ (apv w h).toInt
      omega
    · exact this
theorem x_least {w : Wo} {σ : St} (hc : cW w 36 50 σ) (hD : cD w 36 σ) (hF : okF w) (hH : okH w) (F : Int32 → St → Prop) (h : ∀ τ, Fr PX σ τ → F (boS w (nh w)).1 τ) : CallI hd_so_leastKnown [rf 50 114] σ F := by
  have nhh := hH.1
  have loop : ∀ m n, n + m = nh w → ∀ τ, Fr PX σ τ → At hd_so_leastKnown X0 7 [some (rf 50 114), some (iv (boS w n).1), some (iv (boS w n).2), some (iv (nI n)), none] [] τ (retI F) := by
    intro m
    induction m with
    | zero =>
      intro n hn τ ht
      have : n = nh w := by omega
      subst this
      refine l_so_leastKnown_7 _ _ _ _ _ ?_
      rw [(x_row ht hc).2.2.1]
      exact ⟨fun _ => h τ ht, fun q => absurd (by rw [nI_leI (by omega) (by omega)]; omega) q⟩
    | succ m ih =>
      intro n hn τ ht
      have bb := boS_b w n
      have key := ih (n + 1) (by omega)
      simp only [boS] at key
      have d4 := (hH.2.2 n (by omega)).2.2.1
      refine l_so_leastKnown_7 _ _ _ _ _ ?_
      rw [(x_row ht hc).2.2.1]
      refine ⟨fun q => ?_, fun _ => ⟨vin0 n rfl (by omega) (by decide), ?_⟩⟩
      · exfalso; rw [nI_leI (by omega) (by omega)] at q; omega
      rw [nI_clamp (by omega), show τ 53 n = nI (nd w n) from ((x_row ht hc).2.2.2 n (by omega)).2.2.1, show (0 : Int32) = nI 0 from rfl, nI_leI (by omega) (by omega)]
      refine ⟨fun q => x_ages (x_row ht hc) (x_rowD ht hD) hF hH (by omega) _ fun ρ hr => l_so_leastKnown_39 _ _ _ _ _ _ ?_, fun q => l_so_leastKnown_39 _ _ _ _ _ _ ?_⟩
      · rw [nI_1]
        refine ⟨fun z => ?_, fun z => ?_⟩
        · rw [if_neg (fun y => y.2 z)] at key; exact key ρ (ht.tr hr)
        · rw [if_pos ⟨by omega, z⟩] at key; exact key ρ (ht.tr hr)
      · rw [nI_1]
        rw [if_neg (fun y => by have := y.1; omega)] at key
        exact ⟨fun _ => key τ ht, fun z => absurd (by rw [fa_le, t_m1]; exact bb) z⟩
  exact e_so_leastKnown _ _ (loop (nh w) 0 (by omega) σ Fr.rf)
theorem r_bore (σ : St) (G : Int32 → Int32 → St → Prop) (hR : RW σ) (k : KQ σ G) :
    CallI hd_x_bore [rf 54 0] σ (fun r σ1 => CallI hd_m_bore [rf 55 122] σ1 (fun r' σ2 => G r r' σ2)) := by
  obtain ⟨w, hF, hH, hc, hcd, hm, hmd, h7⟩ := hR
  have nhh := hH.1
  have n4b := hF.1.2.2.2.2.1
  refine e_x_bore σ _ (gx_there hc hF (fun h4 => on ?_) (fun h4 => of (e_m_bore _ _ ?_)))
  rotate_left
  · rw [mt0 h7 h4]; exact of' (k _ _ fr0)
  refine x_least hc hcd hF hH _ fun τ ht => ?_
  have f0 : Fr SC σ (up τ 122 0 0) := (pxsc ht).tr fr0
  have hm1 := mWs_fr f0 hm
  have hd1 := mDs_fr f0 hmd
  have f7 : τ 122 7 = (if n4 w = 0 then 0 else 1) := by rw [ht _ _ (by unfold PX; omega)]; exact h7
  have loop : ∀ m n, n + m = nh w → ∀ ρ, Fr PM (up τ 122 0 0) ρ → At hd_m_bore X0 22 [some (rf 55 122), some (iv (boS w n).1), some (iv (boS w n).2), some (iv (nI n)), none, none, none] [] ρ (retI (fun r' σ2 => G (boS w (nh w)).1 r' σ2)) := by
    intro m
    induction m with
    | zero =>
      intro n hn ρ hr
      have : n = nh w := by omega
      subst this
      refine l_m_bore_22 _ _ _ _ _ ⟨vz, ?_⟩
      rw [c_0, (m_row hr hm1).2.2.1]
      exact ⟨fun _ => k _ _ (f0.tr (pmsc hr)), fun q => absurd (by rw [nI_leI (by omega) (by omega)]; omega) q⟩
    | succ m ih =>
      intro n hn ρ hr
      have key := ih (n + 1) (by omega)
      simp only [boS] at key
      have d4 := (hH.2.2 n (by omega)).2.2.1
      have inner : ∀ r s, s + r = n4 w → ∀ ρ, Fr PM (up τ 122 0 0) ρ → At hd_m_bore X0 42 [some (rf 55 122), some (iv (boS w n).1), some (iv (boS w n).2), some (iv (nI n)), some (iv (if s = 0 then 100 else nI (lsA w n s))), some (iv (if s = 0 then -1 else nI (msA w n s))), some (iv (nI s))] [] ρ (retI (fun r' σ2 => G (boS w (nh w)).1 r' σ2)) := by
        intro r
        induction r with
        | zero =>
          intro s hs ρ hr
          have : s = n4 w := by omega
          subst this
          refine l_m_bore_42 _ _ _ _ _ _ _ _ ⟨vst, ?_⟩
          rw [c_4, (m_row hr hm1).1.2.2.2.2]
          refine ⟨fun _ => ⟨vin0 _ (e25_ n) (by omega) (by decide), ?_⟩, fun q => absurd (by rw [nI_leI (by omega) (by omega)]; omega) q⟩
          rw [e25_, nI_clamp (by omega), ((m_row hr hm1).2.2.2 n (by omega)).2.2.1, show (0 : Int32) = nI 0 from rfl, nI_eq (by omega) (by omega), if_neg (by omega), if_neg (by omega), nI_1]
          refine ⟨fun q => ?_, fun q => ⟨fun z => ?_, fun z => ?_⟩⟩
          · rw [if_neg (fun y => q y.1)] at key; exact key ρ hr
          · rw [if_neg (fun y => y.2 z)] at key; exact key ρ hr
          · rw [if_pos ⟨q, z⟩] at key; exact key ρ hr
        | succ r ih2 =>
          intro s hs ρ hr
          have lb := lsA_b hF hH (i := n) (by omega) s (by omega)
          have nb := nag_b hF hH (i := n) (s := s) (by omega) (by omega)
          refine l_m_bore_42 _ _ _ _ _ _ _ _ ⟨vst, ?_⟩
          rw [c_4, (m_row hr hm1).1.2.2.2.2]
          refine ⟨fun q => ?_, fun _ => c_seek (m_row hr hm1) (m_rowD hr hd1) hF hH (by omega) (by omega) _ fun κ hκ hx => ?_⟩
          · exfalso; rw [nI_leI (by omega) (by omega)] at q; omega
          have e26 := (mAc_of hF hH (by omega) (by omega) hx).2.1
          have key2 := ih2 (s + 1) (by omega) κ (hr.tr hκ)
          simp only [lsA, msA] at key2
          rw [if_neg (show ¬ s + 1 = 0 by omega), if_neg (show ¬ s + 1 = 0 by omega)] at key2
          have a78 : ∀ s0 : Int32, s0 = nI (if nag w n s < lsA w n s then nag w n s else lsA w n s) → At hd_m_bore X0 78 [some (rf 55 122), some (iv (boS w n).1), some (iv (boS w n).2), some (iv (nI n)), some (iv (if s = 0 then 100 else nI (lsA w n s))), some (iv (if s = 0 then -1 else nI (msA w n s))), some (iv (nI s))] [iv s0] κ (retI (fun r' σ2 => G (boS w (nh w)).1 r' σ2)) := fun s0 es => by
            subst es
            refine l_m_bore_78 _ _ _ _ _ _ _ _ _ ?_
            rw [e26, nI_1]
            by_cases z : s = 0
            · rw [if_pos z]
              refine ⟨fun q => ?_, fun _ => ?_⟩
              · exfalso; rw [fa_le, ti_nI (by omega), t_m1] at q; omega
              · subst z
                have e0 : (if msA w n 0 < nag w n 0 then nag w n 0 else msA w n 0) = nag w n 0 := by
                  by_cases y : msA w n 0 < nag w n 0
                  · rw [if_pos y]
                  · rw [if_neg y]
                    have : msA w n 0 = 0 := rfl
                    omega
                rw [e0] at key2
                exact key2
            · rw [if_neg z, nI_leI (by omega) (by omega)]
              refine ⟨fun q => ?_, fun q => ?_⟩
              · rw [if_neg (show ¬ msA w n s < nag w n s by omega)] at key2; exact key2
              · rw [if_pos (show msA w n s < nag w n s by omega)] at key2; exact key2
          rw [e26]
          refine ⟨fun q => a78 _ ?_, fun q => a78 _ ?_⟩
          · by_cases z : s = 0
            · exfalso; rw [if_pos z, fa_le, ti_nI (by omega), t_100] at q; omega
            · rw [if_neg z, nI_leI (by omega) (by omega)] at q
              rw [if_neg z, if_neg (show ¬ nag w n s < lsA w n s by omega)]
          · by_cases z : s = 0
            · subst z
              have e0 : lsA w n 0 = 99 := rfl
              rw [e0]
              by_cases y : nag w n 0 < 99
              · rw [if_pos y]
              · rw [if_neg y, show nag w n 0 = 99 by omega]
            · rw [if_neg z, nI_leI (by omega) (by omega)] at q
              rw [if_pos (show nag w n s < lsA w n s by omega)]
      refine l_m_bore_22 _ _ _ _ _ ⟨vz, ?_⟩
      rw [c_0, (m_row hr hm1).2.2.1]
      refine ⟨fun q => ?_, fun _ => inner (n4 w) 0 (by omega) ρ hr⟩
      exfalso; rw [nI_leI (by omega) (by omega)] at q; omega
  refine e_m_bore _ _ ?_
  rw [mt1 f7 h4]
  exact on' (loop (nh w) 0 (by omega) _ Fr.rf)
/-- of the hills in v below h: the first one with the least upper end -/
def la (w : Wo) (v : Int32) : Nat → Option Nat
  | 0 => none
  | h + 1 => if (v >>> (nI h &&& 31)) &&& 1 = 0 then la w v h else (match la w v h with
    | none => some h
    | some b => if hi w b ≤ hi w h then some b else some h)
theorem la_b (w : Wo) (v : Int32) : ∀ h b, la w v h = some b → b < h
  | 0, b, e => by simp [la] at e
  | h + 1, b, e => by
    simp only [la] at e
    have ih := la_b w v h
    split at e
    · have := ih b e; omega
    · cases el : la w v h with
      | none => rw [el] at e; injection e with e; omega
      | some c =>
        rw [el] at e
        have := ih c el
        by_cases z : hi w c ≤ hi w h
        · simp only [if_pos z] at e; injection e with e; omega
        · simp only [if_neg z] at e; injection e with e; omega
def laN (d : Int32) : Option Nat → Int32
  | none => d
  | some b => nI b
theorem x_latest {w : Wo} {σ : St} (hc : cW w 36 50 σ) (hD : cD w 36 σ) (hF : okF w) (hH : okH w) (h4 : 0 < n4 w) {f : Nat} (hf : f < 4) (F : Int32 → St → Prop) (h : ∀ τ, Fr PX σ τ → F (laN (-1) (la w (bitP (fun i => ftp w i 0 && (nfi w i 0 == f)) (nh w)) (nh w))) τ) : CallI hd_so_latestOf [rf 50 114, iv (nI f)] σ F := by
  have nhh := hH.1
  refine e_so_latestOf _ _ _ (x_fittingBy (s := 0) hc hD hF hH h4 hf _ fun τ ht => ?_)
  generalize hv : bitP (fun i => ftp w i 0 && (nfi w i 0 == f)) (nh w) = v at h
  have hct := x_row ht hc
  have loop : ∀ m n, n + m = nh w → At hd_so_latestOf X0 12 [some (rf 50 114), some (iv (nI f)), some (iv (laN (-1) (la w v n))), some (iv v), some (iv (nI n)), none] [] τ (retI F) := by
    intro m
    induction m with
    | zero =>
      intro n hn
      have : n = nh w := by omega
      subst this
      refine l_so_latestOf_12 _ _ _ _ _ _ ?_
      rw [hct.2.2.1]
      exact ⟨fun _ => h τ ht, fun q => absurd (by rw [nI_leI (by omega) (by omega)]; omega) q⟩
    | succ m ih =>
      intro n hn
      have key := ih (n + 1) (by omega)
      simp only [la] at key
      refine l_so_latestOf_12 _ _ _ _ _ _ ?_
      rw [hct.2.2.1]
      refine ⟨fun q => ?_, fun _ => ⟨fun q => l_so_latestOf_38 _ _ _ _ _ _ _ (of ?_), fun q => l_so_latestOf_38 _ _ _ _ _ _ _ (on ?_)⟩⟩
      · exfalso; rw [nI_leI (by omega) (by omega)] at q; omega
      · rw [if_pos q] at key; rw [nI_1]; exact key
      · rw [if_neg q] at key
        rw [nI_1]
        cases el : la w v n with
        | none =>
          rw [el] at key
          exact ⟨fun _ => key, fun z => absurd (show (-1 : Int32) < 0 by decide) z⟩
        | some b =>
          rw [el] at key
          have bb := la_b w v n b el
          have l1 := lohi hF hH (i := b) (by omega)
          have l2 := lohi hF hH (i := n) (by omega)
          rw [show laN (-1) (some b) = nI b from rfl]
          refine ⟨fun z => ?_, fun _ => ⟨vin0 n rfl (by omega) (by decide), vin0 b rfl (by omega) (by decide), ?_⟩⟩
          · exfalso
            rw [fa_lt, ti_nI (by omega), t_0] at z; omega
          rw [nI_clamp (by omega), nI_clamp (by omega), show τ 55 n = nI (hi w n) from (hct.2.2.2 n (by omega)).2.2.2.2.1, show τ 55 b = nI (hi w b) from (hct.2.2.2 b (by omega)).2.2.2.2.1, nI_leI (by omega) (by omega)]
          refine ⟨fun z => ?_, fun z => ?_⟩
          · simp only [if_pos z] at key; exact key
          · simp only [if_neg z] at key; exact key
  exact loop (nh w) 0 (by omega)
theorem r_next (a1 a2 : Int32) (σ : St) (G : Int32 → Int32 → St → Prop) (hR : RW σ) (k : KQ σ G) :
    CallI hd_x_next [rf 54 0, iv a1, iv a2] σ (fun r σ1 => CallI hd_m_next [rf 55 122, iv a1, iv a2] σ1 (fun r' σ2 => G r r' σ2)) := by
  obtain ⟨w, hF, hH, hc, hcd, hm, hmd, h7⟩ := hR
  have hm0 := mWs_fr fr0 hm
  have nhh := hH.1
  have n1b := hF.1.2.1
  have v1 : vp_in (1 : Int32) 62 := vin0 1 rfl (by decide) (by decide)
  have e11 : ∀ τ : St, mW w (τ 126) (τ 128) → (τ 126 (1 : Int32).toNatClampNeg) = nI (n1 w) := fun τ q => by rw [c_1]; exact q.1.2.1
  refine e_x_next a1 a2 σ _ ?_
  rw [show σ 39 2 = nI (n1 w) from hc.1.2.1]
  refine gx_below (n1 w) (by omega) (fun f hf e => on ?_) (fun c => of (e_m_next _ _ _ _ ⟨v1, ?_⟩))
  rotate_left
  · rw [e11 _ hm0]
    exact gm_in0 (by rw [i2l, i2l, tl_0, ti_sub (by rw [ti_nI (by omega), t_1]; omega), ti_nI (by omega), t_1]; omega) (of (k _ _ fr0))
  subst e
  have h4 : 0 < n4 w := hH.2.1 (Or.inr (by omega))
  have bf : (0 : Int64).toInt ≤ (nI f).toInt64.toInt ∧ (nI f).toInt64.toInt ≤ (nI (n1 w) - 1).toInt64.toInt := by
    rw [i2l, i2l, tl_0, ti_sub (by rw [ti_nI (by omega), t_1]; omega), ti_nI (by omega), t_1, ti_nI (by omega)]; omega
  refine gx_below 2 (by decide) (fun t ht e => on' ?_) (fun c => of' (e_m_next _ _ _ _ ⟨v1, ?_⟩))
  rotate_left
  · rw [e11 _ hm0]
    exact gm_in1 bf (on (gm_in0 (by rw [i2l, tl_0, tl_1]; omega) (of' (k _ _ fr0))))
  subst e
  have bt : (0 : Int64).toInt ≤ (nI t).toInt64.toInt ∧ (nI t).toInt64.toInt ≤ (1 : Int64).toInt := by rw [i2l, tl_0, tl_1, ti_nI (by omega)]; omega
  have mw : ∀ (τ : St) (F : Int32 → St → Prop), mW w (τ 126) (τ 128) → F (whS w 0) τ → CallI hd_m_which [rf 55 122, iv 0] τ F := fun τ F q h => q_m_which _ _ _ (m_vs (s := 0) hF h4) (by rw [show (0 : Int32) = nI 0 from rfl, m_wh q hF h4]; exact h)
  refine q_fl_isCrack _ _ _ _ (x_vs (s := 0) hF h4) ?_
  have ec : p_fl_isCrack 36 0 σ = _ := x_crack (s := 0) hc hF h4
  rw [ec]
  by_cases c2 : whS w 0 = 2
  · rw [if_pos c2]
    refine on (e_m_next _ _ _ _ ⟨v1, ?_⟩)
    rw [e11 _ hm0]
    exact gm_in1 bf (on (gm_in1 bt (on' (mw _ _ hm0 ⟨fun q => absurd c2 q, fun _ => k _ _ fr0⟩))))
  rw [if_neg c2]
  refine of (x_latest hc hcd hF hH h4 (f := f) (by omega) _ fun τ ht' => ?_)
  have f0 : Fr SC σ (up τ 122 0 0) := (pxsc ht').tr fr0
  have hm1 := mWs_fr f0 hm
  have hd1 := mDs_fr f0 hmd
  have hct := x_row ht' hc
  have fb := hF.2.2.1 f hf
  have evb := fb.2.2.2.2.1
  unfold wi at evb
  generalize hv : bitP (fun i => ftp w i 0 && (nfi w i 0 == f)) (nh w) = v
  -- the other side
  have mm : ∀ r : Int32, (la w v (nh w) = none → r = -1000000) → (∀ b, la w v (nh w) = some b → r = (if (0 : Int32) < wfi w (6 * f + 4) - nI (if t = 0 then hi w b else lo w b) then wfi w (6 * f + 4) - nI (if t = 0 then hi w b else lo w b) else 0)) → CallI hd_m_next [rf 55 122, iv (nI f), iv (nI t)] τ (fun r' σ2 => G r r' σ2) := by
    intro r r0 r1
    have loop : ∀ m n, n + m = nh w → ∀ ρ, Fr PM (up τ 122 0 0) ρ → At hd_m_next X0 62 [some (rf 55 122), some (iv (nI f)), some (iv (nI t)), some (iv v), some (iv (laN (-1000000) (la w v n))), some (iv (nI n))] [] ρ (retI (fun r' σ2 => G r r' σ2)) := by
      intro m
      induction m with
      | zero =>
        intro n hn ρ hr
        have : n = nh w := by omega
        subst this
        have hmr := m_row hr hm1
        refine l_m_next_62 _ _ _ _ _ _ _ ⟨vz, ?_⟩
        rw [c_0, hmr.2.2.1]
        refine ⟨fun _ => ?_, fun q => absurd (by rw [nI_leI (by omega) (by omega)]; omega) q⟩
        cases el : la w v (nh w) with
        | none => exact ⟨fun q => absurd rfl q, fun _ => by rw [r0 el]; exact k _ _ (f0.tr (pmsc hr))⟩
        | some b =>
          have bb := la_b w v (nh w) b el
          have l1 := lohi hF hH bb
          have rb := r1 b el
          refine ⟨fun _ => q_m_fireOf _ _ _ _ (m_vf (c := 4) (by omega) (by decide)) ?_, fun q => ?_⟩
          rotate_left
          · exfalso
            have q : nI b = -1000000 := q
            rw [fa_eq, ti_nI (by omega), t_m1000000] at q; omega
          rw [show (4 : Int32) = nI 4 from rfl, m_fi hmr hF hf (by decide)]
          have fin : ∀ x : Nat, x ≤ 99 → x = (if t = 0 then hi w b else lo w b) → ∀ κ, Fr PM ρ κ → At hd_m_next X0 155 [some (rf 55 122), some (iv (nI f)), some (iv (nI t)), some (iv v), some (iv (nI b)), some (iv (nI (nh w)))] [iv (nI x), iv (wfi w (6 * f + 4))] κ (retI (fun r' σ2 => G r r' σ2)) := fun x hx ex κ hκ => by
            refine l_m_next_155 _ _ _ _ _ _ _ _ _ ?_
            rw [← ex] at rb
            have fk := f0.tr (pmsc (hr.tr hκ))
            have tt : (wfi w (6 * f + 4) - nI x).toInt = (wfi w (6 * f + 4)).toInt - x := by rw [ti_sub (by rw [ti_nI (by omega)]; omega), ti_nI (by omega)]
            have cr : (0 : Int32) < wfi w (6 * f + 4) - nI x ↔ 0 < (wfi w (6 * f + 4)).toInt - (x : Int) := by rw [fa_lt, tt, t_0]
            rw [fa_le, tt, t_0]
            refine ⟨fun z => ?_, fun z => ?_⟩
            · by_cases y : 0 < (wfi w (6 * f + 4)).toInt - (x : Int)
              · rw [if_pos (cr.mpr y)] at rb; rw [rb]; exact k _ _ fk
              · rw [if_neg (fun q => y (cr.mp q))] at rb
                rw [rb, show wfi w (6 * f + 4) - nI x = 0 by rw [fa_eq, tt, t_0]; omega]; exact k _ _ fk
            · rw [if_neg (fun q => by have := cr.mp q; omega)] at rb; rw [rb]; exact k _ _ fk
          refine ⟨fun q => m_low hmr hF hH bb _ fun κ hκ => fin _ (by omega) ?_ κ (hκ.mn fun a b q => by unfold PM; omega), fun q => m_high hmr hF hH bb _ fun κ hκ => fin _ (by omega) ?_ κ (hκ.mn fun a b q => by unfold PM; omega)⟩
          · rw [if_neg (fun e => q (by rw [e]; rfl))]
          · rw [show (0 : Int32) = nI 0 from rfl, nI_eq (by omega) (by omega)] at q
            rw [if_pos q]
      | succ m ih =>
        intro n hn ρ hr
        have hmr := m_row hr hm1
        have key := ih (n + 1) (by omega)
        simp only [la] at key
        refine l_m_next_62 _ _ _ _ _ _ _ ⟨vz, ?_⟩
        rw [c_0, hmr.2.2.1]
        refine ⟨fun q => ?_, fun _ => ⟨fun q => ?_, fun q => ?_⟩⟩
        · exfalso; rw [nI_leI (by omega) (by omega)] at q; omega
        · have z : (v >>> (nI n &&& 31)) &&& 1 = 0 := by
            rcases and1 (v >>> (nI n &&& 31)) with z | z
            · exact z
            · exact absurd z q
          rw [if_pos z] at key; rw [nI_1]; exact key ρ hr
        rw [if_neg (by rw [q]; decide)] at key
        rw [nI_1]
        cases el : la w v n with
        | none => rw [el] at key; exact ⟨fun _ => key ρ hr, fun z => absurd rfl z⟩
        | some b =>
          rw [el] at key
          have bb := la_b w v n b el
          have l1 := lohi hF hH (i := b) (by omega)
          have l2 := lohi hF hH (i := n) (by omega)
          refine ⟨fun z => ?_, fun _ => m_high hmr hF hH (i := n) (by omega) _ fun κ hκ => ?_⟩
          · exfalso
            have z : nI b = -1000000 := z
            rw [fa_eq, ti_nI (by omega), t_m1000000] at z; omega
          have fk : Fr PM (up τ 122 0 0) κ := hr.tr (hκ.mn fun a b q => by unfold PM; omega)
          refine m_high (i := b) (m_row fk hm1) hF hH (by omega) _ fun κ2 hκ2 => ?_
          have fk2 : Fr PM (up τ 122 0 0) κ2 := fk.tr (hκ2.mn fun a b q => by unfold PM; omega)
          rw [nI_leI (by omega) (by omega)]
          refine ⟨fun z => ?_, fun z => ?_⟩
          · simp only [if_pos z] at key; exact key κ2 fk2
          · simp only [if_neg z] at key; exact key κ2 fk2
    refine e_m_next _ _ _ _ ⟨v1, ?_⟩
    rw [e11 _ hm1]
    refine gm_in1 bf (on (gm_in1 bt (on' (mw _ _ hm1 ⟨fun _ => ?_, fun q => absurd q c2⟩))))
    refine m_fitting (s := 0) hm1 hd1 hF hH h4 (nI f) (fun i => ftp w i 0 && (nfi w i 0 == f)) (fun i hi' => ?_) _ fun ρ hr => ?_
    · have nf := near_f hF hH hi' h4
      have f4 := fOf_le hF 0
      have ne : ¬ nI f = none32 := fun e => by rw [fa_eq, ti_nI (by omega)] at e; have : none32.toInt = -1000000 := rfl; omega
      rw [decide_eq_false ne, Bool.false_or]
      congr 1
      rw [Bool.eq_iff_iff, beq_iff_eq, decide_eq_true_iff, nI_eq (by unfold nfi; omega) (by omega)]
    · rw [hv]
      exact loop (nh w) 0 (by omega) ρ hr
  cases el : la w v (nh w) with
  | none => exact ⟨fun z => absurd (show ¬ (0 : Int32) ≤ -1 by decide) (fun q => q z), fun _ => mm _ (fun _ => rfl) (fun b e => by rw [el] at e; simp at e)⟩
  | some b =>
    have bb := la_b w v (nh w) b el
    have l1 := lohi hF hH bb
    have vb : vp_in (nI b) 12 := vin0 b rfl (by omega) (by decide)
    have at96 : ∀ x : Nat, x = (if t = 0 then hi w b else lo w b) → At hd_x_next X0 96 [some (rf 54 0), some (iv (nI f)), some (iv (nI t)), some (iv (nI b)), none] [iv (nI x)] τ (retI (fun r σ1 => CallI hd_m_next [rf 55 122, iv (nI f), iv (nI t)] σ1 (fun r' σ2 => G r r' σ2))) := fun x ex => by
      subst ex
      refine l_x_next_96 _ _ _ _ _ _ (q_li_at_L_fires _ _ _ _ _ (vin0 _ (six f 4) (by omega) (by decide)) ?_)
      rw [show (4 : Int32) = nI 4 from rfl, x_fi hct hF hf (by decide)]
      refine mm _ (fun e => by rw [el] at e; simp at e) (fun b' e => ?_)
      rw [el] at e; injection e with e; subst e; rfl
    rw [show laN (-1) (some b) = nI b from rfl]
    refine ⟨fun _ => ⟨fun q => ⟨vb, ?_⟩, fun q => ⟨vb, ?_⟩⟩, fun q => absurd (by rw [fa_le, ti_nI (by omega), t_0]; omega) q⟩
    · show At hd_x_next X0 96 [some (rf 54 0), some (iv (nI f)), some (iv (nI t)), some (iv (nI b)), none] [iv (τ 54 (nI b).toNatClampNeg)] τ _
      rw [nI_clamp (by omega), show τ 54 b = nI (lo w b) from (hct.2.2.2 b bb).2.2.2.1]
      exact at96 _ (by rw [if_neg (fun e => q (by rw [e]; rfl))])
    · show At hd_x_next X0 96 [some (rf 54 0), some (iv (nI f)), some (iv (nI t)), some (iv (nI b)), none] [iv (τ 55 (nI b).toNatClampNeg)] τ _
      rw [nI_clamp (by omega), show τ 55 b = nI (hi w b) from (hct.2.2.2 b bb).2.2.2.2.1]
      exact at96 _ (by rw [show (0 : Int32) = nI 0 from rfl, nI_eq (by omega) (by omega)] at q; rw [if_pos q])
