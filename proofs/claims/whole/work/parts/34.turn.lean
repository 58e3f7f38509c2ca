/-! the one turn that does best -/
def sdt (w : Wo) : Nat → Int32
  | 0 => 0
  | n + 1 => sdt w n + nI (nd w n)
theorem x_dates {w : Wo} {σ : St} (hc : cW w 36 50 σ) (hH : okH w) (F : Int32 → St → Prop) (h : F (sdt w (nh w)) σ) : CallI hd_hi_allDates [rf 43 50] σ F := by
  have nhh := hH.1
  have loop : ∀ m n, n + m = nh w → At hd_hi_allDates X0 4 [some (rf 43 50), some (iv (sdt w n)), some (iv (nI n))] [] σ (retI F) := by
    intro m
    induction m with
    | zero =>
      intro n hn
      refine l_hi_allDates_4 _ _ _ _ _ ?_
      rw [show σ 50 8 = nI (nh w) from hc.2.2.1]
      refine ⟨fun _ => ?_, fun q => absurd (by rw [nI_leI (by omega) (by omega)]; omega) q⟩
      rw [show n = nh w by omega]; exact h
    | succ m ih =>
      intro n hn
      refine l_hi_allDates_4 _ _ _ _ _ ?_
      rw [show σ 50 8 = nI (nh w) from hc.2.2.1]
      refine ⟨fun q => ?_, fun _ => ⟨vin0 n rfl (by omega) (by decide), ?_⟩⟩
      · exfalso; rw [nI_leI (by omega) (by omega)] at q; omega
      rw [nI_clamp (by omega), show σ (50 + 3) n = nI (nd w n) from (hc.2.2.2 n (by omega)).2.2.1, nI_1]
      exact ih (n + 1) (by omega)
  exact e_hi_allDates _ _ _ (loop (nh w) 0 (by omega))
theorem m_dates {w : Wo} {σ : St} (hm : mW w (σ 126) (σ 128)) (hH : okH w) (F : Int32 → St → Prop) (h : F (sdt w (nh w)) σ) : CallI hd_m_dates [rf 55 122] σ F := by
  have nhh := hH.1
  have loop : ∀ m n, n + m = nh w → At hd_m_dates X0 4 [some (rf 55 122), some (iv (sdt w n)), some (iv (nI n))] [] σ (retI F) := by
    intro m
    induction m with
    | zero =>
      intro n hn
      refine l_m_dates_4 _ _ _ _ ⟨vz, ?_⟩
      rw [c_0, hm.2.2.1]
      refine ⟨fun _ => ?_, fun q => absurd (by rw [nI_leI (by omega) (by omega)]; omega) q⟩
      rw [show n = nh w by omega]; exact h
    | succ m ih =>
      intro n hn
      have e25 : (25 : Int32) + nI n = nI (25 + n) := nI_add 25 n
      refine l_m_dates_4 _ _ _ _ ⟨vz, ?_⟩
      rw [c_0, hm.2.2.1]
      refine ⟨fun q => ?_, fun _ => ⟨vin0 _ e25 (by omega) (by decide), ?_⟩⟩
      · exfalso; rw [nI_leI (by omega) (by omega)] at q; omega
      rw [e25, nI_clamp (by omega), (hm.2.2.2 n (by omega)).2.2.1, nI_1]
      exact ih (n + 1) (by omega)
  exact e_m_dates _ _ (loop (nh w) 0 (by omega))
def mid (w : Wo) (i : Nat) : Nat := (lo w i + hi w i) / 2
def tD (w : Wo) (i : Nat) (vx vy : Int32) (f : Nat) : Int32 := ab (wx w i - vx * nI (mid w i) - wfi w (6 * f)) + ab (wy w i - vy * nI (mid w i) - wfi w (6 * f + 1))
def dmin (w : Wo) (i : Nat) (vx vy : Int32) : Nat → Int32
  | 0 => mx
  | f + 1 => if tD w i vx vy f < dmin w i vx vy f then tD w i vx vy f else dmin w i vx vy f
def tsum (w : Wo) (vx vy : Int32) : Nat → Int32
  | 0 => 0
  | h + 1 => tsum w vx vy h + (if 0 < nd w h then dmin w h vx vy (n1 w) else 0)
theorem mid_b {w : Wo} (hF : okF w) (hH : okH w) {i : Nat} (hi' : i < nh w) : mid w i ≤ 99 ∧ (nI (lo w i) + nI (hi w i)) / 2 = nI (mid w i) := by
  have := lohi hF hH hi'
  unfold mid
  refine ⟨by omega, ?_⟩
  rw [nI_add, show (2 : Int32) = nI 2 from rfl, nI_div (by omega) (by omega)]
def tv (i : Nat) : Int32 := nI i - 20
theorem tv_t {i : Nat} (h : i < 1000) : (tv i).toInt = (i : Int) - 20 := by unfold tv; rw [ti_sub (by rw [ti_nI (by omega), t_20]; omega), ti_nI (by omega), t_20]
theorem tv_1 (i : Nat) : tv i + 1 = tv (i + 1) := by unfold tv; rw [← nI_1]; grind
theorem tv_m {i a : Nat} (hi : i ≤ 40) (ha : a ≤ 99) : (tv i * nI a).toInt = ((i : Int) - 20) * a ∧ -1980 ≤ ((i : Int) - 20) * a ∧ ((i : Int) - 20) * a ≤ 1980 := by
  have t := tv_t (i := i) (by omega)
  have b := mul_b (x := tv i) (b := 20) (a := a) (by rw [t]; omega) (by omega) (by omega)
  rw [t] at b
  exact ⟨b.1, by omega, by omega⟩
theorem tD_b {w : Wo} (hF : okF w) (hH : okH w) {i f vi vj : Nat} (hi' : i < nh w) (hf : f < n1 w) (h1 : vi ≤ 40) (h2 : vj ≤ 40) : 0 ≤ (tD w i (tv vi) (tv vj) f).toInt ∧ (tD w i (tv vi) (tv vj) f).toInt ≤ 250000 := by
  obtain ⟨x1, y1, -⟩ := hH.2.2 i hi'
  obtain ⟨f1, f2, -⟩ := hF.2.2.1 f hf
  unfold wi at x1 y1 f1 f2
  have ma := (mid_b hF hH hi').1
  have m1 := tv_m h1 ma
  have m2 := tv_m h2 ma
  have s1 : (wx w i - tv vi * nI (mid w i)).toInt = (wx w i).toInt - ((vi : Int) - 20) * mid w i := by rw [ti_sub (by rw [m1.1]; omega), m1.1]
  have s2 : (wy w i - tv vj * nI (mid w i)).toInt = (wy w i).toInt - ((vj : Int) - 20) * mid w i := by rw [ti_sub (by rw [m2.1]; omega), m2.1]
  have d1 : (wx w i - tv vi * nI (mid w i) - wfi w (6 * f)).toInt = (wx w i).toInt - ((vi : Int) - 20) * mid w i - (wfi w (6 * f)).toInt := by rw [ti_sub (by rw [s1]; omega), s1]
  have d2 : (wy w i - tv vj * nI (mid w i) - wfi w (6 * f + 1)).toInt = (wy w i).toInt - ((vj : Int) - 20) * mid w i - (wfi w (6 * f + 1)).toInt := by rw [ti_sub (by rw [s2]; omega), s2]
  have b1 := ab_b (v := wx w i - tv vi * nI (mid w i) - wfi w (6 * f)) (b := 120000) (by rw [d1]; omega) (by omega)
  have b2 := ab_b (v := wy w i - tv vj * nI (mid w i) - wfi w (6 * f + 1)) (b := 120000) (by rw [d2]; omega) (by omega)
  unfold tD
  rw [ti_add (by omega)]; omega
theorem dmin_b {w : Wo} (hF : okF w) (hH : okH w) {i vi vj : Nat} (hi' : i < nh w) (h1 : vi ≤ 40) (h2 : vj ≤ 40) : ∀ f, f ≤ n1 w → 0 ≤ (dmin w i (tv vi) (tv vj) f).toInt ∧ (0 < f → (dmin w i (tv vi) (tv vj) f).toInt ≤ 250000)
  | 0, _ => ⟨by show (0 : Int) ≤ mx.toInt; decide, fun q => absurd q (by omega)⟩
  | f + 1, hf => by
    obtain ⟨k1, k2⟩ := dmin_b hF hH hi' h1 h2 f (by omega)
    obtain ⟨t1, t2⟩ := tD_b hF hH hi' (f := f) (by omega) h1 h2
    simp only [dmin]
    by_cases c : tD w i (tv vi) (tv vj) f < dmin w i (tv vi) (tv vj) f
    · rw [if_pos c]; exact ⟨t1, fun _ => t2⟩
    · rw [if_neg c]; rw [fa_lt] at c; exact ⟨k1, fun _ => by omega⟩
theorem tsum_b {w : Wo} (hF : okF w) (hH : okH w) (h4 : 0 < n4 w) {vi vj : Nat} (h1 : vi ≤ 40) (h2 : vj ≤ 40) : ∀ h, h ≤ nh w → 0 ≤ (tsum w (tv vi) (tv vj) h).toInt ∧ (tsum w (tv vi) (tv vj) h).toInt ≤ 250000 * h ∧ ∀ q, q ≤ h → (tsum w (tv vi) (tv vj) q).toInt ≤ (tsum w (tv vi) (tv vj) h).toInt
  | 0, _ => ⟨by show (0 : Int) ≤ (0 : Int32).toInt; decide, by show (0 : Int32).toInt ≤ _; rw [t_0]; omega, fun q hq => by rw [Nat.le_zero.mp hq]; exact Int.le_refl _⟩
  | h + 1, hh => by
    have nhh := hH.1
    obtain ⟨k1, k2, k3⟩ := tsum_b hF hH h4 h1 h2 h (by omega)
    have n1p := (hF.1.2.2.2.2.2 h4).2
    obtain ⟨d1, d2⟩ := dmin_b hF hH (i := h) (by omega) h1 h2 (n1 w) (Nat.le_refl _)
    have d2 := d2 n1p
    have e : (tsum w (tv vi) (tv vj) (h + 1)).toInt = (tsum w (tv vi) (tv vj) h).toInt + (if 0 < nd w h then (dmin w h (tv vi) (tv vj) (n1 w)).toInt else 0) := by
      simp only [tsum]
      by_cases c : 0 < nd w h
      · rw [if_pos c, if_pos c, ti_add (by omega)]
      · rw [if_neg c, if_neg c, ti_add (by rw [t_0]; omega), t_0]
    rw [e]
    by_cases c : 0 < nd w h
    · rw [if_pos c]
      refine ⟨by omega, by omega, fun q hq => ?_⟩
      by_cases z : q = h + 1
      · subst z; rw [e, if_pos c]; omega
      · have := k3 q (by omega); omega
    · rw [if_neg c]
      refine ⟨by omega, by omega, fun q hq => ?_⟩
      by_cases z : q = h + 1
      · subst z; rw [e, if_neg c]; omega
      · have := k3 q (by omega); omega
theorem x_offFires {w : Wo} {σ : St} (hc : cW w 36 50 σ) (hF : okF w) (i : Nat) (vx vy : Int32) (F : Int32 → St → Prop) (h : F (dmin w i vx vy (n1 w)) σ) : CallI hd_tu_offFires [rf 52 119, iv (wx w i - vx * nI (mid w i)), iv (wy w i - vy * nI (mid w i))] σ F := by
  have n1b := hF.1.2.1
  have loop : ∀ m f, f + m = n1 w → At hd_tu_offFires X0 6 [some (rf 52 119), some (iv (wx w i - vx * nI (mid w i))), some (iv (wy w i - vy * nI (mid w i))), some (iv (dmin w i vx vy f)), some (iv (nI f)), none] [] σ (retI F) := by
    intro m
    induction m with
    | zero =>
      intro f hf
      refine l_tu_offFires_6 _ _ _ _ _ _ ?_
      rw [show σ 39 2 = nI (n1 w) from hc.1.2.1]
      refine ⟨fun _ => ?_, fun q => absurd (by rw [nI_leI (by omega) (by omega)]; omega) q⟩
      rw [show f = n1 w by omega]; exact h
    | succ m ih =>
      intro f hf
      refine l_tu_offFires_6 _ _ _ _ _ _ ?_
      rw [show σ 39 2 = nI (n1 w) from hc.1.2.1]
      refine ⟨fun q => ?_, fun _ => q_li_at_L_fires _ _ _ _ _ (vin0 _ (six f 0) (by omega) (by decide)) (q_li_at_L_fires _ _ _ _ _ (vin0 _ (six f 1) (by omega) (by decide)) (l_tu_offFires_60 _ _ _ _ _ _ _ ?_))⟩
      · exfalso; rw [nI_leI (by omega) (by omega)] at q; omega
      rw [show (0 : Int32) = nI 0 from rfl, show (1 : Int32) = nI 1 from rfl, x_fi hc hF (by omega) (by omega), x_fi hc hF (by omega) (by omega), show nI f + nI 1 = nI (f + 1) from nI_1 f]
      exact ih (f + 1) (by omega)
  exact e_tu_offFires _ _ _ _ (loop (n1 w) 0 (by omega))
/-- the class gives up a sum that can't be the least -/
theorem x_offBy {w : Wo} {σ : St} (hc : cW w 36 50 σ) (hF : okF w) (hH : okH w) (h4 : 0 < n4 w) {vi vj : Nat} (h1 : vi ≤ 40) (h2 : vj ≤ 40) (F : Int32 → St → Prop) (h : ∀ r, (σ 119 4 ≤ tsum w (tv vi) (tv vj) (nh w) → σ 119 4 ≤ r) → (¬ σ 119 4 ≤ tsum w (tv vi) (tv vj) (nh w) → r = tsum w (tv vi) (tv vj) (nh w)) → F r σ) : CallI hd_tu_offBy [rf 52 119, iv (tv vi), iv (tv vj)] σ F := by
  have nhh := hH.1
  have tb := tsum_b hF hH h4 h1 h2 (nh w) (Nat.le_refl _)
  have loop : ∀ m n, n + m = nh w → At hd_tu_offBy X0 5 [some (rf 52 119), some (iv (tv vi)), some (iv (tv vj)), some (iv (tsum w (tv vi) (tv vj) n)), some (iv (nI n)), none] [] σ (retI F) := by
    intro m
    induction m with
    | zero =>
      intro n hn
      refine l_tu_offBy_5 _ _ _ _ _ _ ?_
      rw [show σ 50 8 = nI (nh w) from hc.2.2.1]
      refine ⟨fun _ => ?_, fun q => absurd (by rw [nI_leI (by omega) (by omega)]; omega) q⟩
      rw [show n = nh w by omega]; exact h _ (fun q => q) (fun _ => rfl)
    | succ m ih =>
      intro n hn
      have hi' : n < nh w := by omega
      obtain ⟨g1, g2, g3, g4, g5, -⟩ := hc.2.2.2 n hi'
      have v12 : vp_in (nI n) 12 := vin0 n rfl (by omega) (by decide)
      have d4 := (hH.2.2 n hi').2.2.1
      refine l_tu_offBy_5 _ _ _ _ _ _ ?_
      rw [show σ 50 8 = nI (nh w) from hc.2.2.1, nI_clamp (by omega), show σ 53 n = nI (nd w n) from g3, show σ 51 n = wx w n from g1, show σ 52 n = wy w n from g2, show σ 54 n = nI (lo w n) from g4, show σ 55 n = nI (hi w n) from g5, (mid_b hF hH hi').2, nI_1]
      have key := ih (n + 1) (by omega)
      simp only [tsum] at key
      refine ⟨fun q => ?_, fun _ => ⟨fun q => h _ (fun _ => q) (fun z => ?_), fun _ => ⟨v12, fun q => ?_, fun q => ⟨v12, v12, by decide, v12, v12, x_offFires hc hF n _ _ _ ?_⟩⟩⟩⟩
      · exfalso; rw [nI_leI (by omega) (by omega)] at q; omega
      · exfalso
        apply z
        rw [fa_le] at q ⊢
        have := tb.2.2 n (by omega)
        omega
      · rw [show (0 : Int32) = nI 0 from rfl, nI_leI (by omega) (by omega)] at q
        rw [if_neg (by omega), show tsum w (tv vi) (tv vj) n + 0 = tsum w (tv vi) (tv vj) n by grind] at key
        exact key
      · have : 0 < nd w n := by
          by_cases c : 0 < nd w n
          · exact c
          · exact absurd (by rw [show nd w n = 0 by omega]; decide) q
        rw [if_pos this] at key; exact key
  exact e_tu_offBy _ _ _ _ (loop (nh w) 0 (by omega))
theorem m_offBy {w : Wo} {σ : St} (hm : mW w (σ 126) (σ 128)) (hF : okF w) (hH : okH w) (h4 : 0 < n4 w) {vi vj : Nat} (h1 : vi ≤ 40) (h2 : vj ≤ 40) (F : Int32 → St → Prop) (h : ∀ τ, Fr (fun a b => a = 122 ∧ 22 ≤ b ∧ b ≤ 24) σ τ → F (tsum w (tv vi) (tv vj) (nh w)) τ) : CallI hd_m_offBy [rf 55 122, iv (tv vi), iv (tv vj)] σ F := by
  have nhh := hH.1
  have n1b := hF.1.2.1
  have n1p := (hF.1.2.2.2.2.2 h4).2
  have loop : ∀ m n, n + m = nh w → ∀ τ, Fr (fun a b => a = 122 ∧ 22 ≤ b ∧ b ≤ 24) σ τ → At hd_m_offBy X0 5 [some (rf 55 122), some (iv (tv vi)), some (iv (tv vj)), some (iv (tsum w (tv vi) (tv vj) n)), some (iv (nI n)), none, none, none, none] [] τ (retI F) := by
    intro m
    induction m with
    | zero =>
      intro n hn τ ht
      refine l_m_offBy_5 _ _ _ _ _ _ ⟨vz, ?_⟩
      rw [c_0, (mWs_fr (lk_sc ht) hm).2.2.1]
      refine ⟨fun _ => ?_, fun q => absurd (by rw [nI_leI (by omega) (by omega)]; omega) q⟩
      rw [show n = nh w by omega]; exact h τ ht
    | succ m ih =>
      intro n hn τ ht
      have hi' : n < nh w := by omega
      have d4 := (hH.2.2 n hi').2.2.1
      have lh := lohi hF hH hi'
      refine l_m_offBy_5 _ _ _ _ _ _ ⟨vz, ?_⟩
      rw [c_0, (mWs_fr (lk_sc ht) hm).2.2.1]
      refine ⟨fun q => ?_, fun _ => c_look (mWs_fr (lk_sc ht) hm) hF hH hi' _ fun ρ hr r1 r2 r3 => ⟨by decide, ?_⟩⟩
      · exfalso; rw [nI_leI (by omega) (by omega)] at q; omega
      rw [r1, r2, (mid_b hF hH hi').2]
      have fr := ht.tr hr
      have hmr := mWs_fr (lk_sc fr) hm
      obtain ⟨g1, g2, g3, -⟩ := hmr.2.2.2 n hi'
      have e1 : (1 : Int32) + nI n = nI (1 + n) := nI_add 1 n
      have e13 : (13 : Int32) + nI n = nI (13 + n) := nI_add 13 n
      have e25 : (25 : Int32) + nI n = nI (25 + n) := nI_add 25 n
      have key := ih (n + 1) (by omega) ρ fr
      simp only [tsum] at key
      have fin : ∀ v7 (d : Int32), (0 < nd w n → ¬ d = none32 ∧ d = dmin w n (tv vi) (tv vj) (n1 w)) → (¬ 0 < nd w n → d = none32) → At hd_m_offBy X0 149 [some (rf 55 122), some (iv (tv vi)), some (iv (tv vj)), some (iv (tsum w (tv vi) (tv vj) n)), some (iv (nI n)), some (iv d), some (iv (nI (mid w n))), some (iv v7), none] [] ρ (retI F) := by
        intro v7 d hd1 hd2
        refine l_m_offBy_149 _ _ _ _ _ _ _ _ _ ?_
        rw [nI_1]
        by_cases c : 0 < nd w n
        · obtain ⟨p1, p2⟩ := hd1 c
          rw [if_pos c, ← p2] at key
          exact ⟨fun _ => key, fun q => absurd q p1⟩
        · rw [if_neg c] at key
          exact ⟨fun q => absurd (hd2 c) q, fun _ => key⟩
      have inner : ∀ r f, f + r = n1 w → (0 < nd w n ∨ f = 0) → At hd_m_offBy X0 42 [some (rf 55 122), some (iv (tv vi)), some (iv (tv vj)), some (iv (tsum w (tv vi) (tv vj) n)), some (iv (nI n)), some (iv (if dmin w n (tv vi) (tv vj) f = mx then none32 else dmin w n (tv vi) (tv vj) f)), some (iv (nI (mid w n))), some (iv (nI f)), none] [] ρ (retI F) := by
        intro r
        induction r with
        | zero =>
          intro f hf hnd
          have hf : f = n1 w := by omega
          subst hf
          have db := dmin_b hF hH hi' h1 h2 (n1 w) (Nat.le_refl _)
          have db2 := db.2 n1p
          refine l_m_offBy_42 _ _ _ _ _ _ _ _ _ ⟨vin0 1 rfl (by decide) (by decide), ?_⟩
          rw [c_1, hmr.1.2.1]
          refine ⟨fun _ => fin _ _ (fun _ => ?_) (fun z => by omega), fun q => absurd (by rw [nI_leI (by omega) (by omega)]; omega) q⟩
          have nmx : ¬ dmin w n (tv vi) (tv vj) (n1 w) = mx := fun z => by rw [z] at db2; exact absurd db2 (by decide)
          rw [if_neg nmx]
          refine ⟨fun z => ?_, rfl⟩
          rw [z] at db; exact absurd db.1 (by decide)
        | succ r ih2 =>
          intro f hf hnd
          have db := dmin_b hF hH hi' h1 h2 f (by omega)
          obtain ⟨t1, t2⟩ := tD_b hF hH hi' (f := f) (by omega) h1 h2
          refine l_m_offBy_42 _ _ _ _ _ _ _ _ _ ⟨vin0 1 rfl (by decide) (by decide), ?_⟩
          rw [c_1, hmr.1.2.1, e25, nI_clamp (by omega), g3]
          refine ⟨fun q => ?_, fun _ => ⟨vin0 _ rfl (by omega) (by decide), fun q => fin _ _ (fun z => ?_) (fun z => ?_), fun q => ⟨vin0 _ e1 (by omega) (by decide), q_m_fireOf _ _ _ _ (m_vf (c := 0) (by omega) (by decide)) (q_m_size _ _ _ ⟨vin0 _ e13 (by omega) (by decide), q_m_fireOf _ _ _ _ (m_vf (c := 1) (by omega) (by decide)) (q_m_size _ _ _ ?_)⟩)⟩⟩⟩
          · exfalso; rw [nI_leI (by omega) (by omega)] at q; omega
          · exfalso; rw [show (0 : Int32) = nI 0 from rfl, nI_leI (by omega) (by omega)] at q; omega
          · have f0 : f = 0 := by omega
            subst f0; rfl
          have hnd' : 0 < nd w n := by
            by_cases c : 0 < nd w n
            · exact c
            · exact absurd (by rw [show nd w n = 0 by omega]; decide) q
          rw [e1, e13, nI_clamp (by omega), nI_clamp (by omega), g1, g2, show (0 : Int32) = nI 0 from rfl, show (1 : Int32) = nI 1 from rfl, m_fi hmr hF (by omega) (by decide), m_fi hmr hF (by omega) (by decide), v_size, v_size, show nI f + nI 1 = nI (f + 1) from nI_1 f]
          have et : ab (wx w n - wfi w (6 * f + 0) - nI (mid w n) * tv vi) + ab (wy w n - wfi w (6 * f + 1) - nI (mid w n) * tv vj) = tD w n (tv vi) (tv vj) f := by
            unfold tD
            rw [show wx w n - wfi w (6 * f + 0) - nI (mid w n) * tv vi = wx w n - tv vi * nI (mid w n) - wfi w (6 * f) by rw [Nat.add_zero]; grind, show wy w n - wfi w (6 * f + 1) - nI (mid w n) * tv vj = wy w n - tv vj * nI (mid w n) - wfi w (6 * f + 1) by grind]
          rw [et]
          have key2 := ih2 (f + 1) (by omega) (Or.inl hnd')
          have dlt : tD w n (tv vi) (tv vj) f < dmin w n (tv vi) (tv vj) f → dmin w n (tv vi) (tv vj) (f + 1) = tD w n (tv vi) (tv vj) f := fun z => by simp only [dmin]; rw [if_pos z]
          have dge : ¬ tD w n (tv vi) (tv vj) f < dmin w n (tv vi) (tv vj) f → dmin w n (tv vi) (tv vj) (f + 1) = dmin w n (tv vi) (tv vj) f := fun z => by simp only [dmin]; rw [if_neg z]
          have tnm : ¬ tD w n (tv vi) (tv vj) f = mx := fun z => by rw [z] at t2; exact absurd t2 (by decide)
          by_cases em : dmin w n (tv vi) (tv vj) f = mx
          · rw [if_pos em]
            rw [dlt (by rw [em, fa_lt]; have : mx.toInt = 1073741824 := rfl; omega), if_neg tnm] at key2
            exact ⟨fun _ => key2, fun z => absurd rfl z⟩
          · rw [if_neg em]
            refine ⟨fun z => ?_, fun _ => ⟨fun z => ?_, fun z => ?_⟩⟩
            · exfalso; rw [z] at db; exact absurd db.1 (by decide)
            · rw [dge (by rw [fa_lt]; rw [fa_le] at z; omega), if_neg em] at key2; exact key2
            · rw [dlt (by rw [fa_lt]; rw [fa_le] at z; omega), if_neg tnm] at key2; exact key2
      exact inner (n1 w) 0 (by omega) (Or.inr rfl)
  exact e_m_offBy _ _ _ _ (loop (nh w) 0 (by omega) σ Fr.rf)
abbrev Tc : Type := Int32 × Int32 × Int32
def tst (w : Wo) (i j : Nat) (a : Tc) : Tc := if a.1 ≤ tsum w (tv i) (tv j) (nh w) then a else (tsum w (tv i) (tv j) (nh w), tv i, tv j)
def tin (w : Wo) (i : Nat) (a : Tc) : Nat → Tc
  | 0 => a
  | j + 1 => tst w i j (tin w i a j)
def tou (w : Wo) : Nat → Tc
  | 0 => (mx, 0, 0)
  | i + 1 => tin w i (tou w i) 41
def okT (a : Tc) : Prop := 0 ≤ a.1.toInt
theorem tst_b {w : Wo} (hF : okF w) (hH : okH w) (h4 : 0 < n4 w) {i j : Nat} (hi : i ≤ 40) (hj : j ≤ 40) {a : Tc} (h : okT a) : okT (tst w i j a) ∧ (tst w i j a).1.toInt ≤ a.1.toInt ∧ ¬ (tst w i j a).1 = mx := by
  have nhh := hH.1
  obtain ⟨k1, k2, -⟩ := tsum_b hF hH h4 hi hj (nh w) (Nat.le_refl _)
  have mt : mx.toInt = 1073741824 := rfl
  unfold tst okT
  unfold okT at h
  by_cases c : a.1 ≤ tsum w (tv i) (tv j) (nh w)
  · rw [if_pos c]; rw [fa_le] at c
    exact ⟨h, Int.le_refl _, fun z => by rw [z] at c; omega⟩
  · rw [if_neg c]; rw [fa_le] at c
    exact ⟨k1, by show (tsum w (tv i) (tv j) (nh w)).toInt ≤ _; omega, fun z => by have z : tsum w (tv i) (tv j) (nh w) = mx := z; rw [z] at k2; omega⟩
theorem tin_b {w : Wo} (hF : okF w) (hH : okH w) (h4 : 0 < n4 w) {i : Nat} (hi : i ≤ 40) {a : Tc} (h : okT a) : ∀ j, j ≤ 41 → okT (tin w i a j) ∧ (0 < j → ¬ (tin w i a j).1 = mx)
  | 0, _ => ⟨h, fun q => absurd q (by omega)⟩
  | j + 1, hj => by
    have := tst_b hF hH h4 hi (j := j) (by omega) (tin_b hF hH h4 hi h j (by omega)).1
    exact ⟨this.1, fun _ => this.2.2⟩
theorem tou_b {w : Wo} (hF : okF w) (hH : okH w) (h4 : 0 < n4 w) : ∀ i, i ≤ 41 → okT (tou w i) ∧ (0 < i → ¬ (tou w i).1 = mx)
  | 0, _ => ⟨by show (0 : Int) ≤ mx.toInt; decide, fun q => absurd q (by omega)⟩
  | i + 1, hi => by
    have := tin_b hF hH h4 (i := i) (by omega) (tou_b hF hH h4 i (by omega)).1 41 (by omega)
    exact ⟨this.1, fun _ => this.2 (by omega)⟩
def xT2 (a : Tc) (τ : St) : Prop := τ 119 4 = a.1 ∧ (¬ a.1 = mx → τ 119 2 = a.2.1 ∧ τ 119 3 = a.2.2)
def mT2 (a : Tc) (τ : St) : Prop := τ 122 35 = (if a.1 = mx then none32 else a.1) ∧ (¬ a.1 = mx → τ 122 33 = a.2.1 ∧ τ 122 34 = a.2.2)
theorem x_seekT {w : Wo} {σ : St} (hx : XW w σ) (hF : okF w) (hH : okH w) (h4 : 0 < n4 w) (F : St → Prop) (h : ∀ τ, Fr (fun a _ => a = 119) σ τ → xT2 (tou w 41) τ → F τ) : CallV hd_tu_seek [rf 52 119] σ F := by
  have outer : ∀ m i, i + m = 41 → ∀ τ, Fr (fun a _ => a = 119) σ τ → xT2 (tou w i) τ → At hd_tu_seek X0 9 [some (rf 52 119), some (iv (tv i)), none, none] [] τ (retV F) := by
    intro m
    induction m with
    | zero =>
      intro i hi τ ht hT
      have : i = 41 := by omega
      subst this
      exact l_tu_seek_9 _ _ _ ⟨fun _ => h τ ht hT, fun q => absurd (by rw [fa_lt, tv_t (by omega), t_20]; omega) q⟩
    | succ m ih =>
      intro i hi τ ht hT
      have inner : ∀ r j, j + r = 41 → ∀ τ, Fr (fun a _ => a = 119) σ τ → xT2 (tin w i (tou w i) j) τ → At hd_tu_seek X0 18 [some (rf 52 119), some (iv (tv i)), some (iv (tv j)), none] [] τ (retV F) := by
        intro r
        induction r with
        | zero =>
          intro j hj τ ht hT
          have : j = 41 := by omega
          subst this
          refine l_tu_seek_18 _ _ _ _ ⟨fun _ => ?_, fun q => absurd (by rw [fa_lt, tv_t (by omega), t_20]; omega) q⟩
          rw [tv_1]
          exact ih (i + 1) (by omega) τ ht hT
        | succ r ih2 =>
          intro j hj τ ht hT
          have hxt : XW w τ := XW_e (fun a b _ _ => ht a b (by omega)) hx
          refine l_tu_seek_18 _ _ _ _ ⟨fun q => ?_, fun _ => x_offBy hxt.1 hF hH h4 (by omega) (by omega) _ fun rr k1 k2 => ?_⟩
          · exfalso; rw [fa_lt, tv_t (by omega), t_20] at q; omega
          rw [tv_1]
          have key := ih2 (j + 1) (by omega)
          simp only [tin, tst] at key
          rw [hT.1] at k1 k2 ⊢
          refine ⟨fun q => ?_, fun q => ?_⟩
          · have c : (tin w i (tou w i) j).1 ≤ tsum w (tv i) (tv j) (nh w) := by
              by_cases z : (tin w i (tou w i) j).1 ≤ tsum w (tv i) (tv j) (nh w)
              · exact z
              · rw [← k2 z]; exact q
            rw [if_pos c] at key
            exact key τ ht hT
          · have c : ¬ (tin w i (tou w i) j).1 ≤ tsum w (tv i) (tv j) (nh w) := fun z => q (k1 z)
            rw [if_neg c] at key
            rw [k2 c]
            refine key _ (((ht.up rfl).up rfl).up rfl) ⟨?_, fun _ => ⟨?_, ?_⟩⟩
            · simp (disch := omega) only [up_at, up_jb]
            · simp (disch := omega) only [up_at, up_jb]
            · simp (disch := omega) only [up_at, up_jb]
      refine l_tu_seek_9 _ _ _ ⟨fun q => ?_, fun _ => inner 41 0 (by omega) τ ht hT⟩
      exfalso; rw [fa_lt, tv_t (by omega), t_20] at q; omega
  exact e_tu_seek _ _ (outer 41 0 (by omega) _ (Fr.rf.up rfl) ⟨by rw [up_at]; rfl, fun q => absurd rfl q⟩)
def PT2 (a b : Nat) : Prop := a = 122 ∧ ((22 ≤ b ∧ b ≤ 24) ∨ (33 ≤ b ∧ b ≤ 35))
theorem r_turn (a1 : Int32) (σ : St) (G : Int32 → Int32 → St → Prop) (hR : RW σ) (k : KQ σ G) :
    CallI hd_x_turn [rf 54 0, iv a1] σ (fun r σ1 => CallI hd_m_turn [rf 55 122, iv a1] σ1 (fun r' σ2 => G r r' σ2)) := by
  obtain ⟨w, hF, hH, hc, hcd, hm, hmd, h7⟩ := hR
  have hm0 := mWs_fr fr0 hm
  refine e_x_turn a1 σ _ (gx_below 3 (by decide) (fun b hb e => on' ?_) (fun c => of' (e_m_turn _ _ _ (gm_in0 (by rw [i2l, tl_0, tl_2]; omega) (of' (k _ _ fr0))))))
  subst e
  have bb : (0 : Int64).toInt ≤ (nI b).toInt64.toInt ∧ (nI b).toInt64.toInt ≤ (2 : Int64).toInt := by rw [i2l, tl_0, tl_2, ti_nI (by omega)]; omega
  refine gx_there hc hF (fun h4 => on' ?_) (fun h4 => of' (e_m_turn _ _ _ (gm_in1 bb (on' ?_))))
  rotate_left
  · rw [mt0 h7 h4]; exact of' (k _ _ fr0)
  refine x_dates hc hH _ ⟨fun hd => ?_, fun hd => e_m_turn _ _ _ (gm_in1 bb (on' ?_))⟩
  rotate_left
  · rw [mt1 h7 h4]
    exact on' (m_dates hm0 hH _ ⟨fun z => absurd hd z, fun _ => k _ _ fr0⟩)
  refine x_seekT ⟨hc, hcd⟩ hF hH h4 _ fun τ ht hT => ?_
  have tb := tou_b hF hH h4 41 (Nat.le_refl _)
  have nmx := tb.2 (by omega)
  have fT : Fr SC σ τ := ht.mn fun a b q => Or.inl (by omega)
  have mr : ∀ r : Int32, (b = 0 → r = (tou w 41).2.1) → (b = 1 → r = (tou w 41).2.2) → (b = 2 → r = (tou w 41).1) → CallI hd_m_turn [rf 55 122, iv (nI b)] τ (fun r' σ2 => G r r' σ2) := by
    intro r r0 r1 r2
    have f0 : Fr SC σ (up τ 122 0 0) := fT.tr fr0
    have f7 : τ 122 7 = (if n4 w = 0 then 0 else 1) := by rw [ht _ _ (by omega)]; exact h7
    have ptsc : ∀ {ρ κ : St}, Fr PT2 ρ κ → Fr SC ρ κ := fun h => h.mn fun a b q => Or.inr (by unfold PT2 at q; unfold MS; omega)
    have outer : ∀ m i, i + m = 41 → ∀ ρ, Fr PT2 (up τ 122 0 0) ρ → mT2 (tou w i) ρ → At hd_m_turn X0 49 [some (rf 55 122), some (iv (nI b)), some (iv (tv i)), none, none] [] ρ (retI (fun r' σ2 => G r r' σ2)) := by
      intro m
      induction m with
      | zero =>
        intro i hi ρ hr hT2
        have : i = 41 := by omega
        subst this
        have fin : ∀ r', r = r' → G r r' ρ := fun r' e => by rw [← e]; exact k _ _ (f0.tr (ptsc hr))
        refine l_m_turn_49 _ _ _ _ ⟨fun _ => ?_, fun q => absurd (by rw [fa_le, tv_t (by omega), t_21]; omega) q⟩
        rw [hT2.1, if_neg nmx, (hT2.2 nmx).1, (hT2.2 nmx).2]
        refine ⟨fun q0 => ⟨fun q1 => fin _ (r2 ?_), fun q1 => fin _ (r1 ?_)⟩, fun q0 => fin _ (r0 ?_)⟩
        · have a0 : ¬ b = 0 := fun e => q0 (by rw [e]; rfl)
          have a1 : ¬ b = 1 := fun e => q1 (by rw [e]; rfl)
          omega
        · rw [show (1 : Int32) = nI 1 from rfl, nI_eq (by omega) (by omega)] at q1; exact q1
        · rw [show (0 : Int32) = nI 0 from rfl, nI_eq (by omega) (by omega)] at q0; exact q0
      | succ m ih =>
        intro i hi ρ hr hT2
        have ob := (tou_b hF hH h4 i (by omega)).1
        have inner : ∀ s j, j + s = 41 → ∀ ρ, Fr PT2 (up τ 122 0 0) ρ → mT2 (tin w i (tou w i) j) ρ → At hd_m_turn X0 58 [some (rf 55 122), some (iv (nI b)), some (iv (tv i)), some (iv (tv j)), none] [] ρ (retI (fun r' σ2 => G r r' σ2)) := by
          intro s
          induction s with
          | zero =>
            intro j hj ρ hr hT2
            have : j = 41 := by omega
            subst this
            refine l_m_turn_58 _ _ _ _ _ ⟨fun _ => ?_, fun q => absurd (by rw [fa_le, tv_t (by omega), t_21]; omega) q⟩
            rw [tv_1]
            exact ih (i + 1) (by omega) ρ hr hT2
          | succ s ih2 =>
            intro j hj ρ hr hT2
            have ib := (tin_b hF hH h4 (i := i) (by omega) ob j (by omega)).1
            have sb := tsum_b hF hH h4 (vi := i) (vj := j) (by omega) (by omega) (nh w) (Nat.le_refl _)
            have nhh := hH.1
            refine l_m_turn_58 _ _ _ _ _ ⟨fun q => ?_, fun _ => m_offBy (mWs_fr (f0.tr (ptsc hr)) hm) hF hH h4 (by omega) (by omega) _ fun κ hκ => ?_⟩
            · exfalso; rw [fa_le, tv_t (by omega), t_21] at q; omega
            rw [tv_1]
            have fk : Fr PT2 (up τ 122 0 0) κ := hr.tr (hκ.mn fun a b q => ⟨q.1, Or.inl q.2⟩)
            have e35 : κ 122 35 = (if (tin w i (tou w i) j).1 = mx then none32 else (tin w i (tou w i) j).1) := by rw [hκ _ _ (by omega)]; exact hT2.1
            have key := ih2 (j + 1) (by omega)
            simp only [tin, tst] at key
            have snm : ¬ tsum w (tv i) (tv j) (nh w) = mx := fun z => by have := sb.2.1; rw [z] at this; have : mx.toInt = 1073741824 := rfl; omega
            have a90 : ¬ (tin w i (tou w i) j).1 ≤ tsum w (tv i) (tv j) (nh w) → At hd_m_turn X0 90 [some (rf 55 122), some (iv (nI b)), some (iv (tv i)), some (iv (tv j)), some (iv (tsum w (tv i) (tv j) (nh w)))] [] κ (retI (fun r' σ2 => G r r' σ2)) := fun c => by
              refine l_m_turn_90 _ _ _ _ _ _ ?_
              rw [tv_1]
              rw [if_neg c] at key
              refine key _ (((fk.up ⟨rfl, Or.inr (by omega)⟩).up ⟨rfl, Or.inr (by omega)⟩).up ⟨rfl, Or.inr (by omega)⟩) ⟨?_, fun _ => ⟨?_, ?_⟩⟩
              · rw [if_neg snm]; simp (disch := omega) only [up_at, up_jb]
              · simp (disch := omega) only [up_at, up_jb]
              · simp (disch := omega) only [up_at, up_jb]
            rw [e35]
            by_cases em : (tin w i (tou w i) j).1 = mx
            · rw [if_pos em]
              refine ⟨fun _ => a90 ?_, fun z => absurd rfl z⟩
              rw [em, fa_le]; have : mx.toInt = 1073741824 := rfl; omega
            · rw [if_neg em]
              refine ⟨fun z => ?_, fun _ => ⟨fun z => ?_, fun z => a90 z⟩⟩
              · exfalso; unfold okT at ib; rw [z] at ib; exact absurd ib (by decide)
              · rw [if_pos z] at key
                refine key κ fk ⟨by rw [e35], fun q => ?_⟩
                rw [hκ 122 33 (by omega), hκ 122 34 (by omega)]; exact hT2.2 q
        refine l_m_turn_49 _ _ _ _ ⟨fun q => ?_, fun _ => inner 41 0 (by omega) ρ hr hT2⟩
        exfalso; rw [fa_le, tv_t (by omega), t_21] at q; omega
    refine e_m_turn _ _ _ (gm_in1 bb (on' ?_))
    rw [mt1 f7 h4]
    refine on' (m_dates (mWs_fr f0 hm) hH _ ⟨fun _ => outer 41 0 (by omega) _ (Fr.rf.up ⟨rfl, Or.inr (by omega)⟩) ⟨by rw [up_at]; rfl, fun q => absurd rfl q⟩, fun z => absurd z hd⟩)
  rw [hT.1, (hT.2 nmx).1, (hT.2 nmx).2]
  have c0 : nI b = 0 ↔ b = 0 := by rw [show (0 : Int32) = nI 0 from rfl]; exact nI_eq (by omega) (by omega)
  have c1 : nI b = 1 ↔ b = 1 := by rw [show (1 : Int32) = nI 1 from rfl]; exact nI_eq (by omega) (by omega)
  rw [c0, c1]
  exact ⟨fun q0 => ⟨fun q1 => mr _ (fun z => absurd z q0) (fun z => absurd z q1) (fun _ => rfl), fun q1 => mr _ (fun z => absurd z q0) (fun _ => rfl) (fun z => by omega)⟩, fun q0 => mr _ (fun _ => rfl) (fun z => by omega) (fun z => by omega)⟩
