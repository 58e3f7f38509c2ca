/-! kinds -/
def anyF (w : Wo) (i : Nat) : Nat → Bool
  | 0 => false
  | n + 1 => anyF w i n || ftp w i n
def knd (w : Wo) (i : Nat) : Nat := if ag w i then 3 else if 0 < nd w i then (if hi w i - lo w i ≤ 2 then 2 else 1) else if anyF w i (n4 w) then 4 else 5
theorem knd_b (w : Wo) (i : Nat) : 1 ≤ knd w i ∧ knd w i ≤ 5 := by unfold knd; split; omega; split; split <;> omega; split <;> omega
theorem ag_nd {w : Wo} {i : Nat} (h : ag w i = true) : 0 < nd w i := by
  rcases Nat.eq_zero_or_pos (nd w i) with e | e
  · unfold ag at h
    rw [e] at h
    exact absurd h (by simp [ends])
  · exact e
theorem anyF_m {w : Wo} {i : Nat} : ∀ {m n : Nat}, m ≤ n → anyF w i m = true → anyF w i n = true
  | m, 0, h, q => by have : m = 0 := by omega
                     subst this; exact q
  | m, n + 1, h, q => by
    rcases Nat.lt_or_ge m (n + 1) with c | c
    · simp only [anyF, anyF_m (show m ≤ n by omega) q, Bool.true_or]
    · have : m = n + 1 := by omega
      subst this; exact q
theorem x_fitsAny {w : Wo} {σ : St} (hc : cW w 36 50 σ) (hD : cD w 36 σ) (hF : okF w) (hH : okH w) {i : Nat} (hi' : i < nh w) (F : Int32 → St → Prop) (h : ∀ τ, Fr PX σ τ → F (if anyF w i (n4 w) then 1 else 0) τ) : CallI hd_so_fitsAny [rf 50 114, iv (nI i)] σ F := by
  have n4b := hF.1.2.2.2.2.1
  have loop : ∀ (m n : Nat), n + m = n4 w → anyF w i n = false → ∀ τ, Fr PX σ τ → At hd_so_fitsAny X0 2 [some (rf 50 114), some (iv (nI i)), some (iv (nI n))] [] τ (retI F) := by
    intro m
    induction m with
    | zero =>
      intro n hn ha τ ht
      refine l_so_fitsAny_2 _ _ _ _ ?_
      rw [show τ 45 2 = nI (n4 w) from (x_row ht hc).1.2.2.2.2]
      refine ⟨fun _ => ⟨Or.inl rfl, ?_⟩, fun q => absurd (by rw [nI_leI (by omega) (by omega)]; omega) q⟩
      have := h τ ht
      rw [← show n = n4 w by omega, ha] at this
      exact this
    | succ m ih =>
      intro n hn ha τ ht
      refine l_so_fitsAny_2 _ _ _ _ ?_
      rw [show τ 45 2 = nI (n4 w) from (x_row ht hc).1.2.2.2.2]
      refine ⟨fun q => ?_, fun _ => c_find (x_row ht hc) (x_rowD ht hD) hF hH hi' (by omega) _ fun ρ hr hx => ?_⟩
      · exfalso; rw [nI_leI (by omega) (by omega)] at q; omega
      · rw [(xAc_of hF hH hi' (by omega) hx).2.2.2, b10, Bool.not_eq_false, nI_1]
        refine ⟨fun q => ih (n + 1) (by omega) (by simp only [anyF, ha, q, Bool.or_self]) ρ (ht.tr hr), fun q => ⟨Or.inr rfl, ?_⟩⟩
        have := h ρ (ht.tr hr)
        rw [anyF_m (show n + 1 ≤ n4 w by omega) (by simp only [anyF, q, Bool.or_true])] at this
        exact this
  exact e_so_fitsAny _ _ _ (loop (n4 w) 0 (by omega) rfl σ Fr.rf)
theorem x_knd {w : Wo} {σ : St} (hc : cW w 36 50 σ) (hD : cD w 36 σ) (hF : okF w) (hH : okH w) {i : Nat} (hi' : i < nh w) (F : Int32 → St → Prop) (h : ∀ τ, Fr PX σ τ → F (nI (knd w i)) τ) : CallI hd_x_kindOf [rf 54 0, iv (nI i)] σ F := by
  have nhh := hH.1
  have lh := lohi hF hH hi'
  have v12 : vp_in (nI i) 12 := vin0 i rfl (by omega) (by omega)
  have ci : (nI i).toNatClampNeg = i := nI_clamp (by omega)
  obtain ⟨g1, g2, g3, g4, g5, g6, -⟩ := hc.2.2.2 i hi'
  have ndb := (hH.2.2 i hi').2.2.1
  refine e_x_kindOf _ _ _ ⟨v12, ?_⟩
  rw [ci, show σ 56 i = (if ag w i then 1 else 0) from g6, show σ 53 i = nI (nd w i) from g3, show σ 55 i = nI (hi w i) from g5, show σ 54 i = nI (lo w i) from g4, b10, Bool.not_eq_false]
  unfold knd at h
  refine ⟨fun q => ⟨v12, fun q2 => x_fitsAny hc hD hF hH hi' _ fun τ ht => ?_, fun q2 => ⟨v12, v12, ?_⟩⟩, fun q => ?_⟩
  · rw [q] at h
    rw [show (0 : Int32) = nI 0 from rfl, nI_leI (by omega) (by omega)] at q2
    have := h τ ht
    rw [if_neg (by decide), if_neg (by omega)] at this
    rw [b10, Bool.not_eq_false]
    refine ⟨fun z => ?_, fun z => ?_⟩
    · rw [z] at this; exact this
    · rw [z] at this; exact this
  · rw [q] at h
    rw [show (0 : Int32) = nI 0 from rfl, nI_leI (by omega) (by omega)] at q2
    have := h σ Fr.rf
    rw [if_neg (by decide), if_pos (by omega)] at this
    rw [pk_sub lh.1, show (2 : Int32) = nI 2 from rfl, nI_ltI (by omega) (by omega)]
    refine ⟨fun z => ?_, fun z => ?_⟩
    · rw [if_neg (by omega)] at this; exact this
    · rw [if_pos (by omega)] at this; exact this
  · have := h σ Fr.rf
    rw [q] at this
    exact this
theorem m_knd {w : Wo} {σ : St} (hm : mW w (σ 126) (σ 128)) (hD : mD w σ) (hF : okF w) (hH : okH w) {i : Nat} (hi' : i < nh w) (F : Int32 → St → Prop) (h : ∀ τ, Fr PM σ τ → F (nI (knd w i)) τ) : CallI hd_m_kindOf [rf 55 122, iv (nI i)] σ F := by
  have nhh := hH.1
  have n4b := hF.1.2.2.2.2.1
  have lh := lohi hF hH hi'
  have ndb := (hH.2.2 i hi').2.2.1
  have x25 : (25 : Int32) + nI i = nI (25 + i) := nI_add 25 i
  have c25 : (nI (25 + i)).toNatClampNeg = 25 + i := nI_clamp (by omega)
  refine e_m_kindOf _ _ _ (c_look hm hF hH hi' _ fun τ ht t1 t2 t3 => ?_)
  have ht' : Fr PM σ τ := ht.mn fun a b q => ⟨q.1, by omega, by omega⟩
  refine ⟨vin0 _ x25 (by omega) (by omega), ?_⟩
  rw [x25, c25, (m_row ht' hm).2.2.2 i hi' |>.2.2.1, t1, t2, t3, show (0 : Int32) = nI 0 from rfl, nI_leI (by omega) (by omega)]
  unfold knd at h
  refine ⟨fun q2 => ?_, fun q2 => ⟨fun q => ?_, fun q => ?_⟩⟩
  · have hag : ag w i = false := by
      cases e : ag w i with
      | false => rfl
      | true => have := ag_nd e; omega
    rw [hag, if_neg (by decide), if_neg (by omega)] at h
    have loop : ∀ (m n : Nat), n + m = n4 w → ∀ ρ, Fr PM σ ρ → At hd_m_kindOf X0 51 [some (rf 55 122), some (iv (nI i)), some (iv (if anyF w i n then 1 else 0)), some (iv (nI n))] [] ρ (retI F) := by
      intro m
      induction m with
      | zero =>
        intro n hn ρ hr
        refine l_m_kindOf_51 _ _ _ _ _ ⟨vst, ?_⟩
        rw [c_4, (m_row hr hm).1.2.2.2.2, b10, Bool.not_eq_false]
        refine ⟨fun _ => ?_, fun q => absurd (by rw [nI_leI (by omega) (by omega)]; omega) q⟩
        have := h ρ hr
        rw [← show n = n4 w by omega] at this
        exact ⟨fun z => by rw [z] at this; exact this, fun z => by rw [z] at this; exact this⟩
      | succ m ih =>
        intro n hn ρ hr
        refine l_m_kindOf_51 _ _ _ _ _ ⟨vst, ?_⟩
        rw [c_4, (m_row hr hm).1.2.2.2.2, b10, Bool.not_eq_false]
        refine ⟨fun q => ?_, fun _ => c_seek (m_row hr hm) (m_rowD hr hD) hF hH hi' (by omega) _ fun μ hs hx => ?_⟩
        · exfalso; rw [nI_leI (by omega) (by omega)] at q; omega
        · rw [(mAc_of hF hH hi' (by omega) hx).2.2.2, b10, Bool.not_eq_false, nI_1]
          have key := ih (n + 1) (by omega) μ (hr.tr hs)
          refine ⟨fun z => ?_, fun z => ⟨fun y => ?_, fun y => ?_⟩⟩
          · rw [show anyF w i (n + 1) = true by simp only [anyF, z, Bool.true_or]] at key; exact key
          · rw [show anyF w i (n + 1) = false by simp only [anyF, z, y, Bool.or_self]] at key; exact key
          · rw [show anyF w i (n + 1) = true by simp only [anyF, y, Bool.or_true]] at key; exact key
    exact loop (n4 w) 0 (by omega) τ ht'
  · have := h τ ht'
    have hag : ag w i = false := b10.mp q
    rw [hag, if_neg (by decide), if_pos (by omega)] at this
    rw [pk_sub lh.1, show (2 : Int32) = nI 2 from rfl, nI_ltI (by omega) (by omega)]
    exact ⟨fun z => by rw [if_neg (by omega)] at this; exact this, fun z => by rw [if_pos (by omega)] at this; exact this⟩
  · have := h τ ht'
    have hag : ag w i = true := b11.mp q
    rw [hag] at this
    exact this
theorem r_kind (a1 : Int32) (σ : St) (G : Int32 → Int32 → St → Prop) (hR : RW σ) (k : KQ σ G) :
    CallI hd_x_kind [rf 54 0, iv a1] σ (fun r σ1 => CallI hd_m_kind [rf 55 122, iv a1] σ1 (fun r' σ2 => G r r' σ2)) := by
  obtain ⟨w, hF, hH, hc, hcd, hm, hmd, -⟩ := hR
  have nhh := hH.1
  refine e_x_kind a1 σ _ (q_x_isHill _ _ _ ?_)
  rw [x_hill hc hH]
  by_cases h1 : 0 ≤ a1.toInt ∧ a1.toInt < nh w
  rotate_left
  · rw [if_neg h1]
    refine ⟨fun _ => e_m_kind a1 _ _ (q_m_isHill _ _ _ vz ?_), fun q => absurd rfl q⟩
    rw [m_hill (mWs_fr fr0 hm) hH, if_neg h1]
    exact ⟨fun _ => k _ _ fr0, fun q => absurd rfl q⟩
  rw [if_pos h1]
  obtain ⟨i, hi', e1, e2, e3⟩ := ixe h1 (by omega)
  subst e1
  refine ⟨fun q => absurd q one_ne, fun _ => x_knd hc hcd hF hH hi' _ fun τ ht => ?_⟩
  have hm1 := mWs_fr ((pxsc ht).tr fr0) hm
  refine e_m_kind _ _ _ (q_m_isHill _ _ _ vz ?_)
  rw [m_hill hm1 hH, if_pos h1]
  exact ⟨fun q => absurd q one_ne, fun _ => m_knd hm1 (mDs_fr ((pxsc ht).tr fr0) hmd) hF hH hi' _ fun ρ hr => k _ _ (((pxsc ht).tr fr0).tr (pmsc hr))⟩
/-- whether a hill told as one kind is taken as another -/
theorem isOf_same : ∀ a, a < 6 → ∀ b, b < 6 → 1 ≤ a → p_as_isOf (nI a) (nI b) = p_m_isOf (nI a) (nI b) := by decide +kernel
/-- as(): status too -/
def KS (σ : St) (G : Int32 → Int32 → St → Prop) : Prop := ∀ (r : Int32) (τ : St), Fr (fun a b => SC a b ∨ (a = 0 ∧ b = 10) ∨ (a = 122 ∧ b = 1)) σ τ → τ 0 10 = τ 122 1 → G r r τ
theorem r_as (a1 a2 : Int32) (σ : St) (G : Int32 → Int32 → St → Prop) (hR : RW σ) (hT : σ 0 10 = σ 122 1) (k : KS σ G) :
    CallI hd_x_as [rf 54 0, iv a1, iv a2] σ (fun r σ1 => CallI hd_m_as [rf 55 122, iv a1, iv a2] σ1 (fun r' σ2 => G r r' σ2)) := by
  obtain ⟨w, hF, hH, hc, hcd, hm, hmd, -⟩ := hR
  have nhh := hH.1
  have hm0 := mWs_fr fr0 hm
  have kb : ∀ r, G r r (up σ 122 0 0) := fun r => k _ _ (fr0.mn fun _ _ q => Or.inl q) (by rw [up_ka _ _ (by omega), up_jb _ _ (by omega)]; exact hT)
  refine e_x_as a1 a2 σ _ (q_x_isHill _ _ _ ?_)
  rw [x_hill hc hH]
  by_cases h1 : 0 ≤ a1.toInt ∧ a1.toInt < nh w
  rotate_left
  · rw [if_neg h1]
    refine ⟨fun _ => e_m_as a1 a2 _ _ (q_m_isHill _ _ _ vz ?_), fun q => absurd rfl q⟩
    rw [m_hill hm0 hH, if_neg h1]
    exact ⟨fun _ => kb _, fun q => absurd rfl q⟩
  rw [if_pos h1]
  obtain ⟨i, hi', e1, e2, e3⟩ := ixe h1 (by omega)
  subst e1
  refine ⟨fun q => absurd q one_ne, fun _ => q_x_isBelow _ _ _ _ ?_⟩
  rw [v_below, t_6]
  by_cases h2 : 0 ≤ a2.toInt ∧ a2.toInt < 6
  rotate_left
  · rw [if_neg h2]
    refine ⟨fun q => absurd rfl q, fun _ => e_m_as _ a2 _ _ (q_m_isHill _ _ _ vz ?_)⟩
    rw [m_hill hm0 hH, if_pos h1]
    refine ⟨fun q => absurd q one_ne, fun _ => q_m_in _ _ _ _ _ ?_⟩
    rw [v_in, i2l, tl_0, tl_5, if_neg (by omega)]
    exact ⟨fun q => absurd rfl q, fun _ => kb _⟩
  rw [if_pos h2]
  obtain ⟨b, hb, f1, f2, f3⟩ := ixe h2 (by decide)
  subst f1
  have kb5 := knd_b w i
  refine ⟨fun _ => x_knd hc hcd hF hH hi' _ fun τ ht => q_as_isOf _ _ _ _ (fun _ _ => vin0 (knd w i) rfl (by omega) (by omega)) ?_, fun q => absurd q one_ne⟩
  rw [isOf_same _ (by omega) b hb (by omega)]
  have other : ∀ (τ' : St) (F : Int32 → St → Prop), Fr SC σ τ' ∨ (∃ v, Fr SC (up σ 0 10 v) τ') → (∀ ρ, Fr PM (up (up τ' 122 0 0) 122 1 0) ρ → (p_m_isOf (nI (knd w i)) (nI b) = 0 → F (-1000010 - 3) (up ρ 122 1 3)) ∧ (¬ p_m_isOf (nI (knd w i)) (nI b) = 0 → F (nI i) ρ)) → CallI hd_m_as [rf 55 122, iv (nI i), iv (nI b)] τ' F := by
    intro τ' F hτ H
    have e126 : τ' 126 = σ 126 := funext fun x => by
      rcases hτ with q | ⟨v, q⟩
      · exact q _ _ (by unfold SC MS; omega)
      · rw [q _ _ (by unfold SC MS; omega), up_ka _ _ (by omega)]
    have e128 : τ' 128 = σ 128 := funext fun x => by
      rcases hτ with q | ⟨v, q⟩
      · exact q _ _ (by unfold SC MS; omega)
      · rw [q _ _ (by unfold SC MS; omega), up_ka _ _ (by omega)]
    have hmτ : mW w (τ' 126) (τ' 128) := by rw [e126, e128]; exact hm
    have hdτ : mD w τ' := fun a ha => by
      have := hmd a ha
      rcases hτ with q | ⟨v, q⟩
      · rw [q _ _ (by unfold SC MS; omega), q _ _ (by unfold SC MS; omega)]; exact this
      · rw [q _ _ (by unfold SC MS; omega), q _ _ (by unfold SC MS; omega), up_ka _ _ (by omega), up_ka _ _ (by omega)]; exact this
    have hm1 : mW w (up (up τ' 122 0 0) 122 1 0 126) (up (up τ' 122 0 0) 122 1 0 128) := by
      have e1 : up (up τ' 122 0 0) 122 1 0 126 = τ' 126 := funext fun x => by rw [up_ka _ _ (by omega), up_ka _ _ (by omega)]
      have e2 : up (up τ' 122 0 0) 122 1 0 128 = τ' 128 := funext fun x => by rw [up_ka _ _ (by omega), up_ka _ _ (by omega)]
      rw [e1, e2]; exact hmτ
    have hd1 : mD w (up (up τ' 122 0 0) 122 1 0) := fun a ha => by
      rw [up_ka _ _ (by omega), up_ka _ _ (by omega), up_ka _ _ (by omega), up_ka _ _ (by omega)]; exact hdτ a ha
    refine e_m_as _ _ _ _ (q_m_isHill _ _ _ vz ?_)
    rw [m_hill (mWs_fr fr0 hmτ) hH, if_pos h1]
    refine ⟨fun q => absurd q one_ne, fun _ => q_m_in _ _ _ _ _ ?_⟩
    rw [v_in, i2l, tl_0, tl_5, if_pos (by omega)]
    refine ⟨fun _ => m_knd hm1 hd1 hF hH hi' _ fun ρ hr => q_m_isOf _ _ _ _ ?_, fun q => absurd q one_ne⟩
    obtain ⟨H1, H2⟩ := H ρ hr
    exact ⟨fun q => e_m_finding _ _ _ (H1 q), fun q => H2 q⟩
  refine ⟨fun q => e_x_found _ _ _ (other _ _ (Or.inr ⟨3, fun a b n => ?_⟩) fun ρ hr => ⟨fun _ => k _ _ ?_ ?_, fun z => absurd q z⟩), fun q => e_x_unfound _ _ _ (other _ _ (Or.inr ⟨0, fun a b n => ?_⟩) fun ρ hr => ⟨fun z => absurd z q, fun _ => k _ _ ?_ ?_⟩)⟩
  · by_cases ha : a = 0 ∧ b = 10
    · obtain ⟨rfl, rfl⟩ := ha; rw [up_at, up_at]
    · rw [up_o _ _ (by omega), up_o _ _ (by omega)]; exact pxsc ht a b n
  · intro a b n
    rw [up_o _ _ (by omega), hr _ _ (fun q => n (Or.inl (Or.inr (PM_MS q)))), up_o _ _ (by omega), up_o _ _ (show a ≠ 122 ∨ b ≠ 0 by unfold SC MS at n; omega), up_o _ _ (by omega)]
    exact pxsc ht a b fun q => n (Or.inl q)
  · rw [up_at, up_ka _ _ (by omega), hr _ _ (by unfold PM; omega)]
    simp (disch := omega) only [up_at, up_ka, up_jb]
  · by_cases ha : a = 0 ∧ b = 10
    · obtain ⟨rfl, rfl⟩ := ha; rw [up_at, up_at]
    · rw [up_o _ _ (by omega), up_o _ _ (by omega)]; exact pxsc ht a b n
  · intro a b n
    rw [hr _ _ (fun q => n (Or.inl (Or.inr (PM_MS q)))), up_o _ _ (by omega), up_o _ _ (show a ≠ 122 ∨ b ≠ 0 by unfold SC MS at n; omega), up_o _ _ (by omega)]
    exact pxsc ht a b fun q => n (Or.inl q)
  · rw [hr _ _ (by unfold PM; omega), hr _ _ (by unfold PM; omega)]
    simp (disch := omega) only [up_at, up_ka, up_jb]
