/-! calls on a row -/
theorem rowpair {w : Wo} {σ : St} (hSh : RSh σ) (hT : σ 0 10 = σ 122 1) (hF : okF w) (hH : okH w) (hx : XW w σ) (hM : MW w σ) (a1 a2 a3 : Int32) (ln : Nat) (hl : 1 ≤ ln ∧ ln ≤ 12) {G : Int32 → Int32 → St → Prop} (k : KS σ G) {hX hMd : HD} (X M : (Int32 → St → Prop) → St → Prop) (V : Nat → (Nat → Nat) → Int32)
    (ex : ∀ F, CallI hd_x_takeRow [rf 54 0, iv a1, iv a2, iv a3, iv (nI ln)] σ (fun r σ1 => (r = 0 → X F σ1) ∧ (¬ r = 0 → F r σ1)) → CallI hX [rf 54 0, iv a1, iv a2, iv a3] σ F)
    (em : ∀ τ F, CallI hd_m_layRow [rf 55 122, iv a1, iv a2, iv a3, iv (nI ln)] (up τ 122 0 0) (fun r σ1 => (r = 0 → M F σ1) ∧ (¬ r = 0 → F r σ1)) → CallI hMd [rf 55 122, iv a1, iv a2, iv a3] τ F)
    (bx : ∀ n mem τ F, a3 = nI n → ln ≤ n → n ≤ 12 → (∀ j, j < n → mem j < nh w) → XW w τ → τ 115 4 = nI n → (∀ j, j < n → τ 116 j = nI (mem j)) → (∀ ρ, Fr (fun a _ => 117 ≤ a ∧ a ≤ 119) τ ρ → F (V n mem) ρ) → X F τ)
    (bm : ∀ n mem τ F, a3 = nI n → ln ≤ n → n ≤ 12 → (∀ j, j < n → mem j < nh w) → mW w (τ 126) (τ 128) → (∀ j, j < n → τ 132 j = nI (mem j)) → (∀ ρ, Fr PV τ ρ → F (V n mem) ρ) → M F τ) :
    CallI hX [rf 54 0, iv a1, iv a2, iv a3] σ (fun r σ1 => CallI hMd [rf 55 122, iv a1, iv a2, iv a3] σ1 (fun r' σ2 => G r r' σ2)) := by
  have nhh := hH.1
  have tl : (nI ln).toInt = ln := ti_nI (by omega)
  have hl1 : 1 ≤ (nI ln).toInt := by omega
  -- the frame of all
  have fall : ∀ {τ ρ μ : St}, Fr PR σ τ → Fr (fun a _ => 117 ≤ a ∧ a ≤ 119) τ ρ → Fr PR' (up ρ 122 0 0) μ → Fr (fun a b => SC a b ∨ (a = 0 ∧ b = 10) ∨ (a = 122 ∧ b = 1)) σ μ := fun {τ ρ μ} h1 h2 h3 a b n => by
    rw [h3 a b (by unfold SC MS at n; unfold PR'; omega), up_o _ _ (by unfold SC MS at n; omega), h2 a b (by unfold SC at n; omega), h1 a b (by unfold SC at n; unfold PR; omega)]
  have e3 : ∀ {τ ρ : St}, Fr PR σ τ → Fr (fun a _ => 117 ≤ a ∧ a ≤ 119) τ ρ → ∀ a b, 123 ≤ a → a ≤ 125 → up ρ 122 0 0 a b = σ a b := fun {τ ρ} h1 h2 a b q1 q2 => by
    rw [up_ka _ _ (by omega), h2 a b (by omega), h1 a b (by unfold PR; omega)]
  have mw0 : ∀ {τ ρ : St}, Fr PR σ τ → Fr (fun a _ => 117 ≤ a ∧ a ≤ 119) τ ρ → mW w (up ρ 122 0 0 126) (up ρ 122 0 0 128) := fun {τ ρ} h1 h2 => by
    have e1 : up ρ 122 0 0 126 = σ 126 := funext fun b => by rw [up_ka _ _ (by omega), h2 126 b (by omega), h1 126 b (by unfold PR; omega)]
    have e2 : up ρ 122 0 0 128 = σ 128 := funext fun b => by rw [up_ka _ _ (by omega), h2 128 b (by omega), h1 128 b (by unfold PR; omega)]
    rw [e1, e2]; exact hM.1
  have sta : ∀ {τ ρ μ : St} {r : Int32}, Fr PR σ τ → Fr (fun a _ => 117 ≤ a ∧ a ≤ 119) τ ρ → Fr PR' (up ρ 122 0 0) μ → τ 0 10 = stOf r (σ 0 10) → μ 122 1 = stOf r (up ρ 122 0 0 122 1) → μ 0 10 = μ 122 1 := fun {τ ρ μ r} h1 h2 h3 s1 s2 => by
    rw [s2, up_jb _ _ (by omega), h2 122 1 (by omega), h1 122 1 (by unfold PR; omega), h3 0 10 (by unfold PR'; omega), up_ka _ _ (by omega), h2 0 10 (by omega), s1, hT]
  refine ex _ (x_rowTake hSh hx hH a1 a2 a3 (nI ln) hl1 _ fun r τ ho ht hst hrow => ⟨fun hr0 => ?_, fun hr => em _ _ (m_rowLay hSh (e3 ht Fr.rf) (mw0 ht Fr.rf) hH a1 a2 a3 (nI ln) hl1 _ fun r' μ ho' hμ hst' _ => ?_)⟩)
  rotate_left
  · have e := RowOut_u ho ho'
    subst e
    exact ⟨fun z => absurd z hr, fun _ => k _ _ (fall ht Fr.rf hμ) (sta ht Fr.rf hμ hst hst')⟩
  subst hr0
  obtain ⟨hG, -, -, hP, hA, -⟩ : rG a1 a3 (nI ln) ∧ ¬ nh w = 0 ∧ ¬ rM σ a1 ∧ rP σ a1 a2 a3 ∧ rA w σ a1 a2 a3 ∧ (0 : Int32) = 0 := by
    rcases ho with ⟨_, e⟩ | ⟨_, _, e⟩ | ⟨_, _, _, e⟩ | ⟨_, _, _, _, e⟩ | ⟨_, _, _, _, _, e⟩ | q
    · exact absurd e (by decide)
    · exact absurd e (by decide)
    · exact absurd e (by decide)
    · exact absurd e (by decide)
    · exact absurd e (by decide)
    · exact q
  have hG2 := hG.2
  rw [tl] at hG2
  obtain ⟨n, hn13, en, -, tn⟩ := ixe (x := a3) (n := 13) (by omega) (by decide)
  have tn' : a3.toInt.toNat = n := by omega
  have hmem : ∀ j, j < n → (rIt σ a1 a2 j).toInt.toNat < nh w ∧ rIt σ a1 a2 j = nI (rIt σ a1 a2 j).toInt.toNat := fun j hj => by
    have g := (hA j (by omega)).1
    refine ⟨by omega, ?_⟩
    rw [fa_eq, ti_nI (by omega)]; omega
  have hxt : XW w τ := XW_e (fun a b h1 h2 => ht a b (by unfold PR; omega)) hx
  refine bx n (fun j => (rIt σ a1 a2 j).toInt.toNat) τ _ en (by omega) (by omega) (fun j hj => (hmem j hj).1) hxt (by rw [(hrow rfl).1, en]) (fun j hj => by rw [(hrow rfl).2 j (by omega)]; exact (hmem j hj).2) fun ρ hρ => ?_
  refine em _ _ (m_rowLay hSh (e3 ht hρ) (mw0 ht hρ) hH a1 a2 a3 (nI ln) hl1 _ fun r' μ ho' hμ hst' hrow' => ?_)
  have e := RowOut_u ho ho'
  subst e
  refine ⟨fun _ => ?_, fun z => absurd rfl z⟩
  have mwm : mW w (μ 126) (μ 128) := by
    have e1 : μ 126 = up ρ 122 0 0 126 := funext fun b => hμ 126 b (by unfold PR'; omega)
    have e2 : μ 128 = up ρ 122 0 0 128 := funext fun b => hμ 128 b (by unfold PR'; omega)
    rw [e1, e2]; exact mw0 ht hρ
  refine bm n (fun j => (rIt σ a1 a2 j).toInt.toNat) μ _ en (by omega) (by omega) (fun j hj => (hmem j hj).1) mwm (fun j hj => by rw [hrow' rfl j (by omega)]; exact (hmem j hj).2) fun κ hκ => ?_
  refine k _ _ ((fall ht hρ hμ).tr (hκ.mn fun a b q => Or.inl (by unfold PV at q; unfold SC MS; omega))) ?_
  rw [hκ 0 10 (by unfold PV; omega), hκ 122 1 (by unfold PV; omega)]
  exact sta ht hρ hμ hst hst'
theorem sub1 {n : Nat} (h : 1 ≤ n) : nI n - 1 = nI (n - 1) := by
  obtain ⟨m, rfl⟩ : ∃ m, n = m + 1 := ⟨n - 1, by omega⟩
  rw [← nI_1, Nat.add_sub_cancel]; grind
theorem sub2 {n : Nat} (h : 2 ≤ n) : nI n - 2 = nI (n - 2) := by
  obtain ⟨m, rfl⟩ : ∃ m, n = m + 1 + 1 := ⟨n - 2, by omega⟩
  rw [← nI_1, ← nI_1, show m + 1 + 1 - 2 = m by omega]; grind
theorem subm {n : Nat} : nI (n + 1) + (-1) = nI n := by rw [← nI_1]; grind
theorem r_even (a1 a2 a3 : Int32) (σ : St) (G : Int32 → Int32 → St → Prop) (hSh : RSh σ) (hT : σ 0 10 = σ 122 1) (hR : RW σ) (k : KS σ G) :
    CallI hd_x_even [rf 54 0, iv a1, iv a2, iv a3] σ (fun r σ1 => CallI hd_m_even [rf 55 122, iv a1, iv a2, iv a3] σ1 (fun r' σ2 => G r r' σ2)) := by
  obtain ⟨w, hF, hH, hc, hcd, hm, hmd, h7⟩ := hR
  refine rowpair hSh hT hF hH ⟨hc, hcd⟩ ⟨hm, hmd, h7⟩ a1 a2 a3 2 (by decide) k (fun F σ1 => CallI hd_ro_isEven [rf 51 115, iv 0, iv (a3 - 1)] σ1 (fun r4 σ3 => (r4 = 0 → F 0 σ3) ∧ (¬ r4 = 0 → F 1 σ3))) (fun F σ1 => CallI hd_m_isEven [rf 55 122, iv 0, iv (a3 - 1)] σ1 (fun r4 σ3 => (r4 = 0 → F 0 σ3) ∧ (¬ r4 = 0 → F 1 σ3))) (fun n mem => evV w mem 0 (n - 1)) (fun F h => e_x_even _ _ _ _ _ h) (fun τ F h => e_m_even _ _ _ _ _ h) ?_ ?_
  · intro n mem τ F e h1 h2 hmem hx h4 hrow h
    rw [e, sub1 (by omega)]
    refine x_isEven (f := 0) hx hF hH h2 hmem hrow (by omega) (by omega) _ fun ρ hr => ?_
    have := h ρ (hr.mn fun a b q => by omega)
    rcases evV_b w mem 0 (n - 1) with z | z
    · rw [z] at this ⊢; exact of this
    · rw [z] at this ⊢; exact on this
  · intro n mem τ F e h1 h2 hmem hx hrow h
    rw [e, sub1 (by omega)]
    refine m_isEven (f := 0) hx hF hH h2 hmem hrow (by omega) (by omega) _ fun ρ hr => ?_
    have := h ρ hr
    rcases evV_b w mem 0 (n - 1) with z | z
    · rw [z] at this ⊢; exact of this
    · rw [z] at this ⊢; exact on this
def bnd (w : Wo) (mem : Nat → Nat) (n : Nat) : Nat → Int32
  | 0 => none32
  | m + 1 => if ¬ evV w mem 0 (n - 2 - m) = 0 ∧ ¬ evV w mem (n - 2 - m) (n - 1) = 0 then nI (n - 2 - m) else bnd w mem n m
theorem r_bend (a1 a2 a3 : Int32) (σ : St) (G : Int32 → Int32 → St → Prop) (hSh : RSh σ) (hT : σ 0 10 = σ 122 1) (hR : RW σ) (k : KS σ G) :
    CallI hd_x_bend [rf 54 0, iv a1, iv a2, iv a3] σ (fun r σ1 => CallI hd_m_bend [rf 55 122, iv a1, iv a2, iv a3] σ1 (fun r' σ2 => G r r' σ2)) := by
  obtain ⟨w, hF, hH, hc, hcd, hm, hmd, h7⟩ := hR
  refine rowpair hSh hT hF hH ⟨hc, hcd⟩ ⟨hm, hmd, h7⟩ a1 a2 a3 3 (by decide) k (fun F σ1 => CallI hd_ro_bendsAt [rf 51 115] σ1 (fun r4 σ3 => F r4 σ3)) (fun F σ1 => At hd_m_bend X0 32 [some (rf 55 122), some (iv a1), some (iv a2), some (iv a3), some (iv 0), some (iv ((-1000000))), some (iv (a3 - 2))] [] σ1 (retI F)) (fun n mem => if ¬ evV w mem 0 (n - 1) = 0 then none32 else bnd w mem n (n - 2)) (fun F h => e_x_bend _ _ _ _ _ h) (fun τ F h => e_m_bend _ _ _ _ _ (callI_mono (fun r σ' q => ⟨fun z => by subst z; exact q.1 rfl, q.2⟩) h)) ?_ ?_
  · intro n mem τ F e h1 h2 hmem hx h4 hrow h
    have rowk : ∀ ρ, Fr (fun a _ => a = 117) τ ρ → XW w ρ ∧ ρ 115 4 = nI n ∧ ∀ j, j < n → ρ 116 j = nI (mem j) := fun ρ hr => ⟨XW_e (fun a b _ _ => hr a b (by omega)) hx, by rw [hr _ _ (by omega)]; exact h4, fun j hj => by rw [hr _ _ (by omega)]; exact hrow j hj⟩
    refine e_ro_bendsAt _ _ ?_
    rw [h4, sub1 (by omega)]
    refine x_isEven (f := 0) hx hF hH h2 hmem hrow (by omega) (by omega) _ fun ρ hr => ⟨fun z => ?_, fun z => ?_⟩
    · have h := fun κ (hk : Fr (fun a _ => a = 117) τ κ) => h κ (hk.mn fun a b q => by omega)
      simp only [z] at h
      have loop : ∀ m, m ≤ n - 2 → ∀ κ, Fr (fun a _ => a = 117) τ κ → bnd w mem n m = bnd w mem n (n - 2) → At hd_ro_bendsAt X0 19 [some (rf 51 115), some (iv (nI (n - 1 - m)))] [] κ (retI F) := by
        intro m
        induction m with
        | zero =>
          intro _ κ hκ hb
          obtain ⟨k1, k2, k3⟩ := rowk κ hκ
          refine l_ro_bendsAt_19 _ _ _ ?_
          rw [k2, sub2 (by omega)]
          refine ⟨fun _ => ?_, fun q => absurd (by rw [nI_ltI (by omega) (by omega)]; omega) q⟩
          have := h κ hκ
          rw [if_neg (by simp), ← hb] at this; exact this
        | succ m ih =>
          intro hm κ hκ hb
          obtain ⟨k1, k2, k3⟩ := rowk κ hκ
          have ej : n - 1 - (m + 1) = n - 2 - m := by omega
          rw [ej]
          have en : nI (n - 2 - m) + 1 = nI (n - 1 - m) := by rw [nI_1, show n - 2 - m + 1 = n - 1 - m by omega]
          refine l_ro_bendsAt_19 _ _ _ ?_
          rw [k2, sub2 (by omega), en]
          refine ⟨fun q => ?_, fun _ => x_isEven (f := 0) k1 hF hH h2 hmem k3 (by omega) (by omega) _ fun κ2 hκ2 => ?_⟩
          · exfalso; rw [nI_ltI (by omega) (by omega)] at q; omega
          have f2 := hκ.tr hκ2
          obtain ⟨p1, p2, p3⟩ := rowk κ2 f2
          rw [p2, sub1 (by omega)]
          refine ⟨fun z1 => ih (by omega) κ2 f2 ?_, fun z1 => x_isEven (f := n - 2 - m) (l := n - 1) p1 hF hH h2 hmem p3 (by omega) (by omega) _ fun κ3 hκ3 => ?_⟩
          · rw [← hb]; simp only [bnd]; rw [if_neg (fun q => q.1 z1)]
          · have f3 := f2.tr hκ3
            refine ⟨fun z2 => ih (by omega) κ3 f3 ?_, fun z2 => ?_⟩
            · rw [← hb]; simp only [bnd]; rw [if_neg (fun q => q.2 z2)]
            · have := h κ3 f3
              rw [if_neg (by simp), ← hb] at this
              simp only [bnd] at this
              rw [if_pos ⟨z1, z2⟩] at this; exact this
      have := loop (n - 2) (Nat.le_refl _) ρ hr rfl
      rw [show n - 1 - (n - 2) = 1 by omega] at this; exact this
    · have := h ρ (hr.mn fun a b q => by omega)
      rw [if_pos z] at this; exact this
  · intro n mem τ F e h1 h2 hmem hx hrow h
    have rowk : ∀ ρ, Fr PV τ ρ → mW w (ρ 126) (ρ 128) ∧ ∀ j, j < n → ρ 132 j = nI (mem j) := fun ρ hr => ⟨pv_mw hr hx, fun j hj => by rw [hr _ _ (by unfold PV; omega)]; exact hrow j hj⟩
    rw [e, sub2 (by omega)]
    have loop : ∀ m j, j + m = n - 2 → ∀ κ, Fr PV τ κ → At hd_m_bend X0 32 [some (rf 55 122), some (iv a1), some (iv a2), some (iv (nI n)), some (iv 0), some (iv (bnd w mem n j)), some (iv (nI m))] [] κ (retI F) := by
      intro m
      induction m with
      | zero =>
        intro j hj κ hκ
        obtain ⟨k1, k3⟩ := rowk κ hκ
        refine l_m_bend_32 _ _ _ _ _ _ _ _ ⟨fun _ => ?_, fun q => absurd (by decide) q⟩
        rw [sub1 (by omega)]
        refine m_isEven (f := 0) k1 hF hH h2 hmem k3 (by omega) (by omega) _ fun κ2 hκ2 => ?_
        have := h κ2 (hκ.tr hκ2)
        refine ⟨fun z => ?_, fun z => ?_⟩
        · simp only [z] at this; rw [if_neg (by simp), ← show j = n - 2 by omega] at this; exact this
        · rw [if_pos z] at this; exact this
      | succ m ih =>
        intro j hj κ hκ
        obtain ⟨k1, k3⟩ := rowk κ hκ
        have em : n - 2 - j = m + 1 := by omega
        refine l_m_bend_32 _ _ _ _ _ _ _ _ ⟨fun q => ?_, fun _ => ?_⟩
        · exfalso; rw [show (0 : Int32) = nI 0 from rfl, nI_leI (by omega) (by omega)] at q; omega
        rw [subm, sub1 (by omega)]
        refine m_isEven (f := 0) k1 hF hH h2 hmem k3 (by omega) (by omega) _ fun κ2 hκ2 => ?_
        have f2 := hκ.tr hκ2
        obtain ⟨p1, p3⟩ := rowk κ2 f2
        have key := ih (j + 1) (by omega)
        simp only [bnd] at key
        rw [em] at key
        refine ⟨fun z1 => ?_, fun z1 => m_isEven (f := m + 1) (l := n - 1) p1 hF hH h2 hmem p3 (by omega) (by omega) _ fun κ3 hκ3 => ?_⟩
        · rw [if_neg (fun q => q.1 z1)] at key; exact key κ2 f2
        · refine ⟨fun z2 => ?_, fun z2 => ?_⟩
          · rw [if_neg (fun q => q.2 z2)] at key; exact key κ3 (f2.tr hκ3)
          · rw [if_pos ⟨z1, z2⟩] at key; exact key κ3 (f2.tr hκ3)
    exact loop (n - 2) 0 (by omega) τ Fr.rf
/-- hill a is older than b -/
def old (w : Wo) (a b : Nat) : Bool := decide (hi w b < lo w a)
theorem x_older {w : Wo} {σ : St} (hc : cW w 36 50 σ) (hF : okF w) (hH : okH w) {a b : Nat} (ha : a < nh w) (hb : b < nh w) (F : Int32 → St → Prop) (h : F (if old w a b then 1 else 0) σ) : CallI hd_hi_isOlder [rf 43 50, iv (nI a), iv (nI b)] σ F := by
  have nhh := hH.1
  have la := lohi hF hH ha
  have lb := lohi hF hH hb
  refine q_hi_isOlder _ _ _ _ _ (vin0 a rfl (by omega) (by decide)) (vin0 b rfl (by omega) (by decide)) ?_
  unfold p_hi_isOlder
  rw [nI_clamp (by omega), nI_clamp (by omega), show σ (50 + 4) a = nI (lo w a) from (hc.2.2.2 a ha).2.2.2.1, show σ (50 + 5) b = nI (hi w b) from (hc.2.2.2 b hb).2.2.2.2.1]
  have c : nI (lo w a) ≤ nI (hi w b) ↔ lo w a ≤ hi w b := nI_leI (by omega) (by omega)
  unfold old at h
  by_cases z : hi w b < lo w a
  · rw [decide_eq_true z, if_pos rfl] at h; rw [if_neg (by rw [c]; omega)]; exact h
  · rw [decide_eq_false z] at h; rw [if_pos (by rw [c]; omega)]; exact h
theorem m_older {w : Wo} {σ : St} (hm : mW w (σ 126) (σ 128)) (hF : okF w) (hH : okH w) {a b : Nat} (ha : a < nh w) (hb : b < nh w) (F : Int32 → St → Prop) (h : ∀ τ, Fr (fun a b => a = 122 ∧ 22 ≤ b ∧ b ≤ 24) σ τ → F (if old w a b then 1 else 0) τ) : CallI hd_m_isOlder [rf 55 122, iv (nI a), iv (nI b)] σ F := by
  have la := lohi hF hH ha
  have lb := lohi hF hH hb
  refine e_m_isOlder _ _ _ _ (m_low hm hF hH ha _ fun τ ht => m_high (mWs_fr (lk_sc ht) hm) hF hH hb _ fun ρ hr => ?_)
  have := h ρ (ht.tr hr)
  rw [nI_leI (by omega) (by omega)]
  unfold old at this
  by_cases z : hi w b < lo w a
  · rw [decide_eq_true z, if_pos rfl] at this
    exact ⟨fun q => by omega, fun _ => ⟨Or.inr rfl, this⟩⟩
  · rw [decide_eq_false z] at this
    exact ⟨fun _ => ⟨Or.inl rfl, this⟩, fun q => by omega⟩
def anyO (w : Wo) (mem : Nat → Nat) (k : Nat) : Nat → Bool
  | 0 => false
  | q + 1 => anyO w mem k q || old w (mem k) (mem q)
theorem anyO_m {w : Wo} {mem : Nat → Nat} {k : Nat} : ∀ {m n : Nat}, m ≤ n → anyO w mem k m = true → anyO w mem k n = true
  | m, 0, h, q => by rw [← Nat.le_zero.mp h]; exact q
  | m, n + 1, h, q => by
    by_cases c : m = n + 1
    · rw [← c]; exact q
    · simp only [anyO]; rw [anyO_m (m := m) (n := n) (by omega) q]; rfl
def ppl (w : Wo) (mem : Nat → Nat) (n : Nat) : Nat → Int32
  | 0 => none32
  | m + 1 => if anyO w mem (n - 1 - m) (n - 1 - m) then nI (n - 1 - m) else ppl w mem n m
theorem r_people (a1 a2 a3 : Int32) (σ : St) (G : Int32 → Int32 → St → Prop) (hSh : RSh σ) (hT : σ 0 10 = σ 122 1) (hR : RW σ) (k : KS σ G) :
    CallI hd_x_people [rf 54 0, iv a1, iv a2, iv a3] σ (fun r σ1 => CallI hd_m_people [rf 55 122, iv a1, iv a2, iv a3] σ1 (fun r' σ2 => G r r' σ2)) := by
  obtain ⟨w, hF, hH, hc, hcd, hm, hmd, h7⟩ := hR
  have nhh := hH.1
  refine rowpair hSh hT hF hH ⟨hc, hcd⟩ ⟨hm, hmd, h7⟩ a1 a2 a3 1 (by decide) k (fun F σ1 => CallI hd_ro_firstTooLate [rf 51 115] σ1 (fun r4 σ3 => F r4 σ3)) (fun F σ1 => At hd_m_people X0 26 [some (rf 55 122), some (iv a1), some (iv a2), some (iv a3), some (iv 0), some (iv 0), none] [] σ1 (retI F)) (fun n mem => ppl w mem n n) (fun F h => e_x_people _ _ _ _ _ h) (fun τ F h => e_m_people _ _ _ _ _ (callI_mono (fun r σ' q => ⟨fun z => by subst z; exact q.1 rfl, q.2⟩) h)) ?_ ?_
  · intro n mem τ F e h1 h2 hmem hx h4 hrow h
    have h := h τ Fr.rf
    have v12 : ∀ j, j < 12 → vp_in (nI j) 12 := fun j hj => vin0 j rfl hj (by decide)
    have cl : ∀ j, j < 1000 → (nI j).toNatClampNeg = j := fun j hj => nI_clamp (by omega)
    have loop : ∀ m, m < n → ppl w mem n m = ppl w mem n n → At hd_ro_firstTooLate X0 2 [some (rf 51 115), some (iv (nI (n - m))), none] [] τ (retI F) := by
      intro m
      induction m with
      | zero =>
        intro _ hp
        refine l_ro_firstTooLate_2 _ _ _ ?_
        rw [h4]
        refine ⟨fun _ => ?_, fun q => absurd (by rw [nI_leI (by omega) (by omega)]; omega) q⟩
        rw [← hp] at h; exact h
      | succ m ih =>
        intro hm hp
        have ek : n - (m + 1) = n - 1 - m := by omega
        rw [ek]
        simp only [ppl] at hp
        refine l_ro_firstTooLate_2 _ _ _ ?_
        rw [h4]
        refine ⟨fun q => ?_, fun _ => ?_⟩
        · exfalso; rw [nI_leI (by omega) (by omega)] at q; omega
        have inner : ∀ r q, q + r = n - 1 - m → anyO w mem (n - 1 - m) q = false → At hd_ro_firstTooLate X0 12 [some (rf 51 115), some (iv (nI (n - 1 - m))), some (iv (nI q))] [] τ (retI F) := by
          intro r
          induction r with
          | zero =>
            intro q hq ha
            have : q = n - 1 - m := by omega
            subst this
            refine l_ro_firstTooLate_12 _ _ _ _ ⟨fun _ => ?_, fun z => absurd (by rw [nI_leI (by omega) (by omega)]; omega) z⟩
            rw [nI_1, show n - 1 - m + 1 = n - m by omega]
            rw [ha] at hp
            exact ih (by omega) hp
          | succ r ih2 =>
            intro q hq ha
            refine l_ro_firstTooLate_12 _ _ _ _ ⟨fun z => ?_, fun _ => ⟨v12 _ (by omega), v12 _ (by omega), ?_⟩⟩
            · exfalso; rw [nI_leI (by omega) (by omega)] at z; omega
            rw [cl _ (by omega), cl _ (by omega), hrow _ (by omega), hrow _ (by omega)]
            refine x_older hx.1 hF hH (hmem _ (by omega)) (hmem _ (by omega)) _ ?_
            rw [b10, Bool.not_eq_false, nI_1]
            refine ⟨fun z => ih2 (q + 1) (by omega) (by simp only [anyO]; rw [ha, z]; rfl), fun z => ?_⟩
            have ht : anyO w mem (n - 1 - m) (n - 1 - m) = true := anyO_m (m := q + 1) (by omega) (by simp only [anyO]; rw [z]; simp)
            rw [ht, if_pos rfl] at hp
            rw [← hp] at h; exact h
        exact inner (n - 1 - m) 0 (by omega) rfl
    refine e_ro_firstTooLate _ _ ?_
    have := loop (n - 1) (by omega) (by
      obtain ⟨m, rfl⟩ : ∃ m, n = m + 1 := ⟨n - 1, by omega⟩
      rw [Nat.add_sub_cancel]
      show _ = ppl w mem (m + 1) (m + 1)
      simp only [ppl]
      rw [show m + 1 - 1 - m = 0 by omega]; rfl)
    rw [show n - (n - 1) = 1 by omega] at this; exact this
  · intro n mem τ F e h1 h2 hmem hx hrow h
    have v12 : ∀ j, j < 12 → vp_in (nI j) 12 := fun j hj => vin0 j rfl hj (by decide)
    have cl : ∀ j, j < 1000 → (nI j).toNatClampNeg = j := fun j hj => nI_clamp (by omega)
    have rowk : ∀ ρ, Fr PV τ ρ → mW w (ρ 126) (ρ 128) ∧ ∀ j, j < n → ρ 132 j = nI (mem j) := fun ρ hr => ⟨pv_mw hr hx, fun j hj => by rw [hr _ _ (by unfold PV; omega)]; exact hrow j hj⟩
    rw [e]
    have loop : ∀ m, m ≤ n → ppl w mem n m = ppl w mem n n → ∀ κ, Fr PV τ κ → At hd_m_people X0 26 [some (rf 55 122), some (iv a1), some (iv a2), some (iv (nI n)), some (iv 0), some (iv (nI (n - m))), none] [] κ (retI F) := by
      intro m
      induction m with
      | zero =>
        intro _ hp κ hκ
        refine l_m_people_26 _ _ _ _ _ _ _ ⟨fun _ => ?_, fun q => absurd (by rw [nI_leI (by omega) (by omega)]; omega) q⟩
        have := h κ hκ
        rw [← hp] at this; exact this
      | succ m ih =>
        intro hm hp κ hκ
        have ek : n - (m + 1) = n - 1 - m := by omega
        rw [ek]
        simp only [ppl] at hp
        have inner : ∀ r q, q + r = n - 1 - m → anyO w mem (n - 1 - m) q = false → ∀ κ, Fr PV τ κ → At hd_m_people X0 35 [some (rf 55 122), some (iv a1), some (iv a2), some (iv (nI n)), some (iv 0), some (iv (nI (n - 1 - m))), some (iv (nI q))] [] κ (retI F) := by
          intro r
          induction r with
          | zero =>
            intro q hq ha κ hκ
            have : q = n - 1 - m := by omega
            subst this
            refine l_m_people_35 _ _ _ _ _ _ _ _ ⟨fun _ => ?_, fun z => absurd (by rw [nI_leI (by omega) (by omega)]; omega) z⟩
            rw [nI_1, show n - 1 - m + 1 = n - m by omega]
            rw [ha] at hp
            exact ih (by omega) hp κ hκ
          | succ r ih2 =>
            intro q hq ha κ hκ
            obtain ⟨k1, k3⟩ := rowk κ hκ
            refine l_m_people_35 _ _ _ _ _ _ _ _ ⟨fun z => ?_, fun _ => ⟨v12 _ (by omega), v12 _ (by omega), ?_⟩⟩
            · exfalso; rw [nI_leI (by omega) (by omega)] at z; omega
            rw [cl _ (by omega), cl _ (by omega), k3 _ (by omega), k3 _ (by omega)]
            refine m_older k1 hF hH (hmem _ (by omega)) (hmem _ (by omega)) _ fun κ2 hκ2 => ?_
            have f2 := hκ.tr (lk_pv hκ2)
            rw [b10, Bool.not_eq_false, nI_1]
            refine ⟨fun z => ih2 (q + 1) (by omega) (by simp only [anyO]; rw [ha, z]; rfl) κ2 f2, fun z => ?_⟩
            have ht : anyO w mem (n - 1 - m) (n - 1 - m) = true := anyO_m (m := q + 1) (by omega) (by simp only [anyO]; rw [z]; simp)
            rw [ht, if_pos rfl] at hp
            have := h κ2 f2
            rw [← hp] at this; exact this
        refine l_m_people_26 _ _ _ _ _ _ _ ⟨fun q => ?_, fun _ => inner (n - 1 - m) 0 (by omega) rfl κ hκ⟩
        exfalso; rw [nI_leI (by omega) (by omega)] at q; omega
    have := loop n (Nat.le_refl _) rfl τ Fr.rf
    rw [Nat.sub_self] at this; exact this
def agI (w : Wo) (mem : Nat → Nat) (k : Nat) (s : Int32) : Nat → Int32
  | 0 => s
  | q + 1 => agI w mem k s q + (if old w (mem k) (mem q) then 1 else 0)
def agO (w : Wo) (mem : Nat → Nat) : Nat → Int32
  | 0 => 0
  | m + 1 => agI w mem m (agO w mem m) m
theorem r_against (a1 a2 a3 : Int32) (σ : St) (G : Int32 → Int32 → St → Prop) (hSh : RSh σ) (hT : σ 0 10 = σ 122 1) (hR : RW σ) (k : KS σ G) :
    CallI hd_x_against [rf 54 0, iv a1, iv a2, iv a3] σ (fun r σ1 => CallI hd_m_against [rf 55 122, iv a1, iv a2, iv a3] σ1 (fun r' σ2 => G r r' σ2)) := by
  obtain ⟨w, hF, hH, hc, hcd, hm, hmd, h7⟩ := hR
  have nhh := hH.1
  refine rowpair hSh hT hF hH ⟨hc, hcd⟩ ⟨hm, hmd, h7⟩ a1 a2 a3 2 (by decide) k (fun F σ1 => CallI hd_ro_pairsTurned [rf 51 115] σ1 (fun r4 σ3 => F r4 σ3)) (fun F σ1 => At hd_m_against X0 29 [some (rf 55 122), some (iv a1), some (iv a2), some (iv a3), some (iv 0), some (iv 0), some (iv 0), none] [] σ1 (retI F)) (fun n mem => agO w mem n) (fun F h => e_x_against _ _ _ _ _ h) (fun τ F h => e_m_against _ _ _ _ _ (callI_mono (fun r σ' q => ⟨fun z => by subst z; exact q.1 rfl, q.2⟩) h)) ?_ ?_
  · intro n mem τ F e h1 h2 hmem hx h4 hrow h
    have h := h τ Fr.rf
    have v12 : ∀ j, j < 12 → vp_in (nI j) 12 := fun j hj => vin0 j rfl hj (by decide)
    have cl : ∀ j, j < 1000 → (nI j).toNatClampNeg = j := fun j hj => nI_clamp (by omega)
    have loop : ∀ m' m, m + m' = n → At hd_ro_pairsTurned X0 4 [some (rf 51 115), some (iv (agO w mem m)), some (iv (nI m)), none] [] τ (retI F) := by
      intro m'
      induction m' with
      | zero =>
        intro m hm
        refine l_ro_pairsTurned_4 _ _ _ _ ?_
        rw [h4]
        refine ⟨fun _ => ?_, fun q => absurd (by rw [nI_leI (by omega) (by omega)]; omega) q⟩
        rw [show m = n by omega]; exact h
      | succ m' ih =>
        intro m hm
        have inner : ∀ r q, q + r = m → At hd_ro_pairsTurned X0 14 [some (rf 51 115), some (iv (agI w mem m (agO w mem m) q)), some (iv (nI m)), some (iv (nI q))] [] τ (retI F) := by
          intro r
          induction r with
          | zero =>
            intro q hq
            refine l_ro_pairsTurned_14 _ _ _ _ _ ⟨fun _ => ?_, fun z => absurd (by rw [nI_leI (by omega) (by omega)]; omega) z⟩
            rw [nI_1]
            have key := ih (m + 1) (by omega)
            rw [show q = m by omega]; exact key
          | succ r ih2 =>
            intro q hq
            refine l_ro_pairsTurned_14 _ _ _ _ _ ⟨fun z => ?_, fun _ => ⟨v12 _ (by omega), v12 _ (by omega), ?_⟩⟩
            · exfalso; rw [nI_leI (by omega) (by omega)] at z; omega
            rw [cl _ (by omega), cl _ (by omega), hrow _ (by omega), hrow _ (by omega)]
            refine x_older hx.1 hF hH (hmem _ (by omega)) (hmem _ (by omega)) _ ?_
            rw [b10, Bool.not_eq_false, nI_1]
            have key := ih2 (q + 1) (by omega)
            simp only [agI] at key
            refine ⟨fun z => ?_, fun z => ?_⟩
            · rw [z] at key; exact key
            · rw [z, if_pos rfl] at key; exact key
        refine l_ro_pairsTurned_4 _ _ _ _ ?_
        rw [h4]
        refine ⟨fun q => ?_, fun _ => inner m 0 (by omega)⟩
        exfalso; rw [nI_leI (by omega) (by omega)] at q; omega
    exact e_ro_pairsTurned _ _ (loop (n - 1) 1 (by omega))
  · intro n mem τ F e h1 h2 hmem hx hrow h
    have v12 : ∀ j, j < 12 → vp_in (nI j) 12 := fun j hj => vin0 j rfl hj (by decide)
    have cl : ∀ j, j < 1000 → (nI j).toNatClampNeg = j := fun j hj => nI_clamp (by omega)
    have rowk : ∀ ρ, Fr PV τ ρ → mW w (ρ 126) (ρ 128) ∧ ∀ j, j < n → ρ 132 j = nI (mem j) := fun ρ hr => ⟨pv_mw hr hx, fun j hj => by rw [hr _ _ (by unfold PV; omega)]; exact hrow j hj⟩
    rw [e]
    have loop : ∀ m' m, m + m' = n → ∀ κ, Fr PV τ κ → At hd_m_against X0 29 [some (rf 55 122), some (iv a1), some (iv a2), some (iv (nI n)), some (iv 0), some (iv (agO w mem m)), some (iv (nI m)), none] [] κ (retI F) := by
      intro m'
      induction m' with
      | zero =>
        intro m hm κ hκ
        refine l_m_against_29 _ _ _ _ _ _ _ _ ⟨fun _ => ?_, fun q => absurd (by rw [nI_leI (by omega) (by omega)]; omega) q⟩
        rw [show m = n by omega]; exact h κ hκ
      | succ m' ih =>
        intro m hm κ hκ
        have inner : ∀ r q, q + r = m → ∀ κ, Fr PV τ κ → At hd_m_against X0 38 [some (rf 55 122), some (iv a1), some (iv a2), some (iv (nI n)), some (iv 0), some (iv (agI w mem m (agO w mem m) q)), some (iv (nI m)), some (iv (nI q))] [] κ (retI F) := by
          intro r
          induction r with
          | zero =>
            intro q hq κ hκ
            refine l_m_against_38 _ _ _ _ _ _ _ _ _ ⟨fun _ => ?_, fun z => absurd (by rw [nI_leI (by omega) (by omega)]; omega) z⟩
            rw [nI_1]
            have key := ih (m + 1) (by omega) κ hκ
            rw [show q = m by omega]; exact key
          | succ r ih2 =>
            intro q hq κ hκ
            obtain ⟨k1, k3⟩ := rowk κ hκ
            refine l_m_against_38 _ _ _ _ _ _ _ _ _ ⟨fun z => ?_, fun _ => ⟨v12 _ (by omega), v12 _ (by omega), ?_⟩⟩
            · exfalso; rw [nI_leI (by omega) (by omega)] at z; omega
            rw [cl _ (by omega), cl _ (by omega), k3 _ (by omega), k3 _ (by omega)]
            refine m_older k1 hF hH (hmem _ (by omega)) (hmem _ (by omega)) _ fun κ2 hκ2 => ?_
            have f2 := hκ.tr (lk_pv hκ2)
            rw [b10, Bool.not_eq_false, nI_1]
            have key := ih2 (q + 1) (by omega) κ2 f2
            simp only [agI] at key
            refine ⟨fun z => ?_, fun z => ?_⟩
            · rw [z] at key; exact key
            · rw [z, if_pos rfl] at key; exact key
        refine l_m_against_29 _ _ _ _ _ _ _ _ ⟨fun q => ?_, fun _ => inner m 0 (by omega) κ hκ⟩
        exfalso; rw [nI_leI (by omega) (by omega)] at q; omega
    exact loop n 0 (by omega) τ Fr.rf
