/-! rows of hills, taken from a sheet -/
theorem and1 (x : Int32) : x &&& 1 = 0 ∨ x &&& 1 = 1 := by
  have h : (x &&& 1).toBitVec = BitVec.setWidth 32 (BitVec.ofBool (x.toBitVec.getLsbD 0)) := by
    rw [Int32.toBitVec_and]; exact BitVec.and_one_eq_setWidth_ofBool_getLsbD
  cases hb : x.toBitVec.getLsbD 0
  · left; apply Int32.toBitVec_inj.mp; rw [h, hb]; rfl
  · right; apply Int32.toBitVec_inj.mp; rw [h, hb]; rfl
def msk (it : NI) : Nat → Int32
  | 0 => 0
  | n + 1 => msk it n ||| (1 <<< (it n &&& 31))
def gd1 (it : NI) (N j : Nat) : Prop := (0 ≤ (it j).toInt ∧ (it j).toInt < N) ∧ (msk it j >>> (it j &&& 31)) &&& 1 = 0
def rSt (σ : St) (a1 : Int32) : Nat := a1.toInt.toNat
def rIt (σ : St) (a1 a2 : Int32) : NI := fun j => σ (3 + 2 * a1.toInt.toNat) (a2.toInt.toNat + j)
def rG (a1 a3 l : Int32) : Prop := (0 ≤ a1.toInt ∧ a1.toInt < 8) ∧ (l.toInt ≤ a3.toInt ∧ a3.toInt ≤ 12)
def rM (σ : St) (a1 : Int32) : Prop := (σ (2 + 2 * a1.toInt.toNat) 1).toInt = -1
def rP (σ : St) (a1 a2 a3 : Int32) : Prop := 0 ≤ a2.toInt ∧ a2.toInt + a3.toInt ≤ (σ (2 + 2 * a1.toInt.toNat) 2).toInt
def rA (w : Wo) (σ : St) (a1 a2 a3 : Int32) : Prop := ∀ j, j < a3.toInt.toNat → gd1 (rIt σ a1 a2) (nh w) j
/-- what taking a row answers -/
def RowOut (w : Wo) (σ : St) (a1 a2 a3 l r : Int32) : Prop :=
  (¬ rG a1 a3 l ∧ r = -1000001) ∨ (rG a1 a3 l ∧ nh w = 0 ∧ r = -1000002) ∨ (rG a1 a3 l ∧ ¬ nh w = 0 ∧ rM σ a1 ∧ r = -1000010 - 1) ∨ (rG a1 a3 l ∧ ¬ nh w = 0 ∧ ¬ rM σ a1 ∧ ¬ rP σ a1 a2 a3 ∧ r = -1000010 - 2) ∨ (rG a1 a3 l ∧ ¬ nh w = 0 ∧ ¬ rM σ a1 ∧ rP σ a1 a2 a3 ∧ ¬ rA w σ a1 a2 a3 ∧ r = -1000001) ∨ (rG a1 a3 l ∧ ¬ nh w = 0 ∧ ¬ rM σ a1 ∧ rP σ a1 a2 a3 ∧ rA w σ a1 a2 a3 ∧ r = 0)
theorem RowOut_u {w : Wo} {σ : St} {a1 a2 a3 l r r' : Int32} (h : RowOut w σ a1 a2 a3 l r) (h' : RowOut w σ a1 a2 a3 l r') : r = r' := by
  unfold RowOut at h h'
  rcases h with ⟨a, e⟩ | ⟨a, b, e⟩ | ⟨a, b, c, e⟩ | ⟨a, b, c, d, e⟩ | ⟨a, b, c, d, f, e⟩ | ⟨a, b, c, d, f, e⟩ <;> rcases h' with ⟨a', e'⟩ | ⟨a', b', e'⟩ | ⟨a', b', c', e'⟩ | ⟨a', b', c', d', e'⟩ | ⟨a', b', c', d', f', e'⟩ | ⟨a', b', c', d', f', e'⟩ <;> first | exact e.trans e'.symm | exact absurd a a' | exact absurd a' a | exact absurd b b' | exact absurd b' b | exact absurd c c' | exact absurd c' c | exact absurd d d' | exact absurd d' d | exact absurd f f' | exact absurd f' f
def stOf (r o : Int32) : Int32 := if r = -1000010 - 1 then 1 else if r = -1000010 - 2 then 2 else if r = 0 then 0 else o
theorem st_bad (o : Int32) : stOf (-1000001) o = o := by unfold stOf; rw [if_neg (by decide), if_neg (by decide), if_neg (by decide)]
theorem st_ste (o : Int32) : stOf (-1000002) o = o := by unfold stOf; rw [if_neg (by decide), if_neg (by decide), if_neg (by decide)]
theorem st_1 (o : Int32) : stOf (-1000010 - 1) o = 1 := by unfold stOf; rw [if_pos rfl]
theorem st_2 (o : Int32) : stOf (-1000010 - 2) o = 2 := by unfold stOf; rw [if_neg (by decide), if_pos rfl]
theorem st_0 (o : Int32) : stOf 0 o = 0 := by unfold stOf; rw [if_neg (by decide), if_neg (by decide), if_pos rfl]
def PR (a b : Nat) : Prop := a = 115 ∨ a = 116 ∨ (a = 0 ∧ b = 10)
theorem x_rowTake {w : Wo} {σ : St} (hSh : RSh σ) (hx : XW w σ) (hH : okH w) (a1 a2 a3 l : Int32) (hl : 1 ≤ l.toInt) (F : Int32 → St → Prop) (h : ∀ r τ, RowOut w σ a1 a2 a3 l r → Fr PR σ τ → τ 0 10 = stOf r (σ 0 10) → (r = 0 → τ 115 4 = a3 ∧ ∀ j, j < a3.toInt.toNat → τ 116 j = rIt σ a1 a2 j) → F r τ) : CallI hd_x_takeRow [rf 54 0, iv a1, iv a2, iv a3, iv l] σ F := by
  have nhh := hH.1
  have c8 : σ 50 8 = nI (nh w) := hx.1.2.2.1
  refine e_x_takeRow _ _ _ _ _ _ (gx_below 8 (by decide) (fun s hs e => on ?_) (fun c => of (h _ _ (Or.inl ⟨fun q => c q.1, rfl⟩) Fr.rf (by rw [st_bad]) (fun q => absurd q (by decide)))))
  subst e
  have ts : (nI s).toInt.toNat = s := by rw [ti_nI (by omega)]; omega
  have g0 : 0 ≤ (nI s).toInt ∧ (nI s).toInt < 8 := by rw [ti_nI (by omega)]; omega
  refine gx_within l 12 (fun c3 => on' ?_) (fun c => of' (h _ _ (Or.inl ⟨fun q => c q.2, rfl⟩) Fr.rf (by rw [st_bad]) (fun q => absurd q (by decide))))
  have hG : rG (nI s) a3 l := ⟨g0, c3⟩
  rw [t_12] at c3
  rw [c8]
  have n0 : nI (nh w) = 0 ↔ nh w = 0 := by rw [show (0 : Int32) = nI 0 from rfl]; exact nI_eq (by omega) (by omega)
  rw [n0]
  have v8 : vp_in (nI s) 8 := vin0 s rfl hs (by decide)
  have cs : (nI s).toNatClampNeg = s := nI_clamp (by omega)
  rw [cs]
  obtain ⟨g1, g2, g3⟩ := hSh s hs
  refine ⟨fun hn => ⟨v8, gx_miss hSh hs (fun c => ⟨fun q => absurd q one_ne, fun _ => e_x_found _ _ _ (h _ _ (Or.inr (Or.inr (Or.inl ⟨hG, hn, by unfold rM; rw [ts]; exact c, rfl⟩))) (Fr.rf.up (Or.inr (Or.inr ⟨rfl, rfl⟩))) (by rw [up_at, st_1]) (fun q => absurd q (by decide)))⟩) (fun c => of ⟨v8, ?_⟩)⟩, fun hn => h _ _ (Or.inr (Or.inl ⟨hG, hn, rfl⟩)) Fr.rf (by rw [st_ste]) (fun q => absurd q (by decide))⟩
  have hM : ¬ rM σ (nI s) := by unfold rM; rw [ts]; omega
  obtain ⟨g5, g6, g7⟩ := g3 c
  refine gx_has (fun c1 _ c2 => on' ⟨v8, ?_⟩) (fun cc => of' (e_x_found _ _ _ (h _ _ (Or.inr (Or.inr (Or.inr (Or.inl ⟨hG, hn, hM, fun q => ?_, rfl⟩)))) (Fr.rf.up (Or.inr (Or.inr ⟨rfl, rfl⟩))) (by rw [up_at, st_2]) (fun q => absurd q (by decide)))))
  rotate_left
  · unfold rP at q; rw [ts] at q; exact cc ⟨q.1, by omega, q.2⟩
  have hP : rP σ (nI s) a2 a3 := by unfold rP; rw [ts]; exact ⟨c1, c2⟩
  obtain ⟨i, hi0, ei, -, ti⟩ := ixe (x := a2) (n := 41) (by omega) (by decide)
  obtain ⟨n, hn0, en, -, tn⟩ := ixe (x := a3) (n := 13) (by omega) (by decide)
  subst ei; subst en
  have hin : i + n ≤ 40 := by omega
  have tn' : (nI n).toInt.toNat = n := by omega
  have ti' : (nI i).toInt.toNat = i := by omega
  have itj : ∀ j, rIt σ (nI s) (nI i) j = σ (3 + 2 * s) (i + j) := fun j => by unfold rIt; rw [ts, ti']
  rw [show 2 + 2 * s + 1 = 3 + 2 * s by omega]
  have bad : ∀ j, j < n → ¬ gd1 (rIt σ (nI s) (nI i)) (nh w) j → ∀ τ, Fr (fun a _ => a = 116) σ τ → F (-1000001) τ := by
    intro j hj hb τ ht
    refine h _ _ (Or.inr (Or.inr (Or.inr (Or.inr (Or.inl ⟨hG, hn, hM, hP, fun q => hb (q j (by omega)), rfl⟩))))) (ht.mn fun _ _ q => Or.inr (Or.inl q)) ?_ (fun q => absurd q (by decide))
    rw [st_bad]; exact ht _ _ (by omega)
  have loop : ∀ m j, j + m = n → (∀ q, q < j → gd1 (rIt σ (nI s) (nI i)) (nh w) q) → ∀ τ, Fr (fun a _ => a = 116) σ τ → (∀ q, q < j → τ 116 q = rIt σ (nI s) (nI i) q) → At hd_ro_take X0 6 [some (rf 51 115), some (rf 0 (3 + 2 * s)), some (iv (nI i)), some (iv (nI n)), some (iv (msk (rIt σ (nI s) (nI i)) j)), some (iv (nI j)), none] [] τ (retI (fun r10 σ9 => (r10 = 0 → F ((-1000001)) σ9) ∧ (¬ r10 = 0 → CallI hd_x_unfound [rf 54 0, iv 0] σ9 (fun r12 σ11 => F r12 σ11)))) := by
    intro m
    induction m with
    | zero =>
      intro j hj hg τ ht hr
      have : j = n := by omega
      subst this
      refine l_ro_take_6 _ _ _ _ _ _ _ ⟨fun _ => ⟨Or.inr rfl, on (e_x_unfound _ _ _ ?_)⟩, fun q => absurd (by rw [nI_leI (by omega) (by omega)]; omega) q⟩
      refine h _ _ (Or.inr (Or.inr (Or.inr (Or.inr (Or.inr ⟨hG, hn, hM, hP, fun q hq => hg q (by omega), rfl⟩))))) ?_ ?_ (fun _ => ⟨?_, fun q hq => ?_⟩)
      · have b0 : Fr PR σ τ := ht.mn fun _ _ q => Or.inr (Or.inl q)
        exact (b0.up (Or.inl rfl)).up (Or.inr (Or.inr ⟨rfl, rfl⟩))
      · rw [up_at, st_0]
      · rw [up_ka _ _ (by omega), up_at]
      · rw [up_ka _ _ (by omega), up_ka _ _ (by omega)]; exact hr q (by omega)
    | succ m ih =>
      intro j hj hg τ ht hr
      have ej : nI i + nI j = nI (i + j) := nI_add _ _
      have p1 : τ (3 + 2 * s) (i + j) = rIt σ (nI s) (nI i) j := by rw [itj]; exact ht _ _ (by omega)
      have p8 : τ 50 8 = nI (nh w) := by rw [ht _ _ (by omega)]; exact c8
      refine l_ro_take_6 _ _ _ _ _ _ _ ⟨fun q => ?_, fun _ => ⟨vin0 _ ej (by omega) (by decide), ?_⟩⟩
      · exfalso; rw [nI_leI (by omega) (by omega)] at q; omega
      rw [ej, nI_clamp (by omega), p1, p8, nI_clamp (by omega), nI_1]
      refine ⟨fun q => ⟨Or.inl rfl, of (bad j (by omega) (fun z => ?_) τ ht)⟩, fun q1 => ⟨fun q => ⟨Or.inl rfl, of (bad j (by omega) (fun z => ?_) τ ht)⟩, fun q2 => ⟨fun q3 => ⟨vin0 j rfl (by omega) (by decide), ?_⟩, fun q => ⟨Or.inl rfl, of (bad j (by omega) (fun z => q z.2) τ ht)⟩⟩⟩⟩
      · rw [fa_lt, t_0] at q; have := z.1.1; omega
      · rw [fa_le, ti_nI (by omega)] at q; have := z.1.2; omega
      · rw [fa_lt, t_0] at q1
        rw [fa_le, ti_nI (by omega)] at q2
        refine ih (j + 1) (by omega) (fun q hq => ?_) _ (ht.up rfl) (fun q hq => ?_)
        · by_cases z : q = j
          · subst z; exact ⟨by omega, q3⟩
          · exact hg q (by omega)
        · by_cases z : q = j
          · subst z; rw [up_at]
          · rw [up_jb _ _ z]; exact hr q (by omega)
  exact e_ro_take _ _ _ _ _ (loop n 0 (by omega) (fun q hq => by omega) σ Fr.rf (fun q hq => by omega))
def PR' (a b : Nat) : Prop := a = 132 ∨ (a = 122 ∧ b = 1)
theorem m_rowLay {w : Wo} {σ μ : St} (hSh : RSh σ) (e3 : ∀ a b, 123 ≤ a → a ≤ 125 → μ a b = σ a b) (hM0 : mW w (μ 126) (μ 128)) (hH : okH w) (a1 a2 a3 l : Int32) (hl : 1 ≤ l.toInt) (F : Int32 → St → Prop) (h : ∀ r τ, RowOut w σ a1 a2 a3 l r → Fr PR' μ τ → τ 122 1 = stOf r (μ 122 1) → (r = 0 → ∀ j, j < a3.toInt.toNat → τ 132 j = rIt σ a1 a2 j) → F r τ) : CallI hd_m_layRow [rf 55 122, iv a1, iv a2, iv a3, iv l] μ F := by
  have nhh := hH.1
  have c8 : μ 128 0 = nI (nh w) := hM0.2.2.1
  refine e_m_layRow _ _ _ _ _ _ ?_
  by_cases h1 : 0 ≤ a1.toInt ∧ a1.toInt < 8
  rotate_left
  · exact gm_sheet0 h1 (of (h _ _ (Or.inl ⟨fun q => h1 q.1, rfl⟩) Fr.rf (by rw [st_bad]) (fun q => absurd q (by decide))))
  obtain ⟨s, hs, e, -⟩ := ixe (n := 8) h1 (by decide)
  subst e
  have ts : (nI s).toInt.toNat = s := by rw [ti_nI (by omega)]; omega
  refine gm_sheet1 hs (on ?_)
  by_cases c3 : l.toInt ≤ a3.toInt ∧ a3.toInt ≤ 12
  rotate_left
  · exact gm_in0 (by rw [i2l, i2l, tl_12]; exact c3) (of' (h _ _ (Or.inl ⟨fun q => c3 q.2, rfl⟩) Fr.rf (by rw [st_bad]) (fun q => absurd q (by decide))))
  have hG : rG (nI s) a3 l := ⟨h1, c3⟩
  refine gm_in1 (by rw [i2l, i2l, tl_12]; exact c3) (on' ⟨vz, ?_⟩)
  have n0 : nI (nh w) = 0 ↔ nh w = 0 := by rw [show (0 : Int32) = nI 0 from rfl]; exact nI_eq (by omega) (by omega)
  have v8 : vp_in (nI s) 8 := vin0 s rfl hs (by decide)
  have cs : (nI s).toNatClampNeg = s := nI_clamp (by omega)
  rw [c_0, c8, n0, cs, e3 123 s (by omega) (by omega), e3 124 s (by omega) (by omega)]
  obtain ⟨g1, g2, g3⟩ := hSh s hs
  refine ⟨fun hn => ⟨v8, fun q0 => ?_, fun q0 => e_m_finding _ _ _ (h _ _ (Or.inr (Or.inr (Or.inl ⟨hG, hn, ?_, rfl⟩))) (Fr.rf.up (Or.inr ⟨rfl, rfl⟩)) (by rw [up_at, st_1]) (fun q => absurd q (by decide)))⟩, fun hn => h _ _ (Or.inr (Or.inl ⟨hG, hn, rfl⟩)) Fr.rf (by rw [st_ste]) (fun q => absurd q (by decide))⟩
  rotate_left
  · unfold rM; rw [ts]; rw [g2, fa_le, t_0] at q0; omega
  rw [g2, fa_le, t_0] at q0
  have hM : ¬ rM σ (nI s) := by unfold rM; rw [ts]; omega
  obtain ⟨g5, g6, g7⟩ := g3 q0
  have noP : ¬ rP σ (nI s) a2 a3 → ∀ τ, τ = up μ 122 1 2 → F (-1000010 - 2) τ := fun hP τ e => by
    subst e
    exact h _ _ (Or.inr (Or.inr (Or.inr (Or.inl ⟨hG, hn, hM, hP, rfl⟩)))) (Fr.rf.up (Or.inr ⟨rfl, rfl⟩)) (by rw [up_at, st_2]) (fun q => absurd q (by decide))
  refine ⟨fun q => e_m_finding _ _ _ (noP (fun z => ?_) _ rfl), fun c1 => ⟨v8, ?_⟩⟩
  · rw [fa_lt, t_0] at q; have := z.1; omega
  rw [fa_lt, t_0] at c1
  rw [lcm, g5]
  refine ⟨fun c2 => ?_, fun c2 => e_m_finding _ _ _ (noP (fun z => ?_) _ rfl)⟩
  rotate_left
  · apply c2; have := z.2; rw [ts] at this; exact this
  have hP : rP σ (nI s) a2 a3 := by unfold rP; rw [ts]; exact ⟨by omega, c2⟩
  obtain ⟨i, hi0, ei, -, ti⟩ := ixe (x := a2) (n := 41) (by omega) (by decide)
  obtain ⟨n, hn0, en, -, tn⟩ := ixe (x := a3) (n := 13) (by omega) (by decide)
  subst ei; subst en
  have hin : i + n ≤ 40 := by omega
  have tn' : (nI n).toInt.toNat = n := by omega
  have ti' : (nI i).toInt.toNat = i := by omega
  have itj : ∀ j, rIt σ (nI s) (nI i) j = σ (3 + 2 * s) (i + j) := fun j => by unfold rIt; rw [ts, ti']
  have bad : ∀ j, j < n → ¬ gd1 (rIt σ (nI s) (nI i)) (nh w) j → ∀ τ, Fr (fun a _ => a = 132) μ τ → F (-1000001) τ := by
    intro j hj hb τ ht
    refine h _ _ (Or.inr (Or.inr (Or.inr (Or.inr (Or.inl ⟨hG, hn, hM, hP, fun q => hb (q j (by omega)), rfl⟩))))) (ht.mn fun _ _ q => Or.inl q) ?_ (fun q => absurd q (by decide))
    rw [st_bad]; exact ht _ _ (by omega)
  have loop : ∀ m j, j + m = n → (∀ q, q < j → gd1 (rIt σ (nI s) (nI i)) (nh w) q) → ∀ τ, Fr (fun a _ => a = 132) μ τ → (∀ q, q < j → τ 132 q = rIt σ (nI s) (nI i) q) → At hd_m_layRow X0 83 [some (rf 55 122), some (iv (nI s)), some (iv (nI i)), some (iv (nI n)), some (iv l), some (iv (msk (rIt σ (nI s) (nI i)) j)), some (iv (nI j)), none] [] τ (retI F) := by
    intro m
    induction m with
    | zero =>
      intro j hj hg τ ht hr
      have : j = n := by omega
      subst this
      refine l_m_layRow_83 _ _ _ _ _ _ _ _ ⟨fun _ => ?_, fun q => absurd (by rw [nI_leI (by omega) (by omega)]; omega) q⟩
      refine h _ _ (Or.inr (Or.inr (Or.inr (Or.inr (Or.inr ⟨hG, hn, hM, hP, fun q hq => hg q (by omega), rfl⟩))))) ?_ ?_ (fun _ q hq => ?_)
      · have b0 : Fr PR' μ τ := ht.mn fun _ _ q => Or.inl q
        exact b0.up (Or.inr ⟨rfl, rfl⟩)
      · rw [up_at, st_0]
      · rw [up_ka _ _ (by omega)]; exact hr q (by omega)
    | succ m ih =>
      intro j hj hg τ ht hr
      have ej : 40 * nI s + nI i + nI j = nI (40 * s + i + j) := by rw [show (40 : Int32) = nI 40 from rfl, mulN, nI_add, nI_add]
      have p1 : τ 125 (40 * s + i + j) = rIt σ (nI s) (nI i) j := by
        rw [itj, ht _ _ (by omega), e3 _ _ (by omega) (by omega), show 40 * s + i + j = 40 * s + (i + j) by omega]; exact g7 _ (by omega)
      have hmt : mW w (τ 126) (τ 128) := by
        have e1 : τ 126 = μ 126 := funext fun b => ht 126 b (by omega)
        have e2 : τ 128 = μ 128 := funext fun b => ht 128 b (by omega)
        rw [e1, e2]; exact hM0
      refine l_m_layRow_83 _ _ _ _ _ _ _ _ ⟨fun q => ?_, fun _ => ⟨vin0 _ ej (by omega) (by decide), ?_⟩⟩
      · exfalso; rw [nI_leI (by omega) (by omega)] at q; omega
      rw [ej, nI_clamp (by omega), p1]
      by_cases cH : 0 ≤ (rIt σ (nI s) (nI i) j).toInt ∧ (rIt σ (nI s) (nI i) j).toInt < nh w
      rotate_left
      · exact gm_hill0 hmt hH cH (of (bad j (by omega) (fun z => cH z.1) τ ht))
      refine q_m_isHill _ _ _ vz ?_
      rw [m_hill hmt hH, if_pos cH]
      refine on ⟨fun q => l_m_layRow_137 _ _ _ _ _ _ _ _ _ ⟨vin0 j rfl (by omega) (by decide), ?_⟩, fun q => bad j (by omega) (fun z => ?_) τ ht⟩
      · rw [nI_clamp (by omega), nI_1]
        have q3 : (msk (rIt σ (nI s) (nI i)) j >>> (rIt σ (nI s) (nI i) j &&& 31)) &&& 1 = 0 := by
          rcases and1 (msk (rIt σ (nI s) (nI i)) j >>> (rIt σ (nI s) (nI i) j &&& 31)) with z | z
          · exact z
          · exact absurd z q
        refine ih (j + 1) (by omega) (fun q hq => ?_) _ (ht.up rfl) (fun q hq => ?_)
        · by_cases z : q = j
          · subst z; exact ⟨cH, q3⟩
          · exact hg q (by omega)
        · by_cases z : q = j
          · subst z; rw [up_at]
          · rw [up_jb _ _ z]; exact hr q (by omega)
      · rw [z.2] at q; exact absurd q (by decide)
  exact loop n 0 (by omega) (fun q hq => by omega) μ Fr.rf (fun q hq => by omega)
