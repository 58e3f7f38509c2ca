/-! nearest -/
def ab (v : Int32) : Int32 := if 0 ≤ v then v else 0 - v
def dx (w : Wo) (i s f a : Nat) : Int32 := ab (wx w i - plc w s f a 0)
def dy (w : Wo) (i s f a : Nat) : Int32 := ab (wy w i - plc w s f a 1)
abbrev Ac : Type := Int32 × Nat × Nat × Bool
def mx : Int32 := 1073741824
def stA (w : Wo) (i s f : Nat) (acc : Ac) (a : Nat) : Ac := if acc.1 ≤ dx w i s f a + dy w i s f a then acc else (dx w i s f a + dy w i s f a, f, a, decide (¬ wdS w s f < dx w i s f a ∧ ¬ wdS w s f < dy w i s f a))
def scA (w : Wo) (i s f : Nat) (acc : Ac) (b : Nat) : Nat → Ac
  | 0 => acc
  | n + 1 => stA w i s f (scA w i s f acc b n) (b + n)
def lst (w : Wo) (i s : Nat) : Nat := if whS w s = 3 then 99 else hi w i
def scF (w : Wo) (i s : Nat) : Nat → Ac
  | 0 => (mx, 0, 0, false)
  | n + 1 => scA w i s n (scF w i s n) (lo w i) (lst w i s + 1 - lo w i)
def near (w : Wo) (i s : Nat) : Ac := scF w i s (fOf w s)
theorem lnOf_le (w : Wo) (u : Nat) : ∀ n, lnOf w u n ≤ n
  | 0 => Nat.le_refl _
  | n + 1 => by have := lnOf_le w u n; unfold lnOf; split <;> omega
theorem drf_b {w : Wo} (hF : okF w) (h0 : 0 < n0 w) {c : Nat} (hc : c = 1 ∨ c = 2) : ∀ a : Nat, a ≤ 1000 → -(99 * (a : Int)) ≤ (drf w c a).toInt ∧ (drf w c a).toInt ≤ 99 * a
  | 0, _ => by simp [drf]
  | a + 1, ha => by
    have ih := drf_b hF h0 hc a (by omega)
    have hl := lnOf_le w (a + 1) (n0 w - 1)
    obtain ⟨-, b1, b2, -⟩ := hF.2.1 (lnOf w (a + 1) (n0 w - 1)) (by omega)
    have b : wi (wfl w (3 * lnOf w (a + 1) (n0 w - 1) + c)) (-99) 99 := by rcases hc with e | e <;> subst e <;> assumption
    unfold wi at b
    rw [drf, ti_add (by omega)]
    push_cast
    omega
theorem neg_ti {x : Int32} (h : -2147483648 < x.toInt) : (-x).toInt = -x.toInt := by
  have hb := i32b x
  have e : -x = 0 - x := by grind
  rw [e, ti_sub (by rw [t_0]; omega), t_0]; omega
theorem mul_b {x : Int32} {b : Int} {a : Nat} (hx : -b ≤ x.toInt ∧ x.toInt ≤ b) (hb : 0 ≤ b ∧ b ≤ 99) (ha : a < 100) : (x * nI a).toInt = x.toInt * a ∧ -(b * 99) ≤ x.toInt * a ∧ x.toInt * a ≤ b * 99 := by
  have e : (nI a).toInt = a := ti_nI (by omega)
  have h1 : x.toInt * a ≤ b * 99 := by
    rcases Int.le_total 0 x.toInt with h | h
    · exact Int.mul_le_mul hx.2 (by omega) (by omega) hb.1
    · have : x.toInt * a ≤ 0 := Int.mul_nonpos_of_nonpos_of_nonneg h (by omega)
      have : 0 ≤ b * 99 := by omega
      omega
  have h2 : -(b * 99) ≤ x.toInt * a := by
    rcases Int.le_total 0 x.toInt with h | h
    · have : 0 ≤ x.toInt * a := Int.mul_nonneg h (by omega)
      omega
    · have : (-x.toInt) * a ≤ b * 99 := Int.mul_le_mul (by omega) (by omega) (by omega) hb.1
      rw [Int.neg_mul] at this
      omega
  refine ⟨?_, h2, h1⟩
  rw [ti_mul (by rw [e]; omega), e]
theorem plc_b {w : Wo} (hF : okF w) {s f a c : Nat} (hs : s < n4 w) (hf : f < fOf w s) (ha : a < 100) (hc : c < 2) : -20691 ≤ (plc w s f a c).toInt ∧ (plc w s f a c).toInt ≤ 20691 := by
  obtain ⟨f4, fn, f0⟩ := fOf_f hF hf
  have h01 := hF.1.2.2.2.2.2 (by omega)
  unfold plc stS spS drS
  by_cases c2 : whS w s = 2
  · simp only [if_pos c2]
    obtain ⟨k0, k1, k2, k3, -⟩ := hF.2.2.2.2.1 (cr3 hF hs c2)
    have b1 : wi (wcr w c) (-9999) 9999 := by rcases (show c = 0 ∨ c = 1 by omega) with e | e <;> subst e <;> assumption
    have b2 : wi (wcr w (2 + c)) (-99) 99 := by rcases (show c = 0 ∨ c = 1 by omega) with e | e <;> subst e <;> assumption
    unfold wi at b1 b2
    obtain ⟨m1, m2, m3⟩ := mul_b (x := wcr w (2 + c)) (b := 99) (by omega) (by omega) ha
    have s1 : (wcr w c + wcr w (2 + c) * nI a).toInt = (wcr w c).toInt + (wcr w (2 + c)).toInt * a := by rw [ti_add (by rw [m1]; omega), m1]
    rw [ti_add (by rw [s1, t_0]; omega), s1, t_0]
    omega
  · simp only [if_neg c2]
    obtain ⟨k0, k1, k2, k3, -⟩ := hF.2.2.1 f (fn c2)
    have b1 : wi (wfi w (6 * f + c)) (-9999) 9999 := by rcases (show c = 0 ∨ c = 1 by omega) with e | e <;> subst e <;> assumption
    have b2 : wi (wfi w (6 * f + (2 + c))) (-9) 9 := by rcases (show c = 0 ∨ c = 1 by omega) with e | e <;> subst e <;> assumption
    have b3 := drf_b hF h01.1 (c := c + 1) (by omega) a (by omega)
    unfold wi at b1 b2
    by_cases c1 : whS w s = 1
    · simp only [if_pos c1]
      have b4 : (-wfi w (6 * f + (2 + c))).toInt = -(wfi w (6 * f + (2 + c))).toInt := neg_ti (by omega)
      obtain ⟨m1, m2, m3⟩ := mul_b (x := -wfi w (6 * f + (2 + c))) (b := 9) (by omega) (by omega) ha
      have s1 : (wfi w (6 * f + c) + -wfi w (6 * f + (2 + c)) * nI a).toInt = (wfi w (6 * f + c)).toInt + (-wfi w (6 * f + (2 + c))).toInt * a := by rw [ti_add (by rw [m1]; omega), m1]
      rw [ti_add (by rw [s1]; omega), s1]
      omega
    · simp only [if_neg c1]
      have e : wfi w (6 * f + c) + 0 * nI a = wfi w (6 * f + c) := by grind
      rw [e, ti_add (by omega)]
      omega
theorem ab_b {v : Int32} {b : Int} (h : -b ≤ v.toInt ∧ v.toInt ≤ b) (hb : b < 2147483648) : 0 ≤ (ab v).toInt ∧ (ab v).toInt ≤ b := by
  unfold ab
  by_cases c : 0 ≤ v
  · rw [if_pos c]; rw [fa_le, t_0] at c; omega
  · rw [if_neg c]; rw [fa_le, t_0] at c
    rw [ti_sub (by rw [t_0]; omega), t_0]; omega
theorem dd_b {w : Wo} (hF : okF w) (hH : okH w) {i s f a : Nat} (hi' : i < nh w) (hs : s < n4 w) (hf : f < fOf w s) (ha : a < 100) : (dx w i s f a + dy w i s f a).toInt = (dx w i s f a).toInt + (dy w i s f a).toInt ∧ 0 ≤ (dx w i s f a).toInt ∧ 0 ≤ (dy w i s f a).toInt ∧ (dx w i s f a).toInt + (dy w i s f a).toInt ≤ 300000 := by
  obtain ⟨b1, b2, -⟩ := hH.2.2 i hi'
  unfold wi at b1 b2
  have p0 := plc_b hF hs hf ha (c := 0) (by omega)
  have p1 := plc_b hF hs hf ha (c := 1) (by omega)
  have x1 : (wx w i - plc w s f a 0).toInt = (wx w i).toInt - (plc w s f a 0).toInt := ti_sub (by omega)
  have y1 : (wy w i - plc w s f a 1).toInt = (wy w i).toInt - (plc w s f a 1).toInt := ti_sub (by omega)
  have a0 := ab_b (v := wx w i - plc w s f a 0) (b := 150000) (by omega) (by omega)
  have a1 := ab_b (v := wy w i - plc w s f a 1) (b := 150000) (by omega) (by omega)
  unfold dx dy
  refine ⟨ti_add (by omega), a0.1, a1.1, by omega⟩
/-- what the class holds of a search: nothing yet, or the nearest -/
def xAc (acc : Ac) (τ : St) : Prop := τ 114 4 = acc.1 ∧ (¬ acc.1 = mx → τ 114 2 = nI acc.2.1 ∧ τ 114 3 = nI acc.2.2.1 ∧ τ 114 5 = (if acc.2.2.2 then 1 else 0))
def PX (a b : Nat) : Prop := a = 114 ∧ 2 ≤ b ∧ b ≤ 5
theorem PX_SC {a b : Nat} (h : PX a b) : SC a b := by unfold PX at h; unfold SC; omega
theorem x_row {w : Wo} {σ τ : St} (h : Fr PX σ τ) (hc : cW w 36 50 σ) : cW w 36 50 τ := cW_fr (h.mn fun _ _ => PX_SC) hc
theorem x_rowD {w : Wo} {σ τ : St} (h : Fr PX σ τ) (hc : cD w 36 σ) : cD w 36 τ := cD_fr (h.mn fun _ _ => PX_SC) hc
theorem tr1 (a b c d e : Int32) : a - b - c * d - e = a - (b + c * d + e) := by grind
theorem c_findBy {w : Wo} {σ : St} (hc : cW w 36 50 σ) (hD : cD w 36 σ) (hF : okF w) (hH : okH w) {i s f l : Nat} (hi' : i < nh w) (hs : s < n4 w) (hf : f < fOf w s) (hl : l ≤ 99) (hll : lo w i ≤ l + 1) (acc : Ac) (ha : xAc acc σ) (F : St → Prop) (h : ∀ τ, Fr PX σ τ → xAc (scA w i s f acc (lo w i) (l + 1 - lo w i)) τ → F τ) :
    CallV hd_so_findBy [rf 50 114, iv (nI i), iv (nI s), iv (nI f), iv (nI l)] σ F := by
  have nhh := hH.1
  have lh := lohi hF hH hi'
  have v12 : vp_in (nI i) 12 := vin0 i rfl (by omega) (by omega)
  obtain ⟨g1, g2, g3, g4, -⟩ := hc.2.2.2 i hi'
  have ci : (nI i).toNatClampNeg = i := nI_clamp (by omega)
  refine e_so_findBy _ _ _ _ _ _ ⟨v12, x_st hc hF hs hf (c := 0) (by omega) _ ⟨v12, x_st hc hF hs hf (c := 1) (by omega) _ (x_sp hc hF hs hf (c := 0) (by omega) _ (x_sp hc hF hs hf (c := 1) (by omega) _ (x_dr hc hD hF hs (c := 0) (by omega) _ fun r0 hr0 hv0 => x_dr hc hD hF hs (c := 1) (by omega) _ fun r1 hr1 hv1 => x_wd hc hF hs hf _ ⟨v12, ?_⟩)))⟩⟩
  rw [ci, show σ 51 i = wx w i from g1, show σ 52 i = wy w i from g2, show σ 54 i = nI (lo w i) from g4]
  have loop : ∀ (m n : Nat), n + m = l + 1 - lo w i → ∀ τ : St, Fr PX σ τ → xAc (scA w i s f acc (lo w i) n) τ → At hd_so_findBy X0 112 [some (rf 50 114), some (iv (nI i)), some (iv (nI s)), some (iv (nI f)), some (iv (nI l)), some (iv (wx w i - stS w s f 0)), some (iv (wy w i - stS w s f 1)), some (iv (spS w s f 0)), some (iv (spS w s f 1)), some (rf 2 r0), some (rf 2 r1), some (iv (wdS w s f)), some (iv (nI (lo w i + n))), none, none] [] τ (retV F) := by
    intro m
    induction m with
    | zero =>
      intro n hn τ ht hx
      refine l_so_findBy_112 _ _ _ _ _ _ _ _ _ _ _ _ _ _ ⟨fun _ => h τ ht (by rw [← show n = l + 1 - lo w i by omega]; exact hx), fun q => ?_⟩
      exfalso
      apply q
      rw [nI_ltI (by omega) (by omega)]
      omega
    | succ m ih =>
      intro n hn τ ht hx
      have hA : lo w i + n < 100 := by omega
      have cA : (nI (lo w i + n)).toNatClampNeg = lo w i + n := nI_clamp (by omega)
      have w0 : τ r0 (lo w i + n) = drS w s 0 (lo w i + n) := by rw [ht _ _ (by unfold PX; omega)]; exact hv0 _ hA
      have w1 : τ r1 (lo w i + n) = drS w s 1 (lo w i + n) := by rw [ht _ _ (by unfold PX; omega)]; exact hv1 _ hA
      refine l_so_findBy_112 _ _ _ _ _ _ _ _ _ _ _ _ _ _ ⟨fun q => ?_, fun _ => ⟨vin0 _ rfl hA (by decide), l_so_findBy_138 _ _ _ _ _ _ _ _ _ _ _ _ _ _ _ ⟨vin0 _ rfl hA (by decide), ?_⟩⟩⟩
      · exfalso
        rw [nI_ltI (by omega) (by omega)] at q
        omega
      · rw [cA, w0, w1, tr1, tr1]
        show At hd_so_findBy X0 157 [some (rf 50 114), some (iv (nI i)), some (iv (nI s)), some (iv (nI f)), some (iv (nI l)), some (iv (wx w i - stS w s f 0)), some (iv (wy w i - stS w s f 1)), some (iv (spS w s f 0)), some (iv (spS w s f 1)), some (rf 2 r0), some (rf 2 r1), some (iv (wdS w s f)), some (iv (nI (lo w i + n))), some (iv (dx w i s f (lo w i + n))), some (iv (dy w i s f (lo w i + n)))] [] τ (retV F)
        obtain ⟨b0, b1, b2, b3⟩ := dd_b hF hH hi' hs hf hA
        have nmx : ¬ dx w i s f (lo w i + n) + dy w i s f (lo w i + n) = mx := by
          intro e
          rw [fa_eq, b0] at e
          have : mx.toInt = 1073741824 := rfl
          omega
        have e1 : nI (lo w i + n) + 1 = nI (lo w i + (n + 1)) := nI_1 _
        refine l_so_findBy_157 _ _ _ _ _ _ _ _ _ _ _ _ _ _ _ _ ?_
        rw [hx.1, e1]
        have keep : (scA w i s f acc (lo w i) n).1 ≤ dx w i s f (lo w i + n) + dy w i s f (lo w i + n) → scA w i s f acc (lo w i) (n + 1) = scA w i s f acc (lo w i) n := fun q => by
          show stA w i s f _ _ = _
          unfold stA; rw [if_pos q]
        have take : ¬ (scA w i s f acc (lo w i) n).1 ≤ dx w i s f (lo w i + n) + dy w i s f (lo w i + n) → scA w i s f acc (lo w i) (n + 1) = (dx w i s f (lo w i + n) + dy w i s f (lo w i + n), f, lo w i + n, decide (¬ wdS w s f < dx w i s f (lo w i + n) ∧ ¬ wdS w s f < dy w i s f (lo w i + n))) := fun q => by
          show stA w i s f _ _ = _
          unfold stA; rw [if_neg q]
        have wr : ∀ v : Int32, ¬ (scA w i s f acc (lo w i) n).1 ≤ dx w i s f (lo w i + n) + dy w i s f (lo w i + n) → v = (if decide (¬ wdS w s f < dx w i s f (lo w i + n) ∧ ¬ wdS w s f < dy w i s f (lo w i + n)) then 1 else 0) → At hd_so_findBy X0 112 [some (rf 50 114), some (iv (nI i)), some (iv (nI s)), some (iv (nI f)), some (iv (nI l)), some (iv (wx w i - stS w s f 0)), some (iv (wy w i - stS w s f 1)), some (iv (spS w s f 0)), some (iv (spS w s f 1)), some (rf 2 r0), some (rf 2 r1), some (iv (wdS w s f)), some (iv (nI (lo w i + (n + 1)))), none, none] [] (up (up (up (up τ 114 4 (dx w i s f (lo w i + n) + dy w i s f (lo w i + n))) 114 2 (nI f)) 114 3 (nI (lo w i + n))) 114 5 v) (retV F) := by
          intro v q hv
          refine ih (n + 1) (by omega) _ ?_ ?_
          · exact (((ht.up ⟨rfl, by omega, by omega⟩).up ⟨rfl, by omega, by omega⟩).up ⟨rfl, by omega, by omega⟩).up ⟨rfl, by omega, by omega⟩
          · rw [take q]
            refine ⟨?_, fun _ => ⟨?_, ?_, ?_⟩⟩
            · simp (disch := omega) only [up_at, up_ka, up_jb]
            · simp (disch := omega) only [up_at, up_ka, up_jb]
            · simp (disch := omega) only [up_at, up_ka, up_jb]
            · rw [up_at]; exact hv
        refine ⟨fun q => ih (n + 1) (by omega) τ ht (by rw [keep q]; exact hx), fun q => ⟨fun q2 => ⟨Or.inl rfl, wr _ q ?_⟩, fun q2 => ⟨fun q3 => ⟨Or.inl rfl, wr _ q ?_⟩, fun q3 => ⟨Or.inr rfl, wr _ q ?_⟩⟩⟩⟩
        · rw [decide_eq_false (by intro z; exact z.1 q2)]; rfl
        · rw [decide_eq_false (by intro z; exact z.2 q3)]; rfl
        · rw [decide_eq_true ⟨q2, q3⟩]; rfl
  exact loop (l + 1 - lo w i) 0 (by omega) σ Fr.rf ha
theorem lst_b {w : Wo} (hF : okF w) (hH : okH w) {i s : Nat} (hi' : i < nh w) : lst w i s ≤ 99 ∧ lo w i ≤ lst w i s := by
  have := lohi hF hH hi'
  unfold lst; split <;> omega
theorem v_late {w : Wo} {σ : St} (hc : cW w 36 50 σ) (hF : okF w) {s : Nat} (hs : s < n4 w) : p_fl_isLate 36 (nI s) σ = if whS w s = 3 then 1 else 0 := by
  unfold p_fl_isLate
  rw [show 36 + 9 = 45 from rfl, x_li hc hF hs]
theorem c_find {w : Wo} {σ : St} (hc : cW w 36 50 σ) (hD : cD w 36 σ) (hF : okF w) (hH : okH w) {i s : Nat} (hi' : i < nh w) (hs : s < n4 w) (F : St → Prop) (h : ∀ τ, Fr PX σ τ → xAc (near w i s) τ → F τ) :
    CallV hd_so_find [rf 50 114, iv (nI i), iv (nI s)] σ F := by
  have nhh := hH.1
  have lb := lst_b hF hH (s := s) hi'
  have v12 : vp_in (nI i) 12 := vin0 i rfl (by omega) (by omega)
  have ci : (nI i).toNatClampNeg = i := nI_clamp (by omega)
  have f4 := fOf_le hF s
  have loop : ∀ (m n : Nat), n + m = fOf w s → ∀ τ : St, Fr PX σ τ → xAc (scF w i s n) τ → At hd_so_find X0 35 [some (rf 50 114), some (iv (nI i)), some (iv (nI s)), some (iv (nI (lst w i s))), some (iv (nI n))] [] τ (retV F) := by
    intro m
    induction m with
    | zero =>
      intro n hn τ ht hx
      refine l_so_find_35 _ _ _ _ _ _ (q_fl_firesOf _ _ _ _ (x_vs hF hs) ?_)
      rw [x_firesOf (x_row ht hc) hF hs]
      refine ⟨fun _ => h τ ht (by unfold near; rw [← show n = fOf w s by omega]; exact hx), fun q => ?_⟩
      exact absurd (by rw [nI_leI (by omega) (by omega)]; omega) q
    | succ m ih =>
      intro n hn τ ht hx
      refine l_so_find_35 _ _ _ _ _ _ (q_fl_firesOf _ _ _ _ (x_vs hF hs) ?_)
      rw [x_firesOf (x_row ht hc) hF hs]
      refine ⟨fun q => ?_, fun _ => ?_⟩
      · exfalso
        rw [nI_leI (by omega) (by omega)] at q
        omega
      · refine c_findBy (x_row ht hc) (x_rowD ht hD) hF hH hi' hs (by omega) lb.1 (by omega) _ hx _ fun ρ hr hx2 => ?_
        rw [nI_1]
        exact ih (n + 1) (by omega) ρ (ht.tr hr) hx2
  have go : At hd_so_find X0 25 [some (rf 50 114), some (iv (nI i)), some (iv (nI s)), none, none] [iv (nI (lst w i s))] σ (retV F) := by
    refine l_so_find_25 _ _ _ _ _ ?_
    exact loop (fOf w s) 0 (by omega) _ (Fr.rf.up ⟨rfl, by omega, by omega⟩) ⟨by rw [up_at]; rfl, fun q => absurd rfl q⟩
  refine e_so_find _ _ _ _ (q_fl_isLate _ _ _ _ (x_vs hF hs) ?_)
  rw [v_late hc hF hs]
  by_cases c3 : whS w s = 3
  · rw [if_pos c3]
    refine ⟨fun q => absurd q one_ne, fun _ => ?_⟩
    unfold lst at go
    rw [if_pos c3] at go
    exact go
  · rw [if_neg c3]
    refine ⟨fun _ => ⟨v12, ?_⟩, fun q => absurd rfl q⟩
    rw [ci, show σ 55 i = nI (hi w i) from (hc.2.2.2 i hi').2.2.2.2.1]
    unfold lst at go
    rw [if_neg c3] at go
    exact go
/-- a search finds something -/
theorem scA_b {w : Wo} (hF : okF w) (hH : okH w) {i s f b : Nat} (hi' : i < nh w) (hs : s < n4 w) (hf : f < fOf w s) (acc : Ac) (h0 : 0 ≤ acc.1.toInt) : ∀ n, b + n ≤ 100 → 0 ≤ (scA w i s f acc b n).1.toInt ∧ (scA w i s f acc b n).1.toInt ≤ acc.1.toInt ∧ (0 < n → (scA w i s f acc b n).1.toInt ≤ 300000)
  | 0, _ => ⟨h0, Int.le_refl _, fun q => absurd q (by omega)⟩
  | n + 1, hn => by
    obtain ⟨h1, h2, h3⟩ := scA_b (b := b) hF hH hi' hs hf acc h0 n (by omega)
    obtain ⟨b0, b1, b2, b3⟩ := dd_b hF hH hi' hs hf (a := b + n) (by omega)
    show 0 ≤ (stA w i s f _ _).1.toInt ∧ (stA w i s f _ _).1.toInt ≤ _ ∧ (0 < n + 1 → (stA w i s f _ _).1.toInt ≤ 300000)
    unfold stA
    by_cases q : (scA w i s f acc b n).1 ≤ dx w i s f (b + n) + dy w i s f (b + n)
    · rw [if_pos q]; rw [fa_le, b0] at q; exact ⟨h1, h2, fun _ => by omega⟩
    · rw [if_neg q]; rw [fa_le, b0] at q
      refine ⟨?_, ?_, fun _ => ?_⟩
      · rw [b0]; omega
      · rw [b0]; omega
      · rw [b0]; exact b3
theorem scF_b {w : Wo} (hF : okF w) (hH : okH w) {i s : Nat} (hi' : i < nh w) (hs : s < n4 w) : ∀ n, n ≤ fOf w s → 0 ≤ (scF w i s n).1.toInt ∧ (0 < n → (scF w i s n).1.toInt ≤ 300000)
  | 0, _ => ⟨by show (0 : Int) ≤ mx.toInt; decide, fun q => absurd q (by omega)⟩
  | n + 1, hn => by
    obtain ⟨h1, h2⟩ := scF_b hF hH hi' hs n (by omega)
    have lb := lst_b hF hH (s := s) hi'
    obtain ⟨k1, k2, k3⟩ := scA_b hF hH hi' hs (f := n) (b := lo w i) (by omega) (scF w i s n) h1 (lst w i s + 1 - lo w i) (by omega)
    exact ⟨k1, fun _ => k3 (by omega)⟩
theorem fOf_pos {w : Wo} (hF : okF w) {s : Nat} (hs : s < n4 w) : 0 < fOf w s := by
  have := (hF.1.2.2.2.2.2 (by omega)).2
  unfold fOf; split <;> omega
theorem near_b {w : Wo} (hF : okF w) (hH : okH w) {i s : Nat} (hi' : i < nh w) (hs : s < n4 w) : 0 ≤ (near w i s).1.toInt ∧ (near w i s).1.toInt ≤ 300000 ∧ ¬ (near w i s).1 = mx := by
  have h := scF_b hF hH hi' hs (fOf w s) (Nat.le_refl _)
  have h2 := h.2 (fOf_pos hF hs)
  refine ⟨h.1, h2, fun e => ?_⟩
  unfold near at e
  rw [e] at h2
  exact absurd h2 (by decide)
theorem scA_f {w : Wo} {i s f b : Nat} (acc : Ac) (N : Nat) (hf : f < N) (ha : acc.2.1 < N ∧ acc.2.2.1 < 100) : ∀ n, b + n ≤ 100 → (scA w i s f acc b n).2.1 < N ∧ (scA w i s f acc b n).2.2.1 < 100
  | 0, _ => ha
  | n + 1, hn => by
    have h1 := scA_f (w := w) (i := i) (s := s) (b := b) acc N hf ha n (by omega)
    show (stA w i s f _ _).2.1 < N ∧ (stA w i s f _ _).2.2.1 < 100
    unfold stA
    split
    · exact h1
    · exact ⟨hf, by show b + n < 100; omega⟩
theorem near_f {w : Wo} (hF : okF w) (hH : okH w) {i s : Nat} (hi' : i < nh w) (hs : s < n4 w) : (near w i s).2.1 < fOf w s ∧ (near w i s).2.2.1 < 100 := by
  have lb := lst_b hF hH (s := s) hi'
  have : ∀ n, n ≤ fOf w s → (scF w i s n).2.1 < fOf w s ∧ (scF w i s n).2.2.1 < 100 := by
    intro n
    induction n with
    | zero => intro _; exact ⟨fOf_pos hF hs, by show 0 < 100; omega⟩
    | succ n ih => intro hn; exact scA_f _ _ (by omega) (ih (by omega)) _ (by omega)
  exact this _ (Nat.le_refl _)
