/-! dates that lean -/
/-- the first date that house q gave of hill i, as a number and one (0: none), from date d on, n of them -/
def fdt (w : Wo) (i q d : Nat) : Nat → Nat
  | 0 => 0
  | n + 1 => if dh w i d = q then dv w i d + 1 else fdt w i q (d + 1) n
theorem fdt_b {w : Wo} (hH : okH w) {i q : Nat} (hi' : i < nh w) : ∀ n d, d + n ≤ nd w i → fdt w i q d n ≤ 100
  | 0, _, _ => by simp [fdt]
  | n + 1, d, h => by
    simp only [fdt]
    have := ((hH.2.2 i hi').2.2.2.2 d (by omega)).2
    have := fdt_b hH hi' (q := q) n (d + 1) (by omega)
    split <;> omega
def fd (w : Wo) (i q : Nat) : Nat := fdt w i q 0 (nd w i)
theorem x_first {w : Wo} {σ : St} (hc : cW w 36 50 σ) (hF : okF w) (hH : okH w) {i q : Nat} (hi' : i < nh w) (hq : q < n2 w) (F : Int32 → St → Prop) (h : F (nI (fd w i q) - 1) σ) : CallI hd_hi_firstDateOf [rf 43 50, iv (nI i), iv (nI q)] σ F := by
  have nhh := hH.1
  have n2b := hF.1.2.2.1
  obtain ⟨-, -, hd4, -, hdd⟩ := hH.2.2 i hi'
  obtain ⟨p1, p2, p3, p4, p5, p6, p7, p8, p9⟩ := hc.2.2.2 i hi'
  have e4 : nI i * 4 = nI (4 * i) := by rw [show (4 : Int32) = nI 4 from rfl, mulN, Nat.mul_comm]
  have vi : vp_in (nI i) 12 := vin0 i rfl (by omega) (by decide)
  have loop : ∀ m d, d + m = nd w i → fd w i q = fdt w i q d m → At hd_hi_firstDateOf X0 4 [some (rf 43 50), some (iv (nI i)), some (iv (nI q)), some (iv (nI (4 * i + d)))] [] σ (retI F) := by
    intro m
    induction m with
    | zero =>
      intro d hd e
      refine l_hi_firstDateOf_4 _ _ _ _ _ _ ⟨vi, ?_⟩
      rw [nI_clamp (by omega), p3, e4, nI_add, nI_leI (by omega) (by omega)]
      refine ⟨fun _ => ?_, fun z => by omega⟩
      rw [e] at h; exact h
    | succ m ih =>
      intro d hd e
      have dd := hdd d (by omega)
      refine l_hi_firstDateOf_4 _ _ _ _ _ _ ⟨vi, ?_⟩
      rw [nI_clamp (by omega), p3, e4, nI_add, nI_leI (by omega) (by omega)]
      refine ⟨fun z => by omega, fun _ => ⟨vin0 (4 * i + d) rfl (by omega) (by decide), ?_⟩⟩
      rw [nI_clamp (by omega), (p9 d (by omega)).1, (p9 d (by omega)).2, nI_eq (by omega) (by omega), nI_1]
      simp only [fdt] at e
      refine ⟨fun z => ?_, fun z => ⟨vin0 (4 * i + d) rfl (by omega) (by decide), ?_⟩⟩
      · rw [if_neg z] at e; exact ih (d + 1) (by omega) e
      · rw [if_pos z] at e
        rw [e, sub1 (by omega)] at h; exact h
  refine e_hi_firstDateOf _ _ _ _ _ ?_
  rw [e4]
  exact loop (nd w i) 0 (by omega) rfl
theorem m_first {w : Wo} {σ : St} (hm : mW w (σ 126) (σ 128)) (hF : okF w) (hH : okH w) {i q : Nat} (hi' : i < nh w) (hq : q < n2 w) (F : Int32 → St → Prop) (h : F (if fd w i q = 0 then -1000000 else nI (fd w i q - 1)) σ) : CallI hd_m_toldBy [rf 55 122, iv (nI i), iv (nI q)] σ F := by
  have nhh := hH.1
  have n2b := hF.1.2.2.1
  obtain ⟨-, -, hd4, -, hdd⟩ := hH.2.2 i hi'
  obtain ⟨f1, f2, f3, f4, f5, f6⟩ := hm.2.2.2 i hi'
  have ex : ∀ d : Nat, 73 + 8 * nI i + 2 * nI d = nI (73 + 8 * i + 2 * d) := fun d => by
    rw [show (73 : Int32) = nI 73 from rfl, show (8 : Int32) = nI 8 from rfl, show (2 : Int32) = nI 2 from rfl, mulN, mulN, nI_add, nI_add]
  -- by the count of dates still to be seen
  have loop : ∀ d m, d + m = nd w i → At hd_m_toldBy X0 16 [some (rf 55 122), some (iv (nI i)), some (iv (nI q)), some (iv (if fdt w i q d m = 0 then -1000000 else nI (fdt w i q d m - 1))), some (iv (nI d - 1))] [] σ (retI F) := by
    intro d
    induction d with
    | zero =>
      intro m hm'
      refine l_m_toldBy_16 _ _ _ _ _ _ ⟨fun _ => ?_, fun z => absurd (by decide) z⟩
      have : m = nd w i := by omega
      subst this
      exact h
    | succ d ih =>
      intro m hm'
      have dd := hdd d (by omega)
      have key := ih (m + 1) (by omega)
      rw [show fdt w i q d (m + 1) = if dh w i d = q then dv w i d + 1 else fdt w i q (d + 1) m from rfl] at key
      rw [sub1 (by omega), Nat.add_sub_cancel]
      have e2 : nI d + -1 = nI d - 1 := by grind
      refine l_m_toldBy_16 _ _ _ _ _ _ ⟨fun z => ?_, fun _ => ⟨vin0 _ (ex d) (by omega) (by decide), ?_⟩⟩
      · exfalso; rw [fa_lt, ti_nI (by omega), t_0] at z; omega
      rw [ex, nI_1, nI_clamp (by omega), nI_clamp (by omega), (f6 d (by omega)).1, (f6 d (by omega)).2, nI_eq (by omega) (by omega), e2]
      refine ⟨fun z => ?_, fun z => ⟨vin0 (73 + 8 * i + 2 * d + 1) rfl (by omega) (by decide), ?_⟩⟩
      · rw [if_neg z] at key; exact key
      · rw [if_pos z, if_neg (by omega), Nat.add_sub_cancel] at key; exact key
  refine e_m_toldBy _ _ _ _ ⟨vin0 _ (e25_ i) (by omega) (by decide), ?_⟩
  rw [e25_, nI_clamp (by omega), f3]
  have := loop (nd w i) 0 (by omega)
  simp only [fdt] at this
  exact this
/-- the spans' sum; whether a hill counts; the ends so far: whether one counted, from, to -/
def spn (w : Wo) (a b : Nat) : Int32 := who w (2 * a + 1) + who w (2 * b + 1)
def bo2 (w : Wo) (a b h : Nat) : Prop := 0 < fd w h a ∧ 0 < fd w h b
def dif (w : Wo) (a b h : Nat) : Int := (fd w h a : Int) - (fd w h b : Int)
def lea (w : Wo) (a b : Nat) (s : Int) : Nat → Option (Int × Int)
  | 0 => none
  | h + 1 => if 0 < fd w h a ∧ 0 < fd w h b then (match lea w a b s h with
    | none => some (dif w a b h - s, dif w a b h + s)
    | some p => some (if p.1 < dif w a b h - s then dif w a b h - s else p.1, if dif w a b h + s < p.2 then dif w a b h + s else p.2)) else lea w a b s h
theorem fd_b {w : Wo} (hH : okH w) {i q : Nat} (hi' : i < nh w) : fd w i q ≤ 100 := fdt_b hH hi' _ _ (by omega)
theorem lea_b {w : Wo} (hH : okH w) {a b : Nat} {s : Int} (hs : 0 ≤ s ∧ s ≤ 40) : ∀ h, h ≤ nh w → ∀ p, lea w a b s h = some p → (-140 ≤ p.1 ∧ p.1 ≤ 140) ∧ (-140 ≤ p.2 ∧ p.2 ≤ 140)
  | 0, _, p, e => by simp [lea] at e
  | h + 1, hh, p, e => by
    simp only [lea] at e
    have k1 := fd_b hH (i := h) (q := a) (by omega)
    have k2 := fd_b hH (i := h) (q := b) (by omega)
    have ih := lea_b hH (a := a) (b := b) hs h (by omega)
    unfold dif at e
    split at e
    · cases el : lea w a b s h with
      | none => rw [el] at e; injection e with e; subst e; constructor <;> constructor <;> simp only <;> omega
      | some p' =>
        rw [el] at e; injection e with e; subst e
        have := ih p' el
        constructor <;> constructor <;> simp only <;> split <;> omega
    · exact ih p e
theorem leaX {f t s : Int32} {da : Nat} {db : Nat} (ha : 0 < da ∧ da ≤ 100) (hb : 0 < db ∧ db ≤ 100) : (nI da - 1) - (nI db - 1) = nI (da - 1) - nI (db - 1) := by
  rw [sub1 (by omega), sub1 (by omega)]
/-- how the ends stand in numbers -/
def lF (d : Int32) : Option (Int × Int) → Int32
  | none => d
  | some p => Int32.ofInt p.1
def lT (d : Int32) : Option (Int × Int) → Int32
  | none => d
  | some p => Int32.ofInt p.2
theorem oi {v : Int} (h : -2147483648 ≤ v ∧ v < 2147483648) : (Int32.ofInt v).toInt = v := Int32.toInt_ofInt_of_le (by omega) (by omega)
theorem sp_b {w : Wo} (hF : okF w) {a b : Nat} (ha : a < n2 w) (hb : b < n2 w) : 0 ≤ (spn w a b).toInt ∧ (spn w a b).toInt ≤ 40 := by
  have h1 := (hF.2.2.2.1 a ha).2
  have h2 := (hF.2.2.2.1 b hb).2
  unfold wi at h1 h2
  unfold spn
  rw [ti_add (by omega)]; omega
theorem dif_t {w : Wo} (hH : okH w) {a b h : Nat} (hh : h < nh w) (p : 0 < fd w h a ∧ 0 < fd w h b) {s : Int32} (hs : 0 ≤ s.toInt ∧ s.toInt ≤ 40) : (nI (fd w h a - 1) - nI (fd w h b - 1) - s).toInt = dif w a b h - s.toInt ∧ (nI (fd w h a - 1) - nI (fd w h b - 1) + s).toInt = dif w a b h + s.toInt ∧ -100 ≤ dif w a b h ∧ dif w a b h ≤ 100 := by
  have k1 := fd_b hH (i := h) (q := a) hh
  have k2 := fd_b hH (i := h) (q := b) hh
  have e : (nI (fd w h a - 1) - nI (fd w h b - 1)).toInt = dif w a b h := by
    rw [ti_sub (by rw [ti_nI (by omega), ti_nI (by omega)]; omega), ti_nI (by omega), ti_nI (by omega)]; unfold dif; omega
  have : -100 ≤ dif w a b h ∧ dif w a b h ≤ 100 := by unfold dif; omega
  exact ⟨by rw [ti_sub (by rw [e]; omega), e], by rw [ti_add (by rw [e]; omega), e], this.1, this.2⟩
theorem x_hou {w : Wo} {σ : St} (hc : cW w 36 50 σ) (hF : okF w) {a c : Nat} (ha : a < n2 w) (hcc : c < 2) (F : Int32 → St → Prop) (h : F (who w (2 * a + c)) σ) : CallI hd_li_at [rf 39 41, iv (nI a), iv (nI c)] σ F := by
  have n2b := hF.1.2.2.1
  have e : nI a * 2 + nI c = nI (2 * a + c) := by rw [show (2 : Int32) = nI 2 from rfl, mulN, nI_add, Nat.mul_comm]
  refine q_li_at_L_houses _ _ _ _ _ (vin0 _ e (by omega) (by decide)) ?_
  unfold p_li_at_L_houses
  rw [e, nI_clamp (by omega), show σ (41 + 1) (2 * a + c) = who w (2 * a + c) from hc.2.1.2.2.1 _ (by omega)]
  exact h
theorem r_leans (a1 a2 a3 : Int32) (σ : St) (G : Int32 → Int32 → St → Prop) (hR : RW σ) (k : KQ σ G) :
    CallI hd_x_leans [rf 54 0, iv a1, iv a2, iv a3] σ (fun r σ1 => CallI hd_m_leans [rf 55 122, iv a1, iv a2, iv a3] σ1 (fun r' σ2 => G r r' σ2)) := by
  obtain ⟨w, hF, hH, hc, hcd, hm, hmd, h7⟩ := hR
  have hm0 := mWs_fr fr0 hm
  have nhh := hH.1
  have n2b := hF.1.2.2.1
  refine e_x_leans a1 a2 a3 σ _ (gx_house hc hF (fun a ha e => on ?_) (fun c => of (e_m_leans _ _ _ _ _ (gm_house0 hm0 hF c (of (k _ _ fr0))))))
  subst e
  refine gx_house hc hF (fun b hb e => on ?_) (fun c => of (e_m_leans _ _ _ _ _ (gm_house1 hm0 hF ha (on (gm_house0 hm0 hF c (of (k _ _ fr0)))))))
  subst e
  refine ⟨fun e => e_m_leans _ _ _ _ _ (gm_house1 hm0 hF ha (on (gm_house1 hm0 hF hb (on ⟨fun _ => k _ _ fr0, fun q => absurd e q⟩)))), fun ne => gx_below 2 (by decide) (fun t ht e => on' ?_) (fun c => of' (e_m_leans _ _ _ _ _ (gm_house1 hm0 hF ha (on (gm_house1 hm0 hF hb (on ⟨fun q => absurd q ne, fun _ => gm_in0 (by rw [i2l, tl_0, tl_1]; omega) (of' (k _ _ fr0))⟩))))))⟩
  subst e
  have bb : (0 : Int64).toInt ≤ (nI t).toInt64.toInt ∧ (nI t).toInt64.toInt ≤ (1 : Int64).toInt := by rw [i2l, tl_0, tl_1, ti_nI (by omega)]; omega
  have sb := sp_b hF ha hb
  refine x_hou (c := 1) hc hF ha (by decide) _ (x_hou (c := 1) hc hF hb (by decide) _ ?_)
  have lb := fun h hh p e => lea_b hH (a := a) (b := b) sb h hh p e
  -- the end of both
  have ans : ∃ r : Int32, (lea w a b (spn w a b).toInt (nh w) = none → r = -1000000) ∧ (∀ p, lea w a b (spn w a b).toInt (nh w) = some p → (p.2 < p.1 → r = -1000000) ∧ (¬ p.2 < p.1 → (nI t = 0 → r = Int32.ofInt p.1) ∧ (¬ nI t = 0 → r = Int32.ofInt p.2))) := by
    cases el : lea w a b (spn w a b).toInt (nh w) with
    | none => exact ⟨_, fun _ => rfl, fun p e => by simp at e⟩
    | some p =>
      refine ⟨if p.2 < p.1 then -1000000 else if nI t = 0 then Int32.ofInt p.1 else Int32.ofInt p.2, fun e => by simp at e, fun p' e => ?_⟩
      injection e with e
      subst e
      exact ⟨fun c => by rw [if_pos c], fun c => ⟨fun d => by rw [if_neg c, if_pos d], fun d => by rw [if_neg c, if_neg d]⟩⟩
  obtain ⟨r, hr0, hr1⟩ := ans
  have mm : CallI hd_m_leans [rf 55 122, iv (nI a), iv (nI b), iv (nI t)] σ (fun r' σ2 => G r r' σ2) := by
    have ex : ∀ x : Nat, (41 : Int32) + 2 * nI x + 1 = nI (41 + 2 * x + 1) := fun x => by
      rw [show (41 : Int32) = nI 41 from rfl, show (2 : Int32) = nI 2 from rfl, mulN, nI_add, nI_1]
    have y1 := hm0.2.1.2.2.1 (2 * a + 1) (by omega)
    have y2 := hm0.2.1.2.2.1 (2 * b + 1) (by omega)
    have loop : ∀ m h, h + m = nh w → At hd_m_leans X0 81 [some (rf 55 122), some (iv (nI a)), some (iv (nI b)), some (iv (nI t)), some (iv (spn w a b)), some (iv (lF (-1000) (lea w a b (spn w a b).toInt h))), some (iv (lT 1000 (lea w a b (spn w a b).toInt h))), some (iv (nI h)), none, none] [] (up σ 122 0 0) (retI (fun r' σ2 => G r r' σ2)) := by
      intro m
      induction m with
      | zero =>
        intro h hh
        have : h = nh w := by omega
        subst this
        refine l_m_leans_81 _ _ _ _ _ _ _ _ _ ⟨vz, ?_⟩
        rw [c_0, hm0.2.2.1]
        refine ⟨fun _ => ?_, fun q => absurd (by rw [nI_leI (by omega) (by omega)]; omega) q⟩
        cases el : lea w a b (spn w a b).toInt (nh w) with
        | none => exact ⟨fun _ => by rw [hr0 el]; exact k _ _ fr0, fun q => absurd rfl q⟩
        | some p =>
          obtain ⟨b1, b2⟩ := lb _ (Nat.le_refl _) p el
          obtain ⟨s1, s2⟩ := hr1 p el
          have t1 : (Int32.ofInt p.1).toInt = p.1 := oi (by omega)
          have t2 : (Int32.ofInt p.2).toInt = p.2 := oi (by omega)
          refine ⟨fun q => ?_, fun _ => ⟨fun q => ⟨fun z => ?_, fun z => ?_⟩, fun q => ?_⟩⟩
          · exfalso
            have q : Int32.ofInt p.1 = -1000 := q
            rw [fa_eq, t1, t_m1000] at q; omega
          · have q : Int32.ofInt p.1 ≤ Int32.ofInt p.2 := q
            rw [fa_le, t1, t2] at q
            rw [(s2 (by omega)).2 z]; exact k _ _ fr0
          · have q : Int32.ofInt p.1 ≤ Int32.ofInt p.2 := q
            rw [fa_le, t1, t2] at q
            rw [(s2 (by omega)).1 z]; exact k _ _ fr0
          · have q : ¬ Int32.ofInt p.1 ≤ Int32.ofInt p.2 := q
            rw [fa_le, t1, t2] at q
            rw [s1 (by omega)]; exact k _ _ fr0
      | succ m ih =>
        intro h hh
        have key := ih (h + 1) (by omega)
        simp only [lea] at key
        have k1 := fd_b hH (i := h) (q := a) (by omega)
        have k2 := fd_b hH (i := h) (q := b) (by omega)
        refine l_m_leans_81 _ _ _ _ _ _ _ _ _ ⟨vz, ?_⟩
        rw [c_0, hm0.2.2.1]
        refine ⟨fun q => ?_, fun _ => m_first hm0 hF hH (by omega) ha _ (m_first hm0 hF hH (by omega) hb _ ?_)⟩
        · exfalso; rw [nI_leI (by omega) (by omega)] at q; omega
        rw [nI_1]
        have cz : ∀ x : Nat, x ≤ 100 → ((if x = 0 then (-1000000 : Int32) else nI (x - 1)) = -1000000 ↔ x = 0) := fun x hx => by
          by_cases z : x = 0
          · rw [if_pos z]; exact ⟨fun _ => z, fun _ => rfl⟩
          · rw [if_neg z]
            refine ⟨fun e => ?_, fun e => absurd e z⟩
            rw [fa_eq, ti_nI (by omega), t_m1000000] at e; omega
        rw [cz _ k1, cz _ k2]
        refine ⟨fun z => ?_, fun z1 => ⟨fun z => ?_, fun z2 => ?_⟩⟩
        · rw [if_neg (by omega)] at key; exact key
        · rw [if_neg (by omega)] at key; exact key
        have pp : 0 < fd w h a ∧ 0 < fd w h b := by omega
        rw [if_pos pp] at key
        rw [if_neg z1, if_neg z2]
        obtain ⟨d1, d2, d3, d4⟩ := dif_t hH (h := h) (by omega) pp sb
        -- both ends
        have a150 : ∀ s0 : Int32, s0 = (if lF (-1000) (lea w a b (spn w a b).toInt h) < nI (fd w h a - 1) - nI (fd w h b - 1) - spn w a b then nI (fd w h a - 1) - nI (fd w h b - 1) - spn w a b else lF (-1000) (lea w a b (spn w a b).toInt h)) → At hd_m_leans X0 150 [some (rf 55 122), some (iv (nI a)), some (iv (nI b)), some (iv (nI t)), some (iv (spn w a b)), some (iv (lF (-1000) (lea w a b (spn w a b).toInt h))), some (iv (lT 1000 (lea w a b (spn w a b).toInt h))), some (iv (nI h)), some (iv (nI (fd w h a - 1))), some (iv (nI (fd w h b - 1)))] [iv s0] (up σ 122 0 0) (retI (fun r' σ2 => G r r' σ2)) := fun s0 es => by
          refine l_m_leans_150 _ _ _ _ _ _ _ _ _ _ _ _ ?_
          rw [nI_1]
          have fin : ∀ s0' s1' : Int32, s0' = s0 → s1' = (if nI (fd w h a - 1) - nI (fd w h b - 1) + spn w a b < lT 1000 (lea w a b (spn w a b).toInt h) then nI (fd w h a - 1) - nI (fd w h b - 1) + spn w a b else lT 1000 (lea w a b (spn w a b).toInt h)) → At hd_m_leans X0 81 [some (rf 55 122), some (iv (nI a)), some (iv (nI b)), some (iv (nI t)), some (iv (spn w a b)), some (iv s0'), some (iv s1'), some (iv (nI (h + 1))), none, none] [] (up σ 122 0 0) (retI (fun r' σ2 => G r r' σ2)) := fun s0' s1' e0 e1 => by
            subst e0
            cases el : lea w a b (spn w a b).toInt h with
            | none =>
              rw [el] at key es e1
              simp only [lF, lT] at key
              rw [show lF (-1000) (none : Option (Int × Int)) = -1000 from rfl] at es
              rw [show lT 1000 (none : Option (Int × Int)) = 1000 from rfl] at e1
              have g1 : s0' = Int32.ofInt (dif w a b h - (spn w a b).toInt) := by
                rw [es, if_pos (by rw [fa_lt, d1, t_m1000]; omega), fa_eq, d1, oi (by omega)]
              have g2 : s1' = Int32.ofInt (dif w a b h + (spn w a b).toInt) := by
                rw [e1, if_pos (by rw [fa_lt, d2, t_1000]; omega), fa_eq, d2, oi (by omega)]
              rw [g1, g2]; exact key
            | some p =>
              rw [el] at key es e1
              obtain ⟨b1, b2⟩ := lb _ (by omega) p el
              have t1 : (Int32.ofInt p.1).toInt = p.1 := oi (by omega)
              have t2 : (Int32.ofInt p.2).toInt = p.2 := oi (by omega)
              simp only [lF, lT] at key
              rw [show lF (-1000) (some p) = Int32.ofInt p.1 from rfl] at es
              rw [show lT 1000 (some p) = Int32.ofInt p.2 from rfl] at e1
              have cf : (Int32.ofInt p.1 < nI (fd w h a - 1) - nI (fd w h b - 1) - spn w a b) ↔ p.1 < dif w a b h - (spn w a b).toInt := by rw [fa_lt, t1, d1]
              have ct : (nI (fd w h a - 1) - nI (fd w h b - 1) + spn w a b < Int32.ofInt p.2) ↔ dif w a b h + (spn w a b).toInt < p.2 := by rw [fa_lt, t2, d2]
              have g1 : s0' = Int32.ofInt (if p.1 < dif w a b h - (spn w a b).toInt then dif w a b h - (spn w a b).toInt else p.1) := by
                rw [es]
                by_cases c : p.1 < dif w a b h - (spn w a b).toInt
                · rw [if_pos c, if_pos (cf.mpr c), fa_eq, d1, oi (by omega)]
                · rw [if_neg c, if_neg (fun q => c (cf.mp q))]
              have g2 : s1' = Int32.ofInt (if dif w a b h + (spn w a b).toInt < p.2 then dif w a b h + (spn w a b).toInt else p.2) := by
                rw [e1]
                by_cases c : dif w a b h + (spn w a b).toInt < p.2
                · rw [if_pos c, if_pos (ct.mpr c), fa_eq, d2, oi (by omega)]
                · rw [if_neg c, if_neg (fun q => c (ct.mp q))]
              rw [g1, g2]; exact key
          refine ⟨fun q => fin _ _ rfl ?_, fun q => fin _ _ rfl ?_⟩
          · rw [if_neg (by rw [fa_lt]; rw [fa_le] at q; omega)]
          · rw [if_pos (by rw [fa_lt]; rw [fa_le] at q; omega)]
        refine ⟨fun q => a150 _ ?_, fun q => a150 _ ?_⟩
        · rw [if_neg (by rw [fa_lt]; rw [fa_le] at q; omega)]
        · rw [if_pos (by rw [fa_lt]; rw [fa_le] at q; omega)]
    refine e_m_leans _ _ _ _ _ (gm_house1 hm0 hF ha (on (gm_house1 hm0 hF hb (on ⟨fun q => absurd q ne, fun _ => gm_in1 bb (on' ⟨vin0 _ (ex a) (by omega) (by decide), vin0 _ (ex b) (by omega) (by decide), l_m_leans_68 _ _ _ _ _ _ ?_⟩)⟩))))
    rw [ex, ex, nI_clamp (by omega), nI_clamp (by omega), show 41 + 2 * a + 1 = 41 + (2 * a + 1) by omega, show 41 + 2 * b + 1 = 41 + (2 * b + 1) by omega, y1, y2]
    exact loop (nh w) 0 (by omega)
  have loop : ∀ m h, h + m = nh w → At hd_x_leans X0 74 [some (rf 54 0), some (iv (nI a)), some (iv (nI b)), some (iv (nI t)), some (rf 39 41), some (iv (spn w a b)), some (iv (lF (-1073741824) (lea w a b (spn w a b).toInt h))), some (iv (lT 1073741824 (lea w a b (spn w a b).toInt h))), some (iv (nI h)), none, none] [] σ (retI (fun r σ1 => CallI hd_m_leans [rf 55 122, iv (nI a), iv (nI b), iv (nI t)] σ1 (fun r' σ2 => G r r' σ2))) := by
    intro m
    have tmin : (-1073741824 : Int32).toInt = -1073741824 := rfl
    induction m with
    | zero =>
      intro h hh
      have : h = nh w := by omega
      subst this
      refine l_x_leans_74 _ _ _ _ _ _ _ _ _ ?_
      rw [hc.2.2.1]
      refine ⟨fun _ => ?_, fun q => absurd (by rw [nI_leI (by omega) (by omega)]; omega) q⟩
      cases el : lea w a b (spn w a b).toInt (nh w) with
      | none => exact ⟨fun _ => by rw [← hr0 el]; exact mm, fun q => absurd rfl q⟩
      | some p =>
        obtain ⟨b1, b2⟩ := lb _ (Nat.le_refl _) p el
        obtain ⟨s1, s2⟩ := hr1 p el
        have t1 : (Int32.ofInt p.1).toInt = p.1 := oi (by omega)
        have t2 : (Int32.ofInt p.2).toInt = p.2 := oi (by omega)
        refine ⟨fun q => ?_, fun _ => ⟨fun q => ⟨fun z => ?_, fun z => ?_⟩, fun q => ?_⟩⟩
        · exfalso
          have q : Int32.ofInt p.1 = -1073741824 := q
          rw [fa_eq, t1, tmin] at q; omega
        · have q : Int32.ofInt p.1 ≤ Int32.ofInt p.2 := q
          rw [fa_le, t1, t2] at q
          show CallI hd_m_leans _ σ (fun r' σ2 => G (Int32.ofInt p.2) r' σ2)
          rw [← (s2 (by omega)).2 z]; exact mm
        · have q : Int32.ofInt p.1 ≤ Int32.ofInt p.2 := q
          rw [fa_le, t1, t2] at q
          show CallI hd_m_leans _ σ (fun r' σ2 => G (Int32.ofInt p.1) r' σ2)
          rw [← (s2 (by omega)).1 z]; exact mm
        · have q : ¬ Int32.ofInt p.1 ≤ Int32.ofInt p.2 := q
          rw [fa_le, t1, t2] at q
          rw [← s1 (by omega)]; exact mm
    | succ m ih =>
      intro h hh
      have key := ih (h + 1) (by omega)
      simp only [lea] at key
      have k1 := fd_b hH (i := h) (q := a) (by omega)
      have k2 := fd_b hH (i := h) (q := b) (by omega)
      refine l_x_leans_74 _ _ _ _ _ _ _ _ _ ?_
      rw [hc.2.2.1]
      refine ⟨fun q => ?_, fun _ => x_first hc hF hH (by omega) ha _ (x_first hc hF hH (by omega) hb _ ?_)⟩
      · exfalso; rw [nI_leI (by omega) (by omega)] at q; omega
      rw [nI_1]
      have cz : ∀ x : Nat, x ≤ 100 → (nI x - 1 < 0 ↔ x = 0) := fun x hx => by
        rw [fa_lt, ti_sub (by rw [ti_nI (by omega), t_1]; omega), ti_nI (by omega), t_1, t_0]; omega
      rw [cz _ k1, cz _ k2]
      refine ⟨fun z => ?_, fun z1 => ⟨fun z => ?_, fun z2 => ?_⟩⟩
      · rw [if_neg (by omega)] at key; exact key
      · rw [if_neg (by omega)] at key; exact key
      have pp : 0 < fd w h a ∧ 0 < fd w h b := by omega
      rw [if_pos pp] at key
      rw [sub1 (by omega), sub1 (by omega)]
      obtain ⟨d1, d2, d3, d4⟩ := dif_t hH (h := h) (by omega) pp sb
      cases el : lea w a b (spn w a b).toInt h with
      | none =>
        rw [el] at key
        simp only [lF, lT] at key
        rw [show lF (-1073741824) (none : Option (Int × Int)) = -1073741824 from rfl, show lT 1073741824 (none : Option (Int × Int)) = 1073741824 from rfl]
        rw [if_pos (by rw [fa_lt, d1, tmin]; omega), if_pos (by rw [fa_lt, d2, show (1073741824 : Int32).toInt = 1073741824 from rfl]; omega)]
        have g1 : nI (fd w h a - 1) - nI (fd w h b - 1) - spn w a b = Int32.ofInt (dif w a b h - (spn w a b).toInt) := by rw [fa_eq, d1, oi (by omega)]
        have g2 : nI (fd w h a - 1) - nI (fd w h b - 1) + spn w a b = Int32.ofInt (dif w a b h + (spn w a b).toInt) := by rw [fa_eq, d2, oi (by omega)]
        rw [g1, g2]; exact key
      | some p =>
        rw [el] at key
        obtain ⟨b1, b2⟩ := lb _ (by omega) p el
        have t1 : (Int32.ofInt p.1).toInt = p.1 := oi (by omega)
        have t2 : (Int32.ofInt p.2).toInt = p.2 := oi (by omega)
        simp only [lF, lT] at key
        rw [show lF (-1073741824) (some p) = Int32.ofInt p.1 from rfl, show lT 1073741824 (some p) = Int32.ofInt p.2 from rfl]
        have cf : (Int32.ofInt p.1 < nI (fd w h a - 1) - nI (fd w h b - 1) - spn w a b) ↔ p.1 < dif w a b h - (spn w a b).toInt := by rw [fa_lt, t1, d1]
        have ct : (nI (fd w h a - 1) - nI (fd w h b - 1) + spn w a b < Int32.ofInt p.2) ↔ dif w a b h + (spn w a b).toInt < p.2 := by rw [fa_lt, t2, d2]
        have g1 : (if Int32.ofInt p.1 < nI (fd w h a - 1) - nI (fd w h b - 1) - spn w a b then nI (fd w h a - 1) - nI (fd w h b - 1) - spn w a b else Int32.ofInt p.1) = Int32.ofInt (if p.1 < dif w a b h - (spn w a b).toInt then dif w a b h - (spn w a b).toInt else p.1) := by
          by_cases c : p.1 < dif w a b h - (spn w a b).toInt
          · rw [if_pos c, if_pos (cf.mpr c), fa_eq, d1, oi (by omega)]
          · rw [if_neg c, if_neg (fun q => c (cf.mp q))]
        have g2 : (if nI (fd w h a - 1) - nI (fd w h b - 1) + spn w a b < Int32.ofInt p.2 then nI (fd w h a - 1) - nI (fd w h b - 1) + spn w a b else Int32.ofInt p.2) = Int32.ofInt (if dif w a b h + (spn w a b).toInt < p.2 then dif w a b h + (spn w a b).toInt else p.2) := by
          by_cases c : dif w a b h + (spn w a b).toInt < p.2
          · rw [if_pos c, if_pos (ct.mpr c), fa_eq, d2, oi (by omega)]
          · rw [if_neg c, if_neg (fun q => c (ct.mp q))]
        rw [g1, g2]; exact key
  exact loop (nh w) 0 (by omega)
