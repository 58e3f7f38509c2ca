/-! the class reads its lines -/
def PRd (a _b : Nat) : Prop := a = 20 ∨ (22 ≤ a ∧ a ≤ 31)
def xFl (fl : Fl) (σ : St) : Prop := ∀ y, y < 5 → σ (22 + 2 * y) 2 = nI (fl.1 y) ∧ ∀ i, i < ncl y * fl.1 y → σ (23 + 2 * y) i = fl.2 y i
def xS (T : Nat → Nat) (N : Nat) (s : Tk × Fl) (σ : St) : Prop := tX N T σ ∧ tOk T N s.1 ∧ xTk s.1 σ ∧ xFl s.2 σ ∧ flOk s.2
def xE (e : Er) (τ : St) : Prop := τ 20 1 = nI e.1 ∧ τ 20 2 = nI e.2
def xRes (T : Nat → Nat) (N : Nat) (r : PR1) (σ : St) (F : Int32 → St → Prop) : Prop := match r with
  | .inl e => ∀ τ, Fr PRd σ τ → xE e τ → F 0 τ
  | .inr s => ∀ τ, Fr PRd σ τ → xS T N s τ → F 1 τ
theorem lx_rd {σ τ : St} (h : Fr PLx σ τ) : Fr PRd σ τ := h.mn fun a b q => Or.inl q.1
theorem tX_rd {N : Nat} {T : Nat → Nat} {σ τ : St} (h : Fr PRd σ τ) (hx : tX N T σ) : tX N T τ := ⟨by rw [h _ _ (by unfold PRd; omega)]; exact hx.1, fun i hi => by rw [h _ _ (by unfold PRd; omega)]; exact hx.2 i hi⟩
theorem xFl_lx {fl : Fl} {σ τ : St} (h : Fr (fun a _ => a = 20) σ τ) (hx : xFl fl σ) : xFl fl τ := fun y hy => ⟨by rw [h _ _ (by omega)]; exact (hx y hy).1, fun i hi => by rw [h _ _ (by omega)]; exact (hx y hy).2 i hi⟩
theorem lx_20 {σ τ : St} (h : Fr PLx σ τ) : Fr (fun a _ => a = 20) σ τ := h.mn fun a b q => q.1
theorem x_refuse {σ τ : St} (hf : Fr PRd σ τ) {e : Er} (k2 : τ 20 2 = nI e.2) {F : Int32 → St → Prop} (h : ∀ τ, Fr PRd σ τ → xE e τ → F 0 τ) : CallI hd_re_refuse [rf 49 20, iv (nI e.1)] τ F := by
  refine e_re_refuse _ _ _ ⟨Or.inl rfl, h _ (hf.up (Or.inl rfl)) ⟨?_, ?_⟩⟩
  · rw [up_at]
  · rw [up_jb _ _ (by omega)]; exact k2
theorem x_refuseB {σ τ : St} (hf : Fr PRd σ τ) {e : Er} (k2 : τ 20 2 = nI e.2) {F : Int32 → St → Prop} (h : ∀ τ, Fr PRd σ τ → xE e τ → F 0 τ) : CallI hd_re_refuse [rf 49 20, iv (nI e.1)] τ (fun r σ1 => isB r ∧ F r σ1) := by
  refine e_re_refuse _ _ _ ⟨Or.inl rfl, Or.inl rfl, h _ (hf.up (Or.inl rfl)) ⟨?_, ?_⟩⟩
  · rw [up_at]
  · rw [up_jb _ _ (by omega)]; exact k2
/-- a line that is whole counts -/
theorem xFl_adl {fl : Fl} {σ : St} {y : Nat} {v : Nat → Int32} (hy : y < 5) (hx : xFl fl σ) (hv : ∀ j, j < ncl y → σ (23 + 2 * y) (ncl y * fl.1 y + j) = v j) : xFl (adl fl y v) (up σ (22 + 2 * y) 2 (nI (fl.1 y + 1))) := by
  intro z hz
  obtain ⟨g1, g2⟩ := hx z hz
  by_cases e : z = y
  · subst e
    refine ⟨?_, fun i hi => ?_⟩
    · rw [up_at]; show nI (fl.1 z + 1) = nI (if z = z then fl.1 z + 1 else fl.1 z); rw [if_pos rfl]
    · rw [up_ka _ _ (by omega)]
      have hi : i < ncl z * (if z = z then fl.1 z + 1 else fl.1 z) := hi
      rw [if_pos rfl, Nat.mul_add, Nat.mul_one] at hi
      show _ = if z = z ∧ ncl z * fl.1 z ≤ i then v (i - ncl z * fl.1 z) else fl.2 z i
      by_cases c : ncl z * fl.1 z ≤ i
      · rw [if_pos ⟨rfl, c⟩, ← hv _ (by omega), show ncl z * fl.1 z + (i - ncl z * fl.1 z) = i by omega]
      · rw [if_neg (fun q => c q.2)]; exact g2 i (by omega)
  · refine ⟨?_, fun i hi => ?_⟩
    · rw [up_ka _ _ (by omega), g1]; show nI (fl.1 z) = nI (if z = y then fl.1 y + 1 else fl.1 z); rw [if_neg e]
    · rw [up_ka _ _ (by omega)]
      have hi : i < ncl z * (if z = y then fl.1 y + 1 else fl.1 z) := hi
      rw [if_neg e] at hi
      show _ = if z = y ∧ ncl y * fl.1 y ≤ i then v (i - ncl y * fl.1 y) else fl.2 z i
      rw [if_neg (fun q => e q.1)]; exact g2 i hi
theorem xFl_put {fl : Fl} {σ : St} {y j : Nat} {x : Int32} (hx : xFl fl σ) (hj : ncl y * fl.1 y ≤ j) : xFl fl (up σ (23 + 2 * y) j x) := by
  intro z hz
  obtain ⟨g1, g2⟩ := hx z hz
  refine ⟨by rw [up_ka _ _ (by omega)]; exact g1, fun i hi => ?_⟩
  by_cases e : z = y
  · subst e; rw [up_jb _ _ (by omega)]; exact g2 i hi
  · rw [up_ka _ _ (by omega)]; exact g2 i hi
theorem xa_0 {fl : Fl} {τ : St} (hx : xFl fl τ) (hf : flOk fl) {c : Nat} (hc : c < 3) (v : Int32) {F : Int32 → St → Prop} (h1 : adB fl 0 c v = true → F 1 τ) (h0 : adB fl 0 c v = false → F 0 τ) : CallI hd_li_admits [rf 37 22, iv (nI c), iv v] τ F := by
  have cl : (nI c).toNatClampNeg = c := nI_clamp (by omega)
  have el : lsv 0 c = (stl.getD 0 []).getD c 0 := rfl
  have em : msv 0 c = (stl.getD 1 []).getD c 0 := rfl
  have vc : vp_in (nI c) 3 := vin0 c rfl hc (by decide)
  unfold adB at h1 h0
  have lp : (!(decide (0 = 0 ∧ c = 0 ∧ 0 < fl.1 0)) || decide (fl.2 0 (3 * (fl.1 0 - 1)) < v)) = true → At hd_li_admits X0 39 [some (rf 37 22), some (iv (nI c)), some (iv v), none] [iv 1] τ (retI F) := fun q => by
    rw [q, Bool.and_true] at h1 h0
    refine l_li_admits_L_floors_39 _ _ _ _ _ _ (on ⟨vc, ?_⟩)
    rw [cl, ← el, ← em]
    refine ⟨fun z => ⟨Or.inl rfl, h0 ?_⟩, fun z => ⟨vc, fun z2 => ⟨Or.inl rfl, h0 ?_⟩, fun z2 => ⟨Or.inr rfl, h1 ?_⟩⟩⟩
    · rw [decide_eq_false (fun q => by rw [fa_le] at q; rw [fa_lt] at z; omega)]; rfl
    · rw [decide_eq_false (p := v ≤ _) (fun q => by rw [fa_le] at q; rw [fa_lt] at z2; omega)]; simp
    · rw [decide_eq_true (p := _ ≤ v) (by rw [fa_le]; rw [fa_lt] at z; omega), decide_eq_true (p := v ≤ _) (by rw [fa_le]; rw [fa_lt] at z2; omega)]; rfl
  have g := hx 0 (by omega)
  have b4 := hf.1 0 (by omega)
  have c0 : nI c = 0 ↔ c = 0 := nI_eq (b := 0) (by omega) (by omega)
  have n0' : nI (fl.1 0) = 0 ↔ fl.1 0 = 0 := nI_eq (b := 0) (by omega) (by omega)
  refine e_li_admits_L_floors _ _ _ _ _ ⟨fun q => absurd rfl q, fun _ => ?_⟩
  rw [c0, show τ 22 2 = nI (fl.1 0) from g.1, n0']
  refine ⟨fun q => lp ?_, fun q => ⟨fun z => lp ?_, fun z => ?_⟩⟩
  · rw [decide_eq_false (fun w => q w.2.1)]; rfl
  · rw [decide_eq_false (fun w => by omega)]; rfl
  have ei : (nI (fl.1 0) - 1) * 3 + 0 = nI (3 * (fl.1 0 - 1)) := by rw [sub1 (by omega), show (3 : Int32) = nI 3 from rfl, mulN, show (0 : Int32) = nI 0 from rfl, nI_add, Nat.mul_comm]; rfl
  refine q_li_at_L_floors _ _ _ _ _ (vin0 _ ei (by omega) (by decide)) ?_
  unfold p_li_at_L_floors
  have e3 : ncl 0 = 3 := rfl
  rw [ei, nI_clamp (by omega), show τ (22 + 1) (3 * (fl.1 0 - 1)) = fl.2 0 (3 * (fl.1 0 - 1)) from g.2 _ (by rw [e3]; omega)]
  refine ⟨fun y => ?_, fun y => lp ?_⟩
  · refine l_li_admits_L_floors_39 _ _ _ _ _ _ (of ⟨Or.inl rfl, h0 ?_⟩)
    rw [decide_eq_true (show (0 : Nat) = 0 ∧ c = 0 ∧ 0 < fl.1 0 from ⟨rfl, q, by omega⟩), decide_eq_false (p := _ < v) (fun w => by rw [fa_lt] at w; rw [fa_le] at y; omega)]; simp
  · rw [decide_eq_true (p := _ < v) (by rw [fa_lt]; rw [fa_le] at y; omega)]; simp
theorem xc_0 {N : Nat} {T : Nat → Nat} {σ : St} (hT : okT2 N T) {fl : Fl} (hf : flOk fl) (h4 : fl.1 0 < 4) (F : Int32 → St → Prop) : ∀ k c, c + k = 3 → ∀ (t : Tk) (v : Nat → Int32) (τ : St), Fr PRd σ τ → tX N T τ → tOk T N t → xTk t τ → xFl fl τ → vOk fl 0 c v → (∀ j, j < c → τ 23 (3 * fl.1 0 + j) = v j) → xRes T N (lnr T N fl 0 k c t v) σ F → At hd_re_readLine X0 19 [some (rf 49 20), some (rf 37 22), some (iv (nI c))] [] τ (retI F) := by
  have hN := hT.1
  have nc : ncl 0 = 3 := rfl
  intro k
  induction k with
  | zero =>
    intro c hc t v τ ht htx htk hk hfl hvo hv hr
    obtain ⟨k2, k3, k4, k5⟩ := hk
    obtain ⟨o1, o2, o3, o4⟩ := htk
    have : c = 3 := by omega
    subst this
    refine l_re_readLine_Reader_L_floors_19 _ _ _ _ ⟨fun _ => ?_, fun z => absurd (by decide) z⟩
    rw [k4, show (3 : Int32) = nI 3 from rfl, nI_eq (by omega) (by omega)]
    simp only [lnr] at hr
    refine ⟨fun q => ?_, fun q => ?_⟩
    rotate_left
    · rw [if_neg q] at hr
      exact x_refuseB (σ := σ) (e := (1, t.1)) ht k2 hr
    rw [if_pos q] at hr
    refine x_adv hT htx (p := t.2.1) (by omega) k3 _ fun ρ hρ hkρ => ⟨Or.inr rfl, ?_⟩
    have fρ := xFl_lx (lx_20 hρ) hfl
    rw [show ρ 22 2 = nI (fl.1 0) from (fρ 0 (by omega)).1, nI_1]
    refine hr _ ((ht.tr (lx_rd hρ)).up (Or.inr (by omega))) ⟨?_, tok_ok (by omega), ?_, xFl_adl (y := 0) (by omega) fρ (fun j hj => ?_), adl_ok (by omega) hf h4 hvo⟩
    · have := tX_fr hρ htx
      exact ⟨by rw [up_ka _ _ (by omega)]; exact this.1, fun i hi => by rw [up_ka _ _ (by omega)]; exact this.2 i hi⟩
    · obtain ⟨q1, q2, q3, q4⟩ := hkρ
      exact ⟨by rw [up_ka _ _ (by omega)]; exact q1, by rw [up_ka _ _ (by omega)]; exact q2, by rw [up_ka _ _ (by omega)]; exact q3, fun z => by rw [up_ka _ _ (by omega)]; exact q4 z⟩
    · show ρ 23 (3 * fl.1 0 + j) = v j
      rw [hρ _ _ (by unfold PLx; omega)]; exact hv j hj
  | succ k ih =>
    intro c hc t v τ ht htx htk hk hfl hvo hv hr
    obtain ⟨k2, k3, k4, k5⟩ := hk
    have ⟨o1, o2, o3, o4⟩ := htk
    have ei : nI (fl.1 0) * 3 + nI c = nI (3 * fl.1 0 + c) := by rw [show (3 : Int32) = nI 3 from rfl, mulN, nI_add, Nat.mul_comm]
    simp only [lnr] at hr
    -- what was taken is put, and the next token
    have step : ∀ x : Int32, xRes T N (match (Sum.inr x : Er ⊕ Int32) with | .inl e => .inl e | .inr x => lnr T N fl 0 k (c + 1) (tok T N t.2.1) (upd v c x)) σ F → co1 T fl 0 c t = .inr x → CallV hd_re_advance [rf 49 20] (up τ 23 (3 * fl.1 0 + c) x) (fun σ8 => At hd_re_readLine X0 19 [some (rf 49 20), some (rf 37 22), some (iv (nI c + 1))] [] σ8 (retI F)) := fun x hx hco => by
      have fu : Fr PRd σ (up τ 23 (3 * fl.1 0 + c) x) := ht.up (Or.inr (by omega))
      have tu : tX N T (up τ 23 (3 * fl.1 0 + c) x) := ⟨by rw [up_ka _ _ (by omega)]; exact htx.1, fun i hi => by rw [up_ka _ _ (by omega)]; exact htx.2 i hi⟩
      have xu : xFl fl (up τ 23 (3 * fl.1 0 + c) x) := xFl_put (y := 0) hfl (by rw [nc]; omega)
      refine x_adv hT tu (p := t.2.1) (by omega) (by rw [up_ka _ _ (by omega)]; exact k3) _ fun ρ hρ hkρ => ?_
      rw [nI_1]
      refine ih (c + 1) (by omega) _ (upd v c x) ρ (fu.tr (lx_rd hρ)) (tX_fr hρ tu) (tok_ok (by omega)) hkρ (xFl_lx (lx_20 hρ) xu) (fun j hj => ?_) (fun j hj => ?_) hx
      · by_cases e : j = c
        · subst e; rw [upd_1]; exact co1_ok hco
        · rw [upd_2 e]; exact hvo j (by omega)
      · rw [hρ _ _ (by unfold PLx; omega)]
        by_cases e : j = c
        · subst e; rw [up_at, upd_1]
        · rw [up_jb _ _ (by omega), upd_2 e]; exact hv j (by omega)
    refine l_re_readLine_Reader_L_floors_19 _ _ _ _ ⟨fun z => ?_, fun _ => ?_⟩
    · exfalso; rw [show (3 : Int32) = nI 3 from rfl, nI_leI (by omega) (by omega)] at z; omega
    refine e_li_isNamed_L_floors _ _ _ _ ⟨fun _ => ⟨Or.inl rfl, of ?_⟩, fun q => absurd q (by decide)⟩
    refine e_re_takeNumber_Reader_L_floors _ _ _ _ ?_
    rw [k4, show (2 : Int32) = nI 2 from rfl, nI_eq (by omega) (by omega)]
    have e1 : co1 T fl 0 c t = if t.2.2.1 = 2 then (if adB fl 0 c t.2.2.2 then .inr t.2.2.2 else .inl (2, t.1)) else .inl (1, t.1) := by
      unfold co1; rw [if_neg (by omega)]
    rw [e1] at hr
    refine ⟨fun q => ?_, fun q => ?_⟩
    rotate_left
    · rw [if_neg q] at hr
      exact x_refuse (σ := σ) (e := (1, t.1)) ht k2 (fun μ hμ he => ⟨Or.inl rfl, fun z => absurd rfl z, fun _ => ⟨Or.inl rfl, hr μ hμ he⟩⟩)
    rw [if_pos q] at hr
    rw [k5 q]
    refine xa_0 hfl hf (by omega) _ (fun a => on' ?_) (fun a => of' ?_)
    rotate_left
    · rw [if_neg (by simp [a])] at hr
      exact x_refuse (σ := σ) (e := (2, t.1)) ht k2 (fun μ hμ he => ⟨Or.inl rfl, fun z => absurd rfl z, fun _ => ⟨Or.inl rfl, hr μ hμ he⟩⟩)
    rw [if_pos a] at hr
    refine e_li_put_L_floors _ _ _ _ _ ?_
    rw [k5 q, show τ 22 2 = nI (fl.1 0) from (hfl 0 (by omega)).1, ei]
    refine ⟨vin0 _ rfl (by omega) (by decide), Or.inr rfl, fun _ => ?_, fun z => absurd z one_ne⟩
    rw [nI_clamp (by omega)]
    exact step t.2.2.2 hr (by rw [e1, if_pos q, if_pos a])
theorem xl_0 {N : Nat} {T : Nat → Nat} {σ : St} (hT : okT2 N T) {s : Tk × Fl} (hs : xS T N s σ) (F : Int32 → St → Prop) (h : xRes T N (lin T N 0 s) σ F) : CallI hd_re_readLine [rf 49 20, rf 37 22] σ F := by
  obtain ⟨htx, htk, hk, hfl, hf⟩ := hs
  have ⟨k2, k3, k4, k5⟩ := hk
  have ⟨o1, o2, o3, o4⟩ := htk
  have b4 := hf.1 0 (by omega)
  refine e_re_readLine_Reader_L_floors _ _ _ (q_li_isFull_L_floors _ _ _ ?_)
  unfold p_li_isFull_L_floors
  rw [show σ 22 2 = nI (s.2.1 0) from (hfl 0 (by omega)).1]
  have c4 : nI (s.2.1 0) < 4 ↔ s.2.1 0 < 4 := nI_ltI (b := 4) (by omega) (by omega)
  unfold lin at h
  by_cases c : 4 ≤ s.2.1 0
  · rw [if_pos c] at h
    rw [if_neg (fun q => by have := c4.mp q; omega)]
    exact on (x_refuseB (σ := σ) (e := (3, s.1.1)) Fr.rf k2 h)
  · rw [if_neg c] at h
    rw [if_pos (c4.mpr (by omega))]
    refine of (x_adv hT htx (p := s.1.2.1) (by omega) k3 _ fun ρ hρ hkρ => ?_)
    exact xc_0 hT hf (by omega) F 3 0 (by omega) _ _ ρ (lx_rd hρ) (tX_fr hρ htx) (tok_ok (by omega)) hkρ (xFl_lx (lx_20 hρ) hfl) (fun j hj => by omega) (fun j hj => by omega) h
theorem xr_0 {N : Nat} {T : Nat → Nat} {σ : St} (hT : okT2 N T) {s : Tk × Fl} {need : Nat} (hn : need ≤ 1) (hs : xS T N s σ) (hz : s.2.1 0 = 0) (F : Int32 → St → Prop) (h : xRes T N (rq2 T N 0 need s) σ F) : CallI hd_re_readLines [rf 49 20, rf 37 22, iv (nI need)] σ F := by
  have loop : ∀ f (s : Tk × Fl) (τ : St), s.2.1 0 + f = 5 → Fr PRd σ τ → xS T N s τ → xRes T N (bd (lns T N 0 f s) (fun s' => if need ≤ s'.2.1 0 then .inr s' else .inl (1, s'.1.1))) σ F → At hd_re_readLines X0 2 [some (rf 49 20), some (rf 37 22), some (iv (nI need)), some (iv (nI (s.2.1 0)))] [] τ (retI F) := by
    intro f
    induction f with
    | zero => intro s τ hc _ hs _; have := hs.2.2.2.2.1 0 (by omega); omega
    | succ f ih =>
      intro s τ hc ht hs h
      have b4 := hs.2.2.2.2.1 0 (by omega)
      have ⟨htx, htk, hk, hfl, hf⟩ := hs
      simp only [lns] at h
      have c4 : (4 : Int32) < nI (s.2.1 0) ↔ 4 < s.2.1 0 := nI_ltI (a := 4) (by omega) (by omega)
      refine l_re_readLines_Reader_L_floors_2 _ _ _ _ _ ⟨fun z => absurd (c4.mp z) (by omega), fun _ => ?_⟩
      refine xw_0 hT htx htk hk (fun a => on ?_) (fun a => of ?_)
      rotate_left
      · rw [if_neg (by simp [a])] at h
        have h : xRes T N (if need ≤ s.2.1 0 then .inr s else .inl (1, s.1.1)) σ F := h
        refine l_re_readLines_Reader_L_floors_34 _ _ _ _ _ ?_
        rw [show τ 22 2 = nI (s.2.1 0) from (hfl 0 (by omega)).1, nI_leI (by omega) (by omega)]
        refine ⟨fun z => ⟨Or.inr rfl, ?_⟩, fun z => ?_⟩
        · rw [if_pos z] at h; exact h τ ht hs
        · rw [if_neg z] at h
          exact x_refuse (σ := σ) (e := (1, s.1.1)) ht hk.1 (fun μ hμ he => ⟨fun _ => ⟨Or.inl rfl, h μ hμ he⟩, fun w => absurd rfl w⟩)
      · rw [if_pos a] at h
        refine xl_0 hT hs _ ?_
        cases hl : lin T N 0 s with
        | inl e => rw [hl] at h; exact fun μ hμ he => ⟨fun w => absurd rfl w, fun _ => ⟨Or.inl rfl, h μ (ht.tr hμ) he⟩⟩
        | inr s1 =>
          rw [hl] at h
          intro μ hμ hs1
          refine ⟨fun _ => ?_, fun w => absurd w one_ne⟩
          have e1 := (lin_ok (by omega) hf hl).2
          have e2 : s1.2.1 0 = s.2.1 0 + 1 := by rw [e1]; simp
          rw [nI_1, ← e2]
          exact ih s1 μ (by omega) (ht.tr hμ) hs1 h
  refine e_re_readLines_Reader_L_floors _ _ _ _ ?_
  have := loop 5 s σ (by omega) Fr.rf hs h
  rw [hz] at this
  exact this
theorem xa_1 {fl : Fl} {τ : St} (hx : xFl fl τ) (hf : flOk fl) {c : Nat} (hc : c < 6) (v : Int32) {F : Int32 → St → Prop} (h1 : adB fl 1 c v = true → F 1 τ) (h0 : adB fl 1 c v = false → F 0 τ) : CallI hd_li_admits [rf 38 24, iv (nI c), iv v] τ F := by
  have cl : (nI c).toNatClampNeg = c := nI_clamp (by omega)
  have el : lsv 1 c = (stl.getD 2 []).getD c 0 := rfl
  have em : msv 1 c = (stl.getD 3 []).getD c 0 := rfl
  have vc : vp_in (nI c) 6 := vin0 c rfl hc (by decide)
  unfold adB at h1 h0
  have lp : (!(decide (1 = 0 ∧ c = 0 ∧ 0 < fl.1 0)) || decide (fl.2 0 (3 * (fl.1 0 - 1)) < v)) = true → At hd_li_admits X0 39 [some (rf 38 24), some (iv (nI c)), some (iv v), none] [iv 1] τ (retI F) := fun q => by
    rw [q, Bool.and_true] at h1 h0
    refine l_li_admits_L_fires_39 _ _ _ _ _ _ (on ⟨vc, ?_⟩)
    rw [cl, ← el, ← em]
    refine ⟨fun z => ⟨Or.inl rfl, h0 ?_⟩, fun z => ⟨vc, fun z2 => ⟨Or.inl rfl, h0 ?_⟩, fun z2 => ⟨Or.inr rfl, h1 ?_⟩⟩⟩
    · rw [decide_eq_false (fun q => by rw [fa_le] at q; rw [fa_lt] at z; omega)]; rfl
    · rw [decide_eq_false (p := v ≤ _) (fun q => by rw [fa_le] at q; rw [fa_lt] at z2; omega)]; simp
    · rw [decide_eq_true (p := _ ≤ v) (by rw [fa_le]; rw [fa_lt] at z; omega), decide_eq_true (p := v ≤ _) (by rw [fa_le]; rw [fa_lt] at z2; omega)]; rfl
  exact e_li_admits_L_fires _ _ _ _ _ ⟨fun _ => lp (by simp), fun q => absurd q (by decide)⟩
theorem xc_1 {N : Nat} {T : Nat → Nat} {σ : St} (hT : okT2 N T) {fl : Fl} (hf : flOk fl) (h4 : fl.1 1 < 4) (F : Int32 → St → Prop) : ∀ k c, c + k = 6 → ∀ (t : Tk) (v : Nat → Int32) (τ : St), Fr PRd σ τ → tX N T τ → tOk T N t → xTk t τ → xFl fl τ → vOk fl 1 c v → (∀ j, j < c → τ 25 (6 * fl.1 1 + j) = v j) → xRes T N (lnr T N fl 1 k c t v) σ F → At hd_re_readLine X0 19 [some (rf 49 20), some (rf 38 24), some (iv (nI c))] [] τ (retI F) := by
  have hN := hT.1
  have nc : ncl 1 = 6 := rfl
  intro k
  induction k with
  | zero =>
    intro c hc t v τ ht htx htk hk hfl hvo hv hr
    obtain ⟨k2, k3, k4, k5⟩ := hk
    obtain ⟨o1, o2, o3, o4⟩ := htk
    have : c = 6 := by omega
    subst this
    refine l_re_readLine_Reader_L_fires_19 _ _ _ _ ⟨fun _ => ?_, fun z => absurd (by decide) z⟩
    rw [k4, show (3 : Int32) = nI 3 from rfl, nI_eq (by omega) (by omega)]
    simp only [lnr] at hr
    refine ⟨fun q => ?_, fun q => ?_⟩
    rotate_left
    · rw [if_neg q] at hr
      exact x_refuseB (σ := σ) (e := (1, t.1)) ht k2 hr
    rw [if_pos q] at hr
    refine x_adv hT htx (p := t.2.1) (by omega) k3 _ fun ρ hρ hkρ => ⟨Or.inr rfl, ?_⟩
    have fρ := xFl_lx (lx_20 hρ) hfl
    rw [show ρ 24 2 = nI (fl.1 1) from (fρ 1 (by omega)).1, nI_1]
    refine hr _ ((ht.tr (lx_rd hρ)).up (Or.inr (by omega))) ⟨?_, tok_ok (by omega), ?_, xFl_adl (y := 1) (by omega) fρ (fun j hj => ?_), adl_ok (by omega) hf h4 hvo⟩
    · have := tX_fr hρ htx
      exact ⟨by rw [up_ka _ _ (by omega)]; exact this.1, fun i hi => by rw [up_ka _ _ (by omega)]; exact this.2 i hi⟩
    · obtain ⟨q1, q2, q3, q4⟩ := hkρ
      exact ⟨by rw [up_ka _ _ (by omega)]; exact q1, by rw [up_ka _ _ (by omega)]; exact q2, by rw [up_ka _ _ (by omega)]; exact q3, fun z => by rw [up_ka _ _ (by omega)]; exact q4 z⟩
    · show ρ 25 (6 * fl.1 1 + j) = v j
      rw [hρ _ _ (by unfold PLx; omega)]; exact hv j hj
  | succ k ih =>
    intro c hc t v τ ht htx htk hk hfl hvo hv hr
    obtain ⟨k2, k3, k4, k5⟩ := hk
    have ⟨o1, o2, o3, o4⟩ := htk
    have ei : nI (fl.1 1) * 6 + nI c = nI (6 * fl.1 1 + c) := by rw [show (6 : Int32) = nI 6 from rfl, mulN, nI_add, Nat.mul_comm]
    simp only [lnr] at hr
    -- what was taken is put, and the next token
    have step : ∀ x : Int32, xRes T N (match (Sum.inr x : Er ⊕ Int32) with | .inl e => .inl e | .inr x => lnr T N fl 1 k (c + 1) (tok T N t.2.1) (upd v c x)) σ F → co1 T fl 1 c t = .inr x → CallV hd_re_advance [rf 49 20] (up τ 25 (6 * fl.1 1 + c) x) (fun σ8 => At hd_re_readLine X0 19 [some (rf 49 20), some (rf 38 24), some (iv (nI c + 1))] [] σ8 (retI F)) := fun x hx hco => by
      have fu : Fr PRd σ (up τ 25 (6 * fl.1 1 + c) x) := ht.up (Or.inr (by omega))
      have tu : tX N T (up τ 25 (6 * fl.1 1 + c) x) := ⟨by rw [up_ka _ _ (by omega)]; exact htx.1, fun i hi => by rw [up_ka _ _ (by omega)]; exact htx.2 i hi⟩
      have xu : xFl fl (up τ 25 (6 * fl.1 1 + c) x) := xFl_put (y := 1) hfl (by rw [nc]; omega)
      refine x_adv hT tu (p := t.2.1) (by omega) (by rw [up_ka _ _ (by omega)]; exact k3) _ fun ρ hρ hkρ => ?_
      rw [nI_1]
      refine ih (c + 1) (by omega) _ (upd v c x) ρ (fu.tr (lx_rd hρ)) (tX_fr hρ tu) (tok_ok (by omega)) hkρ (xFl_lx (lx_20 hρ) xu) (fun j hj => ?_) (fun j hj => ?_) hx
      · by_cases e : j = c
        · subst e; rw [upd_1]; exact co1_ok hco
        · rw [upd_2 e]; exact hvo j (by omega)
      · rw [hρ _ _ (by unfold PLx; omega)]
        by_cases e : j = c
        · subst e; rw [up_at, upd_1]
        · rw [up_jb _ _ (by omega), upd_2 e]; exact hv j (by omega)
    refine l_re_readLine_Reader_L_fires_19 _ _ _ _ ⟨fun z => ?_, fun _ => ?_⟩
    · exfalso; rw [show (6 : Int32) = nI 6 from rfl, nI_leI (by omega) (by omega)] at z; omega
    refine e_li_isNamed_L_fires _ _ _ _ ⟨fun _ => ⟨Or.inl rfl, of ?_⟩, fun q => absurd q (by decide)⟩
    refine e_re_takeNumber_Reader_L_fires _ _ _ _ ?_
    rw [k4, show (2 : Int32) = nI 2 from rfl, nI_eq (by omega) (by omega)]
    have e1 : co1 T fl 1 c t = if t.2.2.1 = 2 then (if adB fl 1 c t.2.2.2 then .inr t.2.2.2 else .inl (2, t.1)) else .inl (1, t.1) := by
      unfold co1; rw [if_neg (by omega)]
    rw [e1] at hr
    refine ⟨fun q => ?_, fun q => ?_⟩
    rotate_left
    · rw [if_neg q] at hr
      exact x_refuse (σ := σ) (e := (1, t.1)) ht k2 (fun μ hμ he => ⟨Or.inl rfl, fun z => absurd rfl z, fun _ => ⟨Or.inl rfl, hr μ hμ he⟩⟩)
    rw [if_pos q] at hr
    rw [k5 q]
    refine xa_1 hfl hf (by omega) _ (fun a => on' ?_) (fun a => of' ?_)
    rotate_left
    · rw [if_neg (by simp [a])] at hr
      exact x_refuse (σ := σ) (e := (2, t.1)) ht k2 (fun μ hμ he => ⟨Or.inl rfl, fun z => absurd rfl z, fun _ => ⟨Or.inl rfl, hr μ hμ he⟩⟩)
    rw [if_pos a] at hr
    refine e_li_put_L_fires _ _ _ _ _ ?_
    rw [k5 q, show τ 24 2 = nI (fl.1 1) from (hfl 1 (by omega)).1, ei]
    refine ⟨vin0 _ rfl (by omega) (by decide), Or.inr rfl, fun _ => ?_, fun z => absurd z one_ne⟩
    rw [nI_clamp (by omega)]
    exact step t.2.2.2 hr (by rw [e1, if_pos q, if_pos a])
theorem xl_1 {N : Nat} {T : Nat → Nat} {σ : St} (hT : okT2 N T) {s : Tk × Fl} (hs : xS T N s σ) (F : Int32 → St → Prop) (h : xRes T N (lin T N 1 s) σ F) : CallI hd_re_readLine [rf 49 20, rf 38 24] σ F := by
  obtain ⟨htx, htk, hk, hfl, hf⟩ := hs
  have ⟨k2, k3, k4, k5⟩ := hk
  have ⟨o1, o2, o3, o4⟩ := htk
  have b4 := hf.1 1 (by omega)
  refine e_re_readLine_Reader_L_fires _ _ _ (q_li_isFull_L_fires _ _ _ ?_)
  unfold p_li_isFull_L_fires
  rw [show σ 24 2 = nI (s.2.1 1) from (hfl 1 (by omega)).1]
  have c4 : nI (s.2.1 1) < 4 ↔ s.2.1 1 < 4 := nI_ltI (b := 4) (by omega) (by omega)
  unfold lin at h
  by_cases c : 4 ≤ s.2.1 1
  · rw [if_pos c] at h
    rw [if_neg (fun q => by have := c4.mp q; omega)]
    exact on (x_refuseB (σ := σ) (e := (3, s.1.1)) Fr.rf k2 h)
  · rw [if_neg c] at h
    rw [if_pos (c4.mpr (by omega))]
    refine of (x_adv hT htx (p := s.1.2.1) (by omega) k3 _ fun ρ hρ hkρ => ?_)
    exact xc_1 hT hf (by omega) F 6 0 (by omega) _ _ ρ (lx_rd hρ) (tX_fr hρ htx) (tok_ok (by omega)) hkρ (xFl_lx (lx_20 hρ) hfl) (fun j hj => by omega) (fun j hj => by omega) h
theorem xr_1 {N : Nat} {T : Nat → Nat} {σ : St} (hT : okT2 N T) {s : Tk × Fl} {need : Nat} (hn : need ≤ 1) (hs : xS T N s σ) (hz : s.2.1 1 = 0) (F : Int32 → St → Prop) (h : xRes T N (rq2 T N 1 need s) σ F) : CallI hd_re_readLines [rf 49 20, rf 38 24, iv (nI need)] σ F := by
  have loop : ∀ f (s : Tk × Fl) (τ : St), s.2.1 1 + f = 5 → Fr PRd σ τ → xS T N s τ → xRes T N (bd (lns T N 1 f s) (fun s' => if need ≤ s'.2.1 1 then .inr s' else .inl (1, s'.1.1))) σ F → At hd_re_readLines X0 2 [some (rf 49 20), some (rf 38 24), some (iv (nI need)), some (iv (nI (s.2.1 1)))] [] τ (retI F) := by
    intro f
    induction f with
    | zero => intro s τ hc _ hs _; have := hs.2.2.2.2.1 1 (by omega); omega
    | succ f ih =>
      intro s τ hc ht hs h
      have b4 := hs.2.2.2.2.1 1 (by omega)
      have ⟨htx, htk, hk, hfl, hf⟩ := hs
      simp only [lns] at h
      have c4 : (4 : Int32) < nI (s.2.1 1) ↔ 4 < s.2.1 1 := nI_ltI (a := 4) (by omega) (by omega)
      refine l_re_readLines_Reader_L_fires_2 _ _ _ _ _ ⟨fun z => absurd (c4.mp z) (by omega), fun _ => ?_⟩
      refine xw_1 hT htx htk hk (fun a => on ?_) (fun a => of ?_)
      rotate_left
      · rw [if_neg (by simp [a])] at h
        have h : xRes T N (if need ≤ s.2.1 1 then .inr s else .inl (1, s.1.1)) σ F := h
        refine l_re_readLines_Reader_L_fires_34 _ _ _ _ _ ?_
        rw [show τ 24 2 = nI (s.2.1 1) from (hfl 1 (by omega)).1, nI_leI (by omega) (by omega)]
        refine ⟨fun z => ⟨Or.inr rfl, ?_⟩, fun z => ?_⟩
        · rw [if_pos z] at h; exact h τ ht hs
        · rw [if_neg z] at h
          exact x_refuse (σ := σ) (e := (1, s.1.1)) ht hk.1 (fun μ hμ he => ⟨fun _ => ⟨Or.inl rfl, h μ hμ he⟩, fun w => absurd rfl w⟩)
      · rw [if_pos a] at h
        refine xl_1 hT hs _ ?_
        cases hl : lin T N 1 s with
        | inl e => rw [hl] at h; exact fun μ hμ he => ⟨fun w => absurd rfl w, fun _ => ⟨Or.inl rfl, h μ (ht.tr hμ) he⟩⟩
        | inr s1 =>
          rw [hl] at h
          intro μ hμ hs1
          refine ⟨fun _ => ?_, fun w => absurd w one_ne⟩
          have e1 := (lin_ok (by omega) hf hl).2
          have e2 : s1.2.1 1 = s.2.1 1 + 1 := by rw [e1]; simp
          rw [nI_1, ← e2]
          exact ih s1 μ (by omega) (ht.tr hμ) hs1 h
  refine e_re_readLines_Reader_L_fires _ _ _ _ ?_
  have := loop 5 s σ (by omega) Fr.rf hs h
  rw [hz] at this
  exact this
theorem xa_2 {fl : Fl} {τ : St} (hx : xFl fl τ) (hf : flOk fl) {c : Nat} (hc : c < 2) (v : Int32) {F : Int32 → St → Prop} (h1 : adB fl 2 c v = true → F 1 τ) (h0 : adB fl 2 c v = false → F 0 τ) : CallI hd_li_admits [rf 39 26, iv (nI c), iv v] τ F := by
  have cl : (nI c).toNatClampNeg = c := nI_clamp (by omega)
  have el : lsv 2 c = (stl.getD 4 []).getD c 0 := rfl
  have em : msv 2 c = (stl.getD 5 []).getD c 0 := rfl
  have vc : vp_in (nI c) 2 := vin0 c rfl hc (by decide)
  unfold adB at h1 h0
  have lp : (!(decide (2 = 0 ∧ c = 0 ∧ 0 < fl.1 0)) || decide (fl.2 0 (3 * (fl.1 0 - 1)) < v)) = true → At hd_li_admits X0 39 [some (rf 39 26), some (iv (nI c)), some (iv v), none] [iv 1] τ (retI F) := fun q => by
    rw [q, Bool.and_true] at h1 h0
    refine l_li_admits_L_houses_39 _ _ _ _ _ _ (on ⟨vc, ?_⟩)
    rw [cl, ← el, ← em]
    refine ⟨fun z => ⟨Or.inl rfl, h0 ?_⟩, fun z => ⟨vc, fun z2 => ⟨Or.inl rfl, h0 ?_⟩, fun z2 => ⟨Or.inr rfl, h1 ?_⟩⟩⟩
    · rw [decide_eq_false (fun q => by rw [fa_le] at q; rw [fa_lt] at z; omega)]; rfl
    · rw [decide_eq_false (p := v ≤ _) (fun q => by rw [fa_le] at q; rw [fa_lt] at z2; omega)]; simp
    · rw [decide_eq_true (p := _ ≤ v) (by rw [fa_le]; rw [fa_lt] at z; omega), decide_eq_true (p := v ≤ _) (by rw [fa_le]; rw [fa_lt] at z2; omega)]; rfl
  exact e_li_admits_L_houses _ _ _ _ _ ⟨fun _ => lp (by simp), fun q => absurd q (by decide)⟩
theorem xc_2 {N : Nat} {T : Nat → Nat} {σ : St} (hT : okT2 N T) {fl : Fl} (hf : flOk fl) (h4 : fl.1 2 < 4) (F : Int32 → St → Prop) : ∀ k c, c + k = 2 → ∀ (t : Tk) (v : Nat → Int32) (τ : St), Fr PRd σ τ → tX N T τ → tOk T N t → xTk t τ → xFl fl τ → vOk fl 2 c v → (∀ j, j < c → τ 27 (2 * fl.1 2 + j) = v j) → xRes T N (lnr T N fl 2 k c t v) σ F → At hd_re_readLine X0 19 [some (rf 49 20), some (rf 39 26), some (iv (nI c))] [] τ (retI F) := by
  have hN := hT.1
  have nc : ncl 2 = 2 := rfl
  intro k
  induction k with
  | zero =>
    intro c hc t v τ ht htx htk hk hfl hvo hv hr
    obtain ⟨k2, k3, k4, k5⟩ := hk
    obtain ⟨o1, o2, o3, o4⟩ := htk
    have : c = 2 := by omega
    subst this
    refine l_re_readLine_Reader_L_houses_19 _ _ _ _ ⟨fun _ => ?_, fun z => absurd (by decide) z⟩
    rw [k4, show (3 : Int32) = nI 3 from rfl, nI_eq (by omega) (by omega)]
    simp only [lnr] at hr
    refine ⟨fun q => ?_, fun q => ?_⟩
    rotate_left
    · rw [if_neg q] at hr
      exact x_refuseB (σ := σ) (e := (1, t.1)) ht k2 hr
    rw [if_pos q] at hr
    refine x_adv hT htx (p := t.2.1) (by omega) k3 _ fun ρ hρ hkρ => ⟨Or.inr rfl, ?_⟩
    have fρ := xFl_lx (lx_20 hρ) hfl
    rw [show ρ 26 2 = nI (fl.1 2) from (fρ 2 (by omega)).1, nI_1]
    refine hr _ ((ht.tr (lx_rd hρ)).up (Or.inr (by omega))) ⟨?_, tok_ok (by omega), ?_, xFl_adl (y := 2) (by omega) fρ (fun j hj => ?_), adl_ok (by omega) hf h4 hvo⟩
    · have := tX_fr hρ htx
      exact ⟨by rw [up_ka _ _ (by omega)]; exact this.1, fun i hi => by rw [up_ka _ _ (by omega)]; exact this.2 i hi⟩
    · obtain ⟨q1, q2, q3, q4⟩ := hkρ
      exact ⟨by rw [up_ka _ _ (by omega)]; exact q1, by rw [up_ka _ _ (by omega)]; exact q2, by rw [up_ka _ _ (by omega)]; exact q3, fun z => by rw [up_ka _ _ (by omega)]; exact q4 z⟩
    · show ρ 27 (2 * fl.1 2 + j) = v j
      rw [hρ _ _ (by unfold PLx; omega)]; exact hv j hj
  | succ k ih =>
    intro c hc t v τ ht htx htk hk hfl hvo hv hr
    obtain ⟨k2, k3, k4, k5⟩ := hk
    have ⟨o1, o2, o3, o4⟩ := htk
    have ei : nI (fl.1 2) * 2 + nI c = nI (2 * fl.1 2 + c) := by rw [show (2 : Int32) = nI 2 from rfl, mulN, nI_add, Nat.mul_comm]
    simp only [lnr] at hr
    -- what was taken is put, and the next token
    have step : ∀ x : Int32, xRes T N (match (Sum.inr x : Er ⊕ Int32) with | .inl e => .inl e | .inr x => lnr T N fl 2 k (c + 1) (tok T N t.2.1) (upd v c x)) σ F → co1 T fl 2 c t = .inr x → CallV hd_re_advance [rf 49 20] (up τ 27 (2 * fl.1 2 + c) x) (fun σ8 => At hd_re_readLine X0 19 [some (rf 49 20), some (rf 39 26), some (iv (nI c + 1))] [] σ8 (retI F)) := fun x hx hco => by
      have fu : Fr PRd σ (up τ 27 (2 * fl.1 2 + c) x) := ht.up (Or.inr (by omega))
      have tu : tX N T (up τ 27 (2 * fl.1 2 + c) x) := ⟨by rw [up_ka _ _ (by omega)]; exact htx.1, fun i hi => by rw [up_ka _ _ (by omega)]; exact htx.2 i hi⟩
      have xu : xFl fl (up τ 27 (2 * fl.1 2 + c) x) := xFl_put (y := 2) hfl (by rw [nc]; omega)
      refine x_adv hT tu (p := t.2.1) (by omega) (by rw [up_ka _ _ (by omega)]; exact k3) _ fun ρ hρ hkρ => ?_
      rw [nI_1]
      refine ih (c + 1) (by omega) _ (upd v c x) ρ (fu.tr (lx_rd hρ)) (tX_fr hρ tu) (tok_ok (by omega)) hkρ (xFl_lx (lx_20 hρ) xu) (fun j hj => ?_) (fun j hj => ?_) hx
      · by_cases e : j = c
        · subst e; rw [upd_1]; exact co1_ok hco
        · rw [upd_2 e]; exact hvo j (by omega)
      · rw [hρ _ _ (by unfold PLx; omega)]
        by_cases e : j = c
        · subst e; rw [up_at, upd_1]
        · rw [up_jb _ _ (by omega), upd_2 e]; exact hv j (by omega)
    refine l_re_readLine_Reader_L_houses_19 _ _ _ _ ⟨fun z => ?_, fun _ => ?_⟩
    · exfalso; rw [show (2 : Int32) = nI 2 from rfl, nI_leI (by omega) (by omega)] at z; omega
    refine e_li_isNamed_L_houses _ _ _ _ ⟨fun _ => ⟨Or.inl rfl, of ?_⟩, fun q => absurd q (by decide)⟩
    refine e_re_takeNumber_Reader_L_houses _ _ _ _ ?_
    rw [k4, show (2 : Int32) = nI 2 from rfl, nI_eq (by omega) (by omega)]
    have e1 : co1 T fl 2 c t = if t.2.2.1 = 2 then (if adB fl 2 c t.2.2.2 then .inr t.2.2.2 else .inl (2, t.1)) else .inl (1, t.1) := by
      unfold co1; rw [if_neg (by omega)]
    rw [e1] at hr
    refine ⟨fun q => ?_, fun q => ?_⟩
    rotate_left
    · rw [if_neg q] at hr
      exact x_refuse (σ := σ) (e := (1, t.1)) ht k2 (fun μ hμ he => ⟨Or.inl rfl, fun z => absurd rfl z, fun _ => ⟨Or.inl rfl, hr μ hμ he⟩⟩)
    rw [if_pos q] at hr
    rw [k5 q]
    refine xa_2 hfl hf (by omega) _ (fun a => on' ?_) (fun a => of' ?_)
    rotate_left
    · rw [if_neg (by simp [a])] at hr
      exact x_refuse (σ := σ) (e := (2, t.1)) ht k2 (fun μ hμ he => ⟨Or.inl rfl, fun z => absurd rfl z, fun _ => ⟨Or.inl rfl, hr μ hμ he⟩⟩)
    rw [if_pos a] at hr
    refine e_li_put_L_houses _ _ _ _ _ ?_
    rw [k5 q, show τ 26 2 = nI (fl.1 2) from (hfl 2 (by omega)).1, ei]
    refine ⟨vin0 _ rfl (by omega) (by decide), Or.inr rfl, fun _ => ?_, fun z => absurd z one_ne⟩
    rw [nI_clamp (by omega)]
    exact step t.2.2.2 hr (by rw [e1, if_pos q, if_pos a])
theorem xl_2 {N : Nat} {T : Nat → Nat} {σ : St} (hT : okT2 N T) {s : Tk × Fl} (hs : xS T N s σ) (F : Int32 → St → Prop) (h : xRes T N (lin T N 2 s) σ F) : CallI hd_re_readLine [rf 49 20, rf 39 26] σ F := by
  obtain ⟨htx, htk, hk, hfl, hf⟩ := hs
  have ⟨k2, k3, k4, k5⟩ := hk
  have ⟨o1, o2, o3, o4⟩ := htk
  have b4 := hf.1 2 (by omega)
  refine e_re_readLine_Reader_L_houses _ _ _ (q_li_isFull_L_houses _ _ _ ?_)
  unfold p_li_isFull_L_houses
  rw [show σ 26 2 = nI (s.2.1 2) from (hfl 2 (by omega)).1]
  have c4 : nI (s.2.1 2) < 4 ↔ s.2.1 2 < 4 := nI_ltI (b := 4) (by omega) (by omega)
  unfold lin at h
  by_cases c : 4 ≤ s.2.1 2
  · rw [if_pos c] at h
    rw [if_neg (fun q => by have := c4.mp q; omega)]
    exact on (x_refuseB (σ := σ) (e := (3, s.1.1)) Fr.rf k2 h)
  · rw [if_neg c] at h
    rw [if_pos (c4.mpr (by omega))]
    refine of (x_adv hT htx (p := s.1.2.1) (by omega) k3 _ fun ρ hρ hkρ => ?_)
    exact xc_2 hT hf (by omega) F 2 0 (by omega) _ _ ρ (lx_rd hρ) (tX_fr hρ htx) (tok_ok (by omega)) hkρ (xFl_lx (lx_20 hρ) hfl) (fun j hj => by omega) (fun j hj => by omega) h
theorem xr_2 {N : Nat} {T : Nat → Nat} {σ : St} (hT : okT2 N T) {s : Tk × Fl} {need : Nat} (hn : need ≤ 1) (hs : xS T N s σ) (hz : s.2.1 2 = 0) (F : Int32 → St → Prop) (h : xRes T N (rq2 T N 2 need s) σ F) : CallI hd_re_readLines [rf 49 20, rf 39 26, iv (nI need)] σ F := by
  have loop : ∀ f (s : Tk × Fl) (τ : St), s.2.1 2 + f = 5 → Fr PRd σ τ → xS T N s τ → xRes T N (bd (lns T N 2 f s) (fun s' => if need ≤ s'.2.1 2 then .inr s' else .inl (1, s'.1.1))) σ F → At hd_re_readLines X0 2 [some (rf 49 20), some (rf 39 26), some (iv (nI need)), some (iv (nI (s.2.1 2)))] [] τ (retI F) := by
    intro f
    induction f with
    | zero => intro s τ hc _ hs _; have := hs.2.2.2.2.1 2 (by omega); omega
    | succ f ih =>
      intro s τ hc ht hs h
      have b4 := hs.2.2.2.2.1 2 (by omega)
      have ⟨htx, htk, hk, hfl, hf⟩ := hs
      simp only [lns] at h
      have c4 : (4 : Int32) < nI (s.2.1 2) ↔ 4 < s.2.1 2 := nI_ltI (a := 4) (by omega) (by omega)
      refine l_re_readLines_Reader_L_houses_2 _ _ _ _ _ ⟨fun z => absurd (c4.mp z) (by omega), fun _ => ?_⟩
      refine xw_2 hT htx htk hk (fun a => on ?_) (fun a => of ?_)
      rotate_left
      · rw [if_neg (by simp [a])] at h
        have h : xRes T N (if need ≤ s.2.1 2 then .inr s else .inl (1, s.1.1)) σ F := h
        refine l_re_readLines_Reader_L_houses_34 _ _ _ _ _ ?_
        rw [show τ 26 2 = nI (s.2.1 2) from (hfl 2 (by omega)).1, nI_leI (by omega) (by omega)]
        refine ⟨fun z => ⟨Or.inr rfl, ?_⟩, fun z => ?_⟩
        · rw [if_pos z] at h; exact h τ ht hs
        · rw [if_neg z] at h
          exact x_refuse (σ := σ) (e := (1, s.1.1)) ht hk.1 (fun μ hμ he => ⟨fun _ => ⟨Or.inl rfl, h μ hμ he⟩, fun w => absurd rfl w⟩)
      · rw [if_pos a] at h
        refine xl_2 hT hs _ ?_
        cases hl : lin T N 2 s with
        | inl e => rw [hl] at h; exact fun μ hμ he => ⟨fun w => absurd rfl w, fun _ => ⟨Or.inl rfl, h μ (ht.tr hμ) he⟩⟩
        | inr s1 =>
          rw [hl] at h
          intro μ hμ hs1
          refine ⟨fun _ => ?_, fun w => absurd w one_ne⟩
          have e1 := (lin_ok (by omega) hf hl).2
          have e2 : s1.2.1 2 = s.2.1 2 + 1 := by rw [e1]; simp
          rw [nI_1, ← e2]
          exact ih s1 μ (by omega) (ht.tr hμ) hs1 h
  refine e_re_readLines_Reader_L_houses _ _ _ _ ?_
  have := loop 5 s σ (by omega) Fr.rf hs h
  rw [hz] at this
  exact this
theorem xa_3 {fl : Fl} {τ : St} (hx : xFl fl τ) (hf : flOk fl) {c : Nat} (hc : c < 5) (v : Int32) {F : Int32 → St → Prop} (h1 : adB fl 3 c v = true → F 1 τ) (h0 : adB fl 3 c v = false → F 0 τ) : CallI hd_li_admits [rf 40 28, iv (nI c), iv v] τ F := by
  have cl : (nI c).toNatClampNeg = c := nI_clamp (by omega)
  have el : lsv 3 c = (stl.getD 6 []).getD c 0 := rfl
  have em : msv 3 c = (stl.getD 7 []).getD c 0 := rfl
  have vc : vp_in (nI c) 5 := vin0 c rfl hc (by decide)
  unfold adB at h1 h0
  have lp : (!(decide (3 = 0 ∧ c = 0 ∧ 0 < fl.1 0)) || decide (fl.2 0 (3 * (fl.1 0 - 1)) < v)) = true → At hd_li_admits X0 39 [some (rf 40 28), some (iv (nI c)), some (iv v), none] [iv 1] τ (retI F) := fun q => by
    rw [q, Bool.and_true] at h1 h0
    refine l_li_admits_L_cracks_39 _ _ _ _ _ _ (on ⟨vc, ?_⟩)
    rw [cl, ← el, ← em]
    refine ⟨fun z => ⟨Or.inl rfl, h0 ?_⟩, fun z => ⟨vc, fun z2 => ⟨Or.inl rfl, h0 ?_⟩, fun z2 => ⟨Or.inr rfl, h1 ?_⟩⟩⟩
    · rw [decide_eq_false (fun q => by rw [fa_le] at q; rw [fa_lt] at z; omega)]; rfl
    · rw [decide_eq_false (p := v ≤ _) (fun q => by rw [fa_le] at q; rw [fa_lt] at z2; omega)]; simp
    · rw [decide_eq_true (p := _ ≤ v) (by rw [fa_le]; rw [fa_lt] at z; omega), decide_eq_true (p := v ≤ _) (by rw [fa_le]; rw [fa_lt] at z2; omega)]; rfl
  exact e_li_admits_L_cracks _ _ _ _ _ ⟨fun _ => lp (by simp), fun q => absurd q (by decide)⟩
theorem xc_3 {N : Nat} {T : Nat → Nat} {σ : St} (hT : okT2 N T) {fl : Fl} (hf : flOk fl) (h4 : fl.1 3 < 4) (F : Int32 → St → Prop) : ∀ k c, c + k = 5 → ∀ (t : Tk) (v : Nat → Int32) (τ : St), Fr PRd σ τ → tX N T τ → tOk T N t → xTk t τ → xFl fl τ → vOk fl 3 c v → (∀ j, j < c → τ 29 (5 * fl.1 3 + j) = v j) → xRes T N (lnr T N fl 3 k c t v) σ F → At hd_re_readLine X0 19 [some (rf 49 20), some (rf 40 28), some (iv (nI c))] [] τ (retI F) := by
  have hN := hT.1
  have nc : ncl 3 = 5 := rfl
  intro k
  induction k with
  | zero =>
    intro c hc t v τ ht htx htk hk hfl hvo hv hr
    obtain ⟨k2, k3, k4, k5⟩ := hk
    obtain ⟨o1, o2, o3, o4⟩ := htk
    have : c = 5 := by omega
    subst this
    refine l_re_readLine_Reader_L_cracks_19 _ _ _ _ ⟨fun _ => ?_, fun z => absurd (by decide) z⟩
    rw [k4, show (3 : Int32) = nI 3 from rfl, nI_eq (by omega) (by omega)]
    simp only [lnr] at hr
    refine ⟨fun q => ?_, fun q => ?_⟩
    rotate_left
    · rw [if_neg q] at hr
      exact x_refuseB (σ := σ) (e := (1, t.1)) ht k2 hr
    rw [if_pos q] at hr
    refine x_adv hT htx (p := t.2.1) (by omega) k3 _ fun ρ hρ hkρ => ⟨Or.inr rfl, ?_⟩
    have fρ := xFl_lx (lx_20 hρ) hfl
    rw [show ρ 28 2 = nI (fl.1 3) from (fρ 3 (by omega)).1, nI_1]
    refine hr _ ((ht.tr (lx_rd hρ)).up (Or.inr (by omega))) ⟨?_, tok_ok (by omega), ?_, xFl_adl (y := 3) (by omega) fρ (fun j hj => ?_), adl_ok (by omega) hf h4 hvo⟩
    · have := tX_fr hρ htx
      exact ⟨by rw [up_ka _ _ (by omega)]; exact this.1, fun i hi => by rw [up_ka _ _ (by omega)]; exact this.2 i hi⟩
    · obtain ⟨q1, q2, q3, q4⟩ := hkρ
      exact ⟨by rw [up_ka _ _ (by omega)]; exact q1, by rw [up_ka _ _ (by omega)]; exact q2, by rw [up_ka _ _ (by omega)]; exact q3, fun z => by rw [up_ka _ _ (by omega)]; exact q4 z⟩
    · show ρ 29 (5 * fl.1 3 + j) = v j
      rw [hρ _ _ (by unfold PLx; omega)]; exact hv j hj
  | succ k ih =>
    intro c hc t v τ ht htx htk hk hfl hvo hv hr
    obtain ⟨k2, k3, k4, k5⟩ := hk
    have ⟨o1, o2, o3, o4⟩ := htk
    have ei : nI (fl.1 3) * 5 + nI c = nI (5 * fl.1 3 + c) := by rw [show (5 : Int32) = nI 5 from rfl, mulN, nI_add, Nat.mul_comm]
    simp only [lnr] at hr
    -- what was taken is put, and the next token
    have step : ∀ x : Int32, xRes T N (match (Sum.inr x : Er ⊕ Int32) with | .inl e => .inl e | .inr x => lnr T N fl 3 k (c + 1) (tok T N t.2.1) (upd v c x)) σ F → co1 T fl 3 c t = .inr x → CallV hd_re_advance [rf 49 20] (up τ 29 (5 * fl.1 3 + c) x) (fun σ8 => At hd_re_readLine X0 19 [some (rf 49 20), some (rf 40 28), some (iv (nI c + 1))] [] σ8 (retI F)) := fun x hx hco => by
      have fu : Fr PRd σ (up τ 29 (5 * fl.1 3 + c) x) := ht.up (Or.inr (by omega))
      have tu : tX N T (up τ 29 (5 * fl.1 3 + c) x) := ⟨by rw [up_ka _ _ (by omega)]; exact htx.1, fun i hi => by rw [up_ka _ _ (by omega)]; exact htx.2 i hi⟩
      have xu : xFl fl (up τ 29 (5 * fl.1 3 + c) x) := xFl_put (y := 3) hfl (by rw [nc]; omega)
      refine x_adv hT tu (p := t.2.1) (by omega) (by rw [up_ka _ _ (by omega)]; exact k3) _ fun ρ hρ hkρ => ?_
      rw [nI_1]
      refine ih (c + 1) (by omega) _ (upd v c x) ρ (fu.tr (lx_rd hρ)) (tX_fr hρ tu) (tok_ok (by omega)) hkρ (xFl_lx (lx_20 hρ) xu) (fun j hj => ?_) (fun j hj => ?_) hx
      · by_cases e : j = c
        · subst e; rw [upd_1]; exact co1_ok hco
        · rw [upd_2 e]; exact hvo j (by omega)
      · rw [hρ _ _ (by unfold PLx; omega)]
        by_cases e : j = c
        · subst e; rw [up_at, upd_1]
        · rw [up_jb _ _ (by omega), upd_2 e]; exact hv j (by omega)
    refine l_re_readLine_Reader_L_cracks_19 _ _ _ _ ⟨fun z => ?_, fun _ => ?_⟩
    · exfalso; rw [show (5 : Int32) = nI 5 from rfl, nI_leI (by omega) (by omega)] at z; omega
    refine e_li_isNamed_L_cracks _ _ _ _ ⟨fun _ => ⟨Or.inl rfl, of ?_⟩, fun q => absurd q (by decide)⟩
    refine e_re_takeNumber_Reader_L_cracks _ _ _ _ ?_
    rw [k4, show (2 : Int32) = nI 2 from rfl, nI_eq (by omega) (by omega)]
    have e1 : co1 T fl 3 c t = if t.2.2.1 = 2 then (if adB fl 3 c t.2.2.2 then .inr t.2.2.2 else .inl (2, t.1)) else .inl (1, t.1) := by
      unfold co1; rw [if_neg (by omega)]
    rw [e1] at hr
    refine ⟨fun q => ?_, fun q => ?_⟩
    rotate_left
    · rw [if_neg q] at hr
      exact x_refuse (σ := σ) (e := (1, t.1)) ht k2 (fun μ hμ he => ⟨Or.inl rfl, fun z => absurd rfl z, fun _ => ⟨Or.inl rfl, hr μ hμ he⟩⟩)
    rw [if_pos q] at hr
    rw [k5 q]
    refine xa_3 hfl hf (by omega) _ (fun a => on' ?_) (fun a => of' ?_)
    rotate_left
    · rw [if_neg (by simp [a])] at hr
      exact x_refuse (σ := σ) (e := (2, t.1)) ht k2 (fun μ hμ he => ⟨Or.inl rfl, fun z => absurd rfl z, fun _ => ⟨Or.inl rfl, hr μ hμ he⟩⟩)
    rw [if_pos a] at hr
    refine e_li_put_L_cracks _ _ _ _ _ ?_
    rw [k5 q, show τ 28 2 = nI (fl.1 3) from (hfl 3 (by omega)).1, ei]
    refine ⟨vin0 _ rfl (by omega) (by decide), Or.inr rfl, fun _ => ?_, fun z => absurd z one_ne⟩
    rw [nI_clamp (by omega)]
    exact step t.2.2.2 hr (by rw [e1, if_pos q, if_pos a])
theorem xl_3 {N : Nat} {T : Nat → Nat} {σ : St} (hT : okT2 N T) {s : Tk × Fl} (hs : xS T N s σ) (F : Int32 → St → Prop) (h : xRes T N (lin T N 3 s) σ F) : CallI hd_re_readLine [rf 49 20, rf 40 28] σ F := by
  obtain ⟨htx, htk, hk, hfl, hf⟩ := hs
  have ⟨k2, k3, k4, k5⟩ := hk
  have ⟨o1, o2, o3, o4⟩ := htk
  have b4 := hf.1 3 (by omega)
  refine e_re_readLine_Reader_L_cracks _ _ _ (q_li_isFull_L_cracks _ _ _ ?_)
  unfold p_li_isFull_L_cracks
  rw [show σ 28 2 = nI (s.2.1 3) from (hfl 3 (by omega)).1]
  have c4 : nI (s.2.1 3) < 4 ↔ s.2.1 3 < 4 := nI_ltI (b := 4) (by omega) (by omega)
  unfold lin at h
  by_cases c : 4 ≤ s.2.1 3
  · rw [if_pos c] at h
    rw [if_neg (fun q => by have := c4.mp q; omega)]
    exact on (x_refuseB (σ := σ) (e := (3, s.1.1)) Fr.rf k2 h)
  · rw [if_neg c] at h
    rw [if_pos (c4.mpr (by omega))]
    refine of (x_adv hT htx (p := s.1.2.1) (by omega) k3 _ fun ρ hρ hkρ => ?_)
    exact xc_3 hT hf (by omega) F 5 0 (by omega) _ _ ρ (lx_rd hρ) (tX_fr hρ htx) (tok_ok (by omega)) hkρ (xFl_lx (lx_20 hρ) hfl) (fun j hj => by omega) (fun j hj => by omega) h
theorem xa_4 {fl : Fl} {τ : St} (hx : xFl fl τ) (hf : flOk fl) {c : Nat} (hc : c < 2) (v : Int32) {F : Int32 → St → Prop} (h1 : adB fl 4 c v = true → F 1 τ) (h0 : adB fl 4 c v = false → F 0 τ) : CallI hd_li_admits [rf 41 30, iv (nI c), iv v] τ F := by
  have cl : (nI c).toNatClampNeg = c := nI_clamp (by omega)
  have el : lsv 4 c = (stl.getD 8 []).getD c 0 := rfl
  have em : msv 4 c = (stl.getD 9 []).getD c 0 := rfl
  have vc : vp_in (nI c) 2 := vin0 c rfl hc (by decide)
  unfold adB at h1 h0
  have lp : (!(decide (4 = 0 ∧ c = 0 ∧ 0 < fl.1 0)) || decide (fl.2 0 (3 * (fl.1 0 - 1)) < v)) = true → At hd_li_admits X0 39 [some (rf 41 30), some (iv (nI c)), some (iv v), none] [iv 1] τ (retI F) := fun q => by
    rw [q, Bool.and_true] at h1 h0
    refine l_li_admits_L_stories_39 _ _ _ _ _ _ (on ⟨vc, ?_⟩)
    rw [cl, ← el, ← em]
    refine ⟨fun z => ⟨Or.inl rfl, h0 ?_⟩, fun z => ⟨vc, fun z2 => ⟨Or.inl rfl, h0 ?_⟩, fun z2 => ⟨Or.inr rfl, h1 ?_⟩⟩⟩
    · rw [decide_eq_false (fun q => by rw [fa_le] at q; rw [fa_lt] at z; omega)]; rfl
    · rw [decide_eq_false (p := v ≤ _) (fun q => by rw [fa_le] at q; rw [fa_lt] at z2; omega)]; simp
    · rw [decide_eq_true (p := _ ≤ v) (by rw [fa_le]; rw [fa_lt] at z; omega), decide_eq_true (p := v ≤ _) (by rw [fa_le]; rw [fa_lt] at z2; omega)]; rfl
  exact e_li_admits_L_stories _ _ _ _ _ ⟨fun _ => lp (by simp), fun q => absurd q (by decide)⟩
theorem xc_4 {N : Nat} {T : Nat → Nat} {σ : St} (hT : okT2 N T) {fl : Fl} (hf : flOk fl) (h4 : fl.1 4 < 4) (F : Int32 → St → Prop) : ∀ k c, c + k = 2 → ∀ (t : Tk) (v : Nat → Int32) (τ : St), Fr PRd σ τ → tX N T τ → tOk T N t → xTk t τ → xFl fl τ → vOk fl 4 c v → (∀ j, j < c → τ 31 (2 * fl.1 4 + j) = v j) → xRes T N (lnr T N fl 4 k c t v) σ F → At hd_re_readLine X0 19 [some (rf 49 20), some (rf 41 30), some (iv (nI c))] [] τ (retI F) := by
  have hN := hT.1
  have nc : ncl 4 = 2 := rfl
  intro k
  induction k with
  | zero =>
    intro c hc t v τ ht htx htk hk hfl hvo hv hr
    obtain ⟨k2, k3, k4, k5⟩ := hk
    obtain ⟨o1, o2, o3, o4⟩ := htk
    have : c = 2 := by omega
    subst this
    refine l_re_readLine_Reader_L_stories_19 _ _ _ _ ⟨fun _ => ?_, fun z => absurd (by decide) z⟩
    rw [k4, show (3 : Int32) = nI 3 from rfl, nI_eq (by omega) (by omega)]
    simp only [lnr] at hr
    refine ⟨fun q => ?_, fun q => ?_⟩
    rotate_left
    · rw [if_neg q] at hr
      exact x_refuseB (σ := σ) (e := (1, t.1)) ht k2 hr
    rw [if_pos q] at hr
    refine x_adv hT htx (p := t.2.1) (by omega) k3 _ fun ρ hρ hkρ => ⟨Or.inr rfl, ?_⟩
    have fρ := xFl_lx (lx_20 hρ) hfl
    rw [show ρ 30 2 = nI (fl.1 4) from (fρ 4 (by omega)).1, nI_1]
    refine hr _ ((ht.tr (lx_rd hρ)).up (Or.inr (by omega))) ⟨?_, tok_ok (by omega), ?_, xFl_adl (y := 4) (by omega) fρ (fun j hj => ?_), adl_ok (by omega) hf h4 hvo⟩
    · have := tX_fr hρ htx
      exact ⟨by rw [up_ka _ _ (by omega)]; exact this.1, fun i hi => by rw [up_ka _ _ (by omega)]; exact this.2 i hi⟩
    · obtain ⟨q1, q2, q3, q4⟩ := hkρ
      exact ⟨by rw [up_ka _ _ (by omega)]; exact q1, by rw [up_ka _ _ (by omega)]; exact q2, by rw [up_ka _ _ (by omega)]; exact q3, fun z => by rw [up_ka _ _ (by omega)]; exact q4 z⟩
    · show ρ 31 (2 * fl.1 4 + j) = v j
      rw [hρ _ _ (by unfold PLx; omega)]; exact hv j hj
  | succ k ih =>
    intro c hc t v τ ht htx htk hk hfl hvo hv hr
    obtain ⟨k2, k3, k4, k5⟩ := hk
    have ⟨o1, o2, o3, o4⟩ := htk
    have ei : nI (fl.1 4) * 2 + nI c = nI (2 * fl.1 4 + c) := by rw [show (2 : Int32) = nI 2 from rfl, mulN, nI_add, Nat.mul_comm]
    simp only [lnr] at hr
    -- what was taken is put, and the next token
    have step : ∀ x : Int32, xRes T N (match (Sum.inr x : Er ⊕ Int32) with | .inl e => .inl e | .inr x => lnr T N fl 4 k (c + 1) (tok T N t.2.1) (upd v c x)) σ F → co1 T fl 4 c t = .inr x → CallV hd_re_advance [rf 49 20] (up τ 31 (2 * fl.1 4 + c) x) (fun σ8 => At hd_re_readLine X0 19 [some (rf 49 20), some (rf 41 30), some (iv (nI c + 1))] [] σ8 (retI F)) := fun x hx hco => by
      have fu : Fr PRd σ (up τ 31 (2 * fl.1 4 + c) x) := ht.up (Or.inr (by omega))
      have tu : tX N T (up τ 31 (2 * fl.1 4 + c) x) := ⟨by rw [up_ka _ _ (by omega)]; exact htx.1, fun i hi => by rw [up_ka _ _ (by omega)]; exact htx.2 i hi⟩
      have xu : xFl fl (up τ 31 (2 * fl.1 4 + c) x) := xFl_put (y := 4) hfl (by rw [nc]; omega)
      refine x_adv hT tu (p := t.2.1) (by omega) (by rw [up_ka _ _ (by omega)]; exact k3) _ fun ρ hρ hkρ => ?_
      rw [nI_1]
      refine ih (c + 1) (by omega) _ (upd v c x) ρ (fu.tr (lx_rd hρ)) (tX_fr hρ tu) (tok_ok (by omega)) hkρ (xFl_lx (lx_20 hρ) xu) (fun j hj => ?_) (fun j hj => ?_) hx
      · by_cases e : j = c
        · subst e; rw [upd_1]; exact co1_ok hco
        · rw [upd_2 e]; exact hvo j (by omega)
      · rw [hρ _ _ (by unfold PLx; omega)]
        by_cases e : j = c
        · subst e; rw [up_at, upd_1]
        · rw [up_jb _ _ (by omega), upd_2 e]; exact hv j (by omega)
    refine l_re_readLine_Reader_L_stories_19 _ _ _ _ ⟨fun z => ?_, fun _ => ?_⟩
    · exfalso; rw [show (2 : Int32) = nI 2 from rfl, nI_leI (by omega) (by omega)] at z; omega
    have c0 : nI c = 0 ↔ c = 0 := nI_eq (b := 0) (by omega) (by omega)
    refine e_li_isNamed_L_stories _ _ _ _ ⟨fun q => absurd rfl q, fun _ => ?_⟩
    rw [c0]
    refine ⟨fun cn => ⟨Or.inl rfl, of ?_⟩, fun cn => ⟨Or.inr rfl, on ?_⟩⟩
    · refine e_re_takeNumber_Reader_L_stories _ _ _ _ ?_
      rw [k4, show (2 : Int32) = nI 2 from rfl, nI_eq (by omega) (by omega)]
      have e1 : co1 T fl 4 c t = if t.2.2.1 = 2 then (if adB fl 4 c t.2.2.2 then .inr t.2.2.2 else .inl (2, t.1)) else .inl (1, t.1) := by
        unfold co1; rw [if_neg (by omega)]
      rw [e1] at hr
      refine ⟨fun q => ?_, fun q => ?_⟩
      rotate_left
      · rw [if_neg q] at hr
        exact x_refuse (σ := σ) (e := (1, t.1)) ht k2 (fun μ hμ he => ⟨Or.inl rfl, fun z => absurd rfl z, fun _ => ⟨Or.inl rfl, hr μ hμ he⟩⟩)
      rw [if_pos q] at hr
      rw [k5 q]
      refine xa_4 hfl hf (by omega) _ (fun a => on' ?_) (fun a => of' ?_)
      rotate_left
      · rw [if_neg (by simp [a])] at hr
        exact x_refuse (σ := σ) (e := (2, t.1)) ht k2 (fun μ hμ he => ⟨Or.inl rfl, fun z => absurd rfl z, fun _ => ⟨Or.inl rfl, hr μ hμ he⟩⟩)
      rw [if_pos a] at hr
      refine e_li_put_L_stories _ _ _ _ _ ?_
      rw [k5 q, show τ 30 2 = nI (fl.1 4) from (hfl 4 (by omega)).1, ei]
      refine ⟨vin0 _ rfl (by omega) (by decide), Or.inr rfl, fun _ => ?_, fun z => absurd z one_ne⟩
      rw [nI_clamp (by omega)]
      exact step t.2.2.2 hr (by rw [e1, if_pos q, if_pos a])
    · refine e_re_takeWhich _ _ ?_
      have e1 : co1 T fl 4 c t = ow t.1 (whB T fl t) := by unfold co1; rw [if_pos ⟨rfl, by omega⟩]
      rw [e1] at hr
      have put : ∀ x : Int32, 0 ≤ x → whB T fl t = some x → At hd_re_takeWhich X0 66 [some (rf 49 20), none] [iv x] τ (retI (fun r10 σ9 => (¬ r10 = 0 → CallV hd_re_advance [rf 49 20] σ9 (fun σ11 => At hd_re_readLine X0 19 [some (rf 49 20), some (rf 41 30), some (iv (nI c + 1))] [] σ11 (retI F))) ∧ (r10 = 0 → isB 0 ∧ F 0 σ9))) := fun x hx0 ex => by
        rw [ex] at hr
        refine l_re_takeWhich_66 _ _ _ ⟨fun _ => e_li_put_L_stories _ _ _ _ _ ?_, fun q => absurd hx0 q⟩
        rw [show τ 30 2 = nI (fl.1 4) from (hfl 4 (by omega)).1]
        have ei0 : nI (fl.1 4) * 2 + 0 = nI (2 * fl.1 4 + c) := by rw [← ei, show c = 0 by omega]; rfl
        rw [ei0]
        refine ⟨vin0 _ rfl (by omega) (by decide), Or.inr rfl, fun _ => ?_, fun z => absurd z one_ne⟩
        rw [nI_clamp (by omega)]
        exact step x hr (by rw [e1, ex]; rfl)
      have no : whB T fl t = none → At hd_re_takeWhich X0 66 [some (rf 49 20), none] [iv (-1)] τ (retI (fun r10 σ9 => (¬ r10 = 0 → CallV hd_re_advance [rf 49 20] σ9 (fun σ11 => At hd_re_readLine X0 19 [some (rf 49 20), some (rf 41 30), some (iv (nI c + 1))] [] σ11 (retI F))) ∧ (r10 = 0 → isB 0 ∧ F 0 σ9))) := fun ex => by
        rw [ex] at hr
        refine l_re_takeWhich_66 _ _ _ ⟨fun q => absurd q (by decide), fun _ => ?_⟩
        exact x_refuse (σ := σ) (e := (1, t.1)) ht k2 (fun μ hμ he => ⟨Or.inl rfl, fun z => absurd rfl z, fun _ => ⟨Or.inl rfl, hr μ hμ he⟩⟩)
      have w0 : whB T fl t = (if wB T t 5 then some 0 else if wB T t 6 then some 1 else if wB T t 7 then some 3 else if wB T t 3 then (if 0 < fl.1 3 then some 2 else none) else none) := rfl
      refine xw_5 hT htx htk ⟨k2, k3, k4, k5⟩ (fun a => on (put 0 (by decide) (by rw [w0, if_pos a]))) (fun a5 => of ?_)
      refine xw_6 hT htx htk ⟨k2, k3, k4, k5⟩ (fun a => on (put 1 (by decide) (by rw [w0, if_neg (by simp [a5]), if_pos a]))) (fun a6 => of ?_)
      refine xw_7 hT htx htk ⟨k2, k3, k4, k5⟩ (fun a => on (put 3 (by decide) (by rw [w0, if_neg (by simp [a5]), if_neg (by simp [a6]), if_pos a]))) (fun a7 => of ?_)
      refine xw_3 hT htx htk ⟨k2, k3, k4, k5⟩ (fun a => on ?_) (fun a => of (no (by rw [w0, if_neg (by simp [a5]), if_neg (by simp [a6]), if_neg (by simp [a7]), if_neg (by simp [a])])))
      have b3 := hf.1 3 (by omega)
      rw [show τ 28 2 = nI (fl.1 3) from (hfl 3 (by omega)).1]
      have c3 : nI (fl.1 3) ≤ 0 ↔ fl.1 3 ≤ 0 := nI_leI (b := 0) (by omega) (by omega)
      rw [c3]
      refine ⟨fun q => no ?_, fun q => put 2 (by decide) ?_⟩
      · rw [w0, if_neg (by simp [a5]), if_neg (by simp [a6]), if_neg (by simp [a7]), if_pos a, if_neg (by omega)]
      · rw [w0, if_neg (by simp [a5]), if_neg (by simp [a6]), if_neg (by simp [a7]), if_pos a, if_pos (by omega)]
theorem xl_4 {N : Nat} {T : Nat → Nat} {σ : St} (hT : okT2 N T) {s : Tk × Fl} (hs : xS T N s σ) (F : Int32 → St → Prop) (h : xRes T N (lin T N 4 s) σ F) : CallI hd_re_readLine [rf 49 20, rf 41 30] σ F := by
  obtain ⟨htx, htk, hk, hfl, hf⟩ := hs
  have ⟨k2, k3, k4, k5⟩ := hk
  have ⟨o1, o2, o3, o4⟩ := htk
  have b4 := hf.1 4 (by omega)
  refine e_re_readLine_Reader_L_stories _ _ _ (q_li_isFull_L_stories _ _ _ ?_)
  unfold p_li_isFull_L_stories
  rw [show σ 30 2 = nI (s.2.1 4) from (hfl 4 (by omega)).1]
  have c4 : nI (s.2.1 4) < 4 ↔ s.2.1 4 < 4 := nI_ltI (b := 4) (by omega) (by omega)
  unfold lin at h
  by_cases c : 4 ≤ s.2.1 4
  · rw [if_pos c] at h
    rw [if_neg (fun q => by have := c4.mp q; omega)]
    exact on (x_refuseB (σ := σ) (e := (3, s.1.1)) Fr.rf k2 h)
  · rw [if_neg c] at h
    rw [if_pos (c4.mpr (by omega))]
    refine of (x_adv hT htx (p := s.1.2.1) (by omega) k3 _ fun ρ hρ hkρ => ?_)
    exact xc_4 hT hf (by omega) F 2 0 (by omega) _ _ ρ (lx_rd hρ) (tX_fr hρ htx) (tok_ok (by omega)) hkρ (xFl_lx (lx_20 hρ) hfl) (fun j hj => by omega) (fun j hj => by omega) h
theorem xr_4 {N : Nat} {T : Nat → Nat} {σ : St} (hT : okT2 N T) {s : Tk × Fl} {need : Nat} (hn : need ≤ 1) (hs : xS T N s σ) (hz : s.2.1 4 = 0) (F : Int32 → St → Prop) (h : xRes T N (rq2 T N 4 need s) σ F) : CallI hd_re_readLines [rf 49 20, rf 41 30, iv (nI need)] σ F := by
  have loop : ∀ f (s : Tk × Fl) (τ : St), s.2.1 4 + f = 5 → Fr PRd σ τ → xS T N s τ → xRes T N (bd (lns T N 4 f s) (fun s' => if need ≤ s'.2.1 4 then .inr s' else .inl (1, s'.1.1))) σ F → At hd_re_readLines X0 2 [some (rf 49 20), some (rf 41 30), some (iv (nI need)), some (iv (nI (s.2.1 4)))] [] τ (retI F) := by
    intro f
    induction f with
    | zero => intro s τ hc _ hs _; have := hs.2.2.2.2.1 4 (by omega); omega
    | succ f ih =>
      intro s τ hc ht hs h
      have b4 := hs.2.2.2.2.1 4 (by omega)
      have ⟨htx, htk, hk, hfl, hf⟩ := hs
      simp only [lns] at h
      have c4 : (4 : Int32) < nI (s.2.1 4) ↔ 4 < s.2.1 4 := nI_ltI (a := 4) (by omega) (by omega)
      refine l_re_readLines_Reader_L_stories_2 _ _ _ _ _ ⟨fun z => absurd (c4.mp z) (by omega), fun _ => ?_⟩
      refine xw_4 hT htx htk hk (fun a => on ?_) (fun a => of ?_)
      rotate_left
      · rw [if_neg (by simp [a])] at h
        have h : xRes T N (if need ≤ s.2.1 4 then .inr s else .inl (1, s.1.1)) σ F := h
        refine l_re_readLines_Reader_L_stories_34 _ _ _ _ _ ?_
        rw [show τ 30 2 = nI (s.2.1 4) from (hfl 4 (by omega)).1, nI_leI (by omega) (by omega)]
        refine ⟨fun z => ⟨Or.inr rfl, ?_⟩, fun z => ?_⟩
        · rw [if_pos z] at h; exact h τ ht hs
        · rw [if_neg z] at h
          exact x_refuse (σ := σ) (e := (1, s.1.1)) ht hk.1 (fun μ hμ he => ⟨fun _ => ⟨Or.inl rfl, h μ hμ he⟩, fun w => absurd rfl w⟩)
      · rw [if_pos a] at h
        refine xl_4 hT hs _ ?_
        cases hl : lin T N 4 s with
        | inl e => rw [hl] at h; exact fun μ hμ he => ⟨fun w => absurd rfl w, fun _ => ⟨Or.inl rfl, h μ (ht.tr hμ) he⟩⟩
        | inr s1 =>
          rw [hl] at h
          intro μ hμ hs1
          refine ⟨fun _ => ?_, fun w => absurd w one_ne⟩
          have e1 := (lin_ok (by omega) hf hl).2
          have e2 : s1.2.1 4 = s.2.1 4 + 1 := by rw [e1]; simp
          rw [nI_1, ← e2]
          exact ih s1 μ (by omega) (ht.tr hμ) hs1 h
  refine e_re_readLines_Reader_L_stories _ _ _ _ ?_
  have := loop 5 s σ (by omega) Fr.rf hs h
  rw [hz] at this
  exact this
