/-! the reference reads its lines -/
def ofs (y : Nat) : Nat := match y with
  | 0 => 5
  | 1 => 17
  | 2 => 41
  | 3 => 49
  | _ => 54
def szs (y : Nat) : Nat := match y with
  | 0 => 12
  | 1 => 24
  | 2 => 8
  | 3 => 5
  | _ => 8
theorem reg {y z i j : Nat} (hy : y < 5) (hz : z < 5) (ne : y ≠ z) (hi : i < szs y) (hj : j < szs z) : ofs y + i ≠ ofs z + j := by
  rcases (show y = 0 ∨ y = 1 ∨ y = 2 ∨ y = 3 ∨ y = 4 by omega) with e | e | e | e | e <;> subst e <;> rcases (show z = 0 ∨ z = 1 ∨ z = 2 ∨ z = 3 ∨ z = 4 by omega) with e | e | e | e | e <;> subst e <;> simp only [szs, ofs] at * <;> omega
theorem reg5 {y i : Nat} (hy : y < 5) (hi : i < szs y) : 5 ≤ ofs y + i ∧ ofs y + i < 62 := by
  rcases (show y = 0 ∨ y = 1 ∨ y = 2 ∨ y = 3 ∨ y = 4 by omega) with e | e | e | e | e <;> subst e <;> simp only [szs, ofs] at * <;> omega
def rmOk (fl : Fl) : Prop := flOk fl ∧ fl.1 3 ≤ 1
theorem in_sz {fl : Fl} (h : rmOk fl) {y i : Nat} (hy : y < 5) (hi : i < ncl y * fl.1 y) : i < szs y := by
  have h4 := h.1.1 y hy
  have h3 := h.2
  rcases (show y = 0 ∨ y = 1 ∨ y = 2 ∨ y = 3 ∨ y = 4 by omega) with e | e | e | e | e <;> subst e <;> simp only [szs, ncl] at * <;> omega
theorem at_sz {fl : Fl} (h : rmOk fl) {y c : Nat} (hy : y < 5) (h4 : fl.1 y < 4) (h3 : y = 3 → fl.1 3 = 0) (hc : c < ncl y) : ncl y * fl.1 y + c < szs y := by
  by_cases y3 : y = 3
  · have := h3 y3
    subst y3
    simp only [szs, ncl] at *
    omega
  · rcases (show y = 0 ∨ y = 1 ∨ y = 2 ∨ y = 4 by omega) with e | e | e | e <;> subst e <;> simp only [szs, ncl] at * <;> omega
def PRm (a b : Nat) : Prop := (a = 122 ∧ 13 ≤ b ∧ b ≤ 19) ∨ a = 127
theorem lm_rm {σ τ : St} (h : Fr PLm σ τ) : Fr PRm σ τ := h.mn fun a b q => Or.inl ⟨q.1, q.2.1, by have := q.2.2; omega⟩
def mFl (fl : Fl) (σ : St) : Prop := ∀ y, y < 5 → σ 127 y = nI (fl.1 y) ∧ ∀ i, i < ncl y * fl.1 y → σ 127 (ofs y + i) = fl.2 y i
def mE (T : Nat → Nat) (N : Nat) (e : Er) (σ : St) : Prop := tL N T σ ∧ (1 ≤ e.1 ∧ e.1 ≤ 3) ∧ σ 122 18 = nI e.1 ∧ σ 122 19 = nI e.2 ∧ ∃ t, tOk T N t ∧ mTk t σ
def mL (T : Nat → Nat) (N : Nat) (s : Tk × Fl) (σ : St) : Prop := tL N T σ ∧ σ 122 18 = 0 ∧ tOk T N s.1 ∧ mTk s.1 σ ∧ mFl s.2 σ ∧ rmOk s.2
def mS (T : Nat → Nat) (N : Nat) (r : PR1) (σ : St) : Prop := match r with
  | .inl e => mE T N e σ
  | .inr s => mL T N s σ
theorem mE_n {T : Nat → Nat} {N : Nat} {e : Er} {σ : St} (h : mE T N e σ) : ¬ σ 122 18 = 0 := by
  have := h.2.1
  rw [h.2.2.1, show (0 : Int32) = nI 0 from rfl, nI_eq (by omega) (by omega)]; omega
theorem mTk_127 {t : Tk} {σ : St} {i : Nat} {v : Int32} (h : mTk t σ) : mTk t (up σ 127 i v) := by
  obtain ⟨h1, h2, h3, h4⟩ := h
  exact ⟨by rw [up_ka _ _ (by omega)]; exact h1, by rw [up_ka _ _ (by omega)]; exact h2, fun q => ⟨by rw [up_ka _ _ (by omega)]; exact (h3 q).1, by rw [up_ka _ _ (by omega)]; exact (h3 q).2⟩, fun q => by rw [up_ka _ _ (by omega)]; exact h4 q⟩
theorem tL_127 {T : Nat → Nat} {N : Nat} {σ : St} {i : Nat} {v : Int32} (h : tL N T σ) : tL N T (up σ 127 i v) := ⟨fun j hj => by rw [up_ka _ _ (by omega)]; exact h.1 j hj, by rw [up_ka _ _ (by omega)]; exact h.2⟩
theorem mE_127 {T : Nat → Nat} {N : Nat} {e : Er} {σ : St} {i : Nat} {v : Int32} (h : mE T N e σ) : mE T N e (up σ 127 i v) := by
  obtain ⟨h1, h2, h3, h4, t, h5, h6⟩ := h
  exact ⟨tL_127 h1, h2, by rw [up_ka _ _ (by omega)]; exact h3, by rw [up_ka _ _ (by omega)]; exact h4, t, h5, mTk_127 h6⟩
theorem mFl_lm {fl : Fl} {σ τ : St} (h : Fr (fun a _ => a = 122) σ τ) (hx : mFl fl σ) : mFl fl τ := fun y hy => ⟨by rw [h _ _ (by omega)]; exact (hx y hy).1, fun i hi => by rw [h _ _ (by omega)]; exact (hx y hy).2 i hi⟩
theorem lm_122 {σ τ : St} (h : Fr PLm σ τ) : Fr (fun a _ => a = 122) σ τ := h.mn fun a b q => q.1
/-- a fault is told -/
def bdU (σ : St) (k : Nat) : St := up (up σ 122 18 (nI k)) 122 19 (σ 122 15)
theorem bdU_E {T : Nat → Nat} {N : Nat} {σ : St} {t : Tk} {k : Nat} (hk : 1 ≤ k ∧ k ≤ 3) (hL : tL N T σ) (ht : tOk T N t) (hm : mTk t σ) : mE T N (k, t.1) (bdU σ k) ∧ Fr PRm σ (bdU σ k) := by
  obtain ⟨h1, h2, h3, h4⟩ := hm
  have f : Fr PRm σ (bdU σ k) := (Fr.rf.up (Or.inl ⟨rfl, by omega, by omega⟩)).up (Or.inl ⟨rfl, by omega, by omega⟩)
  have e : ∀ b, b ≠ 18 → b ≠ 19 → bdU σ k 122 b = σ 122 b := fun b n1 n2 => by unfold bdU; rw [up_jb _ _ n2, up_jb _ _ n1]
  refine ⟨⟨⟨fun i hi => by rw [f _ _ (by unfold PRm; omega)]; exact hL.1 i hi, by rw [e _ (by omega) (by omega)]; exact hL.2⟩, hk, ?_, ?_, t, ht, ⟨?_, ?_, fun q => ⟨?_, ?_⟩, fun q => ?_⟩⟩, f⟩
  · unfold bdU; rw [up_jb _ _ (by omega), up_at]
  · unfold bdU; rw [up_at]; exact h1
  · rw [e _ (by omega) (by omega)]; exact h1
  · rw [e _ (by omega) (by omega)]; exact h2
  · rw [e _ (by omega) (by omega)]; exact (h3 q).1
  · rw [e _ (by omega) (by omega)]; exact (h3 q).2
  · rw [e _ (by omega) (by omega)]; exact h4 q
theorem m_badL {σ : St} {k : Nat} (h0 : σ 122 18 = 0) {F : St → Prop} (h : F (bdU σ k)) : CallV hd_m_bad [rf 55 122, iv (nI k)] σ F := by
  refine e_m_bad _ _ _ ⟨fun q => absurd h0 q, fun _ => ?_⟩
  rw [up_jb _ _ (by omega)]; exact h
theorem m_badD {σ : St} {a : Int32} (h0 : ¬ σ 122 18 = 0) {F : St → Prop} (h : F σ) : CallV hd_m_bad [rf 55 122, iv a] σ F := e_m_bad _ _ _ ⟨fun _ => h, fun q => absurd q h0⟩
theorem bdU_18 {σ : St} {k : Nat} (hk : 1 ≤ k ∧ k ≤ 3) : ¬ bdU σ k 122 18 = 0 := by
  unfold bdU
  rw [up_jb _ _ (by omega), up_at, show (0 : Int32) = nI 0 from rfl, nI_eq (by omega) (by omega)]; omega
theorem m_must1 {T : Nat → Nat} {N : Nat} {σ : St} {t : Tk} (hT : okT2 N T) (h0 : σ 122 18 = 0) (hL : tL N T σ) (ht : tOk T N t) (hm : mTk t σ) (h4 : ¬ t.2.2.1 = 4) {F : St → Prop} (h : ∀ τ, Fr PLm σ τ → mTk (tok T N t.2.1) τ → F τ) : CallV hd_m_must [rf 55 122, iv 1] σ F := by
  refine e_m_must _ _ _ (on' (l_m_must_9 _ _ _ ⟨fun q => absurd h0 q, fun _ => ?_⟩))
  exact m_next hT hL (p := t.2.1) ht.2.1 (hm.2.2.1 h4).1 _ h
theorem m_must0 {σ : St} (h0 : σ 122 18 = 0) {F : St → Prop} (h : F (bdU σ 1)) : CallV hd_m_must [rf 55 122, iv 0] σ F :=
  e_m_must _ _ _ (of' (m_badL (k := 1) h0 (l_m_must_9 _ _ _ ⟨fun _ => h, fun q => absurd q (bdU_18 (by omega))⟩)))
theorem m_mustD {σ : St} {a : Int32} (h0 : ¬ σ 122 18 = 0) {F : St → Prop} (h : F σ) : CallV hd_m_must [rf 55 122, iv a] σ F :=
  e_m_must _ _ _ ⟨fun _ => l_m_must_9 _ _ _ ⟨fun _ => h, fun q => absurd q h0⟩, fun _ => m_badD h0 (l_m_must_9 _ _ _ ⟨fun _ => h, fun q => absurd q h0⟩)⟩
theorem m_numD {σ : St} {a b c : Int32} (h0 : ¬ σ 122 18 = 0) {F : St → Prop} (h : F σ) : CallV hd_m_number [rf 55 122, iv a, iv b, iv c] σ F :=
  e_m_number _ _ _ _ _ ⟨fun _ => l_m_number_35 _ _ _ _ _ ⟨fun _ => l_m_number_65 _ _ _ _ _ _ ⟨fun _ => h, fun q => absurd q h0⟩, fun q => absurd q h0⟩, fun q => absurd q h0⟩
theorem tk_c {t : Tk} {T : Nat → Nat} {N : Nat} {σ : St} (ht : tOk T N t) (hm : mTk t σ) : (σ 122 14 = 3 ↔ t.2.2.1 = 2) ∧ (σ 122 14 = 4 ↔ t.2.2.1 = 3) ∧ (σ 122 14 = 1 ↔ t.2.2.1 = 0) := by
  have b := ht.2.2.1
  rw [hm.2.1]
  refine ⟨?_, ?_, ?_⟩
  · rw [show (3 : Int32) = nI 3 from rfl, nI_eq (by omega) (by omega)]; omega
  · rw [show (4 : Int32) = nI 4 from rfl, nI_eq (by omega) (by omega)]; omega
  · rw [show (1 : Int32) = nI 1 from rfl, nI_eq (by omega) (by omega)]; omega
theorem m_numL {T : Nat → Nat} {N : Nat} {σ : St} {t : Tk} (hT : okT2 N T) (h0 : σ 122 18 = 0) (hL : tL N T σ) (ht : tOk T N t) (hm : mTk t σ) {ix : Nat} (hix : ix < 62) {a b : Int32} {F : St → Prop}
    (g2 : t.2.2.1 = 2 → a.toInt ≤ t.2.2.2.toInt ∧ t.2.2.2.toInt ≤ b.toInt → ∀ τ, Fr PLm σ τ → mTk (tok T N t.2.1) τ → F (up τ 127 ix t.2.2.2))
    (gb : t.2.2.1 = 2 → ¬ (a.toInt ≤ t.2.2.2.toInt ∧ t.2.2.2.toInt ≤ b.toInt) → F (bdU σ 2)) (g1 : ¬ t.2.2.1 = 2 → F (bdU σ 1)) : CallV hd_m_number [rf 55 122, iv (nI ix), iv a, iv b] σ F := by
  obtain ⟨c3, -, -⟩ := tk_c ht hm
  refine e_m_number _ _ _ _ _ ⟨fun q => absurd h0 q, fun _ => ?_⟩
  rw [c3]
  have a65 : ∀ v4 τ, ¬ τ 122 18 = 0 → F τ → At hd_m_number X0 65 [some (rf 55 122), some (iv (nI ix)), some (iv a), some (iv b), some (iv v4)] [] τ (retV F) := fun v4 τ z f => l_m_number_65 _ _ _ _ _ _ ⟨fun _ => f, fun q => absurd q z⟩
  refine ⟨fun q => l_m_number_35 _ _ _ _ _ ⟨fun z => absurd h0 z, fun _ => ?_⟩, fun q => ?_⟩
  · rw [c3]
    exact ⟨fun _ => m_must0 h0 (a65 _ _ (bdU_18 (by omega)) (g1 q)), fun z => absurd z q⟩
  have hv := hm.2.2.2 q
  by_cases z : a.toInt ≤ t.2.2.2.toInt ∧ t.2.2.2.toInt ≤ b.toInt
  · refine gm_in1 (by rw [i2l, i2l, i2l, hv]; exact z) (on' (l_m_number_35 _ _ _ _ _ ⟨fun y => absurd h0 y, fun _ => ?_⟩))
    rw [c3]
    refine ⟨fun y => absurd q y, fun _ => m_must1 hT h0 hL ht hm (by omega) fun τ hτ hk => l_m_number_65 _ _ _ _ _ _ ⟨fun y => ?_, fun _ => ⟨vin0 ix rfl hix (by decide), ?_⟩⟩⟩
    · rw [hτ _ _ (by unfold PLm; omega)] at y; exact absurd h0 y
    · rw [nI_clamp (by omega), hv]; exact g2 q z τ hτ hk
  · refine gm_in0 (by rw [i2l, i2l, i2l, hv]; exact z) (of' (m_badL (k := 2) h0 (l_m_number_35 _ _ _ _ _ ⟨fun _ => a65 _ _ (bdU_18 (by omega)) (gb q z), fun y => absurd y (bdU_18 (by omega))⟩)))
/-- within a line: columns below c are taken, k are to come -/
def mQ (T : Nat → Nat) (N : Nat) (fl : Fl) (y k c : Nat) (r : PR1) (τ : St) : Prop := (∃ e, r = .inl e ∧ mE T N e τ) ∨ (∃ t v, fl.1 y < 4 ∧ r = lnr T N fl y k c t v ∧ tL N T τ ∧ τ 122 18 = 0 ∧ tOk T N t ∧ mTk t τ ∧ mFl fl τ ∧ vOk fl y c v ∧ ∀ j, j < c → τ 127 (ofs y + (ncl y * fl.1 y + j)) = v j)
theorem mFl_put {fl : Fl} (h : rmOk fl) {σ : St} {y c : Nat} {x : Int32} (hy : y < 5) (h4 : fl.1 y < 4) (h3 : y = 3 → fl.1 3 = 0) (hc : c < ncl y) (hx : mFl fl σ) : mFl fl (up σ 127 (ofs y + (ncl y * fl.1 y + c)) x) := by
  intro z hz
  have sz := at_sz h hy h4 h3 hc
  have r5 := reg5 hy sz
  refine ⟨by rw [up_jb _ _ (by omega)]; exact (hx z hz).1, fun i hi => ?_⟩
  rw [up_jb _ _ ?_]
  · exact (hx z hz).2 i hi
  · by_cases e : z = y
    · subst e; omega
    · exact reg hz hy e (in_sz h hz hi) sz
theorem m_col {T : Nat → Nat} {N : Nat} {fl : Fl} (hT : okT2 N T) (h : rmOk fl) {y k c : Nat} (hy : y < 5) (h3 : y = 3 → fl.1 3 = 0) (hc : c < ncl y) (nw : ¬ (y = 4 ∧ c = 0)) {r : PR1} {τ : St} (hq : mQ T N fl y (k + 1) c r τ) {ix : Int32} (eix : ix = nI (ofs y + (ncl y * fl.1 y + c))) {a b : Int32} (hab : ∀ v, adB fl y c v = true ↔ a.toInt ≤ v.toInt ∧ v.toInt ≤ b.toInt) (F : St → Prop) (hF : ∀ ρ, Fr PRm τ ρ → mQ T N fl y k (c + 1) r ρ → F ρ) : CallV hd_m_number [rf 55 122, iv ix, iv a, iv b] τ F := by
  subst eix
  rcases hq with ⟨e, er, hE⟩ | ⟨t, v, h4, er, hL, h0, ht, hm, hfl, hvo, hv⟩
  · exact m_numD (mE_n hE) (hF τ Fr.rf (Or.inl ⟨e, er, hE⟩))
  have sz := at_sz h hy h4 h3 hc
  have r5 := reg5 hy sz
  simp only [lnr] at er
  have e1 : co1 T fl y c t = if t.2.2.1 = 2 then (if adB fl y c t.2.2.2 then .inr t.2.2.2 else .inl (2, t.1)) else .inl (1, t.1) := by
    unfold co1; rw [if_neg nw]
  refine m_numL hT h0 hL ht hm r5.2 (fun q z ρ hρ hk => ?_) (fun q z => ?_) (fun q => ?_)
  · have ad := (hab t.2.2.2).mpr z
    have e2 : co1 T fl y c t = .inr t.2.2.2 := by rw [e1, if_pos q, if_pos ad]
    rw [e2] at er
    refine hF _ ((lm_rm hρ).up (Or.inr rfl)) (Or.inr ⟨tok T N t.2.1, upd v c t.2.2.2, h4, er, tL_127 (tL_fr hρ hL), ?_, tok_ok ht.2.1, mTk_127 hk, mFl_put h hy h4 h3 hc (mFl_lm (lm_122 hρ) hfl), fun j hj => ?_, fun j hj => ?_⟩)
    · rw [up_ka _ _ (by omega), hρ _ _ (by unfold PLm; omega)]; exact h0
    · by_cases e : j = c
      · subst e; rw [upd_1]; exact co1_ok e2
      · rw [upd_2 e]; exact hvo j (by omega)
    · by_cases e : j = c
      · subst e; rw [up_at, upd_1]
      · rw [up_jb _ _ (by omega), upd_2 e, hρ _ _ (by unfold PLm; omega)]; exact hv j (by omega)
  · rw [e1, if_pos q, if_neg (fun w => z ((hab _).mp w))] at er
    obtain ⟨k1, k2⟩ := bdU_E (k := 2) (by omega) hL ht hm
    exact hF _ k2 (Or.inl ⟨_, er, k1⟩)
  · rw [e1, if_neg q] at er
    obtain ⟨k1, k2⟩ := bdU_E (k := 1) (by omega) hL ht hm
    exact hF _ k2 (Or.inl ⟨_, er, k1⟩)
theorem mFl_adl {fl : Fl} {σ : St} {y : Nat} {v : Nat → Int32} (h : rmOk fl) (hy : y < 5) (h4 : fl.1 y < 4) (h3 : y = 3 → fl.1 3 = 0) (hx : mFl fl σ) (hv : ∀ j, j < ncl y → σ 127 (ofs y + (ncl y * fl.1 y + j)) = v j) : mFl (adl fl y v) (up σ 127 y (nI (fl.1 y + 1))) := by
  intro z hz
  obtain ⟨g1, g2⟩ := hx z hz
  have o5 : ∀ w, 5 ≤ ofs w := fun w => by unfold ofs; split <;> omega
  have := o5 z
  by_cases e : z = y
  · subst e
    refine ⟨?_, fun i hi => ?_⟩
    · rw [up_at]; show nI (fl.1 z + 1) = nI (if z = z then fl.1 z + 1 else fl.1 z); rw [if_pos rfl]
    · rw [up_jb _ _ (by omega)]
      have hi : i < ncl z * (if z = z then fl.1 z + 1 else fl.1 z) := hi
      rw [if_pos rfl, Nat.mul_add, Nat.mul_one] at hi
      show _ = if z = z ∧ ncl z * fl.1 z ≤ i then v (i - ncl z * fl.1 z) else fl.2 z i
      by_cases c : ncl z * fl.1 z ≤ i
      · rw [if_pos ⟨rfl, c⟩, ← hv _ (by omega), show ncl z * fl.1 z + (i - ncl z * fl.1 z) = i by omega]
      · rw [if_neg (fun q => c q.2)]; exact g2 i (by omega)
  · refine ⟨?_, fun i hi => ?_⟩
    · rw [up_jb _ _ e, g1]; show nI (fl.1 z) = nI (if z = y then fl.1 y + 1 else fl.1 z); rw [if_neg e]
    · rw [up_jb _ _ (by omega)]
      have hi : i < ncl z * (if z = y then fl.1 y + 1 else fl.1 z) := hi
      rw [if_neg e] at hi
      show _ = if z = y ∧ ncl y * fl.1 y ≤ i then v (i - ncl y * fl.1 y) else fl.2 z i
      rw [if_neg (fun q => e q.1)]; exact g2 i hi
theorem m_end {T : Nat → Nat} {N : Nat} {fl : Fl} (hT : okT2 N T) (h : rmOk fl) {y : Nat} (hy : y < 5) (h3 : y = 3 → fl.1 3 = 0) {r : PR1} {τ : St} (hq : mQ T N fl y 0 (ncl y) r τ) (F : St → Prop) (hF : ∀ ρ, Fr PRm τ ρ → mS T N r ρ → F ρ) : CallV hd_m_ends [rf 55 122, iv (nI y)] τ F := by
  have vy : vp_in (nI y) 62 := vin0 y rfl (by omega) (by decide)
  have cy : (nI y).toNatClampNeg = y := nI_clamp (by omega)
  have a24 : ∀ {ρ e}, Fr PRm τ ρ → r = .inl e → mE T N e ρ → At hd_m_ends X0 24 [some (rf 55 122), some (iv (nI y))] [] ρ (retV F) := fun {ρ e} fr er hE => by
    refine l_m_ends_24 _ _ _ ⟨vy, fun _ => ⟨vy, ?_⟩, fun q => absurd q (mE_n hE)⟩
    rw [cy]
    refine hF _ (fr.up (Or.inr rfl)) ?_
    rw [er]; exact mE_127 hE
  rcases hq with ⟨e, er, hE⟩ | ⟨t, v, h4, er, hL, h0, ht, hm, hfl, hvo, hv⟩
  · exact e_m_ends _ _ _ ⟨fun _ => a24 Fr.rf er hE, fun q => absurd q (mE_n hE)⟩
  simp only [lnr] at er
  obtain ⟨-, c4, -⟩ := tk_c ht hm
  refine e_m_ends _ _ _ ⟨fun q => absurd h0 q, fun _ => ?_⟩
  rw [c4]
  refine ⟨fun q => ?_, fun q => m_must1 hT h0 hL ht hm (by omega) fun ρ hρ hk => l_m_ends_24 _ _ _ ⟨vy, fun z => ?_, fun _ => ⟨vy, ?_⟩⟩⟩
  · rw [if_neg q] at er
    obtain ⟨k1, k2⟩ := bdU_E (k := 1) (by omega) hL ht hm
    exact m_must0 h0 (a24 k2 er k1)
  · rw [hρ _ _ (by unfold PLm; omega)] at z; exact absurd h0 z
  · rw [if_pos q] at er
    have fρ := mFl_lm (lm_122 hρ) hfl
    rw [cy, (fρ y hy).1, nI_1]
    refine hF _ ((lm_rm hρ).up (Or.inr rfl)) ?_
    rw [er]
    refine ⟨tL_127 (tL_fr hρ hL), ?_, tok_ok ht.2.1, mTk_127 hk, mFl_adl h hy h4 h3 fρ (fun j hj => ?_), adl_ok hy h.1 h4 hvo, ?_⟩
    · rw [up_ka _ _ (by omega), hρ _ _ (by unfold PLm; omega)]; exact h0
    · rw [hρ _ _ (by unfold PLm; omega)]; exact hv j hj
    · show (if 3 = y then fl.1 y + 1 else fl.1 3) ≤ 1
      split
      · rename_i e; rw [← e, h3 e.symm]; omega
      · exact h.2
/-- a line begins; what is counted stays -/
theorem m_beg {T : Nat → Nat} {N : Nat} (hT : okT2 N T) {y : Nat} (hy : y < 5) {s : Tk × Fl} {σ : St} (hs : mL T N s σ) (hw : wB T s.1 y = true) (F : St → Prop) (hF : ∀ τ, Fr PRm σ τ → (∀ i, τ 127 i = σ 127 i) → mQ T N s.2 y (ncl y) 0 (lin T N y s) τ → F τ) : CallV hd_m_begins [rf 55 122, iv (nI y), iv 4] σ F := by
  obtain ⟨hL, h0, ht, hm, hfl, hr⟩ := hs
  have b4 := hr.1.1 y hy
  have s1 : s.1.2.2.1 = 1 := by unfold wB at hw; simp only [Bool.and_eq_true, decide_eq_true_eq] at hw; exact hw.1
  refine e_m_begins _ _ _ _ ⟨vin0 y rfl (by omega) (by decide), ?_⟩
  rw [nI_clamp (by omega), (hfl y hy).1]
  have c4 : nI (s.2.1 y) = 4 ↔ s.2.1 y = 4 := nI_eq (b := 4) (by omega) (by omega)
  rw [c4]
  refine ⟨fun q => m_must1 hT h0 hL ht hm (by omega) fun τ hτ hk => ?_, fun q => ?_⟩
  · refine hF τ (lm_rm hτ) (fun i => hτ _ _ (by unfold PLm; omega)) (Or.inr ⟨tok T N s.1.2.1, fun _ => 0, by omega, ?_, tL_fr hτ hL, ?_, tok_ok ht.2.1, hk, mFl_lm (lm_122 hτ) hfl, fun j hj => by omega, fun j hj => by omega⟩)
    · unfold lin; rw [if_neg (by omega)]
    · rw [hτ _ _ (by unfold PLm; omega)]; exact h0
  · have er : lin T N y s = .inl (3, s.1.1) := by unfold lin; rw [if_pos (by omega)]
    obtain ⟨k1, k2⟩ := bdU_E (k := 3) (by omega) hL ht hm
    refine m_badL (k := 3) h0 (m_mustD (bdU_18 (by omega)) (hF _ k2 (fun i => ?_) (Or.inl ⟨_, er, k1⟩)))
    unfold bdU; rw [up_ka _ _ (by omega), up_ka _ _ (by omega)]
