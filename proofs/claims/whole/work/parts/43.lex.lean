/-! tokens -/
theorem subN {a b : Nat} (h : b ≤ a) (ha : a < 2147483648) : nI a - nI b = nI (a - b) := by
  rw [fa_eq, ti_sub (by rw [ti_nI (by omega), ti_nI (by omega)]; omega), ti_nI (by omega), ti_nI (by omega), ti_nI (by omega)]; omega
abbrev Tk : Type := Nat × Nat × Nat × Int32
def blB (T : Nat → Nat) (N p : Nat) : Bool := decide (p < N) && (decide (T p = 32) || decide (T p = 10))
def ltB (T : Nat → Nat) (N p : Nat) : Bool := decide (p < N) && (decide (97 ≤ T p) && decide (T p ≤ 122))
def fgB (T : Nat → Nat) (N p : Nat) : Bool := decide (p < N) && (decide (48 ≤ T p) && decide (T p ≤ 57))
def run (q : Nat → Bool) : Nat → Nat → Nat
  | 0, p => p
  | f + 1, p => if q p then run q f (p + 1) else p
theorem run_b (q : Nat → Bool) : ∀ f p, p ≤ run q f p ∧ run q f p ≤ p + f
  | 0, p => ⟨Nat.le_refl _, Nat.le_refl _⟩
  | f + 1, p => by
    have := run_b q f (p + 1)
    simp only [run]
    split <;> omega
theorem run_q (q : Nat → Bool) : ∀ f p i, p ≤ i → i < run q f p → q i = true
  | 0, p, i, h1, h2 => by simp only [run] at h2; omega
  | f + 1, p, i, h1, h2 => by
    simp only [run] at h2
    split at h2
    · rename_i c
      by_cases e : i = p
      · rw [e]; exact c
      · exact run_q q f (p + 1) i (by omega) h2
    · omega
theorem run_e {q : Nat → Bool} {N : Nat} (hq : ∀ i, q i = true → i < N) : ∀ f p, N ≤ p + f → q (run q f p) = false
  | 0, p, h => by
    simp only [run]
    cases c : q p with
    | false => rfl
    | true => have := hq p c; omega
  | f + 1, p, h => by
    simp only [run]
    split
    · exact run_e hq f (p + 1) (by omega)
    · rename_i c; simpa using c
def dvl (T : Nat → Nat) (f : Nat) : Nat → Int32
  | 0 => 0
  | j + 1 => 10 * dvl T f j + nI (T (f + j)) - 48
def tkF (T : Nat → Nat) (s : Nat) : Nat := if T s = 45 then s + 1 else s
def tkE (T : Nat → Nat) (N s : Nat) : Nat := run (fgB T N) (N - tkF T s) (tkF T s)
def tokN (T : Nat → Nat) (N s : Nat) : Tk := (s, tkE T N s, (if 1 ≤ tkE T N s - tkF T s ∧ tkE T N s - tkF T s ≤ 4 then 2 else 4), if T s = 45 then -(dvl T (tkF T s) (tkE T N s - tkF T s)) else dvl T (tkF T s) (tkE T N s - tkF T s))
def tokAt (T : Nat → Nat) (N s : Nat) : Tk := if s < N then (if T s = 59 then (s, s + 1, 3, 0) else if ltB T N s then (s, run (ltB T N) (N - s) s, 1, 0) else tokN T N s) else (s, s, 0, 0)
def tkS (T : Nat → Nat) (N p : Nat) : Nat := run (blB T N) (N - p) p
def tok (T : Nat → Nat) (N p : Nat) : Tk := tokAt T N (tkS T N p)
theorem tkF_b {T : Nat → Nat} {N s : Nat} (h : s < N) : s ≤ tkF T s ∧ tkF T s ≤ N := by unfold tkF; split <;> omega
theorem tkE_b {T : Nat → Nat} {N s : Nat} (h : s < N) : tkF T s ≤ tkE T N s ∧ tkE T N s ≤ N := by
  have := tkF_b (T := T) h
  have := run_b (fgB T N) (N - tkF T s) (tkF T s)
  unfold tkE; omega
theorem tokAt_b {T : Nat → Nat} {N s : Nat} (h : s ≤ N) : (tokAt T N s).1 = s ∧ s ≤ (tokAt T N s).2.1 ∧ (tokAt T N s).2.1 ≤ N ∧ (tokAt T N s).2.2.1 ≤ 4 := by
  unfold tokAt
  by_cases c : s < N
  · rw [if_pos c]
    by_cases c2 : T s = 59
    · rw [if_pos c2]; exact ⟨rfl, by show s ≤ s + 1; omega, by show s + 1 ≤ N; omega, by show 3 ≤ 4; omega⟩
    · rw [if_neg c2]
      by_cases c3 : ltB T N s = true
      · rw [if_pos c3]
        have := run_b (ltB T N) (N - s) s
        exact ⟨rfl, this.1, by show run (ltB T N) (N - s) s ≤ N; omega, by show 1 ≤ 4; omega⟩
      · rw [if_neg c3]
        have h1 := tkF_b (T := T) c
        have h2 := tkE_b (T := T) c
        unfold tokN
        refine ⟨rfl, by show s ≤ tkE T N s; omega, h2.2, ?_⟩
        show (if 1 ≤ tkE T N s - tkF T s ∧ tkE T N s - tkF T s ≤ 4 then 2 else 4) ≤ 4
        split <;> omega
  · rw [if_neg c]; exact ⟨rfl, Nat.le_refl _, h, by show 0 ≤ 4; omega⟩
theorem tkS_b {T : Nat → Nat} {N p : Nat} (h : p ≤ N) : p ≤ tkS T N p ∧ tkS T N p ≤ N := by
  have := run_b (blB T N) (N - p) p
  unfold tkS; omega
theorem bl_lt {T : Nat → Nat} {N i : Nat} (h : blB T N i = true) : i < N := by unfold blB at h; simp at h; exact h.1
theorem lt_lt {T : Nat → Nat} {N i : Nat} (h : ltB T N i = true) : i < N := by unfold ltB at h; simp at h; exact h.1
theorem fg_lt {T : Nat → Nat} {N i : Nat} (h : fgB T N i = true) : i < N := by unfold fgB at h; simp at h; exact h.1
/-! the class's tokens -/
def PLx (a b : Nat) : Prop := a = 20 ∧ 2 ≤ b ∧ b ≤ 6
def xTk (t : Tk) (τ : St) : Prop := τ 20 2 = nI t.1 ∧ τ 20 6 = nI t.2.1 ∧ τ 20 4 = nI t.2.2.1 ∧ (t.2.2.1 = 2 → τ 20 5 = t.2.2.2)
theorem tX_fr {N : Nat} {T : Nat → Nat} {σ τ : St} (h : Fr PLx σ τ) (hx : tX N T σ) : tX N T τ := ⟨by rw [h _ _ (by unfold PLx; omega)]; exact hx.1, fun i hi => by rw [h _ _ (by unfold PLx; omega)]; exact hx.2 i hi⟩
theorem x_at {N : Nat} {T : Nat → Nat} {σ : St} (hT : okT2 N T) (hx : tX N T σ) {p : Nat} (hp : p < N) {F : Int32 → St → Prop} (h : F (sgn (T p)) σ) : CallI hd_ta_at [rf 48 18, iv (nI p)] σ F := by
  have hN := hT.1
  refine q_ta_at _ _ _ (fun _ => vin0 p rfl (by omega) (by decide)) ?_
  unfold p_ta_at
  rw [hx.1, nI_clamp (by omega), if_neg (by rw [nI_leI (by omega) (by omega)]; omega), hx.2 p hp]
  exact h
theorem x_ltr {N : Nat} {T : Nat → Nat} {p : Nat} (hT : okT2 N T) (hp : p < N) {σ : St} {F : Int32 → St → Prop} (h1 : ltB T N p = true → F 1 σ) (h0 : ltB T N p = false → F 0 σ) : CallI hd_re_isLetter [iv (sgn (T p))] σ F := by
  have tb := hT.2 p hp
  refine q_re_isLetter _ _ _ ?_
  unfold p_re_isLetter
  have e := sgn_t tb
  have c97 : sgn (T p) < 97 ↔ ¬ (97 ≤ T p ∧ T p < 128) := by rw [fa_lt, e, t_97]; split <;> omega
  have c122 : 122 < sgn (T p) ↔ (122 < T p ∧ T p < 128) := by rw [fa_lt, e, t_122]; split <;> omega
  unfold ltB at h1 h0
  rw [decide_eq_true hp, Bool.true_and] at h1 h0
  by_cases c : 97 ≤ T p ∧ T p ≤ 122
  · rw [decide_eq_true c.1, decide_eq_true c.2] at h1
    rw [if_neg (by rw [c97]; omega), if_neg (by rw [c122]; omega)]; exact h1 rfl
  · have z : (decide (97 ≤ T p) && decide (T p ≤ 122)) = false := by
      by_cases c1 : 97 ≤ T p
      · rw [decide_eq_true c1, decide_eq_false (by omega)]; rfl
      · rw [decide_eq_false c1]; rfl
    by_cases c1 : sgn (T p) < 97
    · rw [if_pos c1]; exact h0 z
    · rw [if_neg c1, if_pos (by rw [c122]; rw [c97] at c1; omega)]; exact h0 z
theorem x_fig {N : Nat} {T : Nat → Nat} {p : Nat} (hT : okT2 N T) (hp : p < N) {σ : St} {F : Int32 → St → Prop} (h1 : fgB T N p = true → F 1 σ) (h0 : fgB T N p = false → F 0 σ) : CallI hd_re_isFigure [iv (sgn (T p))] σ F := by
  have tb := hT.2 p hp
  refine q_re_isFigure _ _ _ ?_
  unfold p_re_isFigure
  have e := sgn_t tb
  have c97 : sgn (T p) < 48 ↔ ¬ (48 ≤ T p ∧ T p < 128) := by rw [fa_lt, e, t_48]; split <;> omega
  have c122 : 57 < sgn (T p) ↔ (57 < T p ∧ T p < 128) := by rw [fa_lt, e, t_57]; split <;> omega
  unfold fgB at h1 h0
  rw [decide_eq_true hp, Bool.true_and] at h1 h0
  by_cases c : 48 ≤ T p ∧ T p ≤ 57
  · rw [decide_eq_true c.1, decide_eq_true c.2] at h1
    rw [if_neg (by rw [c97]; omega), if_neg (by rw [c122]; omega)]; exact h1 rfl
  · have z : (decide (48 ≤ T p) && decide (T p ≤ 57)) = false := by
      by_cases c1 : 48 ≤ T p
      · rw [decide_eq_true c1, decide_eq_false (by omega)]; rfl
      · rw [decide_eq_false c1]; rfl
    by_cases c1 : sgn (T p) < 48
    · rw [if_pos c1]; exact h0 z
    · rw [if_neg c1, if_pos (by rw [c122]; rw [c97] at c1; omega)]; exact h0 z
theorem fg_v {N : Nat} {T : Nat → Nat} {p : Nat} (h : fgB T N p = true) : 48 ≤ T p ∧ T p ≤ 57 := by unfold fgB at h; simp at h; exact h.2
theorem lt_v {N : Nat} {T : Nat → Nat} {p : Nat} (h : ltB T N p = true) : 97 ≤ T p ∧ T p ≤ 122 := by unfold ltB at h; simp at h; exact h.2
theorem sgn_s {b : Nat} (h : b < 128) : sgn b = nI b := by unfold sgn; rw [if_pos h]
theorem x_num {N : Nat} {T : Nat → Nat} {σ : St} (hT : okT2 N T) (hx : tX N T σ) {s : Nat} (hs : s < N) (e2 : σ 20 2 = nI s) (F : St → Prop) (h : ∀ τ, Fr PLx σ τ → xTk (tokN T N s) τ → F τ) : CallV hd_re_advanceNumber [rf 49 20] σ F := by
  have hN := hT.1
  have fb := tkF_b (T := T) hs
  have eb := tkE_b (T := T) hs
  -- from the figures on
  have a39 : ∀ v1 s0 : Int32, (v1 = 0 ↔ ¬ T s = 45) → s0 = nI (tkF T s) → At hd_re_advanceNumber X0 39 [some (rf 49 20), some (iv v1), none, none] [iv s0] σ (retV F) := by
    intro v1 s0 hv es
    subst es
    have a111 : ∀ τ, Fr PLx σ τ → τ 20 2 = nI s → τ 20 6 = nI (tkE T N s) → At hd_re_advanceNumber X0 111 [some (rf 49 20), some (iv v1), some (iv (nI (tkF T s))), some (iv (dvl T (tkF T s) (tkE T N s - tkF T s)))] [] τ (retV F) := by
      intro τ ht e2t e6
      have a135 : ∀ k : Nat, k = (if 1 ≤ tkE T N s - tkF T s ∧ tkE T N s - tkF T s ≤ 4 then 2 else 4) → At hd_re_advanceNumber X0 135 [some (rf 49 20), some (iv v1), some (iv (nI (tkF T s))), some (iv (dvl T (tkF T s) (tkE T N s - tkF T s)))] [iv (nI k), rf 49 20] τ (retV F) := by
        intro k ek
        have fin : ∀ x : Int32, x = (if T s = 45 then -(dvl T (tkF T s) (tkE T N s - tkF T s)) else dvl T (tkF T s) (tkE T N s - tkF T s)) → F (up (up τ 20 4 (nI k)) 20 5 x) := by
          intro x ex
          refine h _ ((ht.up ⟨rfl, by omega, by omega⟩).up ⟨rfl, by omega, by omega⟩) ⟨?_, ?_, ?_, fun _ => ?_⟩
          · rw [up_jb _ _ (by omega), up_jb _ _ (by omega)]
            exact e2t
          · rw [up_jb _ _ (by omega), up_jb _ _ (by omega)]; exact e6
          · rw [up_jb _ _ (by omega), up_at, ek]; rfl
          · rw [up_at, ex]; rfl
        refine l_re_advanceNumber_135 _ _ _ _ _ _ ⟨fun q => fin _ ?_, fun q => fin _ ?_⟩
        · rw [if_neg (hv.mp q)]
        · rw [if_pos (Classical.byContradiction fun z => q (hv.mpr z))]
      refine l_re_advanceNumber_111 _ _ _ _ _ ?_
      rw [e6, nI_leI (by omega) (by omega), subN eb.1 (by omega), show (4 : Int32) = nI 4 from rfl, nI_ltI (by omega) (by omega)]
      refine ⟨fun q => a135 4 ?_, fun q => ⟨fun z => a135 4 ?_, fun z => a135 2 ?_⟩⟩
      · rw [if_neg (by omega)]
      · rw [if_neg (by omega)]
      · rw [if_pos (by omega)]
    have loop : ∀ r j, tkF T s + j + r = N → run (fgB T N) r (tkF T s + j) = tkE T N s → ∀ τ, Fr PLx σ τ → τ 20 2 = nI s → τ 20 6 = nI (tkF T s + j) → At hd_re_advanceNumber X0 47 [some (rf 49 20), some (iv v1), some (iv (nI (tkF T s))), some (iv (dvl T (tkF T s) j))] [] τ (retV F) := by
      intro r
      induction r with
      | zero =>
        intro j hj er τ ht e2t e6
        refine l_re_advanceNumber_47 _ _ _ _ _ ?_
        rw [(tX_fr ht hx).1, e6]
        simp only [run] at er
        refine ⟨fun _ => ?_, fun q => absurd (by rw [nI_leI (by omega) (by omega)]; omega) q⟩
        have := a111 τ ht e2t (by rw [e6, er])
        rw [show tkE T N s - tkF T s = j by omega] at this
        exact this
      | succ r ih =>
        intro j hj er τ ht e2t e6
        refine l_re_advanceNumber_47 _ _ _ _ _ ?_
        rw [(tX_fr ht hx).1, e6]
        refine ⟨fun q => ?_, fun _ => x_at hT (tX_fr ht hx) (by omega) (x_fig hT (by omega) (fun c => on ?_) (fun c => of ?_))⟩
        · exfalso; rw [nI_leI (by omega) (by omega)] at q; omega
        · simp only [run] at er
          rw [if_pos c] at er
          rw [e6]
          have fv := fg_v c
          refine x_at hT (tX_fr ht hx) (by omega) ?_
          rw [e6, nI_1, sgn_s (by omega)]
          exact ih (j + 1) (by omega) er _ (ht.up ⟨rfl, by omega, by omega⟩) (by rw [up_jb _ _ (by omega)]; exact e2t) (by rw [up_at]; rfl)
        · simp only [run] at er
          rw [if_neg (by simp [c])] at er
          have := a111 τ ht e2t (by rw [e6, er])
          rw [show tkE T N s - tkF T s = j by omega] at this
          exact this
    refine l_re_advanceNumber_39 _ _ _ _ (loop (N - tkF T s) 0 (by omega) rfl _ (Fr.rf.up ⟨rfl, by omega, by omega⟩) (by rw [up_jb _ _ (by omega)]; exact e2) (by rw [up_at]; rfl))
  refine e_re_advanceNumber _ _ ?_
  rw [e2]
  refine x_at hT hx hs ?_
  rw [show (45 : Int32) = nI 45 from rfl, sgn_eq (hT.2 s hs) (by omega)]
  refine ⟨fun q => l_re_advanceNumber_21 _ _ _ (of (a39 _ _ ⟨fun _ => q, fun _ => rfl⟩ ?_)), fun q => l_re_advanceNumber_21 _ _ _ (on (a39 _ _ ⟨fun z => absurd z one_ne, fun z => absurd q z⟩ ?_))⟩
  · rw [e2]; unfold tkF; rw [if_neg q]
  · rw [e2, nI_1]; unfold tkF; rw [if_pos q]
theorem x_adv {N : Nat} {T : Nat → Nat} {σ : St} (hT : okT2 N T) (hx : tX N T σ) {p : Nat} (hp : p ≤ N) (e6 : σ 20 6 = nI p) (F : St → Prop) (h : ∀ τ, Fr PLx σ τ → xTk (tok T N p) τ → F τ) : CallV hd_re_advance [rf 49 20] σ F := by
  have hN := hT.1
  have sb := tkS_b (T := T) hp
  have e7 : ∀ {τ : St}, up τ 20 6 (τ 20 2) 20 2 = τ 20 2 := by intro τ; rw [up_jb _ _ (by omega)]
  have a67 : ∀ τ, Fr PLx σ τ → τ 20 2 = nI (tkS T N p) → At hd_re_advance X0 67 [some (rf 49 20)] [] τ (retV F) := by
    intro τ ht e2
    have htx := tX_fr ht hx
    have f6 : Fr PLx σ (up τ 20 6 (nI (tkS T N p))) := ht.up ⟨rfl, by omega, by omega⟩
    have ftx := tX_fr f6 hx
    have g2 : up τ 20 6 (nI (tkS T N p)) 20 2 = nI (tkS T N p) := by rw [up_jb _ _ (by omega), e2]
    refine l_re_advance_67 _ _ ?_
    rw [e2, g2, ftx.1, nI_ltI (by omega) (by omega)]
    unfold tok at h
    unfold tokAt at h
    refine ⟨fun c => ?_, fun c => ?_⟩
    rotate_left
    · rw [if_neg c] at h
      refine h _ (f6.up ⟨rfl, by omega, by omega⟩) ⟨?_, ?_, ?_, fun z => absurd z (by show ¬ (0 : Nat) = 2; omega)⟩
      · rw [up_jb _ _ (by omega), g2]
      · rw [up_jb _ _ (by omega), up_at]
      · rw [up_at]; rfl
    rw [if_pos c] at h
    refine x_at hT ftx c ?_
    rw [show (59 : Int32) = nI 59 from rfl, sgn_eq (hT.2 _ c) (by omega)]
    refine ⟨fun c2 => ?_, fun c2 => ?_⟩
    rotate_left
    · rw [if_pos c2] at h
      have g6 : up (up τ 20 6 (nI (tkS T N p))) 20 4 3 20 6 = nI (tkS T N p) := by rw [up_jb _ _ (by omega), up_at]
      rw [g6, nI_1]
      refine h _ ((f6.up ⟨rfl, by omega, by omega⟩).up ⟨rfl, by omega, by omega⟩) ⟨?_, ?_, ?_, fun z => absurd z (by show ¬ (3 : Nat) = 2; omega)⟩
      · rw [up_jb _ _ (by omega), up_jb _ _ (by omega), g2]
      · rw [up_at]
      · rw [up_jb _ _ (by omega), up_at]; rfl
    rw [if_neg c2] at h
    rw [g2]
    refine x_at hT ftx c (x_ltr hT c (fun c3 => on ?_) (fun c3 => of ?_))
    rotate_left
    · rw [if_neg (by simp [c3])] at h
      exact x_num hT ftx c g2 _ fun ρ hr hk => h ρ (f6.tr hr) hk
    rw [if_pos c3] at h
    have loop : ∀ r q, q + r = N → run (ltB T N) r q = run (ltB T N) (N - tkS T N p) (tkS T N p) → ∀ ρ, Fr PLx σ ρ → ρ 20 2 = nI (tkS T N p) → ρ 20 4 = 1 → ρ 20 6 = nI q → At hd_re_advance X0 153 [some (rf 49 20)] [] ρ (retV F) := by
      intro r
      induction r with
      | zero =>
        intro q hq er ρ hr k2 k4 k6
        refine l_re_advance_153 _ _ ?_
        rw [(tX_fr hr hx).1, k6]
        refine ⟨fun _ => h ρ hr ⟨k2, ?_, k4, fun z => absurd z (by show ¬ (1 : Nat) = 2; omega)⟩, fun z => absurd (by rw [nI_leI (by omega) (by omega)]; omega) z⟩
        rw [k6, ← er]; rfl
      | succ r ih =>
        intro q hq er ρ hr k2 k4 k6
        simp only [run] at er
        refine l_re_advance_153 _ _ ?_
        rw [(tX_fr hr hx).1, k6]
        refine ⟨fun z => ?_, fun _ => x_at hT (tX_fr hr hx) (by omega) (x_ltr hT (by omega) (fun y => on ?_) (fun y => of ?_))⟩
        · exfalso; rw [nI_leI (by omega) (by omega)] at z; omega
        · rw [if_pos y] at er
          rw [k6, nI_1]
          exact ih (q + 1) (by omega) er _ (hr.up ⟨rfl, by omega, by omega⟩) (by rw [up_jb _ _ (by omega)]; exact k2) (by rw [up_jb _ _ (by omega)]; exact k4) (by rw [up_at])
        · rw [if_neg (by simp [y])] at er
          refine h ρ hr ⟨k2, ?_, k4, fun z => absurd z (by show ¬ (1 : Nat) = 2; omega)⟩
          rw [k6, er]
    exact loop (N - tkS T N p) (tkS T N p) (by omega) rfl _ (f6.up ⟨rfl, by omega, by omega⟩) (by rw [up_jb _ _ (by omega), g2]) (by rw [up_at]) (by rw [up_jb _ _ (by omega), up_at])
  have loop : ∀ r q, q + r = N → run (blB T N) r q = tkS T N p → ∀ τ, Fr PLx σ τ → τ 20 2 = nI q → At hd_re_advance X0 8 [some (rf 49 20)] [] τ (retV F) := by
    intro r
    induction r with
    | zero =>
      intro q hq er τ ht k2
      refine l_re_advance_8 _ _ ?_
      rw [(tX_fr ht hx).1, k2]
      exact ⟨fun _ => a67 τ ht (by rw [k2, ← er]; rfl), fun z => absurd (by rw [nI_leI (by omega) (by omega)]; omega) z⟩
    | succ r ih =>
      intro q hq er τ ht k2
      simp only [run] at er
      have tb := hT.2 q (by omega)
      have a54 : blB T N q = true → At hd_re_advance X0 54 [some (rf 49 20)] [] τ (retV F) := fun y => by
        rw [if_pos y] at er
        refine l_re_advance_54 _ _ ?_
        rw [k2, nI_1]
        exact ih (q + 1) (by omega) er _ (ht.up ⟨rfl, by omega, by omega⟩) (by rw [up_at])
      refine l_re_advance_8 _ _ ?_
      rw [(tX_fr ht hx).1, k2]
      refine ⟨fun z => ?_, fun _ => x_at hT (tX_fr ht hx) (by omega) ?_⟩
      · exfalso; rw [nI_leI (by omega) (by omega)] at z; omega
      rw [show (32 : Int32) = nI 32 from rfl, sgn_eq tb (by omega), k2]
      refine ⟨fun y => a54 (by unfold blB; rw [decide_eq_true (show q < N by omega), decide_eq_true y]; rfl), fun y => x_at hT (tX_fr ht hx) (by omega) ?_⟩
      rw [show (10 : Int32) = nI 10 from rfl, sgn_eq tb (by omega)]
      refine ⟨fun y2 => a67 τ ht ?_, fun y2 => a54 (by unfold blB; rw [decide_eq_true (show q < N by omega), decide_eq_true y2]; simp)⟩
      rw [if_neg (by unfold blB; rw [decide_eq_false y, decide_eq_false y2]; simp)] at er
      rw [k2, er]
  refine e_re_advance _ _ ?_
  rw [e6]
  exact loop (N - p) p (by omega) rfl _ (Fr.rf.up ⟨rfl, by omega, by omega⟩) (by rw [up_at])
