/-! the reference's tokens -/
def PLm (a b : Nat) : Prop := a = 122 ∧ 13 ≤ b ∧ b ≤ 17
def tL (N : Nat) (T : Nat → Nat) (σ : St) : Prop := tM N T σ ∧ σ 122 12 = nI N
def mTk (t : Tk) (τ : St) : Prop := τ 122 15 = nI t.1 ∧ τ 122 14 = nI ((t.2.2.1 + 1) % 5) ∧ (¬ t.2.2.1 = 4 → τ 122 13 = nI t.2.1 ∧ τ 122 16 = nI t.2.1) ∧ (t.2.2.1 = 2 → τ 122 17 = t.2.2.2)
theorem tL_fr {N : Nat} {T : Nat → Nat} {σ τ : St} (h : Fr PLm σ τ) (hx : tL N T σ) : tL N T τ := ⟨fun i hi => by rw [h _ _ (by unfold PLm; omega)]; exact hx.1 i hi, by rw [h _ _ (by unfold PLm; omega)]; exact hx.2⟩
def mb (T : Nat → Nat) (N p : Nat) : Int32 := if p < N then nI (T p) else -1000000
theorem m_byte {N : Nat} {T : Nat → Nat} {σ : St} (hT : okT2 N T) (hx : tL N T σ) {p : Nat} (hp : p ≤ N) {F : Int32 → St → Prop} (h : F (mb T N p) σ) : CallI hd_m_byteAt [rf 55 122, iv (nI p)] σ F := by
  have hN := hT.1
  have c : nI N ≤ nI p ↔ N ≤ p := nI_leI (by omega) (by omega)
  refine q_m_byteAt _ _ _ (fun z => ?_) ?_
  · rw [hx.2, c] at z; exact vin0 p rfl (by omega) (by decide)
  unfold p_m_byteAt
  rw [hx.2, nI_clamp (by omega)]
  unfold mb at h
  by_cases z : p < N
  · rw [if_pos z] at h; rw [if_neg (fun q => by have := c.mp q; omega), hx.1 p z]; exact h
  · rw [if_neg z] at h; rw [if_pos (c.mpr (by omega))]; exact h
theorem mb_eq {N : Nat} {T : Nat → Nat} {p c : Nat} (hT : okT2 N T) (hc : c < 256) : mb T N p = nI c ↔ p < N ∧ T p = c := by
  unfold mb
  by_cases z : p < N
  · have := hT.2 p z
    rw [if_pos z, nI_eq (by omega) (by omega)]; exact ⟨fun q => ⟨z, q⟩, fun q => q.2⟩
  · rw [if_neg z]
    refine ⟨fun q => ?_, fun q => absurd q.1 z⟩
    rw [fa_eq, t_m1000000, ti_nI (by omega)] at q; omega
theorem mb_n {N : Nat} {T : Nat → Nat} {p : Nat} (hT : okT2 N T) : mb T N p = -1000000 ↔ ¬ p < N := by
  unfold mb
  by_cases z : p < N
  · have := hT.2 p z
    rw [if_pos z]
    refine ⟨fun q => ?_, fun q => absurd z q⟩
    rw [fa_eq, t_m1000000, ti_nI (by omega)] at q; omega
  · rw [if_neg z]; exact ⟨fun _ => z, fun _ => rfl⟩
theorem mb_t {N : Nat} {T : Nat → Nat} {p : Nat} (hT : okT2 N T) : (p < N → (mb T N p).toInt = T p) ∧ (¬ p < N → (mb T N p).toInt = -1000000) := by
  unfold mb
  refine ⟨fun z => ?_, fun z => ?_⟩
  · have := hT.2 p z
    rw [if_pos z, ti_nI (by omega)]
  · rw [if_neg z, t_m1000000]
theorem m_ltr {N : Nat} {T : Nat → Nat} {p : Nat} (hT : okT2 N T) {σ : St} {F : Int32 → St → Prop} (h1 : ltB T N p = true → F 1 σ) (h0 : ltB T N p = false → F 0 σ) : CallI hd_m_isLetter [iv (mb T N p)] σ F := by
  obtain ⟨k1, k2⟩ := mb_t (p := p) hT
  refine q_m_isLetter _ _ _ ?_
  unfold p_m_isLetter
  have a1 : mb T N p < 97 ↔ (mb T N p).toInt < 97 := by rw [fa_lt, t_97]
  have a2 : 122 < mb T N p ↔ 122 < (mb T N p).toInt := by rw [fa_lt, t_122]
  unfold ltB at h1 h0
  by_cases z : p < N
  · rw [decide_eq_true z, Bool.true_and] at h1 h0
    have e := k1 z
    by_cases c1 : 97 ≤ T p
    · rw [decide_eq_true c1, Bool.true_and] at h1 h0
      rw [if_neg (fun q => by have := a1.mp q; omega)]
      by_cases c2 : T p ≤ 122
      · rw [if_neg (fun q => by have := a2.mp q; omega)]; exact h1 (decide_eq_true c2)
      · rw [if_pos (a2.mpr (by omega))]; exact h0 (decide_eq_false c2)
    · rw [decide_eq_false c1] at h0
      rw [if_pos (a1.mpr (by omega))]; exact h0 rfl
  · rw [decide_eq_false z] at h0
    have e := k2 z
    rw [if_pos (a1.mpr (by omega))]; exact h0 rfl
theorem m_fig {N : Nat} {T : Nat → Nat} {p : Nat} (hT : okT2 N T) {σ : St} {F : Int32 → St → Prop} (h1 : fgB T N p = true → F 1 σ) (h0 : fgB T N p = false → F 0 σ) : CallI hd_m_isFigure [iv (mb T N p)] σ F := by
  obtain ⟨k1, k2⟩ := mb_t (p := p) hT
  refine q_m_isFigure _ _ _ ?_
  unfold p_m_isFigure
  have a1 : mb T N p < 48 ↔ (mb T N p).toInt < 48 := by rw [fa_lt, t_48]
  have a2 : 57 < mb T N p ↔ 57 < (mb T N p).toInt := by rw [fa_lt, t_57]
  unfold fgB at h1 h0
  by_cases z : p < N
  · rw [decide_eq_true z, Bool.true_and] at h1 h0
    have e := k1 z
    by_cases c1 : 48 ≤ T p
    · rw [decide_eq_true c1, Bool.true_and] at h1 h0
      rw [if_neg (fun q => by have := a1.mp q; omega)]
      by_cases c2 : T p ≤ 57
      · rw [if_neg (fun q => by have := a2.mp q; omega)]; exact h1 (decide_eq_true c2)
      · rw [if_pos (a2.mpr (by omega))]; exact h0 (decide_eq_false c2)
    · rw [decide_eq_false c1] at h0
      rw [if_pos (a1.mpr (by omega))]; exact h0 rfl
  · rw [decide_eq_false z] at h0
    have e := k2 z
    rw [if_pos (a1.mpr (by omega))]; exact h0 rfl
/-- a number: its end, whether it is one, its value where it is one -/
theorem m_num {N : Nat} {T : Nat → Nat} {σ : St} (hT : okT2 N T) (hx : tL N T σ) {s : Nat} (hs : s < N) (e13 : σ 122 13 = nI s) (F : St → Prop) (h : ∀ τ, Fr PLm σ τ → τ 122 15 = σ 122 15 → τ 122 13 = nI (tkE T N s) → τ 122 14 = nI (((tokN T N s).2.2.1 + 1) % 5) → ((tokN T N s).2.2.1 = 2 → τ 122 17 = (tokN T N s).2.2.2) → F τ) : CallV hd_m_nextNumber [rf 55 122] σ F := by
  have hN := hT.1
  have fb := tkF_b (T := T) hs
  have eb := tkE_b (T := T) hs
  have a131 : ∀ (v1 s0 : Int32) (τ : St), Fr PLm σ τ → τ 122 15 = σ 122 15 → τ 122 13 = nI (tkE T N s) → (tkE T N s - tkF T s ≤ 4 → s0 = (if T s = 45 then -(dvl T (tkF T s) (tkE T N s - tkF T s)) else dvl T (tkF T s) (tkE T N s - tkF T s))) → At hd_m_nextNumber X0 131 [some (rf 55 122), some (iv v1), some (iv (nI (tkF T s)))] [iv s0, rf 55 122] τ (retV F) := by
    intro v1 s0 τ ht e15 e13' es
    refine l_m_nextNumber_131 _ _ _ _ _ ?_
    have g13 : up τ 122 17 s0 122 13 = nI (tkE T N s) := by rw [up_jb _ _ (by omega)]; exact e13'
    have tl4 : (4 : Int64).toInt = 4 := rfl
    rw [g13, subN eb.1 (by omega)]
    have f1 : Fr PLm σ (up τ 122 17 s0) := ht.up ⟨rfl, by omega, by omega⟩
    by_cases c : 1 ≤ tkE T N s - tkF T s ∧ tkE T N s - tkF T s ≤ 4
    · refine gm_in1 (by rw [i2l, tl_1, tl4, ti_nI (by omega)]; omega) (on ?_)
      refine h _ (f1.up ⟨rfl, by omega, by omega⟩) ?_ ?_ ?_ (fun _ => ?_)
      · rw [up_jb _ _ (by omega), up_jb _ _ (by omega)]; exact e15
      · rw [up_jb _ _ (by omega)]; exact g13
      · rw [up_at]
        have : (tokN T N s).2.2.1 = 2 := by show (if _ then 2 else 4) = 2; rw [if_pos c]
        rw [this]; rfl
      · rw [up_jb _ _ (by omega), up_at, es c.2]; rfl
    · refine gm_in0 (by rw [i2l, tl_1, tl4, ti_nI (by omega)]; omega) (of ?_)
      have e4 : (tokN T N s).2.2.1 = 4 := by show (if _ then 2 else 4) = 4; rw [if_neg c]
      refine h _ (f1.up ⟨rfl, by omega, by omega⟩) ?_ ?_ ?_ (fun z => ?_)
      · rw [up_jb _ _ (by omega), up_jb _ _ (by omega)]; exact e15
      · rw [up_jb _ _ (by omega)]; exact g13
      · rw [up_at, e4]; rfl
      · rw [e4] at z; exact absurd z (by omega)
  have a33 : ∀ v1 s0 : Int32, (v1 = 0 ↔ ¬ T s = 45) → nI s + s0 = nI (tkF T s) → At hd_m_nextNumber X0 33 [some (rf 55 122), some (iv v1), none] [iv s0, iv (nI s), rf 55 122] σ (retV F) := by
    intro v1 s0 hv es
    have loop : ∀ r j, tkF T s + j + r = N → run (fgB T N) r (tkF T s + j) = tkE T N s → ∀ τ, Fr PLm σ τ → τ 122 15 = σ 122 15 → τ 122 13 = nI (tkF T s + j) → τ 122 17 = dvl T (tkF T s) (if j < 4 then j else 4) → At hd_m_nextNumber X0 47 [some (rf 55 122), some (iv v1), some (iv (nI (tkF T s)))] [] τ (retV F) := by
      intro r j hj er τ ht e15 e13' e17
      have fin : tkE T N s = tkF T s + j → fgB T N (tkF T s + j) = false → CallI hd_m_byteAt [rf 55 122, iv (nI (tkF T s + j))] τ (fun r2 σ1 => CallI hd_m_isFigure [iv r2] σ1 (fun r4 σ3 => (r4 = 0 → (v1 = 0 → At hd_m_nextNumber X0 131 [some (rf 55 122), some (iv v1), some (iv (nI (tkF T s)))] [iv (σ3 122 17), rf 55 122] σ3 (retV F)) ∧ (¬ v1 = 0 → At hd_m_nextNumber X0 131 [some (rf 55 122), some (iv v1), some (iv (nI (tkF T s)))] [iv (-(σ3 122 17)), rf 55 122] σ3 (retV F))) ∧ (¬ r4 = 0 → (4 ≤ ((σ3 122 13) - nI (tkF T s)) → At hd_m_nextNumber X0 98 [some (rf 55 122), some (iv v1), some (iv (nI (tkF T s)))] [iv (σ3 122 17), rf 55 122] σ3 (retV F)) ∧ (¬ 4 ≤ ((σ3 122 13) - nI (tkF T s)) → CallI hd_m_byteAt [rf 55 122, iv (σ3 122 13)] σ3 (fun r6 σ5 => At hd_m_nextNumber X0 98 [some (rf 55 122), some (iv v1), some (iv (nI (tkF T s)))] [iv (((10 * (σ3 122 17)) + r6) - 48), rf 55 122] σ5 (retV F)))))) := by
        intro ee ef
        refine m_byte hT (tL_fr ht hx) (by omega) (m_fig hT (fun c => absurd c (by simp [ef])) (fun _ => of ?_))
        refine ⟨fun q => a131 _ _ τ ht e15 (by rw [e13', ee]) (fun h4 => ?_), fun q => a131 _ _ τ ht e15 (by rw [e13', ee]) (fun h4 => ?_)⟩
        · rw [if_neg (hv.mp q), e17, show tkE T N s - tkF T s = j by omega]
          congr 1
          split <;> omega
        · rw [if_pos (Classical.byContradiction fun z => q (hv.mpr z)), e17, show tkE T N s - tkF T s = j by omega]
          congr 2
          split <;> omega
      induction r generalizing j τ with
      | zero =>
        refine l_m_nextNumber_47 _ _ _ _ ?_
        rw [e13']
        simp only [run] at er
        refine fin er.symm ?_
        cases c : fgB T N (tkF T s + j) with
        | false => rfl
        | true => have := fg_lt c; omega
      | succ r ih =>
        refine l_m_nextNumber_47 _ _ _ _ ?_
        rw [e13']
        simp only [run] at er
        cases c : fgB T N (tkF T s + j) with
        | false =>
          rw [if_neg (by simp [c])] at er
          exact fin er.symm c
        | true =>
          rw [if_pos c] at er
          have a98 : ∀ s0 : Int32, s0 = dvl T (tkF T s) (if j + 1 < 4 then j + 1 else 4) → At hd_m_nextNumber X0 98 [some (rf 55 122), some (iv v1), some (iv (nI (tkF T s)))] [iv s0, rf 55 122] τ (retV F) := fun s0 es0 => by
            refine l_m_nextNumber_98 _ _ _ _ _ ?_
            have g13 : up τ 122 17 s0 122 13 = nI (tkF T s + j) := by rw [up_jb _ _ (by omega)]; exact e13'
            rw [g13, nI_1]
            have f2 : Fr PLm σ (up (up τ 122 17 s0) 122 13 (nI (tkF T s + j + 1))) := (ht.up ⟨rfl, by omega, by omega⟩).up ⟨rfl, by omega, by omega⟩
            refine ih (j + 1) (by omega) er _ f2 (by rw [up_jb _ _ (by omega), up_jb _ _ (by omega)]; exact e15) (by rw [up_at]; rfl) (by rw [up_jb _ _ (by omega), up_at]; exact es0) ?_
            intro ee ef
            refine m_byte hT (tL_fr f2 hx) (by omega) (m_fig hT (fun c => absurd c (by simp [ef])) (fun _ => of ?_))
            refine ⟨fun q => a131 _ _ _ f2 (by rw [up_jb _ _ (by omega), up_jb _ _ (by omega)]; exact e15) (by rw [up_at, ee]; rfl) (fun h4 => ?_), fun q => a131 _ _ _ f2 (by rw [up_jb _ _ (by omega), up_jb _ _ (by omega)]; exact e15) (by rw [up_at, ee]; rfl) (fun h4 => ?_)⟩
            · rw [if_neg (hv.mp q), up_jb _ _ (by omega), up_at, es0, show tkE T N s - tkF T s = j + 1 by omega]
              congr 1
              split <;> omega
            · rw [if_pos (Classical.byContradiction fun z => q (hv.mpr z)), up_jb _ _ (by omega), up_at, es0, show tkE T N s - tkF T s = j + 1 by omega]
              congr 2
              split <;> omega
          refine m_byte hT (tL_fr ht hx) (by omega) (m_fig hT (fun _ => on ?_) (fun z => absurd z (by simp [c])))
          rw [e13', subN (by omega) (by omega), show tkF T s + j - tkF T s = j by omega]
          have c4 : (4 : Int32) ≤ nI j ↔ 4 ≤ j := nI_leI (a := 4) (by omega) (by omega)
          rw [c4]
          refine ⟨fun q => a98 _ ?_, fun q => m_byte hT (tL_fr ht hx) (by omega) (a98 _ ?_)⟩
          · rw [e17, if_neg (by omega), if_neg (by omega)]
          · have lt := fg_lt c
            unfold mb
            rw [e17, if_pos lt, if_pos (show j < 4 by omega)]
            have : (if j + 1 < 4 then j + 1 else 4) = j + 1 := by split <;> omega
            rw [this]; rfl
    refine l_m_nextNumber_33 _ _ _ _ _ ?_
    rw [es, up_at]
    exact loop (N - tkF T s) 0 (by omega) rfl _ ((Fr.rf.up ⟨rfl, by omega, by omega⟩).up ⟨rfl, by omega, by omega⟩) (by rw [up_jb _ _ (by omega), up_jb _ _ (by omega)]) (by rw [up_jb _ _ (by omega), up_at]; rfl) (by rw [up_at]; rfl)
  refine e_m_nextNumber _ _ ?_
  rw [e13]
  refine m_byte hT hx (by omega) ?_
  rw [show (45 : Int32) = nI 45 from rfl, mb_eq hT (by omega)]
  refine ⟨fun q => l_m_nextNumber_18 _ _ _ (of ?_), fun q => l_m_nextNumber_18 _ _ _ (on ?_)⟩
  · rw [e13]
    refine a33 _ _ ⟨fun _ z => q ⟨hs, z⟩, fun _ => rfl⟩ ?_
    unfold tkF; rw [if_neg (fun z => q ⟨hs, z⟩)]; grind
  · rw [e13]
    refine a33 _ _ ⟨fun z => absurd z one_ne, fun z => absurd q.2 z⟩ ?_
    unfold tkF; rw [if_pos q.2, nI_1]
theorem m_rest {N : Nat} {T : Nat → Nat} {τ : St} (hT : okT2 N T) (hx : tL N T τ) {s : Nat} (hs : s ≤ N) (e13 : τ 122 13 = nI s) (F : St → Prop) (h : ∀ ρ, Fr PLm τ ρ → mTk (tokAt T N s) ρ → F ρ) : CallI hd_m_byteAt [rf 55 122, iv ((up τ 122 15 (τ 122 13)) 122 13)] (up τ 122 15 (τ 122 13)) (fun r6 σ5 => (¬ r6 = ((-1000000)) → CallI hd_m_isLetter [iv r6] σ5 (fun r8 σ7 => (r8 = 0 → CallI hd_m_isFigure [iv r6] σ7 (fun r10 σ9 => (¬ r10 = 0 → At hd_m_nextT X0 125 [some (rf 55 122), some (iv r6)] [] σ9 (retV F)) ∧ (r10 = 0 → (¬ r6 = 45 → (¬ r6 = 59 → F (up (up (up σ9 122 13 ((σ9 122 13) + 1)) 122 14 0) 122 16 ((up (up σ9 122 13 ((σ9 122 13) + 1)) 122 14 0) 122 13))) ∧ (r6 = 59 → F (up (up (up σ9 122 13 ((σ9 122 13) + 1)) 122 14 4) 122 16 ((up (up σ9 122 13 ((σ9 122 13) + 1)) 122 14 4) 122 13)))) ∧ (r6 = 45 → At hd_m_nextT X0 125 [some (rf 55 122), some (iv r6)] [] σ9 (retV F))))) ∧ (¬ r8 = 0 → At hd_m_nextT X0 77 [some (rf 55 122), some (iv r6)] [] σ7 (retV F)))) ∧ (r6 = ((-1000000)) → F (up (up σ5 122 14 1) 122 16 ((up σ5 122 14 1) 122 13)))) := by
  have hN := hT.1
  have f15 : Fr PLm τ (up τ 122 15 (nI s)) := Fr.rf.up ⟨rfl, by omega, by omega⟩
  have g13 : up τ 122 15 (nI s) 122 13 = nI s := by rw [up_jb _ _ (by omega)]; exact e13
  rw [e13, g13]
  have hxt := tL_fr f15 hx
  unfold tokAt at h
  refine m_byte hT hxt hs ?_
  rw [mb_n hT]
  refine ⟨fun c => ?_, fun c => ?_⟩
  rotate_left
  · rw [if_neg c] at h
    refine h _ ((f15.up ⟨rfl, by omega, by omega⟩).up ⟨rfl, by omega, by omega⟩) ⟨?_, ?_, fun _ => ⟨?_, ?_⟩, fun z => absurd z (by show ¬ (0 : Nat) = 2; omega)⟩
    · rw [up_jb _ _ (by omega), up_jb _ _ (by omega), up_at]
    · rw [up_jb _ _ (by omega), up_at]; rfl
    · rw [up_jb _ _ (by omega), up_jb _ _ (by omega)]; exact g13
    · rw [up_at, up_jb _ _ (by omega)]; exact g13
  have hlt : s < N := by omega
  rw [if_pos hlt] at h
  have num : ltB T N s = false → ¬ T s = 59 → At hd_m_nextT X0 125 [some (rf 55 122), some (iv (mb T N s))] [] (up τ 122 15 (nI s)) (retV F) := fun c1 c2 => by
    rw [if_neg c2, if_neg (by simp [c1])] at h
    refine l_m_nextT_125 _ _ _ (m_num hT hxt hlt g13 _ fun ρ hr k15 k13 k14 k17 => ?_)
    rw [k13]
    refine h _ ((f15.tr hr).up ⟨rfl, by omega, by omega⟩) ⟨?_, ?_, fun _ => ⟨?_, ?_⟩, fun z => ?_⟩
    · rw [up_jb _ _ (by omega), k15, up_at]; rfl
    · rw [up_jb _ _ (by omega)]; exact k14
    · rw [up_jb _ _ (by omega)]; exact k13
    · rw [up_at]; rfl
    · rw [up_jb _ _ (by omega)]; exact k17 z
  refine m_ltr hT (fun c1 => on ?_) (fun c1 => of ?_)
  · -- a name
    have lv := lt_v c1
    rw [if_neg (by omega), if_pos c1] at h
    have loop : ∀ r q, q + r = N → run (ltB T N) r q = run (ltB T N) (N - s) s → ∀ ρ, Fr PLm τ ρ → ρ 122 15 = nI s → ρ 122 13 = nI q → At hd_m_nextT X0 77 [some (rf 55 122), some (iv (mb T N s))] [] ρ (retV F) := by
      intro r
      induction r with
      | zero =>
        intro q hq er ρ hr k15 k13
        refine l_m_nextT_77 _ _ _ ?_
        rw [k13]
        refine m_byte hT (tL_fr hr hx) (by omega) (m_ltr hT (fun y => absurd (lt_lt y) (by omega)) (fun y => of ?_))
        simp only [run] at er
        refine h _ ((hr.up ⟨rfl, by omega, by omega⟩).up ⟨rfl, by omega, by omega⟩) ⟨?_, ?_, fun _ => ⟨?_, ?_⟩, fun z => absurd z (by show ¬ (1 : Nat) = 2; omega)⟩
        · rw [up_jb _ _ (by omega), up_jb _ _ (by omega)]; exact k15
        · rw [up_jb _ _ (by omega), up_at]; rfl
        · rw [up_jb _ _ (by omega), up_jb _ _ (by omega), k13, er]
        · rw [up_at, up_jb _ _ (by omega), k13, er]
      | succ r ih =>
        intro q hq er ρ hr k15 k13
        simp only [run] at er
        refine l_m_nextT_77 _ _ _ ?_
        rw [k13]
        refine m_byte hT (tL_fr hr hx) (by omega) (m_ltr hT (fun y => on ?_) (fun y => of ?_))
        · rw [if_pos y] at er
          rw [k13, nI_1]
          exact ih (q + 1) (by omega) er _ (hr.up ⟨rfl, by omega, by omega⟩) (by rw [up_jb _ _ (by omega)]; exact k15) (by rw [up_at])
        · rw [if_neg (by simp [y])] at er
          refine h _ ((hr.up ⟨rfl, by omega, by omega⟩).up ⟨rfl, by omega, by omega⟩) ⟨?_, ?_, fun _ => ⟨?_, ?_⟩, fun z => absurd z (by show ¬ (1 : Nat) = 2; omega)⟩
          · rw [up_jb _ _ (by omega), up_jb _ _ (by omega)]; exact k15
          · rw [up_jb _ _ (by omega), up_at]; rfl
          · rw [up_jb _ _ (by omega), up_jb _ _ (by omega), k13, er]
          · rw [up_at, up_jb _ _ (by omega), k13, er]
    exact loop (N - s) s (by omega) rfl _ f15 (by rw [up_at]) g13
  refine m_fig hT (fun c2 => on' (num c1 (by have := fg_v c2; omega))) (fun c2 => of' ?_)
  rw [show (45 : Int32) = nI 45 from rfl, mb_eq hT (by omega), show (59 : Int32) = nI 59 from rfl, mb_eq hT (by omega), g13, nI_1]
  refine ⟨fun c3 => ⟨fun c4 => ?_, fun c4 => ?_⟩, fun c3 => num c1 (by omega)⟩
  · -- no token
    have c4' : ¬ T s = 59 := fun z => c4 ⟨hlt, z⟩
    have c3' : ¬ T s = 45 := fun z => c3 ⟨hlt, z⟩
    rw [if_neg c4', if_neg (by simp [c1])] at h
    have eF : tkF T s = s := by unfold tkF; rw [if_neg c3']
    have eE : tkE T N s = s := by
      unfold tkE
      rw [eF]
      obtain ⟨r, hr⟩ : ∃ r, N - s = r + 1 := ⟨N - s - 1, by omega⟩
      rw [hr]; simp only [run]; rw [if_neg (by simp [c2])]
    have e4 : (tokN T N s).2.2.1 = 4 := by
      show (if 1 ≤ tkE T N s - tkF T s ∧ tkE T N s - tkF T s ≤ 4 then 2 else 4) = 4
      rw [if_neg (by rw [eE, eF]; omega)]
    refine h _ (((f15.up ⟨rfl, by omega, by omega⟩).up ⟨rfl, by omega, by omega⟩).up ⟨rfl, by omega, by omega⟩) ⟨?_, ?_, fun z => absurd e4 z, fun z => absurd z (by rw [e4]; omega)⟩
    · rw [up_jb _ _ (by omega), up_jb _ _ (by omega), up_jb _ _ (by omega), up_at]; rfl
    · rw [up_jb _ _ (by omega), up_at, e4]; rfl
  · rw [if_pos c4.2] at h
    refine h _ (((f15.up ⟨rfl, by omega, by omega⟩).up ⟨rfl, by omega, by omega⟩).up ⟨rfl, by omega, by omega⟩) ⟨?_, ?_, fun _ => ⟨?_, ?_⟩, fun z => absurd z (by show ¬ (3 : Nat) = 2; omega)⟩
    · rw [up_jb _ _ (by omega), up_jb _ _ (by omega), up_jb _ _ (by omega), up_at]
    · rw [up_jb _ _ (by omega), up_at]; rfl
    · rw [up_jb _ _ (by omega), up_jb _ _ (by omega), up_at]
    · rw [up_at, up_jb _ _ (by omega), up_at]
theorem m_next {N : Nat} {T : Nat → Nat} {σ : St} (hT : okT2 N T) (hx : tL N T σ) {p : Nat} (hp : p ≤ N) (e13 : σ 122 13 = nI p) (F : St → Prop) (h : ∀ τ, Fr PLm σ τ → mTk (tok T N p) τ → F τ) : CallV hd_m_nextT [rf 55 122] σ F := by
  have hN := hT.1
  have a0 : ∀ r q, q + r = N → run (blB T N) r q = tkS T N p → ∀ τ, Fr PLm σ τ → τ 122 13 = nI q → At hd_m_nextT X0 0 [some (rf 55 122), none] [] τ (retV F) := by
    intro r
    induction r with
    | zero =>
      intro q hq er τ ht k13
      refine l_m_nextT_0 _ _ ?_
      simp only [run] at er
      rw [k13]
      refine m_byte hT (tL_fr ht hx) (by omega) ?_
      rw [show (32 : Int32) = nI 32 from rfl, mb_eq hT (by omega)]
      refine ⟨fun y => absurd y.1 (by omega), fun _ => ?_⟩
      rw [k13]
      refine m_byte hT (tL_fr ht hx) (by omega) ?_
      rw [show (10 : Int32) = nI 10 from rfl, mb_eq hT (by omega)]
      refine ⟨fun _ => ?_, fun y => absurd y.1 (by omega)⟩
      refine m_rest hT (tL_fr ht hx) (s := q) (by omega) k13 F fun ρ hr hk => h ρ (ht.tr hr) ?_
      unfold tok; rw [← er]; exact hk
    | succ r ih =>
      intro q hq er τ ht k13
      simp only [run] at er
      have a26 : blB T N q = true → At hd_m_nextT X0 26 [some (rf 55 122), none] [] τ (retV F) := fun y => by
        rw [if_pos y] at er
        refine l_m_nextT_26 _ _ ?_
        rw [k13, nI_1]
        exact ih (q + 1) (by omega) er _ (ht.up ⟨rfl, by omega, by omega⟩) (by rw [up_at])
      refine l_m_nextT_0 _ _ ?_
      rw [k13]
      refine m_byte hT (tL_fr ht hx) (by omega) ?_
      rw [show (32 : Int32) = nI 32 from rfl, mb_eq hT (by omega)]
      refine ⟨fun y => a26 (by unfold blB; rw [decide_eq_true y.1, decide_eq_true y.2]; rfl), fun y1 => ?_⟩
      rw [k13]
      refine m_byte hT (tL_fr ht hx) (by omega) ?_
      rw [show (10 : Int32) = nI 10 from rfl, mb_eq hT (by omega)]
      refine ⟨fun y2 => ?_, fun y => a26 (by unfold blB; rw [decide_eq_true y.1, decide_eq_true y.2]; simp)⟩
      have z : blB T N q = false := by
        unfold blB
        rw [decide_eq_false (fun e => y1 ⟨by omega, e⟩), decide_eq_false (fun e => y2 ⟨by omega, e⟩)]; simp
      rw [if_neg (by simp [z])] at er
      refine m_rest hT (tL_fr ht hx) (s := q) (by omega) k13 F fun ρ hr hk => h ρ (ht.tr hr) ?_
      unfold tok; rw [← er]; exact hk
  -- the first step
  refine e_m_nextT _ _ ?_
  rw [e13]
  have ep : ∀ τ, Fr PLm σ τ → τ 122 13 = nI p → blB T N p = true → At hd_m_nextT X0 26 [some (rf 55 122), none] [] τ (retV F) := fun τ ht k13 y => by
    have lt := bl_lt y
    refine l_m_nextT_26 _ _ ?_
    rw [k13, nI_1]
    refine a0 (N - (p + 1)) (p + 1) (by omega) ?_ _ (ht.up ⟨rfl, by omega, by omega⟩) (by rw [up_at])
    unfold tkS
    obtain ⟨r, hr⟩ : ∃ r, N - p = r + 1 := ⟨N - p - 1, by omega⟩
    rw [hr]; simp only [run]; rw [if_pos y, show N - (p + 1) = r by omega]
  refine m_byte hT hx hp ?_
  rw [show (32 : Int32) = nI 32 from rfl, mb_eq hT (by omega)]
  refine ⟨fun y => ep σ Fr.rf e13 (by unfold blB; rw [decide_eq_true y.1, decide_eq_true y.2]; rfl), fun y1 => ?_⟩
  rw [e13]
  refine m_byte hT hx hp ?_
  rw [show (10 : Int32) = nI 10 from rfl, mb_eq hT (by omega)]
  refine ⟨fun y2 => ?_, fun y => ep σ Fr.rf e13 (by unfold blB; rw [decide_eq_true y.1, decide_eq_true y.2]; simp)⟩
  have z : blB T N p = false := by
    unfold blB
    by_cases c : p < N
    · rw [decide_eq_false (fun e => y1 ⟨c, e⟩), decide_eq_false (fun e => y2 ⟨c, e⟩)]; simp
    · rw [decide_eq_false c]; rfl
  refine m_rest hT hx (s := p) hp e13 F fun ρ hr hk => h ρ hr ?_
  have : tkS T N p = p := by
    unfold tkS
    cases c : N - p with
    | zero => rfl
    | succ r => simp only [run]; rw [if_neg (by simp [z])]
  unfold tok; rw [this]; exact hk
