/-! the tape -/
def sgn (b : Nat) : Int32 := if b < 128 then nI b else nI b - 256
theorem sgn_t {b : Nat} (h : b < 256) : (sgn b).toInt = if b < 128 then (b : Int) else (b : Int) - 256 := by
  unfold sgn
  by_cases c : b < 128
  · rw [if_pos c, if_pos c, ti_nI (by omega)]
  · have e : (256 : Int32).toInt = 256 := rfl
    rw [if_neg c, if_neg c, ti_sub (by rw [ti_nI (by omega), e]; omega), ti_nI (by omega), e]
theorem sgn_eq {b c : Nat} (h : b < 256) (hc : c < 128) : sgn b = nI c ↔ b = c := by
  rw [fa_eq, sgn_t h, ti_nI (by omega)]
  split <;> omega
def byt (v : Int64) : Nat := (v.toInt % 256).toNat
theorem byt_lt (v : Int64) : byt v < 256 := by unfold byt; omega
theorem byt_x (v : Int64) : byt v = v.toBitVec.toNat % 256 := by
  have e : v.toInt = v.toBitVec.toInt := rfl
  have h := BitVec.toInt_eq_toNat_cond v.toBitVec
  have l := v.toBitVec.isLt
  unfold byt
  rw [e, h]
  split <;> omega
theorem byt_m (v : Int64) : (v &&& 255).toInt32 = nI (byt v) := by
  have lt := byt_lt v
  have n1 : (v &&& 255).toBitVec.toNat = byt v := by
    have : (v &&& 255).toBitVec = v.toBitVec &&& 255#64 := rfl
    rw [this, BitVec.toNat_and, byt_x]
    have := Nat.and_two_pow_sub_one_eq_mod v.toBitVec.toNat 8
    exact this
  have n2 : (v &&& 255).toInt = byt v := by
    have e : (v &&& 255).toInt = (v &&& 255).toBitVec.toInt := rfl
    rw [e, BitVec.toInt_eq_toNat_cond, n1, if_pos (by omega)]
  rw [fa_eq, Int64.toInt_toInt32, n2, ti_nI (by omega)]
  apply Int.bmod_eq_of_le <;> omega
theorem byt_c (v : Int64) : vp_nar .byte (v.toInt32.toInt8.toInt32) = sgn (byt v) := by
  have e : ∀ x : Int32, vp_nar .byte x = x.toInt8.toInt32 := fun _ => rfl
  have k : (v.toInt.bmod 256) = (sgn (byt v)).toInt := by
    rw [sgn_t (byt_lt v)]
    unfold byt
    rw [Int.bmod_def]
    split <;> split <;> omega
  rw [e, fa_eq, Int8.toInt_toInt32, Int32.toInt_toInt8, Int8.toInt_toInt32, Int32.toInt_toInt8, Int64.toInt_toInt32, ← k]
  have s1 : ((v.toInt.bmod (2 ^ 32)).bmod (2 ^ 8)).bmod (2 ^ 8) = (v.toInt.bmod (2 ^ 32)).bmod (2 ^ 8) := Int.bmod_bmod
  rw [s1]
  have s2 : (v.toInt.bmod (2 ^ 32)).bmod (2 ^ 8) = v.toInt.bmod (2 ^ 8) := Int.bmod_bmod_of_dvd (by decide)
  rw [s2]
/-- the tape, on both sides -/
def tX (N : Nat) (T : Nat → Nat) (σ : St) : Prop := σ 18 1 = nI N ∧ ∀ i, i < N → σ 19 i = sgn (T i)
def tM (N : Nat) (T : Nat → Nat) (σ : St) : Prop := ∀ i, i < N → σ 129 i = nI (T i)
def okT2 (N : Nat) (T : Nat → Nat) : Prop := N ≤ 500 ∧ ∀ i, i < N → T i < 256
def RTp (σ : St) : Prop := ∃ N T, okT2 N T ∧ tX N T σ ∧ tM N T σ ∧ σ 122 10 = nI N
def PTp (a b : Nat) : Prop := (a = 18 ∧ b = 1) ∨ a = 19 ∨ a = 129 ∨ (a = 122 ∧ (b = 10 ∨ b = 0))
def KT (σ : St) (G : Int32 → Int32 → St → Prop) : Prop := ∀ (r : Int32) (τ : St), Fr PTp σ τ → RTp τ → G r r τ
def shf (j : Nat) : Int64 := (nI (8 * j)).toInt64 &&& 63
def fed (N : Nat) (T : Nat → Nat) (v : Int64) (n q : Nat) : Nat := if q < N then T q else byt (v >>> shf (n - 1 - (q - N)))
theorem fed_lt {N : Nat} {T : Nat → Nat} {v : Int64} {n : Nat} (h : ∀ i, i < N → T i < 256) (q : Nat) : fed N T v n q < 256 := by
  unfold fed
  split
  · exact h q (by assumption)
  · exact byt_lt _
theorem r_feed (a1 : Int64) (a2 : Int32) (σ : St) (G : Int32 → Int32 → St → Prop) (hT : RTp σ) (k : KT σ G) :
    CallI hd_x_feed [rf 54 0, jv a1, iv a2] σ (fun r σ1 => CallI hd_m_feed [rf 55 122, jv a1, iv a2] σ1 (fun r' σ2 => G r r' σ2)) := by
  obtain ⟨N, T, ⟨hN, hT⟩, ⟨x1, x2⟩, m1, m2⟩ := hT
  have f0 : Fr PTp σ (up σ 122 0 0) := Fr.rf.up (Or.inr (Or.inr (Or.inr ⟨rfl, Or.inr rfl⟩)))
  have kz : ∀ r, G r r (up σ 122 0 0) := fun r => k r _ f0 ⟨N, T, ⟨hN, hT⟩, ⟨by rw [up_ka _ _ (by omega)]; exact x1, fun i hi => by rw [up_ka _ _ (by omega)]; exact x2 i hi⟩, fun i hi => by rw [up_ka _ _ (by omega)]; exact m1 i hi, by rw [up_jb _ _ (by omega)]; exact m2⟩
  have tl8 : (8 : Int64).toInt = 8 := rfl
  refine e_x_feed a1 a2 σ _ (gx_within 1 8 (fun c => on' ?_) (fun c => of' (e_m_feed _ _ _ _ (gm_in0 (by rw [i2l, tl_1, tl8]; rw [t_1, t_8] at c; omega) (of' (kz _))))))
  rw [t_1, t_8] at c
  have bb : (1 : Int64).toInt ≤ a2.toInt64.toInt ∧ a2.toInt64.toInt ≤ (8 : Int64).toInt := by rw [i2l, tl_1, tl8]; exact c
  obtain ⟨n, hn9, en, -, tn⟩ := ixe (x := a2) (n := 9) (by omega) (by decide)
  subst en
  have m20 : up σ 122 0 0 122 10 = nI N := by rw [up_jb _ _ (by omega)]; exact m2
  rw [x1, nI_add]
  have c5 : nI (N + n) ≤ 500 ↔ N + n ≤ 500 := nI_leI (b := 500) (by omega) (by omega)
  rw [c5]
  refine ⟨fun h5 => e_ta_append _ _ _ _ ?_, fun h5 => e_m_feed _ _ _ _ (gm_in1 bb (on' ?_))⟩
  rotate_left
  · rw [m20, nI_add, c5]; exact ⟨fun q => absurd q h5, fun _ => kz _⟩
  have sj : ∀ j : Nat, (8 : Int32) * nI j = nI (8 * j) := fun j => by rw [show (8 : Int32) = nI 8 from rfl, mulN]
  -- the other side
  have mm : ∀ τ, Fr PTp σ τ → tX (N + n) (fed N T a1 n) τ → (∀ i, i < N → τ 129 i = nI (T i)) → τ 122 10 = nI N → CallI hd_m_feed [rf 55 122, jv a1, iv (nI n)] τ (fun r' σ2 => G (nI (N + n)) r' σ2) := by
    intro τ ht hx h9 h10
    have loop : ∀ j, j ≤ n → ∀ ρ, Fr (fun a b => a = 129 ∨ (a = 122 ∧ (b = 10 ∨ b = 0))) τ ρ → ρ 122 10 = nI (N + (n - j)) → (∀ q, q < N + (n - j) → ρ 129 q = nI (fed N T a1 n q)) → At hd_m_feed X0 40 [some (rf 55 122), some (jv a1), none, some (iv (nI n)), some (iv (nI j - 1))] [] ρ (retI (fun r' σ2 => G (nI (N + n)) r' σ2)) := by
      intro j
      induction j with
      | zero =>
        intro _ ρ hr e1 e2
        refine l_m_feed_40 _ _ _ _ _ ⟨fun _ => ?_, fun q => absurd (by decide) q⟩
        rw [e1, Nat.sub_zero]
        refine k _ _ (ht.tr (hr.mn fun a b q => by unfold PTp; omega)) ⟨N + n, fed N T a1 n, ⟨h5, fun i _ => fed_lt hT i⟩, ⟨?_, fun i hi => ?_⟩, e2, by rw [e1, Nat.sub_zero]⟩
        · rw [hr _ _ (by omega)]; exact hx.1
        · rw [hr _ _ (by omega)]; exact hx.2 i hi
      | succ j ih =>
        intro hj ρ hr e1 e2
        rw [sub1 (by omega), Nat.add_sub_cancel]
        refine l_m_feed_40 _ _ _ _ _ ⟨fun q => ?_, fun _ => ⟨vin0 _ e1 (by omega) (by decide), ?_⟩⟩
        · exfalso; rw [fa_lt, ti_nI (by omega), t_0] at q; omega
        rw [e1, nI_clamp (by omega), byt_m, up_ka _ _ (by omega), e1, nI_1, sj, show nI j + -1 = nI j - 1 by grind]
        refine ih (by omega) _ ((hr.up (Or.inl rfl)).up (Or.inr ⟨rfl, Or.inl rfl⟩)) ?_ (fun q hq => ?_)
        · rw [up_at, show N + (n - (j + 1)) + 1 = N + (n - j) by omega]
        · rw [up_ka _ _ (by omega)]
          by_cases e : q = N + (n - (j + 1))
          · subst e
            rw [up_at]
            unfold fed shf
            rw [if_neg (by omega), show n - 1 - (N + (n - (j + 1)) - N) = j by omega]
          · rw [up_jb _ _ e]; exact e2 q (by omega)
    refine e_m_feed _ _ _ _ (gm_in1 bb (on' ?_))
    have e10 : up τ 122 0 0 122 10 = nI N := by rw [up_jb _ _ (by omega)]; exact h10
    rw [e10, nI_add, c5]
    refine ⟨fun _ => loop n (Nat.le_refl _) _ (Fr.rf.up (Or.inr ⟨rfl, Or.inr rfl⟩)) (by rw [e10, Nat.sub_self]; rfl) (fun q hq => ?_), fun q => absurd h5 q⟩
    rw [up_ka _ _ (by omega), h9 q (by omega)]
    unfold fed
    rw [if_pos (by omega)]
  have loop : ∀ j, j ≤ n → ∀ ρ, Fr (fun a b => (a = 18 ∧ b = 1) ∨ a = 19) σ ρ → ρ 18 1 = nI (N + (n - j)) → (∀ q, q < N + (n - j) → ρ 19 q = sgn (fed N T a1 n q)) → At hd_ta_append X0 8 [some (rf 48 18), some (jv a1), none, some (iv (nI n)), some (iv (nI (8 * j) - 8))] [] ρ (retV (fun σ3 => (fun r σ1 => CallI hd_m_feed [rf 55 122, jv a1, iv (nI n)] σ1 (fun r' σ2 => G r r' σ2)) (σ3 18 1) σ3)) := by
    intro j
    induction j with
    | zero =>
      intro _ ρ hr e1 e2
      refine l_ta_append_8 _ _ _ _ _ ⟨fun _ => ?_, fun q => absurd (by decide) q⟩
      show CallI hd_m_feed [rf 55 122, jv a1, iv (nI n)] ρ (fun r' σ2 => G (ρ 18 1) r' σ2)
      rw [e1, Nat.sub_zero]
      exact mm ρ (hr.mn fun a b q => by unfold PTp; omega) ⟨e1, e2⟩ (fun i hi => by rw [hr _ _ (by omega)]; exact m1 i hi) (by rw [hr _ _ (by omega)]; exact m2)
    | succ j ih =>
      intro hj ρ hr e1 e2
      have e8 : nI (8 * (j + 1)) - 8 = nI (8 * j) := by
        rw [fa_eq, ti_sub (by rw [ti_nI (by omega), t_8]; omega), ti_nI (by omega), ti_nI (by omega), t_8]; omega
      rw [e8]
      refine l_ta_append_8 _ _ _ _ _ ⟨fun q => ?_, fun _ => ⟨vin0 _ e1 (by omega) (by decide), ?_⟩⟩
      · exfalso; rw [fa_lt, ti_nI (by omega), t_0] at q; omega
      rw [e1, nI_clamp (by omega), byt_c, up_ka _ _ (by omega), e1, nI_1, show nI (8 * j) + -8 = nI (8 * j) - 8 by grind]
      refine ih (by omega) _ ((hr.up (Or.inr rfl)).up (Or.inl ⟨rfl, rfl⟩)) ?_ (fun q hq => ?_)
      · rw [up_at, show N + (n - (j + 1)) + 1 = N + (n - j) by omega]
      · rw [up_ka _ _ (by omega)]
        by_cases e : q = N + (n - (j + 1))
        · subst e
          rw [up_at]
          unfold fed shf
          rw [if_neg (by omega), show n - 1 - (N + (n - (j + 1)) - N) = j by omega]
        · rw [up_jb _ _ e]; exact e2 q (by omega)
  have e8 : (8 : Int32) * (nI n - 1) = nI (8 * n) - 8 := by rw [← sj]; grind
  rw [e8]
  refine loop n (Nat.le_refl _) σ Fr.rf (by rw [x1, Nat.sub_self]; rfl) (fun q hq => ?_)
  rw [x2 q (by omega)]
  unfold fed
  rw [if_pos (by omega)]
