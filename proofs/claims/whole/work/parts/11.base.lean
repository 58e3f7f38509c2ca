/-! plain facts -/
theorem fa_lt (a b : Int32) : a < b ↔ a.toInt < b.toInt := Int32.lt_iff_toInt_lt
theorem fa_le (a b : Int32) : a ≤ b ↔ a.toInt ≤ b.toInt := Int32.le_iff_toInt_le
theorem fa_eq (a b : Int32) : a = b ↔ a.toInt = b.toInt := Int32.toInt_inj.symm
theorem fa_lt64 (a b : Int64) : a < b ↔ a.toInt < b.toInt := Int64.lt_iff_toInt_lt
theorem fa_le64 (a b : Int64) : a ≤ b ↔ a.toInt ≤ b.toInt := Int64.le_iff_toInt_le
theorem fa_eq64 (a b : Int64) : a = b ↔ a.toInt = b.toInt := Int64.toInt_inj.symm
theorem i32b (x : Int32) : -2147483648 ≤ x.toInt ∧ x.toInt < 2147483648 := ⟨Int32.le_toInt x, Int32.toInt_lt x⟩
theorem ti_add {x y : Int32} (h : -2147483648 ≤ x.toInt + y.toInt ∧ x.toInt + y.toInt < 2147483648) : (x + y).toInt = x.toInt + y.toInt := by
  rw [Int32.toInt_add]; apply Int.bmod_eq_of_le <;> omega
theorem ti_sub {x y : Int32} (h : -2147483648 ≤ x.toInt - y.toInt ∧ x.toInt - y.toInt < 2147483648) : (x - y).toInt = x.toInt - y.toInt := by
  rw [Int32.toInt_sub]; apply Int.bmod_eq_of_le <;> omega
theorem ti_mul {x y : Int32} (h : -2147483648 ≤ x.toInt * y.toInt ∧ x.toInt * y.toInt < 2147483648) : (x * y).toInt = x.toInt * y.toInt := by
  rw [Int32.toInt_mul]; apply Int.bmod_eq_of_le <;> omega
theorem ti_nI {n : Nat} (h : n < 2147483648) : (nI n).toInt = n := nI_toInt h
theorem i2l (x : Int32) : x.toInt64.toInt = x.toInt := Int32.toInt_toInt64 x
theorem lg_lt (x y : Int64) : lg_cmp x y < 0 ↔ x.toInt < y.toInt := by
  unfold lg_cmp; rw [← fa_lt64]
  by_cases h : x > y
  · simp only [h, if_true]; constructor
    · intro h2; exact absurd h2 (by decide)
    · intro h2; rw [fa_lt64] at h2; have h : y < x := h; rw [fa_lt64] at h; omega
  · by_cases e : x = y
    · subst e; simp only [h, if_false, if_true]; constructor
      · intro h2; exact absurd h2 (by decide)
      · intro h2; rw [fa_lt64] at h2; omega
    · simp only [h, e, if_false]
      refine ⟨fun _ => ?_, fun _ => by decide⟩
      have h : ¬ y < x := h
      rw [fa_lt64] at h ⊢; rw [fa_eq64] at e; omega
theorem lg_gt (x y : Int64) : 0 < lg_cmp x y ↔ y.toInt < x.toInt := by
  unfold lg_cmp; rw [← fa_lt64]
  by_cases h : x > y
  · simp only [h, if_true]; exact ⟨fun _ => h, fun _ => by decide⟩
  · by_cases e : x = y
    · subst e; simp only [h, if_false, if_true]; constructor
      · intro h2; exact absurd h2 (by decide)
      · intro h2; rw [fa_lt64] at h2; omega
    · simp only [h, e, if_false]; constructor
      · intro h2; exact absurd h2 (by decide)
      · intro h2; exact absurd h2 h
theorem lg_eq (x y : Int64) : lg_cmp x y = 0 ↔ x.toInt = y.toInt := by
  have h1 := lg_lt x y
  have h2 := lg_gt x y
  rw [fa_lt] at h1 h2
  rw [fa_eq]
  have e : (0 : Int32).toInt = 0 := rfl
  rw [e] at h1 h2 ⊢
  omega
theorem lg_le (x y : Int64) : lg_cmp x y ≤ 0 ↔ x.toInt ≤ y.toInt := by
  have h2 := lg_gt x y
  rw [fa_lt] at h2
  rw [fa_le]
  have e : (0 : Int32).toInt = 0 := rfl
  rw [e] at h2 ⊢
  omega
theorem lg_ge (x y : Int64) : 0 ≤ lg_cmp x y ↔ y.toInt ≤ x.toInt := by
  have h2 := lg_lt x y
  rw [fa_lt] at h2
  rw [fa_le]
  have e : (0 : Int32).toInt = 0 := rfl
  rw [e] at h2 ⊢
  omega
theorem vin {x : Int32} {n : Nat} : vp_in x n ↔ 0 ≤ x.toInt ∧ x.toInt < n := vp_in_iff
theorem b01 {P : Prop} [Decidable P] : ((if P then (1 : Int32) else 0) = 0) = ¬ P := by
  by_cases h : P <;> simp [h]
theorem isB0 : isB 0 = True := by simp [isB]
theorem isB1 : isB 1 = True := by simp [isB]
theorem isBif {P : Prop} [Decidable P] : isB (if P then 1 else 0) = True := by by_cases h : P <;> simp [h, isB]
theorem v_below (a b : Int32) : p_x_isBelow a b = if 0 ≤ a.toInt ∧ a.toInt < b.toInt then 1 else 0 := by
  unfold p_x_isBelow
  simp only [fa_lt, fa_le]
  have e : (0 : Int32).toInt = 0 := rfl
  rw [e]
  by_cases h1 : a.toInt < 0
  · rw [if_pos h1, if_neg (by omega)]
  · rw [if_neg h1]
    by_cases h2 : b.toInt ≤ a.toInt
    · rw [if_pos h2, if_neg (by omega)]
    · rw [if_neg h2, if_pos (by omega)]
theorem v_within (a b c : Int32) : p_x_isWithin a b c = if b.toInt ≤ a.toInt ∧ a.toInt ≤ c.toInt then 1 else 0 := by
  unfold p_x_isWithin
  simp only [fa_lt]
  by_cases h1 : a.toInt < b.toInt
  · rw [if_pos h1, if_neg (by omega)]
  · rw [if_neg h1]
    by_cases h2 : c.toInt < a.toInt
    · rw [if_pos h2, if_neg (by omega)]
    · rw [if_neg h2, if_pos (by omega)]
theorem v_in (a b c : Int64) : p_m_in a b c = if b.toInt ≤ a.toInt ∧ a.toInt ≤ c.toInt then 1 else 0 := by
  unfold p_m_in
  simp only [lg_lt, lg_gt]
  by_cases h1 : a.toInt < b.toInt
  · rw [if_pos h1, if_neg (by omega)]
  · rw [if_neg h1]
    by_cases h2 : c.toInt < a.toInt
    · rw [if_pos h2, if_neg (by omega)]
    · rw [if_neg h2, if_pos (by omega)]
/-! the table of ints: what is written, what stays -/
theorem up_at (σ : St) (k j : Nat) (v : Int32) : up σ k j v k j = v := by simp [up, upd]
theorem up_o (σ : St) {k j a b : Nat} (v : Int32) (h : a ≠ k ∨ b ≠ j) : up σ k j v a b = σ a b := by
  by_cases e : a = k
  · subst e
    rcases h with h | h
    · exact absurd rfl h
    · simp [up, upd, h]
  · simp [up, e]
theorem up_k (σ : St) {k j a : Nat} (v : Int32) (h : a ≠ k) : up σ k j v a = σ a := by simp [up, h]
/-- calls: weaker ends -/
theorem call_mono {f : HD} {as : List AV} {σ : St} {Q Q' : Option AV → St → Prop} (hq : ∀ v σ', Q v σ' → Q' v σ') (hc : CallOk f as σ Q) : CallOk f as σ Q' := by
  intro l g hw
  have hm := hc l g hw
  intro P e0 ha hc0 hk s0 m0 args0 below0 hf hfit hPc hT
  obtain ⟨k, o, h1, h2, h3, ⟨⟨v, σ', hv, hwf, hQ, hW⟩, hF⟩, hL⟩ := hm P e0 ha hc0 hk s0 m0 args0 below0 hf hfit hPc hT
  exact ⟨k, o, h1, h2, h3, ⟨⟨v, σ', hv, hwf, hq v σ' hQ, hW⟩, hF⟩, hL⟩
theorem callI_mono {f : HD} {as : List AV} {σ : St} {F G : Int32 → St → Prop} (hq : ∀ r σ', F r σ' → G r σ') (hc : CallI f as σ F) : CallI f as σ G := call_mono (fun v σ' h => by
  rcases v with _ | q | x | x
  · exact h.elim
  · exact h.elim
  · exact hq x σ' h
  · exact h.elim) hc
theorem callV_mono {f : HD} {as : List AV} {σ : St} {F G : St → Prop} (hq : ∀ σ', F σ' → G σ') (hc : CallV f as σ F) : CallV f as σ G := call_mono (fun v σ' h => by
  rcases v with _ | q | x | x
  · exact hq σ' h
  · exact h.elim
  · exact h.elim
  · exact h.elim) hc
