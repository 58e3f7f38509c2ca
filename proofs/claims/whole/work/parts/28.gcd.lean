/-! sets of hills as numbers; greatest common parts -/
def pc12 (x : Nat) : Nat := x % 2 + x / 2 % 2 + x / 4 % 2 + x / 8 % 2 + x / 16 % 2 + x / 32 % 2 + x / 64 % 2 + x / 128 % 2 + x / 256 % 2 + x / 512 % 2 + x / 1024 % 2 + x / 2048 % 2
theorem bc_a : ∀ a, a < 64 → ∀ b, b < 64 → p_in_bitCount (nI (64 * a + b)) = nI (pc12 (64 * a + b)) := by decide +kernel
theorem bc_all {x : Nat} (h : x < 4096) : p_in_bitCount (nI x) = nI (pc12 x) := by
  have := bc_a (x / 64) (by omega) (x % 64) (by omega)
  rw [show 64 * (x / 64) + x % 64 = x by omega] at this; exact this
theorem kern_a : ∀ a, a < 64 → ∀ b, b < 64 → 0 < 64 * a + b → nI (64 * a + b) &&& (nI (64 * a + b) - 1) = nI ((64 * a + b) &&& (64 * a + b - 1)) ∧ ((64 * a + b) &&& (64 * a + b - 1)) < 64 * a + b ∧ pc12 ((64 * a + b) &&& (64 * a + b - 1)) + 1 = pc12 (64 * a + b) := by decide +kernel
theorem kern {x : Nat} (h : x < 4096) (h0 : 0 < x) : nI x &&& (nI x - 1) = nI (x &&& (x - 1)) ∧ (x &&& (x - 1)) < x ∧ pc12 (x &&& (x - 1)) + 1 = pc12 x := by
  have := kern_a (x / 64) (by omega) (x % 64) (by omega)
  rw [show 64 * (x / 64) + x % 64 = x by omega] at this; exact this h0
theorem orb : ∀ n, n < 12 → ∀ x, x < 2 ^ n → nI x ||| (1 <<< (nI n &&& 31)) = nI (x + 2 ^ n) ∧ nI x ||| 0 = nI x := by decide +kernel
theorem nI_div {x y : Nat} (hx : x < 2147483648) (hy : y < 2147483648) : nI x / nI y = nI (x / y) := by
  have := Nat.div_le_self x y
  rw [fa_eq, ti_nI (by omega), Int32.toInt_div, ti_nI hx, ti_nI hy]
  have e : (x : Int).tdiv (y : Int) = ((x / y : Nat) : Int) := by simp [Int.ofNat_tdiv]
  rw [e]
  clear e
  generalize x / y = q at *
  apply Int.bmod_eq_of_le <;> omega
theorem nI_rem {x y : Nat} (hx : x < 2147483648) (hy : y < 2147483648) : nI x - nI x / nI y * nI y = nI (x % y) := by
  rw [nI_div hx hy, mulN]
  have h1 := Nat.div_add_mod x y
  have h2 : x / y * y ≤ x := Nat.div_mul_le_self x y
  have h3 : x % y = x - x / y * y := by rw [Nat.mul_comm] at h1; omega
  rw [h3, fa_eq, ti_sub (by rw [ti_nI (by omega), ti_nI (by omega)]; omega), ti_nI (by omega), ti_nI (by omega), ti_nI (by omega)]
  omega
theorem two_mod {a b : Nat} (h0 : 0 < b) (h : b ≤ a) : 2 * (a % b) < a := by
  have h1 := Nat.mod_lt a h0
  by_cases c : 2 * b ≤ a
  · omega
  · have : a % b = a - b := by
      rw [Nat.mod_eq_sub_mod h, Nat.mod_eq_of_lt (by omega)]
    omega
def bitN (p : Nat → Bool) : Nat → Nat
  | 0 => 0
  | n + 1 => bitN p n + (if p n then 2 ^ n else 0)
theorem bitN_lt (p : Nat → Bool) : ∀ n, bitN p n < 2 ^ n
  | 0 => by show 0 < 1; omega
  | n + 1 => by
    have := bitN_lt p n
    rw [Nat.pow_succ]
    simp only [bitN]
    split <;> omega
theorem bitP_N (p : Nat → Bool) : ∀ n, n ≤ 12 → bitP p n = nI (bitN p n)
  | 0, _ => rfl
  | n + 1, hn => by
    obtain ⟨o1, o2⟩ := orb n (by omega) (bitN p n) (bitN_lt p n)
    simp only [bitP, bitN]
    rw [bitP_N p n (by omega)]
    by_cases c : p n = true
    · rw [if_pos c, if_pos c]; exact o1
    · rw [if_neg c, if_neg c, Nat.add_zero]; exact o2
theorem pc_le (x : Nat) : pc12 x ≤ 12 := by unfold pc12; omega
theorem x_low {a b : Nat} (ha : a < 2147483648) (hb : 0 < b) (hb2 : b < 2147483648) (u : Int32) (σ : St) (F : Int32 → St → Prop) (h0 : u = 0 → F (nI (b / Nat.gcd a b)) σ) (h1 : ¬ u = 0 → F (nI (a / Nat.gcd a b)) σ) : CallI hd_x_lowest [iv (nI a), iv (nI b), iv u] σ F := by
  have fin : ∀ (x : Int32) (y : Nat) (t : Int32), 0 < y → y < 2147483648 → y = Nat.gcd a b → At hd_x_lowest X0 37 [some (iv (nI a)), some (iv (nI b)), some (iv u), some (iv x), some (iv (nI y)), some (iv t), none] [] σ (retI F) := by
    intro x y t hy hy2 e
    have ny : ¬ nI y = 0 := by rw [show (0 : Int32) = nI 0 from rfl, nI_eq (by omega) (by omega)]; omega
    refine l_x_lowest_37 _ _ _ _ _ _ _ _ ⟨fun _ => ⟨fun q => ⟨ny, ?_⟩, fun q => ⟨ny, ?_⟩⟩, fun q => absurd q ny⟩
    · rw [nI_div hb2 hy2, e]; exact h0 q
    · rw [nI_div ha hy2, e]; exact h1 q
  have loop : ∀ n x y t, x < 2 ^ n → x < 2147483648 → 0 < y → y < 2147483648 → t + 2 * n ≤ 64 → Nat.gcd x y = Nat.gcd a b → At hd_x_lowest X0 8 [some (iv (nI a)), some (iv (nI b)), some (iv u), some (iv (nI x)), some (iv (nI y)), some (iv (nI t)), none] [] σ (retI F) := by
    intro n
    induction n with
    | zero =>
      intro x y t hx hx2 hy hy2 ht hg
      have x0 : x = 0 := by have : x < 1 := hx; omega
      subst x0
      rw [Nat.gcd_zero_left] at hg
      refine l_x_lowest_8 _ _ _ _ _ _ _ _ ⟨fun _ => fin _ _ _ hy hy2 hg, fun _ => ⟨fun _ => fin _ _ _ hy hy2 hg, fun q => absurd rfl q⟩⟩
    | succ n ih =>
      intro x y t hx hx2 hy hy2 ht hg
      by_cases x0 : x = 0
      · subst x0
        rw [Nat.gcd_zero_left] at hg
        refine l_x_lowest_8 _ _ _ _ _ _ _ _ ⟨fun _ => fin _ _ _ hy hy2 hg, fun _ => ⟨fun _ => fin _ _ _ hy hy2 hg, fun q => absurd rfl q⟩⟩
      have nx : ¬ nI x = 0 := by rw [show (0 : Int32) = nI 0 from rfl, nI_eq (by omega) (by omega)]; omega
      have t64 : ¬ (64 : Int32) ≤ nI t := by rw [show (64 : Int32) = nI 64 from rfl, nI_leI (by omega) (by omega)]; omega
      refine l_x_lowest_8 _ _ _ _ _ _ _ _ ⟨fun q => absurd q t64, fun _ => ⟨fun q => absurd q nx, fun _ => ⟨nx, ?_⟩⟩⟩
      rw [nI_rem hy2 hx2, nI_1]
      have hlt := Nat.mod_lt y (show 0 < x by omega)
      have hg2 : Nat.gcd (y % x) x = Nat.gcd a b := by rw [← Nat.gcd_rec]; exact hg
      have t65 : ¬ (64 : Int32) ≤ nI (t + 1) := by rw [show (64 : Int32) = nI 64 from rfl, nI_leI (by omega) (by omega)]; omega
      by_cases r0 : y % x = 0
      · rw [r0] at hg2 ⊢
        rw [Nat.gcd_zero_left] at hg2
        exact l_x_lowest_8 _ _ _ _ _ _ _ _ ⟨fun q => absurd q t65, fun _ => ⟨fun _ => fin _ _ _ (by omega) hx2 hg2, fun q => absurd rfl q⟩⟩
      have nr : ¬ nI (y % x) = 0 := by rw [show (0 : Int32) = nI 0 from rfl, nI_eq (by omega) (by omega)]; omega
      refine l_x_lowest_8 _ _ _ _ _ _ _ _ ⟨fun q => absurd q t65, fun _ => ⟨fun q => absurd q nr, fun _ => ⟨nr, ?_⟩⟩⟩
      rw [nI_rem hx2 (by omega), nI_1]
      have h2 := two_mod (a := x) (b := y % x) (by omega) (by omega)
      rw [Nat.pow_succ] at hx
      exact ih _ _ _ (by omega) (by omega) (by omega) (by omega) (by omega) (by rw [← Nat.gcd_rec]; exact hg2)
  exact e_x_lowest _ _ _ _ _ (loop 31 a b 0 (by omega) ha hb hb2 (by omega) rfl)
theorem m_part {a b : Nat} (ha : a < 2147483648) (hb : 0 < b) (hb2 : b < 2147483648) (u : Int32) (σ : St) (F : Int32 → St → Prop) (h0 : ¬ u = 0 → F (nI (b / Nat.gcd a b)) σ) (h1 : u = 0 → F (nI (a / Nat.gcd a b)) σ) : CallI hd_m_partOf [iv (nI a), iv (nI b), iv u] σ F := by
  have loop : ∀ n y, y ≤ n → ∀ x, x < 2147483648 → y < 2147483648 → (0 < x ∨ 0 < y) → Nat.gcd x y = Nat.gcd a b → At hd_m_partOf X0 14 [some (iv (nI a)), some (iv (nI b)), some (iv u), some (iv (nI x)), some (iv (nI y)), none] [] σ (retI F) := by
    intro n
    induction n with
    | zero =>
      intro y hn x hx hy hxy hg
      have y0 : y = 0 := Nat.le_zero.mp hn
      subst y0
      rw [Nat.gcd_zero_right] at hg
      have nx : ¬ nI x = 0 := by rw [show (0 : Int32) = nI 0 from rfl, nI_eq (by omega) (by omega)]; omega
      refine l_m_partOf_14 _ _ _ _ _ _ _ ⟨fun _ => ⟨fun q => ⟨nx, ?_⟩, fun q => ⟨nx, ?_⟩⟩, fun q => absurd rfl q⟩
      · rw [nI_div hb2 hx, hg]; exact h0 q
      · rw [nI_div ha hx, hg]; exact h1 q
    | succ n ih =>
      intro y hn x hx hy hxy hg
      by_cases y0 : y = 0
      · exact ih y (by omega) x hx hy hxy hg
      have ny : ¬ nI y = 0 := by rw [show (0 : Int32) = nI 0 from rfl, nI_eq (by omega) (by omega)]; omega
      refine l_m_partOf_14 _ _ _ _ _ _ _ ⟨fun q => absurd q ny, fun _ => ⟨ny, ?_⟩⟩
      rw [nI_rem hx hy]
      have hlt := Nat.mod_lt x (show 0 < y by omega)
      refine ih _ (by omega) _ hy (by omega) (Or.inl (by omega)) ?_
      rw [Nat.gcd_comm, ← Nat.gcd_rec, Nat.gcd_comm]; exact hg
  refine e_m_partOf _ _ _ _ _ ⟨fun _ => loop b b (Nat.le_refl _) a ha hb2 (Or.inr hb) rfl, fun q => ?_⟩
  exfalso
  apply q
  rw [fa_le, t_0, ti_nI ha]; omega
