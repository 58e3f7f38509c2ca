/-! sets of hills, bit by bit -/
def smN (f : Nat → Nat) : Nat → Nat
  | 0 => 0
  | n + 1 => smN f n + f n
theorem smN_cg {f g : Nat → Nat} : ∀ n, (∀ i, i < n → f i = g i) → smN f n = smN g n
  | 0, _ => rfl
  | n + 1, h => by simp only [smN]; rw [smN_cg n (fun i hi => h i (by omega)), h n (by omega)]
theorem smN_le {f g : Nat → Nat} : ∀ n, (∀ i, i < n → f i ≤ g i) → smN f n ≤ smN g n
  | 0, _ => Nat.le_refl _
  | n + 1, h => by simp only [smN]; have := smN_le n (fun i hi => h i (by omega)); have := h n (by omega); omega
theorem smN_mn {f : Nat → Nat} {m : Nat} : ∀ n, m ≤ n → smN f m ≤ smN f n
  | 0, h => by rw [Nat.le_zero.mp h]; omega
  | n + 1, h => by
    by_cases e : m = n + 1
    · rw [e]; omega
    · simp only [smN]; have := smN_mn (f := f) n (show m ≤ n by omega); omega
theorem smN_z {f : Nat → Nat} : ∀ n, (∀ i, i < n → f i = 0) → smN f n = 0
  | 0, _ => rfl
  | n + 1, h => by simp only [smN]; rw [smN_z n (fun i hi => h i (by omega)), h n (by omega)]
theorem smN_one {f g : Nat → Nat} {j d : Nat} (hj : g j = f j + d) : ∀ n, j < n → (∀ i, i < n → i ≠ j → g i = f i) → smN g n = smN f n + d
  | 0, h, _ => by omega
  | n + 1, h, k => by
    simp only [smN]
    by_cases e : j = n
    · subst e
      rw [smN_cg (f := g) (g := f) j (fun i hi => k i (by omega) (by omega)), hj]; omega
    · rw [smN_one hj n (by omega) (fun i hi => k i (by omega)), k n (by omega) (by omega)]; omega
theorem smN_K {p : Nat → Bool} {K : Nat} : ∀ n, smN (fun h => if p h then K else 0) n = smN (fun h => if p h then 1 else 0) n * K
  | 0 => by simp [smN]
  | n + 1 => by
    simp only [smN]
    rw [smN_K n, Nat.add_mul]
    split <;> simp
def ctb (S : Nat) : Nat := smN (fun h => if S.testBit h then 1 else 0) 12
theorem ctb_le (S : Nat) : ctb S ≤ 12 := by
  have : ctb S ≤ smN (fun _ => 1) 12 := smN_le 12 (fun i _ => by split <;> omega)
  exact this
theorem bt_a : ∀ h, h < 12 → ∀ a, a < 64 → ∀ b, b < 64 → (nI (64 * a + b) >>> (nI h &&& 31)) &&& 1 = if (64 * a + b).testBit h then 1 else 0 := by decide +kernel
theorem bt_b : ∀ h, h < 12 → ∀ a, a < 64 → ∀ b, b < 64 → (64 * a + b).testBit h = false → 64 * a + b + 2 ^ h = 64 * a + b ||| 2 ^ h := by decide +kernel
theorem bt1 {h S : Nat} (hh : h < 12) (hS : S < 4096) : (nI S >>> (nI h &&& 31)) &&& 1 = if S.testBit h then 1 else 0 := by
  have := bt_a h hh (S / 64) (by omega) (S % 64) (by omega)
  rw [show 64 * (S / 64) + S % 64 = S by omega] at this; exact this
theorem bt4 : ∀ h, h < 13 → (1 : Int32) <<< (nI h &&& 31) = nI (2 ^ h) := by decide +kernel
theorem nI_bit {M i : Nat} (hi : i < 32) : (nI M).toBitVec.getLsbD i = M.testBit i := by
  have : (nI M).toBitVec = BitVec.ofNat 32 M := rfl
  rw [this, BitVec.getLsbD_ofNat, decide_eq_true hi, Bool.true_and]
theorem nI_or (A B : Nat) : nI A ||| nI B = nI (A ||| B) := by
  have h2 : (nI A).toBitVec ||| (nI B).toBitVec = (nI (A ||| B)).toBitVec := by
    apply BitVec.eq_of_getLsbD_eq
    intro i hi
    rw [BitVec.getLsbD_or, nI_bit hi, nI_bit hi, nI_bit hi, Nat.testBit_or]
  exact Int32.toBitVec_inj.mp h2
theorem bt2 {h S : Nat} (hh : h < 12) (hS : S < 4096) (hb : S.testBit h = false) : nI S ||| (1 <<< (nI h &&& 31)) = nI (S + 2 ^ h) ∧ S + 2 ^ h = S ||| 2 ^ h := by
  have := bt_b h hh (S / 64) (by omega) (S % 64) (by omega)
  rw [show 64 * (S / 64) + S % 64 = S by omega] at this
  have e := this hb
  exact ⟨by rw [bt4 h (by omega), nI_or, e], e⟩
theorem tb_ge {h S : Nat} (hb : S.testBit h = true) : 2 ^ h ≤ S := Nat.ge_two_pow_of_testBit hb
theorem tb_sub {h S : Nat} (hb : S.testBit h = true) : (S - 2 ^ h).testBit h = false := by
  have e := Nat.testBit_two_pow_add_eq (S - 2 ^ h) h
  rw [show 2 ^ h + (S - 2 ^ h) = S by have := tb_ge hb; omega, hb] at e
  cases c : (S - 2 ^ h).testBit h with
  | false => rfl
  | true => rw [c] at e; simp at e
theorem tb_add {h S : Nat} (hb : S.testBit h = false) : (S + 2 ^ h).testBit h = true := by
  rw [Nat.add_comm, Nat.testBit_two_pow_add_eq, hb]; rfl
theorem tb_or {h S g : Nat} (hh : h < 12) (hS : S < 4096) (hb : S.testBit h = false) : (S + 2 ^ h).testBit g = (S.testBit g || decide (h = g)) := by
  rw [(bt2 hh hS hb).2, Nat.testBit_or, Nat.testBit_two_pow]
theorem bt3 {h S : Nat} (hh : h < 12) (hS : S < 4096) (hb : S.testBit h = true) : ctb (S - 2 ^ h) + 1 = ctb S := by
  have hs := tb_sub hb
  have hg := tb_ge hb
  have e : ∀ g, S.testBit g = ((S - 2 ^ h).testBit g || decide (h = g)) := fun g => by
    have := tb_or (g := g) hh (Nat.lt_of_le_of_lt (Nat.sub_le _ _) hS) hs
    rw [Nat.sub_add_cancel hg] at this; exact this
  unfold ctb
  refine (smN_one (j := h) (d := 1) ?_ 12 hh (fun i _ hi => ?_)).symm
  · rw [hb, hs]; rfl
  · rw [e i, decide_eq_false (fun q => hi q.symm), Bool.or_false]
theorem pos2 (h : Nat) : 0 < 2 ^ h := Nat.two_pow_pos h
theorem bitN_tb (p : Nat → Bool) (g : Nat) : ∀ n, (bitN p n).testBit g = (decide (g < n) && p g)
  | 0 => by simp [bitN]
  | n + 1 => by
    have lt := bitN_lt p n
    simp only [bitN]
    by_cases c : p n = true
    · rw [if_pos c, Nat.add_comm]
      by_cases e : g = n
      · subst e
        rw [Nat.testBit_two_pow_add_eq, Nat.testBit_lt_two_pow lt, c, decide_eq_true (by omega)]; rfl
      · by_cases l : g < n
        · rw [Nat.testBit_two_pow_add_gt l, bitN_tb p g n, decide_eq_true l, decide_eq_true (show g < n + 1 by omega)]
        · rw [decide_eq_false (show ¬ g < n + 1 by omega), Bool.false_and]
          refine Nat.testBit_lt_two_pow ?_
          have : 2 ^ (n + 1) ≤ 2 ^ g := Nat.pow_le_pow_right (by omega) (by omega)
          rw [Nat.pow_succ] at this
          omega
    · rw [if_neg c, Nat.add_zero, bitN_tb p g n]
      by_cases e : g = n
      · subst e
        rw [show p g = false by simpa using c]; simp
      · by_cases l : g < n
        · rw [decide_eq_true l, decide_eq_true (show g < n + 1 by omega)]
        · rw [decide_eq_false l, decide_eq_false (show ¬ g < n + 1 by omega)]
/-- all of M lies in A -/
theorem sub_bits {M A : Nat} : nI M &&& (nI A ^^^ -1) = 0 ↔ ∀ i, i < 32 → M.testBit i = true → A.testBit i = true := by
  have key : nI M &&& (nI A ^^^ -1) = 0 ↔ ∀ i, i < 32 → ((nI M).toBitVec &&& ((nI A).toBitVec ^^^ BitVec.allOnes 32)).getLsbD i = false := by
    constructor
    · intro h i hi
      have h2 : (nI M).toBitVec &&& ((nI A).toBitVec ^^^ BitVec.allOnes 32) = 0#32 := congrArg Int32.toBitVec h
      rw [h2]; simp
    · intro h
      have h2 : (nI M).toBitVec &&& ((nI A).toBitVec ^^^ BitVec.allOnes 32) = 0#32 := by
        apply BitVec.eq_of_getLsbD_eq
        intro i hi
        rw [h i hi]; simp
      exact Int32.toBitVec_inj.mp h2
  rw [key]
  constructor
  · intro h i hi hm
    have := h i hi
    rw [BitVec.getLsbD_and, BitVec.getLsbD_xor, nI_bit hi, nI_bit hi, BitVec.getLsbD_allOnes, decide_eq_true hi, hm] at this
    simpa using this
  · intro h i hi
    rw [BitVec.getLsbD_and, BitVec.getLsbD_xor, nI_bit hi, nI_bit hi, BitVec.getLsbD_allOnes, decide_eq_true hi]
    cases c : M.testBit i with
    | false => rfl
    | true => rw [h i hi c]; rfl
def fct : Nat → Nat
  | 0 => 1
  | n + 1 => (n + 1) * fct n
theorem fct_mn {m : Nat} : ∀ n, m ≤ n → fct m ≤ fct n
  | 0, h => by rw [Nat.le_zero.mp h]; omega
  | n + 1, h => by
    by_cases e : m = n + 1
    · rw [e]; omega
    · have := fct_mn (m := m) n (by omega)
      simp only [fct]
      have : fct n ≤ (n + 1) * fct n := Nat.le_mul_of_pos_left _ (by omega)
      omega
theorem fct12 {n : Nat} (h : n ≤ 12) : fct n < 2147483648 := Nat.lt_of_le_of_lt (fct_mn 12 h) (by decide)
