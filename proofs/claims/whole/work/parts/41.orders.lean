/-! orders that dates allow -/
/-- hill h may stand last in S, as far as hills below g tell -/
def myT (w : Wo) (S h : Nat) : Nat → Bool
  | 0 => S.testBit h
  | g + 1 => myT w S h g && (S.testBit g || !old w g h)
def Wf (w : Wo) (n : Nat) : Nat → Nat → Nat
  | 0, _ => 0
  | f + 1, S => if S = 0 then 1 else smN (fun h => if myT w S h n then Wf w n f (S - 2 ^ h) else 0) n
theorem my_tb {w : Wo} {S h : Nat} : ∀ n, myT w S h n = true → S.testBit h = true
  | 0, e => e
  | n + 1, e => by simp only [myT, Bool.and_eq_true] at e; exact my_tb n e.1
theorem my_iff {w : Wo} {S h : Nat} : ∀ n, myT w S h n = true ↔ S.testBit h = true ∧ ∀ g, g < n → S.testBit g = true ∨ old w g h = false
  | 0 => ⟨fun e => ⟨e, fun g hg => by omega⟩, fun e => e.1⟩
  | n + 1 => by
    simp only [myT, Bool.and_eq_true, Bool.or_eq_true, Bool.not_eq_true']
    rw [my_iff n]
    constructor
    · rintro ⟨⟨h1, h2⟩, h3⟩
      refine ⟨h1, fun g hg => ?_⟩
      by_cases e : g = n
      · subst e; exact h3
      · exact h2 g (by omega)
    · rintro ⟨h1, h2⟩
      exact ⟨⟨h1, fun g hg => h2 g (by omega)⟩, h2 n (by omega)⟩
theorem Wf_f (w : Wo) (n : Nat) : ∀ f f' S, S < f → S < f' → Wf w n f S = Wf w n f' S
  | 0, _, S, h, _ => by omega
  | f + 1, 0, S, _, h => by omega
  | f + 1, f' + 1, S, h, h' => by
    simp only [Wf]
    by_cases z : S = 0
    · rw [if_pos z, if_pos z]
    · rw [if_neg z, if_neg z]
      refine smN_cg n fun i hi => ?_
      by_cases c : myT w S i n = true
      · rw [if_pos c, if_pos c]
        have := tb_ge (my_tb n c)
        have := pos2 i
        exact Wf_f w n f f' (S - 2 ^ i) (by omega) (by omega)
      · rw [if_neg c, if_neg c]
def Ww (w : Wo) (n S : Nat) : Nat := Wf w n (S + 1) S
def Wt (w : Wo) (n S h : Nat) : Nat := if myT w S h n then Ww w n (S - 2 ^ h) else 0
theorem Ww_0 (w : Wo) (n : Nat) : Ww w n 0 = 1 := rfl
theorem Ww_s {w : Wo} {n S : Nat} (h : 0 < S) : Ww w n S = smN (Wt w n S) n := by
  have e : Ww w n S = smN (fun h => if myT w S h n then Wf w n S (S - 2 ^ h) else 0) n := by
    unfold Ww; simp only [Wf]; rw [if_neg (by omega)]
  rw [e]
  refine smN_cg n fun i hi => ?_
  unfold Wt
  by_cases c : myT w S i n = true
  · rw [if_pos c, if_pos c]
    have := tb_ge (my_tb n c)
    have := pos2 i
    exact Wf_f w n _ _ _ (by omega) (by omega)
  · rw [if_neg c, if_neg c]
theorem Ww_b {w : Wo} {n : Nat} (hn : n ≤ 12) : ∀ k S, S ≤ k → S < 4096 → Ww w n S ≤ fct (ctb S)
  | 0, S, h, _ => by rw [Nat.le_zero.mp h]; exact Nat.le_refl 1
  | k + 1, S, h, h4 => by
    by_cases z : S = 0
    · rw [z]; exact Nat.le_refl 1
    rw [Ww_s (by omega)]
    have s1 : smN (Wt w n S) n ≤ smN (fun h => if S.testBit h then fct (ctb S - 1) else 0) n := by
      refine smN_le n fun i hi => ?_
      unfold Wt
      by_cases c : myT w S i n = true
      · have tb := my_tb n c
        have ge := tb_ge tb
        have ps := pos2 i
        rw [if_pos c, if_pos tb]
        have := Ww_b (w := w) hn k (S - 2 ^ i) (by omega) (by omega)
        have e := bt3 (show i < 12 by omega) h4 tb
        rw [show ctb S - 1 = ctb (S - 2 ^ i) by omega]; exact this
      · rw [if_neg c]; omega
    have s2 : smN (fun h => if S.testBit h then fct (ctb S - 1) else 0) n ≤ smN (fun h => if S.testBit h then fct (ctb S - 1) else 0) 12 := smN_mn 12 hn
    rw [smN_K 12] at s2
    have s3 : smN (fun h => if S.testBit h then 1 else 0) 12 = ctb S := rfl
    rw [s3] at s2
    by_cases c0 : ctb S = 0
    · rw [c0] at s1 s2 ⊢
      rw [Nat.zero_mul] at s2
      simp only [fct]; omega
    · obtain ⟨m, hm⟩ : ∃ m, ctb S = m + 1 := ⟨ctb S - 1, by omega⟩
      rw [hm] at s1 s2 ⊢
      rw [Nat.add_sub_cancel] at s1 s2
      simp only [fct]; omega
theorem Ww_lt {w : Wo} {n S : Nat} (hn : n ≤ 12) (hS : S < 4096) : Ww w n S < 2147483648 := Nat.lt_of_le_of_lt (Ww_b hn S S (Nat.le_refl _) hS) (fct12 (ctb_le S))
/-- what has come to S from sets below A, and from A by hills below hh -/
def Pc (w : Wo) (n A hh S h : Nat) : Nat := if S - 2 ^ h < A ∨ (S - 2 ^ h = A ∧ h < hh) then Wt w n S h else 0
def Pw (w : Wo) (n A hh S : Nat) : Nat := if S = 0 then 1 else smN (Pc w n A hh S) n
theorem Pw_full {w : Wo} {n A hh S : Nat} (h : S ≤ A) : Pw w n A hh S = Ww w n S := by
  unfold Pw
  by_cases z : S = 0
  · rw [if_pos z, z]; rfl
  · rw [if_neg z, Ww_s (by omega)]
    refine smN_cg n fun i hi => ?_
    unfold Pc
    by_cases c : myT w S i n = true
    · have := tb_ge (my_tb n c)
      have := pos2 i
      rw [if_pos (Or.inl (by omega))]
    · have : Wt w n S i = 0 := by unfold Wt; rw [if_neg c]
      rw [this]; split <;> rfl
theorem Pw_next {w : Wo} {n A S : Nat} : Pw w n A n S = Pw w n (A + 1) 0 S := by
  unfold Pw
  split
  · rfl
  · refine smN_cg n fun i hi => ?_
    unfold Pc
    by_cases c : S - 2 ^ i < A + 1
    · rw [if_pos (by omega), if_pos (by omega)]
    · rw [if_neg (by omega), if_neg (by omega)]
theorem Wt_z {w : Wo} {n S h A : Nat} (e : S - 2 ^ h = A) (hz : Ww w n A = 0) : Wt w n S h = 0 := by
  unfold Wt; rw [e, hz]; split <;> rfl
theorem Pw_skip {w : Wo} {n A hh S : Nat} (hz : Ww w n A = 0) : Pw w n A hh S = Pw w n (A + 1) 0 S := by
  rw [← Pw_next]
  unfold Pw
  split
  · rfl
  · refine smN_cg n fun i hi => ?_
    unfold Pc
    by_cases c : S - 2 ^ i < A
    · rw [if_pos (Or.inl c), if_pos (Or.inl c)]
    · by_cases d : S - 2 ^ i = A
      · rw [Wt_z d hz]; split <;> split <;> rfl
      · rw [if_neg (by omega), if_neg (by omega)]
/-- one hill more: nothing new at S -/
theorem Pw_same {w : Wo} {n A hh S : Nat} (h : S.testBit hh = true → S - 2 ^ hh = A → Wt w n S hh = 0) : Pw w n A (hh + 1) S = Pw w n A hh S := by
  unfold Pw
  split
  · rfl
  · refine smN_cg n fun i hi => ?_
    unfold Pc
    by_cases e : i = hh
    · subst e
      by_cases d : S - 2 ^ i = A
      · have : Wt w n S i = 0 := by
          by_cases t : S.testBit i = true
          · exact h t d
          · unfold Wt; rw [if_neg (fun q => t (my_tb n q))]
        rw [this]; split <;> split <;> rfl
      · by_cases c : S - 2 ^ i < A
        · rw [if_pos (Or.inl c), if_pos (Or.inl c)]
        · rw [if_neg (by omega), if_neg (by omega)]
    · by_cases c : S - 2 ^ i < A
      · rw [if_pos (Or.inl c), if_pos (Or.inl c)]
      · by_cases d : S - 2 ^ i = A ∧ i < hh
        · rw [if_pos (by omega), if_pos (by omega)]
        · rw [if_neg (by omega), if_neg (by omega)]
theorem Pw_new {w : Wo} {n A hh : Nat} (hn : hh < n) (hm : myT w (A + 2 ^ hh) hh n = true) : Pw w n A (hh + 1) (A + 2 ^ hh) = Pw w n A hh (A + 2 ^ hh) + Ww w n A := by
  have ps := pos2 hh
  unfold Pw
  rw [if_neg (by omega), if_neg (by omega)]
  refine smN_one (j := hh) ?_ n hn (fun i hi ne => ?_)
  · unfold Pc Wt
    rw [Nat.add_sub_cancel, if_pos hm, if_pos (show A < A ∨ A = A ∧ hh < hh + 1 from Or.inr ⟨rfl, by omega⟩), if_neg (show ¬ (A < A ∨ A = A ∧ hh < hh) by omega), Nat.zero_add]
  · unfold Pc
    by_cases c : A + 2 ^ hh - 2 ^ i < A
    · rw [if_pos (Or.inl c), if_pos (Or.inl c)]
    · by_cases d : A + 2 ^ hh - 2 ^ i = A ∧ i < hh
      · rw [if_pos (by omega), if_pos (by omega)]
      · rw [if_neg (by omega), if_neg (by omega)]
theorem Pw_0 (w : Wo) (n S : Nat) : Pw w n 0 0 S = if S = 0 then 1 else 0 := by
  unfold Pw
  by_cases z : S = 0
  · rw [if_pos z, if_pos z]
  · rw [if_neg z, if_neg z]
    exact smN_z n fun i hi => by unfold Pc; rw [if_neg (by omega)]
theorem c_fill3 {N : Nat} (hN : N ≤ 4096) (σ : St) (F : St → Prop) (h : ∀ τ, Fr (fun p _ => p = 118) σ τ → (∀ i, i < N → τ 118 i = 0) → F τ) : CallV hd_ar_fill3 [rf 4 118, iv 0, iv (nI N), iv 0] σ F := by
  have loop : ∀ m i, i + m = N → ∀ τ, Fr (fun p _ => p = 118) σ τ → (∀ q, q < i → τ 118 q = 0) → At hd_ar_fill3 X0 10 [some (rf 4 118), some (iv 0), some (iv (nI N)), some (iv 0), some (iv (nI i))] [] τ (retV F) := by
    intro m
    induction m with
    | zero =>
      intro i hi τ ht k
      have : i = N := by omega
      subst this
      exact l_ar_fill3_10 _ _ _ _ _ _ _ ⟨fun _ => h τ ht k, fun q => absurd (by rw [nI_leI (by omega) (by omega)]; omega) q⟩
    | succ m ih =>
      intro i hi τ ht k
      refine l_ar_fill3_10 _ _ _ _ _ _ _ ⟨fun q => ?_, fun _ => ⟨vin0 i rfl (by omega) (by decide), ?_⟩⟩
      · exfalso; rw [nI_leI (by omega) (by omega)] at q; omega
      rw [nI_clamp (by omega), nI_1]
      refine ih (i + 1) (by omega) _ (ht.up rfl) (fun q hq => ?_)
      by_cases e : q = i
      · subst e; rw [up_at]
      · rw [up_jb _ _ e]; exact k q (by omega)
  refine e_ar_fill3 _ _ _ _ _ _ (e_ar_rangeCheck _ _ _ _ _ ⟨fun _ => ⟨fun _ => ⟨fun _ => loop N 0 (by omega) σ Fr.rf (fun q hq => by omega), fun q => q ?_⟩, fun q => q (by decide)⟩, fun q => q ?_⟩)
  · rw [fa_le, ti_nI (by omega), t_4096]; omega
  · rw [fa_le, ti_nI (by omega), t_0]; omega
theorem x_olderThan {w : Wo} {σ : St} (hc : cW w 36 50 σ) (hF : okF w) (hH : okH w) {h : Nat} (hh : h < nh w) (F : Int32 → St → Prop) (k : F (nI (bitN (fun g => old w g h) (nh w))) σ) : CallI hd_ro_olderThan [rf 51 115, iv (nI h)] σ F := by
  have nhh := hH.1
  have loop : ∀ m g, g + m = nh w → At hd_ro_olderThan X0 4 [some (rf 51 115), some (iv (nI h)), some (iv (bitP (fun g => old w g h) g)), some (iv (nI g))] [] σ (retI F) := by
    intro m
    induction m with
    | zero =>
      intro g hg
      have : g = nh w := by omega
      subst this
      refine l_ro_olderThan_4 _ _ _ _ _ ?_
      rw [hc.2.2.1, bitP_N _ _ nhh]
      exact ⟨fun _ => k, fun q => absurd (by rw [nI_leI (by omega) (by omega)]; omega) q⟩
    | succ m ih =>
      intro g hg
      have key := ih (g + 1) (by omega)
      refine l_ro_olderThan_4 _ _ _ _ _ ?_
      rw [hc.2.2.1, nI_1]
      refine ⟨fun q => ?_, fun _ => x_older hc hF hH (by omega) hh _ ?_⟩
      · exfalso; rw [nI_leI (by omega) (by omega)] at q; omega
      rw [b10, Bool.not_eq_false]
      refine ⟨fun q => ?_, fun q => ?_⟩
      · rw [show bitP (fun g => old w g h) (g + 1) = bitP (fun g => old w g h) g ||| 0 from bitP_f q] at key; exact key
      · rw [show bitP (fun g => old w g h) (g + 1) = bitP (fun g => old w g h) g ||| (1 <<< (nI g &&& 31)) from bitP_t q] at key; exact key
  exact e_ro_olderThan _ _ _ (loop (nh w) 0 (by omega))
theorem old_self {w : Wo} (hF : okF w) (hH : okH w) {h : Nat} (hh : h < nh w) : old w h h = false := by
  have := lohi hF hH hh
  unfold old
  exact decide_eq_false (by omega)
/-- hill h may follow A -/
theorem foll {w : Wo} (hF : okF w) (hH : okH w) {A h : Nat} (hh : h < nh w) (hA : A < 4096) (hb : A.testBit h = false) : nI (bitN (fun g => old w g h) (nh w)) &&& (nI A ^^^ -1) = 0 ↔ myT w (A + 2 ^ h) h (nh w) = true := by
  have nhh := hH.1
  rw [sub_bits, my_iff]
  constructor
  · intro k
    refine ⟨tb_add hb, fun g hg => ?_⟩
    cases c : old w g h with
    | false => exact Or.inr rfl
    | true =>
      left
      have := k g (by omega) (by rw [bitN_tb, decide_eq_true hg, c]; rfl)
      rw [tb_or (by omega) hA hb, this]; rfl
  · rintro ⟨-, k⟩ i hi hm
    rw [bitN_tb] at hm
    simp only [Bool.and_eq_true, decide_eq_true_eq] at hm
    rcases k i hm.1 with q | q
    · rw [tb_or (by omega) hA hb] at q
      simp only [Bool.or_eq_true, decide_eq_true_eq] at q
      rcases q with q | q
      · exact q
      · subst q
        rw [old_self hF hH hh] at hm
        exact absurd hm.2 (by simp)
    · rw [q] at hm; exact absurd hm.2 (by simp)
theorem x_orders {w : Wo} {σ : St} (hc : cW w 36 50 σ) (hF : okF w) (hH : okH w) (h0 : 0 < nh w) (F : Int32 → St → Prop) (h : ∀ τ, Fr (fun p _ => p = 117 ∨ p = 118) σ τ → F (nI (Ww w (nh w) (2 ^ nh w - 1))) τ) : CallI hd_ro_allowedOrders [rf 51 115] σ F := by
  have nhh := hH.1
  have p2 : 2 ^ nh w ≤ 4096 := Nat.pow_le_pow_right (n := 2) (by omega) nhh
  have pp := pos2 (nh w)
  have eall : (1 : Int32) <<< (nI (nh w) &&& 31) - 1 = nI (2 ^ nh w - 1) := by rw [bt4 _ (by omega), sub1 pp]
  have hcf : ∀ τ, Fr (fun p _ => p = 117 ∨ p = 118) σ τ → cW w 36 50 τ := fun τ ht => cW_frm (fun a b _ _ => ht a b (by omega)) hc
  -- the sets in their order
  have l63 : ∀ m A, A + m = 2 ^ nh w - 1 → ∀ τ, Fr (fun p _ => p = 117 ∨ p = 118) σ τ → (∀ i, i < nh w → τ 117 i = nI (bitN (fun g => old w g i) (nh w))) → (∀ S, S < 2 ^ nh w → τ 118 S = nI (Pw w (nh w) A 0 S)) → At hd_ro_allowedOrders X0 63 [some (rf 51 115), some (iv (nI (2 ^ nh w - 1))), some (iv (nI A)), none, none] [] τ (retI F) := by
    intro m
    induction m with
    | zero =>
      intro A hA τ ht k7 k8
      have : A = 2 ^ nh w - 1 := by omega
      subst this
      refine l_ro_allowedOrders_63 _ _ _ _ ⟨fun _ => ⟨vin0 _ rfl (by omega) (by decide), ?_⟩, fun q => absurd (by rw [nI_leI (by omega) (by omega)]; omega) q⟩
      rw [nI_clamp (by omega), k8 _ (by omega), Pw_full (Nat.le_refl _)]
      exact h τ ht
    | succ m ih =>
      intro A hA τ ht k7 k8
      have wl := Ww_lt (w := w) (n := nh w) (S := A) nhh (by omega)
      have l70 : ∀ r hh, hh + r = nh w → ∀ τ, Fr (fun p _ => p = 117 ∨ p = 118) σ τ → (∀ i, i < nh w → τ 117 i = nI (bitN (fun g => old w g i) (nh w))) → (∀ S, S < 2 ^ nh w → τ 118 S = nI (Pw w (nh w) A hh S)) → At hd_ro_allowedOrders X0 70 [some (rf 51 115), some (iv (nI (2 ^ nh w - 1))), some (iv (nI A)), some (iv (nI hh)), none] [] τ (retI F) := by
        intro r
        induction r with
        | zero =>
          intro hh hr τ ht k7 k8
          have : hh = nh w := by omega
          subst this
          refine l_ro_allowedOrders_70 _ _ _ _ _ ?_
          rw [(hcf τ ht).2.2.1, nI_1]
          refine ⟨fun _ => ih (A + 1) (by omega) τ ht k7 (fun S hS => by rw [k8 S hS, Pw_next]), fun q => absurd (by rw [nI_leI (by omega) (by omega)]; omega) q⟩
        | succ r ih2 =>
          intro hh hr τ ht k7 k8
          refine l_ro_allowedOrders_70 _ _ _ _ _ ?_
          rw [(hcf τ ht).2.2.1]
          refine ⟨fun q => ?_, fun _ => ⟨vin0 A rfl (by omega) (by decide), ?_⟩⟩
          · exfalso; rw [nI_leI (by omega) (by omega)] at q; omega
          rw [nI_clamp (by omega), k8 A (by omega), Pw_full (Nat.le_refl _), bt1 (show hh < 12 by omega) (by omega), b10, Bool.not_eq_false, nI_1]
          refine ⟨fun q => ?_, fun q => ⟨fun hb => ?_, fun hb => ?_⟩⟩
          · have hz : Ww w (nh w) A = 0 := by rw [fa_le, ti_nI wl, t_0] at q; omega
            exact ih (A + 1) (by omega) τ ht k7 (fun S hS => by rw [k8 S hS, Pw_skip hz])
          · -- it does not stand yet
            have lt : A + 2 ^ hh < 2 ^ nh w := by
              rw [(bt2 (show hh < 12 by omega) (by omega) hb).2]
              exact Nat.or_lt_two_pow (by omega) (Nat.pow_lt_pow_right (by omega) (by omega))
            refine l_ro_allowedOrders_103 _ _ _ _ _ _ (of' ⟨vin0 hh rfl (by omega) (by decide), ?_⟩)
            rw [(bt2 (show hh < 12 by omega) (by omega) hb).1, nI_1]
            simp only [nI_clamp (show hh < 2147483648 by omega), nI_clamp (show A < 2147483648 by omega), nI_clamp (show A + 2 ^ hh < 2147483648 by omega)]
            rw [k7 hh (by omega), foll hF hH (by omega) (by omega) hb]
            refine ⟨fun q => ih2 (hh + 1) (by omega) τ ht k7 (fun S hS => ?_), fun q => ⟨vin0 _ rfl (by omega) (by decide), vin0 A rfl (by omega) (by decide), vin0 _ rfl (by omega) (by decide), ?_⟩⟩
            · rw [k8 S hS]
              congr 1
              refine (Pw_same fun t e => ?_).symm
              have : S = A + 2 ^ hh := by have := tb_ge t; omega
              subst this
              unfold Wt; rw [if_neg q]
            · refine ih2 (hh + 1) (by omega) _ (ht.up (Or.inr rfl)) (fun i hi => by rw [up_ka _ _ (by omega)]; exact k7 i hi) (fun S hS => ?_)
              by_cases e : S = A + 2 ^ hh
              · subst e
                rw [up_at, k8 _ hS, k8 A (by omega), Pw_full (Nat.le_refl A), nI_add, Pw_new (by omega) q]
              · rw [up_jb _ _ e, k8 S hS]
                congr 1
                exact (Pw_same fun t e' => absurd (by have := tb_ge t; omega) e).symm
          · -- it stands
            refine l_ro_allowedOrders_103 _ _ _ _ _ _ (on' ?_)
            rw [nI_1]
            refine ih2 (hh + 1) (by omega) τ ht k7 (fun S hS => ?_)
            rw [k8 S hS]
            congr 1
            refine (Pw_same fun t e => ?_).symm
            have := tb_sub t
            rw [e, hb] at this
            exact absurd this (by simp)
      refine l_ro_allowedOrders_63 _ _ _ _ ⟨fun q => ?_, fun _ => l70 (nh w) 0 (by omega) τ ht k7 k8⟩
      exfalso; rw [nI_leI (by omega) (by omega)] at q; omega
  -- who is older
  have l26 : ∀ m i, i + m = nh w → ∀ τ, Fr (fun p _ => p = 117 ∨ p = 118) σ τ → (∀ j, j < i → τ 117 j = nI (bitN (fun g => old w g j) (nh w))) → (∀ S, S < 2 ^ nh w → τ 118 S = 0) → At hd_ro_allowedOrders X0 26 [some (rf 51 115), some (iv (nI (2 ^ nh w - 1))), some (iv (nI i)), none, none] [] τ (retI F) := by
    intro m
    induction m with
    | zero =>
      intro i hi τ ht k7 k8
      have : i = nh w := by omega
      subst this
      refine l_ro_allowedOrders_26 _ _ _ _ ?_
      rw [(hcf τ ht).2.2.1]
      refine ⟨fun _ => ⟨vin0 0 rfl (by decide) (by decide), ?_⟩, fun q => absurd (by rw [nI_leI (by omega) (by omega)]; omega) q⟩
      refine l63 (2 ^ nh w - 1) 0 (by omega) _ (ht.up (Or.inr rfl)) (fun j hj => by rw [up_ka _ _ (by omega)]; exact k7 j hj) (fun S hS => ?_)
      rw [Pw_0, c_0]
      by_cases e : S = 0
      · subst e; rw [up_at, if_pos rfl]; rfl
      · rw [up_jb _ _ e, if_neg e]; exact k8 S hS
    | succ m ih =>
      intro i hi τ ht k7 k8
      refine l_ro_allowedOrders_26 _ _ _ _ ?_
      rw [(hcf τ ht).2.2.1]
      refine ⟨fun q => ?_, fun _ => x_olderThan (hcf τ ht) hF hH (by omega) _ ⟨vin0 i rfl (by omega) (by decide), ?_⟩⟩
      · exfalso; rw [nI_leI (by omega) (by omega)] at q; omega
      rw [nI_clamp (by omega), nI_1]
      refine ih (i + 1) (by omega) _ (ht.up (Or.inl rfl)) (fun j hj => ?_) (fun S hS => by rw [up_ka _ _ (by omega)]; exact k8 S hS)
      by_cases e : j = i
      · subst e; rw [up_at]
      · rw [up_jb _ _ e]; exact k7 j (by omega)
  refine e_ro_allowedOrders _ _ ?_
  rw [hc.2.2.1, eall, nI_1, Nat.sub_add_cancel pp]
  exact c_fill3 p2 σ _ fun τ ht k => l26 (nh w) 0 (by omega) τ (ht.mn fun a b q => Or.inr q) (fun j hj => by omega) (fun S hS => k S hS)
def PO (a b : Nat) : Prop := a = 136 ∨ (a = 122 ∧ 22 ≤ b ∧ b ≤ 24)
theorem m_orders {w : Wo} {σ : St} (hm : mW w (σ 126) (σ 128)) (hF : okF w) (hH : okH w) (h0 : 0 < nh w) (F : Int32 → St → Prop) (h : ∀ τ, Fr PO σ τ → F (nI (Ww w (nh w) (2 ^ nh w - 1))) τ) (k0 : σ 136 0 = 1) : At hd_m_orders X0 28 [some (rf 55 122), some (iv (nI (nh w))), some (iv 1), none, none, none] [] σ (retI F) := by
  have nhh := hH.1
  have p2 : 2 ^ nh w ≤ 4096 := Nat.pow_le_pow_right (n := 2) (by omega) nhh
  have p1 : 2 ^ 1 ≤ 2 ^ nh w := Nat.pow_le_pow_right (n := 2) (by omega) h0
  have hmf : ∀ τ, Fr PO σ τ → mW w (τ 126) (τ 128) := fun τ ht => mWs_fr (ht.mn fun a b q => by unfold PO at q; unfold SC MS; omega) hm
  have l28 : ∀ m S, S + m = 2 ^ nh w → 0 < S → ∀ τ, Fr PO σ τ → (∀ T, T < S → τ 136 T = nI (Ww w (nh w) T)) → At hd_m_orders X0 28 [some (rf 55 122), some (iv (nI (nh w))), some (iv (nI S)), none, none, none] [] τ (retI F) := by
    intro m
    induction m with
    | zero =>
      intro S hS hS0 τ ht k
      have : S = 2 ^ nh w := by omega
      subst this
      refine l_m_orders_28 _ _ _ _ ?_
      rw [bt4 _ (by omega), sub1 (by omega), nI_clamp (by omega), k _ (by omega)]
      exact ⟨fun _ => ⟨vin0 _ rfl (by omega) (by decide), h τ ht⟩, fun q => absurd (by rw [nI_leI (by omega) (by omega)]; omega) q⟩
    | succ m ih =>
      intro S hS hS0 τ ht k
      have l44 : ∀ r hh, hh + r = nh w → ∀ τ, Fr PO σ τ → (∀ T, T < S → τ 136 T = nI (Ww w (nh w) T)) → τ 136 S = nI (smN (Wt w (nh w) S) hh) → At hd_m_orders X0 44 [some (rf 55 122), some (iv (nI (nh w))), some (iv (nI S)), some (iv (nI hh)), none, none] [] τ (retI F) := by
        intro r
        induction r with
        | zero =>
          intro hh hr τ ht k kS
          have : hh = nh w := by omega
          subst this
          refine l_m_orders_44 _ _ _ _ _ ⟨fun _ => ?_, fun q => absurd (by rw [nI_leI (by omega) (by omega)]; omega) q⟩
          rw [nI_1]
          refine ih (S + 1) (by omega) (by omega) τ ht (fun T hT => ?_)
          by_cases e : T = S
          · subst e; rw [kS, Ww_s hS0]
          · exact k T (by omega)
        | succ r ih2 =>
          intro hh hr τ ht k kS
          have a112 : ∀ (b : Bool) (g : Int32), b = myT w S hh (nh w) → ∀ τ, Fr PO σ τ → (∀ T, T < S → τ 136 T = nI (Ww w (nh w) T)) → τ 136 S = nI (smN (Wt w (nh w) S) hh) → At hd_m_orders X0 112 [some (rf 55 122), some (iv (nI (nh w))), some (iv (nI S)), some (iv (nI hh)), some (iv (if b then 1 else 0)), some (iv g)] [] τ (retI F) := by
            intro b g eb τ ht k kS
            have key : ∀ d : Nat, d = Wt w (nh w) S hh → At hd_m_orders X0 44 [some (rf 55 122), some (iv (nI (nh w))), some (iv (nI S)), some (iv (nI (hh + 1))), none, none] [] (up τ 136 S (nI (smN (Wt w (nh w) S) hh) + nI d)) (retI F) := fun d ed => by
              refine ih2 (hh + 1) (by omega) _ (ht.up (Or.inl rfl)) (fun T hT => by rw [up_jb _ _ (by omega)]; exact k T hT) ?_
              rw [up_at, nI_add, ed]; rfl
            refine l_m_orders_112 _ _ _ _ _ _ _ ⟨vin0 S rfl (by omega) (by decide), ?_⟩
            rw [nI_clamp (by omega), kS, nI_1, b10, Bool.not_eq_false, bt4 _ (by omega)]
            refine ⟨fun q => ⟨vin0 S rfl (by omega) (by decide), key 0 ?_⟩, fun q => ?_⟩
            · unfold Wt; rw [← eb, q]; rfl
            · have tb := my_tb (nh w) (by rw [← eb]; exact q)
              have ge := tb_ge tb
              have ps := pos2 hh
              have es : nI S - nI (2 ^ hh) = nI (S - 2 ^ hh) := by
                rw [fa_eq, ti_sub (by rw [ti_nI (by omega), ti_nI (by omega)]; omega), ti_nI (by omega), ti_nI (by omega), ti_nI (by omega)]; omega
              rw [es, nI_clamp (by omega), k _ (by omega)]
              refine ⟨vin0 _ rfl (by omega) (by decide), vin0 S rfl (by omega) (by decide), key _ ?_⟩
              unfold Wt; rw [← eb, q]; rfl
          have l68 : ∀ q g, g + q = nh w → ∀ τ, Fr PO σ τ → (∀ T, T < S → τ 136 T = nI (Ww w (nh w) T)) → τ 136 S = nI (smN (Wt w (nh w) S) hh) → At hd_m_orders X0 68 [some (rf 55 122), some (iv (nI (nh w))), some (iv (nI S)), some (iv (nI hh)), some (iv (if myT w S hh g then 1 else 0)), some (iv (nI g))] [] τ (retI F) := by
            intro q
            induction q with
            | zero =>
              intro g hg τ ht k kS
              have : g = nh w := by omega
              subst this
              exact l_m_orders_68 _ _ _ _ _ _ _ ⟨fun _ => a112 _ _ rfl τ ht k kS, fun q => absurd (by rw [nI_leI (by omega) (by omega)]; omega) q⟩
            | succ q ih3 =>
              intro g hg τ ht k kS
              refine l_m_orders_68 _ _ _ _ _ _ _ ⟨fun z => ?_, fun _ => ?_⟩
              · exfalso; rw [nI_leI (by omega) (by omega)] at z; omega
              rw [b10, Bool.not_eq_false, bt1 (show g < 12 by omega) (by omega), nI_1]
              refine ⟨fun z => a112 _ _ ?_ τ ht k kS, fun z => ⟨fun y => ?_, fun y => ?_⟩⟩
              · rw [z]
                cases c : myT w S hh (nh w) with
                | false => rfl
                | true =>
                  have := (my_iff (nh w)).mp c
                  have : myT w S hh g = true := (my_iff g).mpr ⟨this.1, fun g' hg' => this.2 g' (by omega)⟩
                  rw [z] at this; exact absurd this (by simp)
              · have tb : S.testBit g = true := by
                  cases c : S.testBit g with
                  | true => rfl
                  | false => rw [c] at y; exact absurd y (by decide)
                have e : myT w S hh (g + 1) = true := by simp only [myT]; rw [z, tb]; rfl
                have := ih3 (g + 1) (by omega) τ ht k kS
                rw [e] at this; exact this
              · have tb : S.testBit g = false := by
                  cases c : S.testBit g with
                  | false => rfl
                  | true => rw [c] at y; exact absurd rfl y
                have e : myT w S hh (g + 1) = !old w g hh := by simp only [myT]; rw [z, tb]; rfl
                refine m_older (hmf τ ht) hF hH (by omega) (by omega) _ fun ρ hr => ?_
                have fr : Fr PO σ ρ := ht.tr (hr.mn fun a b q => Or.inr q)
                have := ih3 (g + 1) (by omega) ρ fr (fun T hT => by rw [hr _ _ (by omega)]; exact k T hT) (by rw [hr _ _ (by omega)]; exact kS)
                rw [e] at this
                rw [b10, Bool.not_eq_false]
                refine ⟨fun x => ?_, fun x => ?_⟩
                · rw [x] at this; exact this
                · rw [x] at this; exact this
          refine l_m_orders_44 _ _ _ _ _ ⟨fun q => ?_, fun _ => ?_⟩
          · exfalso; rw [nI_leI (by omega) (by omega)] at q; omega
          have := l68 (nh w) 0 (by omega) τ ht k kS
          rw [bt1 (show hh < 12 by omega) (by omega)]
          have e0 : myT w S hh 0 = S.testBit hh := rfl
          rw [e0] at this
          cases c : S.testBit hh with
          | true => rw [c] at this; exact ⟨fun q => absurd rfl q, fun _ => this⟩
          | false => rw [c] at this; exact ⟨fun _ => this, fun q => absurd q (by decide)⟩
      refine l_m_orders_28 _ _ _ _ ?_
      rw [bt4 _ (by omega)]
      refine ⟨fun q => ?_, fun _ => ⟨vin0 S rfl (by omega) (by decide), ?_⟩⟩
      · exfalso; rw [nI_leI (by omega) (by omega)] at q; omega
      rw [nI_clamp (by omega)]
      exact l44 (nh w) 0 (by omega) _ (ht.up (Or.inl rfl)) (fun T hT => by rw [up_jb _ _ (by omega)]; exact k T hT) (by rw [up_at]; rfl)
  refine l28 (2 ^ nh w - 1) 1 (by omega) (by omega) σ Fr.rf (fun T hT => ?_)
  rw [show T = 0 by omega, k0, Ww_0]; rfl
theorem r_orders (σ : St) (G : Int32 → Int32 → St → Prop) (hR : RW σ) (k : KQ σ G) :
    CallI hd_x_orders [rf 54 0] σ (fun r σ1 => CallI hd_m_orders [rf 55 122] σ1 (fun r' σ2 => G r r' σ2)) := by
  obtain ⟨w, hF, hH, hc, hcd, hm, hmd, h7⟩ := hR
  have nhh := hH.1
  have hm0 := mWs_fr fr0 hm
  refine e_x_orders σ _ ?_
  rw [hc.2.2.1]
  have cz : nI (nh w) = 0 ↔ nh w = 0 := nI_eq (b := 0) (by omega) (by omega)
  rw [cz]
  refine ⟨fun q => x_orders hc hF hH (by omega) _ fun τ ht => e_m_orders _ _ ⟨vz, ?_⟩, fun q => e_m_orders _ _ ⟨vz, ?_⟩⟩
  · have f0 : Fr SC σ (up τ 122 0 0) := (ht.mn fun a b q => by unfold SC; omega : Fr SC σ τ).tr fr0
    have hm1 := mWs_fr f0 hm
    rw [c_0, hm1.2.2.1, cz]
    refine ⟨fun _ => ⟨vin0 0 rfl (by decide) (by decide), m_orders ?_ hF hH (by omega) _ (fun ρ hr => k _ _ (f0.tr ((Fr.rf.up (by unfold SC MS; omega)).tr (hr.mn fun a b q => by unfold PO at q; unfold SC MS; omega)))) ?_⟩, fun z => absurd z q⟩
    · have e1 : up (up τ 122 0 0) 136 0 1 126 = up τ 122 0 0 126 := funext fun b => up_ka _ _ (by omega)
      have e2 : up (up τ 122 0 0) 136 0 1 128 = up τ 122 0 0 128 := funext fun b => up_ka _ _ (by omega)
      rw [e1, e2]; exact hm1
    · rw [up_at]
  · rw [c_0, hm0.2.2.1, cz]
    exact ⟨fun z => absurd q z, fun _ => k _ _ fr0⟩
