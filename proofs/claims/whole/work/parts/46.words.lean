/-! words of the text -/
theorem w_ok : ∀ k, k < 8 → (1 ≤ wln k ∧ wln k < 8) ∧ ∀ i, i < wln k → 1 ≤ wch k i ∧ wch k i < 128 := by decide +kernel
def allB (p : Nat → Bool) : Nat → Bool
  | 0 => true
  | n + 1 => allB p n && p n
theorem allB_iff {p : Nat → Bool} : ∀ n, allB p n = true ↔ ∀ i, i < n → p i = true
  | 0 => ⟨fun _ i h => by omega, fun _ => rfl⟩
  | n + 1 => by
    simp only [allB, Bool.and_eq_true]
    rw [allB_iff n]
    constructor
    · rintro ⟨h1, h2⟩ i hi
      by_cases e : i = n
      · rw [e]; exact h2
      · exact h1 i (by omega)
    · intro h
      exact ⟨fun i hi => h i (by omega), h n (by omega)⟩
/-- the token t is the word k -/
def wB (T : Nat → Nat) (t : Tk) (k : Nat) : Bool := decide (t.2.2.1 = 1) && (decide (t.2.1 - t.1 = wln k) && allB (fun i => decide (T (t.1 + i) = wch k i)) (wln k))
def tOk (T : Nat → Nat) (N : Nat) (t : Tk) : Prop := t.1 ≤ t.2.1 ∧ t.2.1 ≤ N ∧ t.2.2.1 ≤ 4 ∧ (t.2.2.1 = 1 → ∀ i, t.1 ≤ i → i < t.2.1 → 97 ≤ T i ∧ T i ≤ 122)
theorem tok_ok {T : Nat → Nat} {N p : Nat} (hp : p ≤ N) : tOk T N (tok T N p) := by
  have sb := tkS_b (T := T) hp
  obtain ⟨h1, h2, h3, h4⟩ := tokAt_b (T := T) sb.2
  refine ⟨by unfold tok; omega, by unfold tok; omega, h4, fun e i hi1 hi2 => ?_⟩
  unfold tok at e hi1 hi2
  rw [h1] at hi1
  unfold tokAt at e hi2
  by_cases c : tkS T N p < N
  · rw [if_pos c] at e hi2
    by_cases c2 : T (tkS T N p) = 59
    · rw [if_pos c2] at e; exact absurd e (by show ¬ (3 : Nat) = 1; omega)
    · rw [if_neg c2] at e hi2
      by_cases c3 : ltB T N (tkS T N p) = true
      · rw [if_pos c3] at hi2
        exact lt_v (run_q (ltB T N) _ _ i hi1 hi2)
      · rw [if_neg c3] at e
        have e : (if 1 ≤ tkE T N (tkS T N p) - tkF T (tkS T N p) ∧ tkE T N (tkS T N p) - tkF T (tkS T N p) ≤ 4 then 2 else 4) = 1 := e
        split at e <;> omega
  · rw [if_neg c] at e; exact absurd e (by show ¬ (0 : Nat) = 1; omega)
section XW1
variable {N : Nat} {T : Nat → Nat} {σ : St} {t : Tk} {F : Int32 → St → Prop}
theorem xw_0 (hT : okT2 N T) (hx : tX N T σ) (ht : tOk T N t) (hk : xTk t σ) (h1 : wB T t 0 = true → F 1 σ) (h0 : wB T t 0 = false → F 0 σ) : CallI hd_re_isWord [rf 49 20, rf 29 1100] σ F := by
  have hN := hT.1
  obtain ⟨w1, w2⟩ := w_ok 0 (by decide)
  obtain ⟨k1, k2, k3, k4⟩ := hk
  obtain ⟨t1, t2, t3, t4⟩ := ht
  have e1 : (1 : Int32) = nI 1 := rfl
  refine e_re_isWord_Reader_str_floor _ _ ?_
  rw [k3, e1, nI_eq (by omega) (by omega)]
  refine ⟨fun q => ⟨Or.inl rfl, h0 ?_⟩, fun q => st_len (k := 0) (by decide) ?_⟩
  · unfold wB; rw [decide_eq_false q]; rfl
  rw [k2, k1, subN t1 (by omega), nI_eq (by omega) (by omega)]
  refine ⟨fun c => ?_, fun c => ⟨Or.inl rfl, h0 ?_⟩⟩
  rotate_left
  · unfold wB; rw [decide_eq_false c]; simp
  have loop : ∀ m i, i + m = wln 0 → (∀ j, j < i → T (t.1 + j) = wch 0 j) → At hd_re_isWord X0 28 [some (rf 49 20), some (rf 29 1100), some (iv (nI i))] [] σ (retI F) := by
    intro m
    induction m with
    | zero =>
      intro i hi hj
      refine l_re_isWord_Reader_str_floor_28 _ _ _ (st_len (k := 0) (by decide) ?_)
      rw [nI_leI (by omega) (by omega)]
      refine ⟨fun _ => ⟨Or.inr rfl, h1 ?_⟩, fun z => absurd (by omega) z⟩
      unfold wB
      rw [decide_eq_true q, decide_eq_true c, (allB_iff _).mpr (fun j hj' => decide_eq_true (hj j (by omega)))]; rfl
    | succ m ih =>
      intro i hi hj
      have wi' := w2 i (by omega)
      refine l_re_isWord_Reader_str_floor_28 _ _ _ (st_len (k := 0) (by decide) ?_)
      rw [nI_leI (by omega) (by omega), k1, nI_add, nI_1]
      refine ⟨fun z => by omega, fun _ => x_at hT hx (by omega) (st_chr (k := 0) (by decide) (by omega) ?_)⟩
      rw [sgn_eq (hT.2 _ (by omega)) (by omega)]
      refine ⟨fun z => ih (i + 1) (by omega) (fun j hj' => ?_), fun z => ⟨Or.inl rfl, h0 ?_⟩⟩
      · by_cases e : j = i
        · rw [e]; exact z
        · exact hj j (by omega)
      · cases cc : wB T t 0 with
        | false => rfl
        | true =>
          unfold wB at cc
          simp only [Bool.and_eq_true] at cc
          have := (allB_iff _).mp cc.2.2 i (by omega)
          exact absurd (of_decide_eq_true this) z
  exact loop (wln 0) 0 (by omega) (fun j hj => by omega)
theorem xw_1 (hT : okT2 N T) (hx : tX N T σ) (ht : tOk T N t) (hk : xTk t σ) (h1 : wB T t 1 = true → F 1 σ) (h0 : wB T t 1 = false → F 0 σ) : CallI hd_re_isWord [rf 49 20, rf 30 1101] σ F := by
  have hN := hT.1
  obtain ⟨w1, w2⟩ := w_ok 1 (by decide)
  obtain ⟨k1, k2, k3, k4⟩ := hk
  obtain ⟨t1, t2, t3, t4⟩ := ht
  have e1 : (1 : Int32) = nI 1 := rfl
  refine e_re_isWord_Reader_str_fire _ _ ?_
  rw [k3, e1, nI_eq (by omega) (by omega)]
  refine ⟨fun q => ⟨Or.inl rfl, h0 ?_⟩, fun q => st_len (k := 1) (by decide) ?_⟩
  · unfold wB; rw [decide_eq_false q]; rfl
  rw [k2, k1, subN t1 (by omega), nI_eq (by omega) (by omega)]
  refine ⟨fun c => ?_, fun c => ⟨Or.inl rfl, h0 ?_⟩⟩
  rotate_left
  · unfold wB; rw [decide_eq_false c]; simp
  have loop : ∀ m i, i + m = wln 1 → (∀ j, j < i → T (t.1 + j) = wch 1 j) → At hd_re_isWord X0 28 [some (rf 49 20), some (rf 30 1101), some (iv (nI i))] [] σ (retI F) := by
    intro m
    induction m with
    | zero =>
      intro i hi hj
      refine l_re_isWord_Reader_str_fire_28 _ _ _ (st_len (k := 1) (by decide) ?_)
      rw [nI_leI (by omega) (by omega)]
      refine ⟨fun _ => ⟨Or.inr rfl, h1 ?_⟩, fun z => absurd (by omega) z⟩
      unfold wB
      rw [decide_eq_true q, decide_eq_true c, (allB_iff _).mpr (fun j hj' => decide_eq_true (hj j (by omega)))]; rfl
    | succ m ih =>
      intro i hi hj
      have wi' := w2 i (by omega)
      refine l_re_isWord_Reader_str_fire_28 _ _ _ (st_len (k := 1) (by decide) ?_)
      rw [nI_leI (by omega) (by omega), k1, nI_add, nI_1]
      refine ⟨fun z => by omega, fun _ => x_at hT hx (by omega) (st_chr (k := 1) (by decide) (by omega) ?_)⟩
      rw [sgn_eq (hT.2 _ (by omega)) (by omega)]
      refine ⟨fun z => ih (i + 1) (by omega) (fun j hj' => ?_), fun z => ⟨Or.inl rfl, h0 ?_⟩⟩
      · by_cases e : j = i
        · rw [e]; exact z
        · exact hj j (by omega)
      · cases cc : wB T t 1 with
        | false => rfl
        | true =>
          unfold wB at cc
          simp only [Bool.and_eq_true] at cc
          have := (allB_iff _).mp cc.2.2 i (by omega)
          exact absurd (of_decide_eq_true this) z
  exact loop (wln 1) 0 (by omega) (fun j hj => by omega)
theorem xw_2 (hT : okT2 N T) (hx : tX N T σ) (ht : tOk T N t) (hk : xTk t σ) (h1 : wB T t 2 = true → F 1 σ) (h0 : wB T t 2 = false → F 0 σ) : CallI hd_re_isWord [rf 49 20, rf 31 1102] σ F := by
  have hN := hT.1
  obtain ⟨w1, w2⟩ := w_ok 2 (by decide)
  obtain ⟨k1, k2, k3, k4⟩ := hk
  obtain ⟨t1, t2, t3, t4⟩ := ht
  have e1 : (1 : Int32) = nI 1 := rfl
  refine e_re_isWord_Reader_str_house _ _ ?_
  rw [k3, e1, nI_eq (by omega) (by omega)]
  refine ⟨fun q => ⟨Or.inl rfl, h0 ?_⟩, fun q => st_len (k := 2) (by decide) ?_⟩
  · unfold wB; rw [decide_eq_false q]; rfl
  rw [k2, k1, subN t1 (by omega), nI_eq (by omega) (by omega)]
  refine ⟨fun c => ?_, fun c => ⟨Or.inl rfl, h0 ?_⟩⟩
  rotate_left
  · unfold wB; rw [decide_eq_false c]; simp
  have loop : ∀ m i, i + m = wln 2 → (∀ j, j < i → T (t.1 + j) = wch 2 j) → At hd_re_isWord X0 28 [some (rf 49 20), some (rf 31 1102), some (iv (nI i))] [] σ (retI F) := by
    intro m
    induction m with
    | zero =>
      intro i hi hj
      refine l_re_isWord_Reader_str_house_28 _ _ _ (st_len (k := 2) (by decide) ?_)
      rw [nI_leI (by omega) (by omega)]
      refine ⟨fun _ => ⟨Or.inr rfl, h1 ?_⟩, fun z => absurd (by omega) z⟩
      unfold wB
      rw [decide_eq_true q, decide_eq_true c, (allB_iff _).mpr (fun j hj' => decide_eq_true (hj j (by omega)))]; rfl
    | succ m ih =>
      intro i hi hj
      have wi' := w2 i (by omega)
      refine l_re_isWord_Reader_str_house_28 _ _ _ (st_len (k := 2) (by decide) ?_)
      rw [nI_leI (by omega) (by omega), k1, nI_add, nI_1]
      refine ⟨fun z => by omega, fun _ => x_at hT hx (by omega) (st_chr (k := 2) (by decide) (by omega) ?_)⟩
      rw [sgn_eq (hT.2 _ (by omega)) (by omega)]
      refine ⟨fun z => ih (i + 1) (by omega) (fun j hj' => ?_), fun z => ⟨Or.inl rfl, h0 ?_⟩⟩
      · by_cases e : j = i
        · rw [e]; exact z
        · exact hj j (by omega)
      · cases cc : wB T t 2 with
        | false => rfl
        | true =>
          unfold wB at cc
          simp only [Bool.and_eq_true] at cc
          have := (allB_iff _).mp cc.2.2 i (by omega)
          exact absurd (of_decide_eq_true this) z
  exact loop (wln 2) 0 (by omega) (fun j hj => by omega)
theorem xw_3 (hT : okT2 N T) (hx : tX N T σ) (ht : tOk T N t) (hk : xTk t σ) (h1 : wB T t 3 = true → F 1 σ) (h0 : wB T t 3 = false → F 0 σ) : CallI hd_re_isWord [rf 49 20, rf 32 1103] σ F := by
  have hN := hT.1
  obtain ⟨w1, w2⟩ := w_ok 3 (by decide)
  obtain ⟨k1, k2, k3, k4⟩ := hk
  obtain ⟨t1, t2, t3, t4⟩ := ht
  have e1 : (1 : Int32) = nI 1 := rfl
  refine e_re_isWord_Reader_str_crack _ _ ?_
  rw [k3, e1, nI_eq (by omega) (by omega)]
  refine ⟨fun q => ⟨Or.inl rfl, h0 ?_⟩, fun q => st_len (k := 3) (by decide) ?_⟩
  · unfold wB; rw [decide_eq_false q]; rfl
  rw [k2, k1, subN t1 (by omega), nI_eq (by omega) (by omega)]
  refine ⟨fun c => ?_, fun c => ⟨Or.inl rfl, h0 ?_⟩⟩
  rotate_left
  · unfold wB; rw [decide_eq_false c]; simp
  have loop : ∀ m i, i + m = wln 3 → (∀ j, j < i → T (t.1 + j) = wch 3 j) → At hd_re_isWord X0 28 [some (rf 49 20), some (rf 32 1103), some (iv (nI i))] [] σ (retI F) := by
    intro m
    induction m with
    | zero =>
      intro i hi hj
      refine l_re_isWord_Reader_str_crack_28 _ _ _ (st_len (k := 3) (by decide) ?_)
      rw [nI_leI (by omega) (by omega)]
      refine ⟨fun _ => ⟨Or.inr rfl, h1 ?_⟩, fun z => absurd (by omega) z⟩
      unfold wB
      rw [decide_eq_true q, decide_eq_true c, (allB_iff _).mpr (fun j hj' => decide_eq_true (hj j (by omega)))]; rfl
    | succ m ih =>
      intro i hi hj
      have wi' := w2 i (by omega)
      refine l_re_isWord_Reader_str_crack_28 _ _ _ (st_len (k := 3) (by decide) ?_)
      rw [nI_leI (by omega) (by omega), k1, nI_add, nI_1]
      refine ⟨fun z => by omega, fun _ => x_at hT hx (by omega) (st_chr (k := 3) (by decide) (by omega) ?_)⟩
      rw [sgn_eq (hT.2 _ (by omega)) (by omega)]
      refine ⟨fun z => ih (i + 1) (by omega) (fun j hj' => ?_), fun z => ⟨Or.inl rfl, h0 ?_⟩⟩
      · by_cases e : j = i
        · rw [e]; exact z
        · exact hj j (by omega)
      · cases cc : wB T t 3 with
        | false => rfl
        | true =>
          unfold wB at cc
          simp only [Bool.and_eq_true] at cc
          have := (allB_iff _).mp cc.2.2 i (by omega)
          exact absurd (of_decide_eq_true this) z
  exact loop (wln 3) 0 (by omega) (fun j hj => by omega)
theorem xw_4 (hT : okT2 N T) (hx : tX N T σ) (ht : tOk T N t) (hk : xTk t σ) (h1 : wB T t 4 = true → F 1 σ) (h0 : wB T t 4 = false → F 0 σ) : CallI hd_re_isWord [rf 49 20, rf 33 1104] σ F := by
  have hN := hT.1
  obtain ⟨w1, w2⟩ := w_ok 4 (by decide)
  obtain ⟨k1, k2, k3, k4⟩ := hk
  obtain ⟨t1, t2, t3, t4⟩ := ht
  have e1 : (1 : Int32) = nI 1 := rfl
  refine e_re_isWord_Reader_str_story _ _ ?_
  rw [k3, e1, nI_eq (by omega) (by omega)]
  refine ⟨fun q => ⟨Or.inl rfl, h0 ?_⟩, fun q => st_len (k := 4) (by decide) ?_⟩
  · unfold wB; rw [decide_eq_false q]; rfl
  rw [k2, k1, subN t1 (by omega), nI_eq (by omega) (by omega)]
  refine ⟨fun c => ?_, fun c => ⟨Or.inl rfl, h0 ?_⟩⟩
  rotate_left
  · unfold wB; rw [decide_eq_false c]; simp
  have loop : ∀ m i, i + m = wln 4 → (∀ j, j < i → T (t.1 + j) = wch 4 j) → At hd_re_isWord X0 28 [some (rf 49 20), some (rf 33 1104), some (iv (nI i))] [] σ (retI F) := by
    intro m
    induction m with
    | zero =>
      intro i hi hj
      refine l_re_isWord_Reader_str_story_28 _ _ _ (st_len (k := 4) (by decide) ?_)
      rw [nI_leI (by omega) (by omega)]
      refine ⟨fun _ => ⟨Or.inr rfl, h1 ?_⟩, fun z => absurd (by omega) z⟩
      unfold wB
      rw [decide_eq_true q, decide_eq_true c, (allB_iff _).mpr (fun j hj' => decide_eq_true (hj j (by omega)))]; rfl
    | succ m ih =>
      intro i hi hj
      have wi' := w2 i (by omega)
      refine l_re_isWord_Reader_str_story_28 _ _ _ (st_len (k := 4) (by decide) ?_)
      rw [nI_leI (by omega) (by omega), k1, nI_add, nI_1]
      refine ⟨fun z => by omega, fun _ => x_at hT hx (by omega) (st_chr (k := 4) (by decide) (by omega) ?_)⟩
      rw [sgn_eq (hT.2 _ (by omega)) (by omega)]
      refine ⟨fun z => ih (i + 1) (by omega) (fun j hj' => ?_), fun z => ⟨Or.inl rfl, h0 ?_⟩⟩
      · by_cases e : j = i
        · rw [e]; exact z
        · exact hj j (by omega)
      · cases cc : wB T t 4 with
        | false => rfl
        | true =>
          unfold wB at cc
          simp only [Bool.and_eq_true] at cc
          have := (allB_iff _).mp cc.2.2 i (by omega)
          exact absurd (of_decide_eq_true this) z
  exact loop (wln 4) 0 (by omega) (fun j hj => by omega)
theorem xw_5 (hT : okT2 N T) (hx : tX N T σ) (ht : tOk T N t) (hk : xTk t σ) (h1 : wB T t 5 = true → F 1 σ) (h0 : wB T t 5 = false → F 0 σ) : CallI hd_re_isWord [rf 49 20, rf 34 1105] σ F := by
  have hN := hT.1
  obtain ⟨w1, w2⟩ := w_ok 5 (by decide)
  obtain ⟨k1, k2, k3, k4⟩ := hk
  obtain ⟨t1, t2, t3, t4⟩ := ht
  have e1 : (1 : Int32) = nI 1 := rfl
  refine e_re_isWord_Reader_str_stays _ _ ?_
  rw [k3, e1, nI_eq (by omega) (by omega)]
  refine ⟨fun q => ⟨Or.inl rfl, h0 ?_⟩, fun q => st_len (k := 5) (by decide) ?_⟩
  · unfold wB; rw [decide_eq_false q]; rfl
  rw [k2, k1, subN t1 (by omega), nI_eq (by omega) (by omega)]
  refine ⟨fun c => ?_, fun c => ⟨Or.inl rfl, h0 ?_⟩⟩
  rotate_left
  · unfold wB; rw [decide_eq_false c]; simp
  have loop : ∀ m i, i + m = wln 5 → (∀ j, j < i → T (t.1 + j) = wch 5 j) → At hd_re_isWord X0 28 [some (rf 49 20), some (rf 34 1105), some (iv (nI i))] [] σ (retI F) := by
    intro m
    induction m with
    | zero =>
      intro i hi hj
      refine l_re_isWord_Reader_str_stays_28 _ _ _ (st_len (k := 5) (by decide) ?_)
      rw [nI_leI (by omega) (by omega)]
      refine ⟨fun _ => ⟨Or.inr rfl, h1 ?_⟩, fun z => absurd (by omega) z⟩
      unfold wB
      rw [decide_eq_true q, decide_eq_true c, (allB_iff _).mpr (fun j hj' => decide_eq_true (hj j (by omega)))]; rfl
    | succ m ih =>
      intro i hi hj
      have wi' := w2 i (by omega)
      refine l_re_isWord_Reader_str_stays_28 _ _ _ (st_len (k := 5) (by decide) ?_)
      rw [nI_leI (by omega) (by omega), k1, nI_add, nI_1]
      refine ⟨fun z => by omega, fun _ => x_at hT hx (by omega) (st_chr (k := 5) (by decide) (by omega) ?_)⟩
      rw [sgn_eq (hT.2 _ (by omega)) (by omega)]
      refine ⟨fun z => ih (i + 1) (by omega) (fun j hj' => ?_), fun z => ⟨Or.inl rfl, h0 ?_⟩⟩
      · by_cases e : j = i
        · rw [e]; exact z
        · exact hj j (by omega)
      · cases cc : wB T t 5 with
        | false => rfl
        | true =>
          unfold wB at cc
          simp only [Bool.and_eq_true] at cc
          have := (allB_iff _).mp cc.2.2 i (by omega)
          exact absurd (of_decide_eq_true this) z
  exact loop (wln 5) 0 (by omega) (fun j hj => by omega)
theorem xw_6 (hT : okT2 N T) (hx : tX N T σ) (ht : tOk T N t) (hk : xTk t σ) (h1 : wB T t 6 = true → F 1 σ) (h0 : wB T t 6 = false → F 0 σ) : CallI hd_re_isWord [rf 49 20, rf 35 1106] σ F := by
  have hN := hT.1
  obtain ⟨w1, w2⟩ := w_ok 6 (by decide)
  obtain ⟨k1, k2, k3, k4⟩ := hk
  obtain ⟨t1, t2, t3, t4⟩ := ht
  have e1 : (1 : Int32) = nI 1 := rfl
  refine e_re_isWord_Reader_str_wanders _ _ ?_
  rw [k3, e1, nI_eq (by omega) (by omega)]
  refine ⟨fun q => ⟨Or.inl rfl, h0 ?_⟩, fun q => st_len (k := 6) (by decide) ?_⟩
  · unfold wB; rw [decide_eq_false q]; rfl
  rw [k2, k1, subN t1 (by omega), nI_eq (by omega) (by omega)]
  refine ⟨fun c => ?_, fun c => ⟨Or.inl rfl, h0 ?_⟩⟩
  rotate_left
  · unfold wB; rw [decide_eq_false c]; simp
  have loop : ∀ m i, i + m = wln 6 → (∀ j, j < i → T (t.1 + j) = wch 6 j) → At hd_re_isWord X0 28 [some (rf 49 20), some (rf 35 1106), some (iv (nI i))] [] σ (retI F) := by
    intro m
    induction m with
    | zero =>
      intro i hi hj
      refine l_re_isWord_Reader_str_wanders_28 _ _ _ (st_len (k := 6) (by decide) ?_)
      rw [nI_leI (by omega) (by omega)]
      refine ⟨fun _ => ⟨Or.inr rfl, h1 ?_⟩, fun z => absurd (by omega) z⟩
      unfold wB
      rw [decide_eq_true q, decide_eq_true c, (allB_iff _).mpr (fun j hj' => decide_eq_true (hj j (by omega)))]; rfl
    | succ m ih =>
      intro i hi hj
      have wi' := w2 i (by omega)
      refine l_re_isWord_Reader_str_wanders_28 _ _ _ (st_len (k := 6) (by decide) ?_)
      rw [nI_leI (by omega) (by omega), k1, nI_add, nI_1]
      refine ⟨fun z => by omega, fun _ => x_at hT hx (by omega) (st_chr (k := 6) (by decide) (by omega) ?_)⟩
      rw [sgn_eq (hT.2 _ (by omega)) (by omega)]
      refine ⟨fun z => ih (i + 1) (by omega) (fun j hj' => ?_), fun z => ⟨Or.inl rfl, h0 ?_⟩⟩
      · by_cases e : j = i
        · rw [e]; exact z
        · exact hj j (by omega)
      · cases cc : wB T t 6 with
        | false => rfl
        | true =>
          unfold wB at cc
          simp only [Bool.and_eq_true] at cc
          have := (allB_iff _).mp cc.2.2 i (by omega)
          exact absurd (of_decide_eq_true this) z
  exact loop (wln 6) 0 (by omega) (fun j hj => by omega)
theorem xw_7 (hT : okT2 N T) (hx : tX N T σ) (ht : tOk T N t) (hk : xTk t σ) (h1 : wB T t 7 = true → F 1 σ) (h0 : wB T t 7 = false → F 0 σ) : CallI hd_re_isWord [rf 49 20, rf 36 1107] σ F := by
  have hN := hT.1
  obtain ⟨w1, w2⟩ := w_ok 7 (by decide)
  obtain ⟨k1, k2, k3, k4⟩ := hk
  obtain ⟨t1, t2, t3, t4⟩ := ht
  have e1 : (1 : Int32) = nI 1 := rfl
  refine e_re_isWord_Reader_str_late _ _ ?_
  rw [k3, e1, nI_eq (by omega) (by omega)]
  refine ⟨fun q => ⟨Or.inl rfl, h0 ?_⟩, fun q => st_len (k := 7) (by decide) ?_⟩
  · unfold wB; rw [decide_eq_false q]; rfl
  rw [k2, k1, subN t1 (by omega), nI_eq (by omega) (by omega)]
  refine ⟨fun c => ?_, fun c => ⟨Or.inl rfl, h0 ?_⟩⟩
  rotate_left
  · unfold wB; rw [decide_eq_false c]; simp
  have loop : ∀ m i, i + m = wln 7 → (∀ j, j < i → T (t.1 + j) = wch 7 j) → At hd_re_isWord X0 28 [some (rf 49 20), some (rf 36 1107), some (iv (nI i))] [] σ (retI F) := by
    intro m
    induction m with
    | zero =>
      intro i hi hj
      refine l_re_isWord_Reader_str_late_28 _ _ _ (st_len (k := 7) (by decide) ?_)
      rw [nI_leI (by omega) (by omega)]
      refine ⟨fun _ => ⟨Or.inr rfl, h1 ?_⟩, fun z => absurd (by omega) z⟩
      unfold wB
      rw [decide_eq_true q, decide_eq_true c, (allB_iff _).mpr (fun j hj' => decide_eq_true (hj j (by omega)))]; rfl
    | succ m ih =>
      intro i hi hj
      have wi' := w2 i (by omega)
      refine l_re_isWord_Reader_str_late_28 _ _ _ (st_len (k := 7) (by decide) ?_)
      rw [nI_leI (by omega) (by omega), k1, nI_add, nI_1]
      refine ⟨fun z => by omega, fun _ => x_at hT hx (by omega) (st_chr (k := 7) (by decide) (by omega) ?_)⟩
      rw [sgn_eq (hT.2 _ (by omega)) (by omega)]
      refine ⟨fun z => ih (i + 1) (by omega) (fun j hj' => ?_), fun z => ⟨Or.inl rfl, h0 ?_⟩⟩
      · by_cases e : j = i
        · rw [e]; exact z
        · exact hj j (by omega)
      · cases cc : wB T t 7 with
        | false => rfl
        | true =>
          unfold wB at cc
          simp only [Bool.and_eq_true] at cc
          have := (allB_iff _).mp cc.2.2 i (by omega)
          exact absurd (of_decide_eq_true this) z
  exact loop (wln 7) 0 (by omega) (fun j hj => by omega)
end XW1
/-! the reference's words -/
def wvg (a : Nat → Nat) : Nat → Nat
  | 0 => 0
  | n + 1 => wvg a n * 256 + a n
theorem wvg_u {a b : Nat → Nat} : ∀ n m, (∀ i, i < n → 1 ≤ a i ∧ a i < 256) → (∀ i, i < m → 1 ≤ b i ∧ b i < 256) → wvg a n = wvg b m → n = m ∧ ∀ i, i < n → a i = b i
  | 0, 0, _, _, _ => ⟨rfl, fun i h => by omega⟩
  | 0, m + 1, _, hb, e => by have := hb m (by omega); simp only [wvg] at e; omega
  | n + 1, 0, ha, _, e => by have := ha n (by omega); simp only [wvg] at e; omega
  | n + 1, m + 1, ha, hb, e => by
    simp only [wvg] at e
    have h1 := ha n (by omega)
    have h2 := hb m (by omega)
    obtain ⟨r1, r2⟩ := wvg_u n m (fun i hi => ha i (by omega)) (fun i hi => hb i (by omega)) (by omega)
    refine ⟨by omega, fun i hi => ?_⟩
    by_cases c : i = n
    · subst c; subst r1; omega
    · exact r2 i (by omega)
theorem wvg_c {a b : Nat → Nat} : ∀ n, (∀ i, i < n → a i = b i) → wvg a n = wvg b n
  | 0, _ => rfl
  | n + 1, h => by simp only [wvg]; rw [wvg_c n (fun i hi => h i (by omega)), h n (by omega)]
theorem wvg_lt {a : Nat → Nat} : ∀ n, (∀ i, i < n → a i < 256) → wvg a n < 256 ^ n
  | 0, _ => by show 0 < 1; omega
  | n + 1, h => by
    have := wvg_lt n (fun i hi => h i (by omega))
    have := h n (by omega)
    simp only [wvg]
    rw [Nat.pow_succ]
    omega
def wv (T : Nat → Nat) (t : Tk) : Nat := if t.2.2.1 = 1 ∧ t.2.1 - t.1 < 8 then wvg (fun i => T (t.1 + i)) (t.2.1 - t.1) else 0
def wk (k : Nat) : Nat := wvg (wch k) (wln k)
theorem wk_v : wk 0 = 439905906546 ∧ wk 1 = 1718186597 ∧ wk 2 = 448546567013 ∧ wk 3 = 427120747371 ∧ wk 4 = 495874699897 ∧ wk 5 = 495873784179 ∧ wk 6 = 33602648987234931 ∧ wk 7 = 1818326117 := by decide +kernel
theorem wv_lt {T : Nat → Nat} {N : Nat} {t : Tk} (hT : okT2 N T) (ht : tOk T N t) : wv T t < 72057594037927936 := by
  unfold wv
  split
  · rename_i c
    have h := wvg_lt (a := fun i => T (t.1 + i)) (t.2.1 - t.1) (fun i hi => hT.2 _ (by have := ht.2.1; omega))
    have : 256 ^ (t.2.1 - t.1) ≤ 256 ^ 7 := Nat.pow_le_pow_right (by omega) (by omega)
    omega
  · omega
theorem wv_k {T : Nat → Nat} {N : Nat} {t : Tk} (ht : tOk T N t) {k : Nat} (hk : k < 8) : wv T t = wk k ↔ wB T t k = true := by
  obtain ⟨w1, w2⟩ := w_ok k hk
  obtain ⟨t1, t2, t3, t4⟩ := ht
  have wpos : 0 < wk k := by
    unfold wk
    obtain ⟨m, hm⟩ : ∃ m, wln k = m + 1 := ⟨wln k - 1, by omega⟩
    rw [hm]
    simp only [wvg]
    have := w2 m (by omega)
    omega
  unfold wv wB
  simp only [Bool.and_eq_true, decide_eq_true_eq, allB_iff]
  by_cases c : t.2.2.1 = 1 ∧ t.2.1 - t.1 < 8
  · rw [if_pos c]
    constructor
    · intro e
      obtain ⟨r1, r2⟩ := wvg_u _ _ (fun i hi => by have := t4 c.1 (t.1 + i) (by omega) (by omega); omega) (fun i hi => by have := w2 i hi; omega) e
      exact ⟨c.1, r1, fun i hi => r2 i (by omega)⟩
    · rintro ⟨-, r1, r2⟩
      rw [r1]
      exact wvg_c _ r2
  · rw [if_neg c]
    constructor
    · intro e; omega
    · rintro ⟨r0, r1, -⟩
      exact absurd ⟨r0, by omega⟩ c
abbrev nL (n : Nat) : Int64 := Int64.ofNat n
theorem nL_t {n : Nat} (h : n < 72057594037927936) : (nL n).toInt = n := Int64.toInt_ofNat_of_lt (by omega)
theorem nl_step {v b : Nat} (hv : v < 281474976710656) (hb : b < 256) : (nL v <<< ((8 : Int32).toInt64 &&& 63)) ||| (nI b).toInt64 = nL (v * 256 + b) := by
  have e8 : (8 : Int32).toInt64 &&& 63 = (8 : Int64) := by decide
  have eb : (nI b).toInt64 = nL b := by rw [fa_eq64, i2l, ti_nI (by omega), nL_t (by omega)]
  rw [e8, eb]
  apply Int64.toBitVec_inj.mp
  have h1 : ((nL v <<< (8 : Int64)) ||| nL b).toBitVec = (BitVec.ofNat 64 v <<< (8 : Nat)) ||| BitVec.ofNat 64 b := rfl
  have h2 : (nL (v * 256 + b)).toBitVec = BitVec.ofNat 64 (v * 256 + b) := rfl
  rw [h1, h2]
  apply BitVec.eq_of_toNat_eq
  rw [BitVec.toNat_or, BitVec.toNat_shiftLeft, BitVec.toNat_ofNat, BitVec.toNat_ofNat, BitVec.toNat_ofNat, Nat.mod_eq_of_lt (show v < 2 ^ 64 by omega), Nat.mod_eq_of_lt (show b < 2 ^ 64 by omega), Nat.mod_eq_of_lt (show v * 256 + b < 2 ^ 64 by omega)]
  have e : v <<< 8 = v * 256 := by rw [Nat.shiftLeft_eq]
  rw [Nat.mod_eq_of_lt (show v <<< 8 < 2 ^ 64 by rw [e]; omega), ← Nat.shiftLeft_add_eq_or_of_lt (show b < 2 ^ 8 by omega), e]
/-- a word where no fault is, 0 where one is -/
theorem m_word {N : Nat} {T : Nat → Nat} {σ : St} {t : Tk} (hT : okT2 N T) (hx : tM N T σ) (ht : tOk T N t) (hk : mTk t σ) (F : Int64 → St → Prop) (h : (σ 122 18 = 0 → F (nL (wv T t)) σ) ∧ (¬ σ 122 18 = 0 → F 0 σ)) : CallJ hd_m_word [rf 55 122] σ F := by
  have hN := hT.1
  obtain ⟨k1, k2, k3, k4⟩ := hk
  obtain ⟨t1, t2, t3, t4⟩ := ht
  have e2 : (2 : Int32) = nI 2 := rfl
  have e8 : (8 : Int32) = nI 8 := rfl
  have a56 : ∀ v3, At hd_m_word X0 56 [some (rf 55 122), some (jv (nL (wv T t))), none, some (iv v3)] [] σ (retJ F) := fun v3 => l_m_word_56 _ _ _ _ ⟨h.2, h.1⟩
  refine e_m_word _ _ ?_
  rw [k1]
  by_cases c : t.2.2.1 = 1 ∧ t.2.1 - t.1 < 8
  · have k16 := (k3 (by omega)).2
    have k14 : σ 122 14 = nI 2 := by rw [k2, c.1]
    have loop : ∀ m i, i + m = t.2.1 - t.1 → At hd_m_word X0 7 [some (rf 55 122), some (jv (nL (wvg (fun i => T (t.1 + i)) i))), none, some (iv (nI (t.1 + i)))] [] σ (retJ F) := by
      intro m
      induction m with
      | zero =>
        intro i hi
        refine l_m_word_7 _ _ _ _ ?_
        rw [k16, nI_leI (by omega) (by omega)]
        refine ⟨fun _ => ?_, fun z => absurd (by omega) z⟩
        have : wv T t = wvg (fun i => T (t.1 + i)) i := by unfold wv; rw [if_pos c, show t.2.1 - t.1 = i by omega]
        rw [← this]; exact a56 _
      | succ m ih =>
        intro i hi
        have tb := hT.2 (t.1 + i) (by omega)
        refine l_m_word_7 _ _ _ _ ?_
        rw [k16, nI_leI (by omega) (by omega), k14, k1, subN t1 (by omega), e8, nI_leI (by omega) (by omega)]
        refine ⟨fun z => by omega, fun _ => ⟨fun z => absurd rfl z, fun _ => ⟨fun z => by omega, fun _ => ⟨vin0 _ rfl (by omega) (by decide), l_m_word_50 _ _ _ _ ?_⟩⟩⟩⟩
        have lt := wvg_lt (a := fun i => T (t.1 + i)) i (fun j hj => hT.2 _ (by omega))
        have : 256 ^ i ≤ 256 ^ 6 := Nat.pow_le_pow_right (by omega) (by omega)
        rw [nI_clamp (by omega), hx _ (by omega), nI_1, ← e8, nl_step (by omega) tb]
        exact ih (i + 1) (by omega)
    exact loop (t.2.1 - t.1) 0 (by omega)
  · have e0 : wv T t = 0 := by unfold wv; rw [if_neg c]
    rw [e0] at a56
    refine l_m_word_7 _ _ _ _ ⟨fun _ => a56 _, fun q => ⟨fun _ => a56 _, fun q2 => ?_⟩⟩
    rw [k2, e2, nI_eq (by omega) (by omega)] at q2
    have s1 : t.2.2.1 = 1 := by omega
    have k16 := (k3 (by omega)).2
    rw [k16, k1, subN t1 (by omega), e8, nI_leI (by omega) (by omega)]
    exact ⟨fun _ => a56 _, fun z => absurd ⟨s1, by omega⟩ c⟩
/-- words as the reference compares them -/
theorem lg_wk {T : Nat → Nat} {N : Nat} {t : Tk} (hT : okT2 N T) (ht : tOk T N t) {k : Nat} (hk : k < 8) {c : Int64} (hc : c.toInt = wk k) : lg_cmp (nL (wv T t)) c = 0 ↔ wB T t k = true := by
  rw [lg_eq, hc, nL_t (wv_lt hT ht), ← wv_k ht hk]; omega
theorem lg_w0 {k : Nat} (hk : k < 8) {c : Int64} (hc : c.toInt = wk k) : ¬ lg_cmp 0 c = 0 := by
  have : ∀ k, k < 8 → 0 < wk k := by decide +kernel
  have := this k hk
  rw [lg_eq, hc, tl_0]; omega
