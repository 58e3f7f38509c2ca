/-! plain facts -/
theorem fa_lt (a b : Int32) : a < b ↔ a.toInt < b.toInt := Int32.lt_iff_toInt_lt
theorem fa_le (a b : Int32) : a ≤ b ↔ a.toInt ≤ b.toInt := Int32.le_iff_toInt_le
theorem fa_eq (a b : Int32) : a = b ↔ a.toInt = b.toInt := Int32.toInt_inj.symm
theorem fa_lt64 (a b : Int64) : a < b ↔ a.toInt < b.toInt := Int64.lt_iff_toInt_lt
theorem fa_le64 (a b : Int64) : a ≤ b ↔ a.toInt ≤ b.toInt := Int64.le_iff_toInt_le
theorem fa_eq64 (a b : Int64) : a = b ↔ a.toInt = b.toInt := Int64.toInt_inj.symm
theorem i32b (x : Int32) : -2147483648 ≤ x.toInt ∧ x.toInt < 2147483648 := ⟨Int32.le_toInt x, Int32.toInt_lt x⟩
theorem ti_add {x y : Int32} (h : -2147483648 ≤ x.toInt + y.toInt ∧ x.toInt + y.toInt < 2147483648) : (x + y).toInt = x.toInt + y.toInt := by
  rw [Int32.toInt_add]; apply Int.bmod_eq_of_le <;> omega
theorem ti_sub {x y : Int32} (h : -2147483648 ≤ x.toInt - y.toInt ∧ x.toInt - y.toInt < 2147483648) : (x - y).toInt = x.toInt - y.toInt := by
  rw [Int32.toInt_sub]; apply Int.bmod_eq_of_le <;> omega
theorem ti_mul {x y : Int32} (h : -2147483648 ≤ x.toInt * y.toInt ∧ x.toInt * y.toInt < 2147483648) : (x * y).toInt = x.toInt * y.toInt := by
  rw [Int32.toInt_mul]; apply Int.bmod_eq_of_le <;> omega
theorem ti_nI {n : Nat} (h : n < 2147483648) : (nI n).toInt = n := nI_toInt h
theorem i2l (x : Int32) : x.toInt64.toInt = x.toInt := Int32.toInt_toInt64 x
theorem lg_ge (x y : Int64) : 0 ≤ lg_cmp x y ↔ y.toInt ≤ x.toInt := by rw [lg_cmp_ge, fa_le64]
theorem lg_lt (x y : Int64) : lg_cmp x y < 0 ↔ x.toInt < y.toInt := by
  have h := lg_ge x y
  rw [fa_le] at h
  rw [fa_lt]
  have e : (0 : Int32).toInt = 0 := rfl
  rw [e] at h ⊢
  omega
theorem lg_gt (x y : Int64) : 0 < lg_cmp x y ↔ y.toInt < x.toInt := by
  rw [← fa_lt64]
  unfold lg_cmp
  by_cases h : y < x
  · rw [if_pos h]; exact ⟨fun _ => h, fun _ => by decide⟩
  · rw [if_neg h]
    refine ⟨fun h2 => ?_, fun h2 => absurd h2 h⟩
    split at h2 <;> exact absurd h2 (by decide)
theorem lg_eq (x y : Int64) : lg_cmp x y = 0 ↔ x.toInt = y.toInt := by
  have h1 := lg_lt x y
  have h2 := lg_gt x y
  rw [fa_lt] at h1 h2
  rw [fa_eq]
  have e : (0 : Int32).toInt = 0 := rfl
  rw [e] at h1 h2 ⊢
  omega
theorem lg_le (x y : Int64) : lg_cmp x y ≤ 0 ↔ x.toInt ≤ y.toInt := by
  have h2 := lg_gt x y
  rw [fa_lt] at h2
  rw [fa_le]
  have e : (0 : Int32).toInt = 0 := rfl
  rw [e] at h2 ⊢
  omega
theorem vin {x : Int32} {n : Nat} : vp_in x n ↔ 0 ≤ x.toInt ∧ x.toInt < n := vp_in_iff
theorem b01 {P : Prop} [Decidable P] : ((if P then (1 : Int32) else 0) = 0) = ¬ P := by
  by_cases h : P <;> simp [h]
theorem isB0 : isB 0 = True := by simp [isB]
theorem isB1 : isB 1 = True := by simp [isB]
theorem isBif {P : Prop} [Decidable P] : isB (if P then 1 else 0) = True := by by_cases h : P <;> simp [h, isB]
theorem v_below (a b : Int32) : p_x_isBelow a b = if 0 ≤ a.toInt ∧ a.toInt < b.toInt then 1 else 0 := by
  unfold p_x_isBelow
  simp only [fa_lt, fa_le]
  have e : (0 : Int32).toInt = 0 := rfl
  rw [e]
  by_cases h1 : a.toInt < 0
  · rw [if_pos h1, if_neg (by omega)]
  · rw [if_neg h1]
    by_cases h2 : b.toInt ≤ a.toInt
    · rw [if_pos h2, if_neg (by omega)]
    · rw [if_neg h2, if_pos (by omega)]
theorem v_within (a b c : Int32) : p_x_isWithin a b c = if b.toInt ≤ a.toInt ∧ a.toInt ≤ c.toInt then 1 else 0 := by
  unfold p_x_isWithin
  simp only [fa_lt]
  by_cases h1 : a.toInt < b.toInt
  · rw [if_pos h1, if_neg (by omega)]
  · rw [if_neg h1]
    by_cases h2 : c.toInt < a.toInt
    · rw [if_pos h2, if_neg (by omega)]
    · rw [if_neg h2, if_pos (by omega)]
theorem v_in (a b c : Int64) : p_m_in a b c = if b.toInt ≤ a.toInt ∧ a.toInt ≤ c.toInt then 1 else 0 := by
  unfold p_m_in
  simp only [lg_lt, lg_gt]
  by_cases h1 : a.toInt < b.toInt
  · rw [if_pos h1, if_neg (by omega)]
  · rw [if_neg h1]
    by_cases h2 : c.toInt < a.toInt
    · rw [if_pos h2, if_neg (by omega)]
    · rw [if_neg h2, if_pos (by omega)]
/-! the table of ints: what is written, what stays -/
theorem up_at (σ : St) (k j : Nat) (v : Int32) : up σ k j v k j = v := by simp [up, upd]
theorem up_o (σ : St) {k j a b : Nat} (v : Int32) (h : a ≠ k ∨ b ≠ j) : up σ k j v a b = σ a b := by
  by_cases e : a = k
  · subst e
    rcases h with h | h
    · exact absurd rfl h
    · simp [up, upd, h]
  · simp [up, e]
theorem up_k (σ : St) {k j a : Nat} (v : Int32) (h : a ≠ k) : up σ k j v a = σ a := by simp [up, h]
/-- calls: weaker ends -/
theorem call_mono {f : HD} {as : List AV} {σ : St} {Q Q' : Option AV → St → Prop} (hq : ∀ v σ', Q v σ' → Q' v σ') (hc : CallOk f as σ Q) : CallOk f as σ Q' := by
  intro l g hw
  have hm := hc l g hw
  intro P e0 ha hc0 hk s0 m0 args0 below0 hf hfit hPc hT
  obtain ⟨k, o, h1, h2, h3, ⟨⟨v, σ', hv, hwf, hQ, hW⟩, hF⟩, hL⟩ := hm P e0 ha hc0 hk s0 m0 args0 below0 hf hfit hPc hT
  exact ⟨k, o, h1, h2, h3, ⟨⟨v, σ', hv, hwf, hq v σ' hQ, hW⟩, hF⟩, hL⟩
theorem callI_mono {f : HD} {as : List AV} {σ : St} {F G : Int32 → St → Prop} (hq : ∀ r σ', F r σ' → G r σ') (hc : CallI f as σ F) : CallI f as σ G := call_mono (fun v σ' h => by
  rcases v with _ | q | x | x
  · exact h.elim
  · exact h.elim
  · exact hq x σ' h
  · exact h.elim) hc
theorem callV_mono {f : HD} {as : List AV} {σ : St} {F G : St → Prop} (hq : ∀ σ', F σ' → G σ') (hc : CallV f as σ F) : CallV f as σ G := call_mono (fun v σ' h => by
  rcases v with _ | q | x | x
  · exact hq σ' h
  · exact h.elim
  · exact h.elim
  · exact h.elim) hc
theorem t_0 : (0 : Int32).toInt = 0 := rfl
theorem t_1 : (1 : Int32).toInt = 1 := rfl
theorem t_2 : (2 : Int32).toInt = 2 := rfl
theorem t_3 : (3 : Int32).toInt = 3 := rfl
theorem t_4 : (4 : Int32).toInt = 4 := rfl
theorem t_5 : (5 : Int32).toInt = 5 := rfl
theorem t_6 : (6 : Int32).toInt = 6 := rfl
theorem t_7 : (7 : Int32).toInt = 7 := rfl
theorem t_8 : (8 : Int32).toInt = 8 := rfl
theorem t_9 : (9 : Int32).toInt = 9 := rfl
theorem t_10 : (10 : Int32).toInt = 10 := rfl
theorem t_11 : (11 : Int32).toInt = 11 := rfl
theorem t_12 : (12 : Int32).toInt = 12 := rfl
theorem t_13 : (13 : Int32).toInt = 13 := rfl
theorem t_14 : (14 : Int32).toInt = 14 := rfl
theorem t_15 : (15 : Int32).toInt = 15 := rfl
theorem t_16 : (16 : Int32).toInt = 16 := rfl
theorem t_17 : (17 : Int32).toInt = 17 := rfl
theorem t_18 : (18 : Int32).toInt = 18 := rfl
theorem t_19 : (19 : Int32).toInt = 19 := rfl
theorem t_20 : (20 : Int32).toInt = 20 := rfl
theorem t_21 : (21 : Int32).toInt = 21 := rfl
theorem t_22 : (22 : Int32).toInt = 22 := rfl
theorem t_23 : (23 : Int32).toInt = 23 := rfl
theorem t_24 : (24 : Int32).toInt = 24 := rfl
theorem t_25 : (25 : Int32).toInt = 25 := rfl
theorem t_26 : (26 : Int32).toInt = 26 := rfl
theorem t_27 : (27 : Int32).toInt = 27 := rfl
theorem t_28 : (28 : Int32).toInt = 28 := rfl
theorem t_29 : (29 : Int32).toInt = 29 := rfl
theorem t_30 : (30 : Int32).toInt = 30 := rfl
theorem t_31 : (31 : Int32).toInt = 31 := rfl
theorem t_32 : (32 : Int32).toInt = 32 := rfl
theorem t_33 : (33 : Int32).toInt = 33 := rfl
theorem t_34 : (34 : Int32).toInt = 34 := rfl
theorem t_35 : (35 : Int32).toInt = 35 := rfl
theorem t_36 : (36 : Int32).toInt = 36 := rfl
theorem t_37 : (37 : Int32).toInt = 37 := rfl
theorem t_38 : (38 : Int32).toInt = 38 := rfl
theorem t_39 : (39 : Int32).toInt = 39 := rfl
theorem t_40 : (40 : Int32).toInt = 40 := rfl
theorem t_41 : (41 : Int32).toInt = 41 := rfl
theorem t_42 : (42 : Int32).toInt = 42 := rfl
theorem t_43 : (43 : Int32).toInt = 43 := rfl
theorem t_44 : (44 : Int32).toInt = 44 := rfl
theorem t_45 : (45 : Int32).toInt = 45 := rfl
theorem t_46 : (46 : Int32).toInt = 46 := rfl
theorem t_47 : (47 : Int32).toInt = 47 := rfl
theorem t_48 : (48 : Int32).toInt = 48 := rfl
theorem t_49 : (49 : Int32).toInt = 49 := rfl
theorem t_50 : (50 : Int32).toInt = 50 := rfl
theorem t_51 : (51 : Int32).toInt = 51 := rfl
theorem t_52 : (52 : Int32).toInt = 52 := rfl
theorem t_53 : (53 : Int32).toInt = 53 := rfl
theorem t_54 : (54 : Int32).toInt = 54 := rfl
theorem t_55 : (55 : Int32).toInt = 55 := rfl
theorem t_56 : (56 : Int32).toInt = 56 := rfl
theorem t_57 : (57 : Int32).toInt = 57 := rfl
theorem t_58 : (58 : Int32).toInt = 58 := rfl
theorem t_59 : (59 : Int32).toInt = 59 := rfl
theorem t_60 : (60 : Int32).toInt = 60 := rfl
theorem t_61 : (61 : Int32).toInt = 61 := rfl
theorem t_62 : (62 : Int32).toInt = 62 := rfl
theorem t_63 : (63 : Int32).toInt = 63 := rfl
theorem t_64 : (64 : Int32).toInt = 64 := rfl
theorem t_65 : (65 : Int32).toInt = 65 := rfl
theorem t_66 : (66 : Int32).toInt = 66 := rfl
theorem t_67 : (67 : Int32).toInt = 67 := rfl
theorem t_68 : (68 : Int32).toInt = 68 := rfl
theorem t_69 : (69 : Int32).toInt = 69 := rfl
theorem t_70 : (70 : Int32).toInt = 70 := rfl
theorem t_71 : (71 : Int32).toInt = 71 := rfl
theorem t_72 : (72 : Int32).toInt = 72 := rfl
theorem t_73 : (73 : Int32).toInt = 73 := rfl
theorem t_74 : (74 : Int32).toInt = 74 := rfl
theorem t_75 : (75 : Int32).toInt = 75 := rfl
theorem t_76 : (76 : Int32).toInt = 76 := rfl
theorem t_77 : (77 : Int32).toInt = 77 := rfl
theorem t_78 : (78 : Int32).toInt = 78 := rfl
theorem t_79 : (79 : Int32).toInt = 79 := rfl
theorem t_80 : (80 : Int32).toInt = 80 := rfl
theorem t_81 : (81 : Int32).toInt = 81 := rfl
theorem t_82 : (82 : Int32).toInt = 82 := rfl
theorem t_83 : (83 : Int32).toInt = 83 := rfl
theorem t_84 : (84 : Int32).toInt = 84 := rfl
theorem t_85 : (85 : Int32).toInt = 85 := rfl
theorem t_86 : (86 : Int32).toInt = 86 := rfl
theorem t_87 : (87 : Int32).toInt = 87 := rfl
theorem t_88 : (88 : Int32).toInt = 88 := rfl
theorem t_89 : (89 : Int32).toInt = 89 := rfl
theorem t_90 : (90 : Int32).toInt = 90 := rfl
theorem t_91 : (91 : Int32).toInt = 91 := rfl
theorem t_92 : (92 : Int32).toInt = 92 := rfl
theorem t_93 : (93 : Int32).toInt = 93 := rfl
theorem t_94 : (94 : Int32).toInt = 94 := rfl
theorem t_95 : (95 : Int32).toInt = 95 := rfl
theorem t_96 : (96 : Int32).toInt = 96 := rfl
theorem t_97 : (97 : Int32).toInt = 97 := rfl
theorem t_98 : (98 : Int32).toInt = 98 := rfl
theorem t_99 : (99 : Int32).toInt = 99 := rfl
theorem t_100 : (100 : Int32).toInt = 100 := rfl
theorem t_101 : (101 : Int32).toInt = 101 := rfl
theorem t_102 : (102 : Int32).toInt = 102 := rfl
theorem t_103 : (103 : Int32).toInt = 103 := rfl
theorem t_104 : (104 : Int32).toInt = 104 := rfl
theorem t_105 : (105 : Int32).toInt = 105 := rfl
theorem t_106 : (106 : Int32).toInt = 106 := rfl
theorem t_107 : (107 : Int32).toInt = 107 := rfl
theorem t_108 : (108 : Int32).toInt = 108 := rfl
theorem t_109 : (109 : Int32).toInt = 109 := rfl
theorem t_110 : (110 : Int32).toInt = 110 := rfl
theorem t_111 : (111 : Int32).toInt = 111 := rfl
theorem t_112 : (112 : Int32).toInt = 112 := rfl
theorem t_113 : (113 : Int32).toInt = 113 := rfl
theorem t_114 : (114 : Int32).toInt = 114 := rfl
theorem t_115 : (115 : Int32).toInt = 115 := rfl
theorem t_116 : (116 : Int32).toInt = 116 := rfl
theorem t_117 : (117 : Int32).toInt = 117 := rfl
theorem t_118 : (118 : Int32).toInt = 118 := rfl
theorem t_119 : (119 : Int32).toInt = 119 := rfl
theorem t_120 : (120 : Int32).toInt = 120 := rfl
theorem t_121 : (121 : Int32).toInt = 121 := rfl
theorem t_122 : (122 : Int32).toInt = 122 := rfl
theorem t_123 : (123 : Int32).toInt = 123 := rfl
theorem t_124 : (124 : Int32).toInt = 124 := rfl
theorem t_125 : (125 : Int32).toInt = 125 := rfl
theorem t_126 : (126 : Int32).toInt = 126 := rfl
theorem t_127 : (127 : Int32).toInt = 127 := rfl
theorem t_128 : (128 : Int32).toInt = 128 := rfl
theorem t_129 : (129 : Int32).toInt = 129 := rfl
theorem t_130 : (130 : Int32).toInt = 130 := rfl
theorem t_169 : (169 : Int32).toInt = 169 := rfl
theorem t_255 : (255 : Int32).toInt = 255 := rfl
theorem t_320 : (320 : Int32).toInt = 320 := rfl
theorem t_384 : (384 : Int32).toInt = 384 := rfl
theorem t_500 : (500 : Int32).toInt = 500 := rfl
theorem t_512 : (512 : Int32).toInt = 512 := rfl
theorem t_999 : (999 : Int32).toInt = 999 := rfl
theorem t_1000 : (1000 : Int32).toInt = 1000 := rfl
theorem t_4096 : (4096 : Int32).toInt = 4096 := rfl
theorem t_9999 : (9999 : Int32).toInt = 9999 := rfl
theorem t_99999 : (99999 : Int32).toInt = 99999 := rfl
theorem t_1000000 : (1000000 : Int32).toInt = 1000000 := rfl
theorem t_1000001 : (1000001 : Int32).toInt = 1000001 := rfl
theorem t_1000002 : (1000002 : Int32).toInt = 1000002 := rfl
theorem t_1000003 : (1000003 : Int32).toInt = 1000003 := rfl
theorem t_1000010 : (1000010 : Int32).toInt = 1000010 := rfl
theorem t_1000100 : (1000100 : Int32).toInt = 1000100 := rfl
theorem t_2147483647 : (2147483647 : Int32).toInt = 2147483647 := rfl
theorem t_m1 : (-1 : Int32).toInt = -1 := rfl
theorem t_m9 : (-9 : Int32).toInt = -9 := rfl
theorem t_m20 : (-20 : Int32).toInt = -20 := rfl
theorem t_m99 : (-99 : Int32).toInt = -99 := rfl
theorem t_m1000 : (-1000 : Int32).toInt = -1000 := rfl
theorem t_m9999 : (-9999 : Int32).toInt = -9999 := rfl
theorem t_m99999 : (-99999 : Int32).toInt = -99999 := rfl
theorem t_m1000000 : (-1000000 : Int32).toInt = -1000000 := rfl
theorem t_m1000001 : (-1000001 : Int32).toInt = -1000001 := rfl
theorem t_m1000002 : (-1000002 : Int32).toInt = -1000002 := rfl
theorem t_m1000003 : (-1000003 : Int32).toInt = -1000003 := rfl
theorem t_m1000010 : (-1000010 : Int32).toInt = -1000010 := rfl
theorem t_m1000100 : (-1000100 : Int32).toInt = -1000100 := rfl
theorem tl_0 : (0 : Int64).toInt = 0 := rfl
theorem tl_1 : (1 : Int64).toInt = 1 := rfl
theorem tl_2 : (2 : Int64).toInt = 2 := rfl
theorem tl_3 : (3 : Int64).toInt = 3 := rfl
theorem tl_4 : (4 : Int64).toInt = 4 := rfl
theorem tl_5 : (5 : Int64).toInt = 5 := rfl
theorem tl_6 : (6 : Int64).toInt = 6 := rfl
theorem tl_7 : (7 : Int64).toInt = 7 := rfl
theorem tl_8 : (8 : Int64).toInt = 8 := rfl
theorem tl_9 : (9 : Int64).toInt = 9 := rfl
theorem tl_10 : (10 : Int64).toInt = 10 := rfl
theorem tl_11 : (11 : Int64).toInt = 11 := rfl
theorem tl_12 : (12 : Int64).toInt = 12 := rfl
theorem tl_99 : (99 : Int64).toInt = 99 := rfl
theorem tl_999 : (999 : Int64).toInt = 999 := rfl
theorem tl_99999 : (99999 : Int64).toInt = 99999 := rfl
theorem tl_m99999 : (-99999 : Int64).toInt = -99999 := rfl
