/-! questions change nothing but scratch -/
def SC (a b : Nat) : Prop := (114 ≤ a ∧ a ≤ 119) ∨ MS a b
def KQ (σ : St) (G : Int32 → Int32 → St → Prop) : Prop := ∀ (r : Int32) (τ : St), Fr SC σ τ → G r r τ
theorem fr0 {σ : St} : Fr SC σ (up σ 122 0 0) := Fr.rf.up (Or.inr (Or.inl ⟨rfl, Or.inl rfl⟩))
theorem cW_fr {w : Wo} {σ τ : St} (h : Fr SC σ τ) (hc : cW w 36 50 σ) : cW w 36 50 τ := by
  have e : ∀ a b, 36 ≤ a → a ≤ 60 → τ a b = σ a b := fun a b h1 h2 => h a b (by unfold SC MS; omega)
  obtain ⟨⟨c1, c2, c3, c4, c5⟩, ⟨d1, d2, d3, d4, d5⟩, c6, c7⟩ := hc
  refine ⟨⟨?_, ?_, ?_, ?_, ?_⟩, ⟨fun i hi => ?_, fun i hi => ?_, fun i hi => ?_, fun i hi => ?_, fun i hi => ?_⟩, ?_, fun i hi => ?_⟩
  · rw [e _ _ (by omega) (by omega)]; exact c1
  · rw [e _ _ (by omega) (by omega)]; exact c2
  · rw [e _ _ (by omega) (by omega)]; exact c3
  · rw [e _ _ (by omega) (by omega)]; exact c4
  · rw [e _ _ (by omega) (by omega)]; exact c5
  · rw [e _ _ (by omega) (by omega)]; exact d1 i hi
  · rw [e _ _ (by omega) (by omega)]; exact d2 i hi
  · rw [e _ _ (by omega) (by omega)]; exact d3 i hi
  · rw [e _ _ (by omega) (by omega)]; exact d4 i hi
  · rw [e _ _ (by omega) (by omega)]; exact d5 i hi
  · rw [e _ _ (by omega) (by omega)]; exact c6
  · obtain ⟨g1, g2, g3, g4, g5, g6, g7, g8, g9⟩ := c7 i hi
    refine ⟨?_, ?_, ?_, ?_, ?_, ?_, fun hn => ?_, ?_, fun d hd => ⟨?_, ?_⟩⟩
    · rw [e _ _ (by omega) (by omega)]; exact g1
    · rw [e _ _ (by omega) (by omega)]; exact g2
    · rw [e _ _ (by omega) (by omega)]; exact g3
    · rw [e _ _ (by omega) (by omega)]; exact g4
    · rw [e _ _ (by omega) (by omega)]; exact g5
    · rw [e _ _ (by omega) (by omega)]; exact g6
    · rw [e _ _ (by omega) (by omega)]; exact g7 hn
    · rw [e _ _ (by omega) (by omega)]; exact g8
    · rw [e _ _ (by omega) (by omega)]; exact (g9 d hd).1
    · rw [e _ _ (by omega) (by omega)]; exact (g9 d hd).2
theorem cD_fr {w : Wo} {σ τ : St} (h : Fr SC σ τ) (hc : cD w 36 σ) : cD w 36 τ := fun a ha => by
  rw [h _ _ (by unfold SC MS; omega), h _ _ (by unfold SC MS; omega), h _ _ (by unfold SC MS; omega), h _ _ (by unfold SC MS; omega)]; exact hc a ha
theorem mWs_fr {w : Wo} {σ τ : St} (h : Fr SC σ τ) (hm : mW w (σ 126) (σ 128)) : mW w (τ 126) (τ 128) := by
  have e1 : τ 126 = σ 126 := funext fun b => h 126 b (by unfold SC MS; omega)
  have e2 : τ 128 = σ 128 := funext fun b => h 128 b (by unfold SC MS; omega)
  rw [e1, e2]; exact hm
theorem mDs_fr {w : Wo} {σ τ : St} (h : Fr SC σ τ) (hm : mD w σ) : mD w τ := fun a ha => by
  rw [h 130 a (by unfold SC MS; omega), h 131 a (by unfold SC MS; omega)]; exact hm a ha
theorem ms_sc {σ τ : St} (h : Fr MS σ τ) : Fr SC σ τ := h.mn fun _ _ q => Or.inr q
theorem one_ne : ¬ (1 : Int32) = 0 := by decide
theorem vin0 {x : Int32} {n : Nat} (k : Nat) (h : x = nI k) (hk : k < n) (hn : n ≤ 2147483648) : vp_in x n := by rw [h, vin, ti_nI (by omega)]; omega
theorem vz : vp_in 0 169 := vin0 0 rfl (by decide) (by decide)
theorem r_told (a1 a2 : Int32) (σ : St) (G : Int32 → Int32 → St → Prop) (hR : RW σ) (k : KQ σ G) :
    CallI hd_x_told [rf 54 0, iv a1, iv a2] σ (fun r σ1 => CallI hd_m_told [rf 55 122, iv a1, iv a2] σ1 (fun r' σ2 => G r r' σ2)) := by
  obtain ⟨w, hF, hH, hc, hcd, hm, hmd, -⟩ := hR
  have hm0 : mW w (up σ 122 0 0 126) (up σ 122 0 0 128) := mWs_fr fr0 hm
  have nhh := hH.1
  refine e_x_told a1 a2 σ _ (q_x_isHill _ _ _ ?_)
  rw [x_hill hc hH]
  by_cases h1 : 0 ≤ a1.toInt ∧ a1.toInt < nh w
  rotate_left
  · rw [if_neg h1]
    refine ⟨fun _ => e_m_told a1 a2 _ _ (q_m_isHill _ _ _ vz ?_), fun q => absurd rfl q⟩
    rw [m_hill hm0 hH, if_neg h1]
    exact ⟨fun _ => k _ _ fr0, fun q => absurd rfl q⟩
  rw [if_pos h1]
  obtain ⟨i, hi', e1, e2, e3⟩ := ixe h1 (by omega)
  refine ⟨fun q => absurd q one_ne, fun _ => q_x_isBelow _ _ _ _ ?_⟩
  rw [v_below, t_7]
  by_cases h2 : 0 ≤ a2.toInt ∧ a2.toInt < 7
  rotate_left
  · rw [if_neg h2]
    refine ⟨fun q => absurd rfl q, fun _ => e_m_told a1 a2 _ _ (q_m_isHill _ _ _ vz ?_)⟩
    rw [m_hill hm0 hH, if_pos h1]
    refine ⟨fun q => absurd q one_ne, fun _ => q_m_in _ _ _ _ _ ?_⟩
    rw [v_in, i2l, tl_0, tl_6, if_neg (by omega)]
    exact ⟨fun q => absurd rfl q, fun _ => k _ _ fr0⟩
  rw [if_pos h2]
  obtain ⟨g1, g2, g3, g4, g5, g6, g7, g8, g9⟩ := hc.2.2.2 i hi'
  obtain ⟨f1, f2, f3, f4, f5, f6⟩ := hm.2.2.2 i hi'
  have v12 : vp_in a1 12 := vin.mpr (by omega)
  -- the other side, once the answer is known
  have other : ∀ r : Int32, ((a2.toInt < 0 ∨ 5 < a2.toInt) → r = (if wnl w i then 1 else 0)) → (a2.toInt = 0 → r = wx w i) → (a2.toInt = 1 → r = wy w i) → (a2.toInt = 2 → r = nI (nd w i)) → (a2.toInt = 3 → r = nI (lo w i)) → (a2.toInt = 4 → r = nI (hi w i)) → (a2.toInt = 5 → r = (if ag w i then 1 else 0)) → CallI hd_m_told [rf 55 122, iv a1, iv a2] σ (fun r' σ2 => G r r' σ2) := by
    intro r r6 r0 r1 r2 r3 r4 r5
    refine e_m_told a1 a2 _ _ (q_m_isHill _ _ _ vz ?_)
    rw [m_hill hm0 hH, if_pos h1]
    refine ⟨fun q => absurd q one_ne, fun _ => q_m_in _ _ _ _ _ ?_⟩
    rw [v_in, i2l, tl_0, tl_6, if_pos (by omega)]
    refine ⟨fun _ => ?_, fun q => absurd q one_ne⟩
    rw [e1]
    refine c_look hm0 hF hH hi' _ fun τ ht t1 t2 t3 => ?_
    have hfr : Fr SC σ τ := fr0.tr (ht.mn fun a b q => by unfold SC MS; omega)
    have m128 : ∀ b, τ 128 b = σ 128 b := fun b => hfr 128 b (by unfold SC MS; omega)
    have ca : ∀ n : Nat, n < 100 → nI n + nI i = nI (n + i) ∧ (nI (n + i)).toNatClampNeg = n + i := fun n hn => ⟨nI_add _ _, nI_clamp (by omega)⟩
    have fin : ∀ r', r = r' → G r r' τ := fun r' e => by rw [← e]; exact k _ _ hfr
    refine ⟨fun q => ⟨?_, fin _ ?_⟩, fun q => ⟨?_, fin _ ?_⟩, fun q => ⟨?_, fin _ ?_⟩, fun q => ⟨?_, fin _ ?_⟩, fun q => fin _ ?_, fun q => fin _ ?_, fun q => ⟨fun z => fin _ ?_, fun z => fin _ ?_⟩, trivial⟩
    · exact vin0 (37 + i) (ca 37 (by omega)).1 (by omega) (by omega)
    · rw [show (37 : Int32) = nI 37 from rfl, (ca 37 (by omega)).1, (ca 37 (by omega)).2, m128, f4]; exact r6 q
    · exact vin0 (1 + i) (ca 1 (by omega)).1 (by omega) (by omega)
    · rw [show (1 : Int32) = nI 1 from rfl, (ca 1 (by omega)).1, (ca 1 (by omega)).2, m128, f1]; exact r0 q
    · exact vin0 (13 + i) (ca 13 (by omega)).1 (by omega) (by omega)
    · rw [show (13 : Int32) = nI 13 from rfl, (ca 13 (by omega)).1, (ca 13 (by omega)).2, m128, f2]; exact r1 q
    · exact vin0 (25 + i) (ca 25 (by omega)).1 (by omega) (by omega)
    · rw [show (25 : Int32) = nI 25 from rfl, (ca 25 (by omega)).1, (ca 25 (by omega)).2, m128, f3]; exact r2 q
    · rw [t1]; exact r3 q
    · rw [t2]; exact r4 q
    · rw [t3] at z
      rw [r5 q, z]
    · rw [t3] at z
      rw [r5 q]
      by_cases c : ag w i = true
      · rw [if_pos c]
      · rw [if_neg c] at z; exact absurd rfl z
  refine ⟨fun _ => ⟨fun q => q_hi_hasNeedle _ _ _ _ v12 ?_, fun q => ⟨v12, ?_⟩, fun q => ⟨v12, ?_⟩, fun q => ⟨v12, ?_⟩, fun q => ⟨v12, ?_⟩, fun q => ⟨v12, ?_⟩, fun q => ⟨v12, ?_⟩, trivial⟩, fun q => absurd q one_ne⟩
  · have e : p_hi_hasNeedle 50 a1 σ = if wnl w i then 1 else 0 := by
      unfold p_hi_hasNeedle
      rw [e2, g8]
      by_cases c : wnl w i = true
      · have b := ((hH.2.2 i hi').2.2.2.1 c).2
        unfold wi at b
        rw [if_pos c, if_pos c, if_neg]
        intro z
        rw [z] at b
        rw [t_m1] at b
        omega
      · rw [if_neg c, if_neg c, if_pos rfl]
    rw [e]
    by_cases c : wnl w i = true
    · rw [if_pos c]
      refine ⟨fun z => absurd z one_ne, fun _ => other 1 (fun _ => by rw [if_pos c]) ?_ ?_ ?_ ?_ ?_ ?_⟩ <;> intro z <;> omega
    · rw [if_neg c]
      refine ⟨fun _ => other 0 (fun _ => by rw [if_neg c]) ?_ ?_ ?_ ?_ ?_ ?_, fun z => absurd rfl z⟩ <;> intro z <;> omega
  · rw [e2, show σ 51 i = wx w i from g1]
    refine other _ ?_ (fun _ => rfl) ?_ ?_ ?_ ?_ ?_ <;> intro z <;> omega
  · rw [e2, show σ 52 i = wy w i from g2]
    refine other _ ?_ ?_ (fun _ => rfl) ?_ ?_ ?_ ?_ <;> intro z <;> omega
  · rw [e2, show σ 53 i = nI (nd w i) from g3]
    refine other _ ?_ ?_ ?_ (fun _ => rfl) ?_ ?_ ?_ <;> intro z <;> omega
  · rw [e2, show σ 54 i = nI (lo w i) from g4]
    refine other _ ?_ ?_ ?_ ?_ (fun _ => rfl) ?_ ?_ <;> intro z <;> omega
  · rw [e2, show σ 55 i = nI (hi w i) from g5]
    refine other _ ?_ ?_ ?_ ?_ ?_ (fun _ => rfl) ?_ <;> intro z <;> omega
  · rw [e2, show σ 56 i = (if ag w i then 1 else 0) from g6]
    refine other _ ?_ ?_ ?_ ?_ ?_ ?_ (fun _ => rfl) <;> intro z <;> omega
