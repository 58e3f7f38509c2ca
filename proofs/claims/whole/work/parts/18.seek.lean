/-! the reference's search -/
theorem v_size (v : Int32) : p_m_size v = ab v := by
  unfold p_m_size ab
  by_cases h : 0 ≤ v
  · rw [if_pos h, if_pos h]
  · rw [if_neg h, if_neg h]; grind
def none32 : Int32 := -1000000
def mAc (acc : Ac) (τ : St) : Prop := τ 122 27 = (if acc.1 = mx then none32 else acc.1) ∧ (¬ acc.1 = mx → τ 122 25 = nI acc.2.1 ∧ τ 122 26 = nI acc.2.2.1 ∧ τ 122 28 = (if acc.2.2.2 then 1 else 0))
def PM (a b : Nat) : Prop := a = 122 ∧ 22 ≤ b ∧ b ≤ 28
theorem PM_MS {a b : Nat} (h : PM a b) : MS a b := by unfold PM at h; unfold MS; omega
theorem m_row {w : Wo} {σ τ : St} (h : Fr PM σ τ) (hm : mW w (σ 126) (σ 128)) : mW w (τ 126) (τ 128) := mW_fr (h.mn fun _ _ => PM_MS) hm
theorem m_rowD {w : Wo} {σ τ : St} (h : Fr PM σ τ) (hm : mD w σ) : mD w τ := mD_fr (h.mn fun _ _ => PM_MS) hm
theorem c_seek {w : Wo} {σ : St} (hm : mW w (σ 126) (σ 128)) (hD : mD w σ) (hF : okF w) (hH : okH w) {i s : Nat} (hi' : i < nh w) (hs : s < n4 w) (F : St → Prop) (h : ∀ τ, Fr PM σ τ → mAc (near w i s) τ → F τ) :
    CallV hd_m_seek [rf 55 122, iv (nI i), iv (nI s)] σ F := by
  have nhh := hH.1
  have lb := lst_b hF hH (s := s) hi'
  have lh := lohi hF hH hi'
  have f4 := fOf_le hF s
  have x1 : (1 : Int32) + nI i = nI (1 + i) := nI_add 1 i
  have x13 : (13 : Int32) + nI i = nI (13 + i) := nI_add 13 i
  have c1 : (nI (1 + i)).toNatClampNeg = 1 + i := nI_clamp (by omega)
  have c13 : (nI (13 + i)).toNatClampNeg = 13 + i := nI_clamp (by omega)
  obtain ⟨g1, g2, -⟩ := hm.2.2.2 i hi'
  -- the ages of one fire
  have inner : ∀ (f : Nat), f < fOf w s → ∀ acc : Ac, 0 ≤ acc.1.toInt → (∀ τ, Fr PM σ τ → τ 122 22 = nI (lo w i) → mAc (scA w i s f acc (lo w i) (lst w i s + 1 - lo w i)) τ → At hd_m_seek X0 33 [some (rf 55 122), some (iv (nI i)), some (iv (nI s)), some (iv (nI (lst w i s))), some (iv (nI (f + 1))), none, none, none, none] [] τ (retV F)) → ∀ (m n : Nat), n + m = lst w i s + 1 - lo w i → ∀ τ : St, Fr PM σ τ → τ 122 22 = nI (lo w i) → mAc (scA w i s f acc (lo w i) n) τ → At hd_m_seek X0 77 [some (rf 55 122), some (iv (nI i)), some (iv (nI s)), some (iv (nI (lst w i s))), some (iv (nI f)), some (iv (wdS w s f)), some (iv (nI (lo w i + n))), none, none] [] τ (retV F) := by
    intro f hf acc hacc hk m
    induction m with
    | zero =>
      intro n hn τ ht t22 hx
      refine l_m_seek_77 _ _ _ _ _ _ _ _ ⟨fun _ => ?_, fun q => ?_⟩
      · rw [nI_1]
        exact hk τ ht t22 (by rw [← show n = lst w i s + 1 - lo w i by omega]; exact hx)
      · exfalso
        apply q
        rw [nI_ltI (by omega) (by omega)]
        omega
    | succ m ih =>
      intro n hn τ ht t22 hx
      have hA : lo w i + n < 100 := by omega
      obtain ⟨b0, b1, b2, b3⟩ := dd_b hF hH hi' hs hf hA
      obtain ⟨s1, s2, s3⟩ := scA_b (b := lo w i) hF hH hi' hs hf acc hacc n (by omega)
      refine l_m_seek_77 _ _ _ _ _ _ _ _ ⟨fun q => ?_, fun _ => ⟨vin0 _ x1 (by omega) (by omega), m_plx (m_row ht hm) (m_rowD ht hD) hF hs hf hA _ (q_m_size _ _ _ ⟨vin0 _ x13 (by omega) (by omega), m_ply (m_row ht hm) (m_rowD ht hD) hF hs hf hA _ (q_m_size _ _ _ ?_)⟩)⟩⟩
      · exfalso
        rw [nI_ltI (by omega) (by omega)] at q
        omega
      · rw [x1, x13, c1, c13, v_size, v_size, ht 128 _ (by unfold PM; omega), ht 128 _ (by unfold PM; omega), g1, g2]
        show (τ 122 27 = none32 → At hd_m_seek X0 151 [some (rf 55 122), some (iv (nI i)), some (iv (nI s)), some (iv (nI (lst w i s))), some (iv (nI f)), some (iv (wdS w s f)), some (iv (nI (lo w i + n))), some (iv (dx w i s f (lo w i + n))), some (iv (dy w i s f (lo w i + n)))] [] τ (retV F)) ∧ (¬ τ 122 27 = none32 → (τ 122 27 ≤ dx w i s f (lo w i + n) + dy w i s f (lo w i + n) → At hd_m_seek X0 77 [some (rf 55 122), some (iv (nI i)), some (iv (nI s)), some (iv (nI (lst w i s))), some (iv (nI f)), some (iv (wdS w s f)), some (iv (nI (lo w i + n) + 1)), none, none] [] τ (retV F)) ∧ (¬ τ 122 27 ≤ dx w i s f (lo w i + n) + dy w i s f (lo w i + n) → At hd_m_seek X0 151 [some (rf 55 122), some (iv (nI i)), some (iv (nI s)), some (iv (nI (lst w i s))), some (iv (nI f)), some (iv (wdS w s f)), some (iv (nI (lo w i + n))), some (iv (dx w i s f (lo w i + n))), some (iv (dy w i s f (lo w i + n)))] [] τ (retV F)))
        have e1 : nI (lo w i + n) + 1 = nI (lo w i + (n + 1)) := nI_1 _
        have nmx : ¬ dx w i s f (lo w i + n) + dy w i s f (lo w i + n) = mx := by
          intro e
          rw [fa_eq, b0] at e
          have : mx.toInt = 1073741824 := rfl
          omega
        have keep : (scA w i s f acc (lo w i) n).1 ≤ dx w i s f (lo w i + n) + dy w i s f (lo w i + n) → scA w i s f acc (lo w i) (n + 1) = scA w i s f acc (lo w i) n := fun q => by
          show stA w i s f _ _ = _
          unfold stA; rw [if_pos q]
        have take : ¬ (scA w i s f acc (lo w i) n).1 ≤ dx w i s f (lo w i + n) + dy w i s f (lo w i + n) → scA w i s f acc (lo w i) (n + 1) = (dx w i s f (lo w i + n) + dy w i s f (lo w i + n), f, lo w i + n, decide (¬ wdS w s f < dx w i s f (lo w i + n) ∧ ¬ wdS w s f < dy w i s f (lo w i + n))) := fun q => by
          show stA w i s f _ _ = _
          unfold stA; rw [if_neg q]
        have at151 : ¬ (scA w i s f acc (lo w i) n).1 ≤ dx w i s f (lo w i + n) + dy w i s f (lo w i + n) → At hd_m_seek X0 151 [some (rf 55 122), some (iv (nI i)), some (iv (nI s)), some (iv (nI (lst w i s))), some (iv (nI f)), some (iv (wdS w s f)), some (iv (nI (lo w i + n))), some (iv (dx w i s f (lo w i + n))), some (iv (dy w i s f (lo w i + n)))] [] τ (retV F) := by
          intro q
          have wr : ∀ v : Int32, v = (if decide (¬ wdS w s f < dx w i s f (lo w i + n) ∧ ¬ wdS w s f < dy w i s f (lo w i + n)) then 1 else 0) → At hd_m_seek X0 77 [some (rf 55 122), some (iv (nI i)), some (iv (nI s)), some (iv (nI (lst w i s))), some (iv (nI f)), some (iv (wdS w s f)), some (iv (nI (lo w i + (n + 1)))), none, none] [] (up (up (up (up τ 122 27 (dx w i s f (lo w i + n) + dy w i s f (lo w i + n))) 122 25 (nI f)) 122 26 (nI (lo w i + n))) 122 28 v) (retV F) := by
            intro v hv
            refine ih (n + 1) (by omega) _ ?_ ?_ ?_
            · exact (((ht.up ⟨rfl, by omega, by omega⟩).up ⟨rfl, by omega, by omega⟩).up ⟨rfl, by omega, by omega⟩).up ⟨rfl, by omega, by omega⟩
            · simp (disch := omega) only [up_at, up_ka, up_jb]; exact t22
            · rw [take q]
              refine ⟨?_, fun _ => ⟨?_, ?_, ?_⟩⟩
              · rw [if_neg nmx]; simp (disch := omega) only [up_at, up_ka, up_jb]
              · simp (disch := omega) only [up_at, up_ka, up_jb]
              · simp (disch := omega) only [up_at, up_ka, up_jb]
              · rw [up_at]; exact hv
          refine l_m_seek_151 _ _ _ _ _ _ _ _ _ _ ?_
          rw [e1]
          refine ⟨fun q2 => ⟨Or.inl rfl, wr _ ?_⟩, fun q2 => ⟨fun q3 => ⟨Or.inl rfl, wr _ ?_⟩, fun q3 => ⟨Or.inr rfl, wr _ ?_⟩⟩⟩
          · rw [decide_eq_false (by intro z; exact z.1 q2)]; rfl
          · rw [decide_eq_false (by intro z; exact z.2 q3)]; rfl
          · rw [decide_eq_true ⟨q2, q3⟩]; rfl
        rw [hx.1, e1]
        by_cases em : (scA w i s f acc (lo w i) n).1 = mx
        · rw [if_pos em]
          refine ⟨fun _ => at151 ?_, fun q => absurd rfl q⟩
          rw [em, fa_le, b0]
          have : mx.toInt = 1073741824 := rfl
          omega
        · rw [if_neg em]
          refine ⟨fun q => ?_, fun _ => ⟨fun q => ih (n + 1) (by omega) τ ht t22 (by rw [keep q]; exact hx), fun q => at151 q⟩⟩
          exfalso
          rw [q] at s1
          exact absurd s1 (by decide)
  -- the fires
  have outer : ∀ (m n : Nat), n + m = fOf w s → ∀ τ : St, Fr PM σ τ → τ 122 22 = nI (lo w i) → mAc (scF w i s n) τ → At hd_m_seek X0 33 [some (rf 55 122), some (iv (nI i)), some (iv (nI s)), some (iv (nI (lst w i s))), some (iv (nI n)), none, none, none, none] [] τ (retV F) := by
    intro m
    induction m with
    | zero =>
      intro n hn τ ht t22 hx
      refine l_m_seek_33 _ _ _ _ _ _ (q_mfires (m_row ht hm) hF hs _ ⟨fun _ => h τ ht (by unfold near; rw [← show n = fOf w s by omega]; exact hx), fun q => ?_⟩)
      exact absurd (by rw [nI_leI (by omega) (by omega)]; omega) q
    | succ m ih =>
      intro n hn τ ht t22 hx
      have hf : n < fOf w s := by omega
      obtain ⟨k4, fn, f0⟩ := fOf_f hF hf
      have hmτ := m_row ht hm
      refine l_m_seek_33 _ _ _ _ _ _ (q_mfires hmτ hF hs _ ⟨fun q => ?_, fun _ => q_m_which _ _ _ (m_vs hF hs) ?_⟩)
      · exfalso
        rw [nI_leI (by omega) (by omega)] at q
        omega
      · have acc0 := (scF_b hF hH hi' hs n (by omega)).1
        have go := inner n hf (scF w i s n) acc0 (fun ρ hr r22 hx2 => ih (n + 1) (by omega) ρ hr r22 hx2) (lst w i s + 1 - lo w i) 0 (by omega) τ ht t22 hx
        rw [m_wh hmτ hF hs]
        refine ⟨fun c2 => q_m_fireOf _ _ _ _ (m_vf (c := 5) k4 (by decide)) ?_, fun c2 => ⟨vin0 53 rfl (by decide) (by decide), ?_⟩⟩
        · rw [show (5 : Int32) = nI 5 from rfl, m_fi hmτ hF (fn c2) (by decide), t22]
          unfold wdS at go
          rw [if_neg c2] at go
          exact go
        · rw [c_53, show τ 126 53 = wcr w 4 from hmτ.2.1.2.2.2.1 4 (by have := cr3 hF hs c2; omega), t22]
          unfold wdS at go
          rw [if_pos c2] at go
          exact go
  refine e_m_seek _ _ _ _ (c_look hm hF hH hi' _ fun τ ht t1 t2 t3 => ?_)
  have ht' : Fr PM σ τ := ht.mn fun a b q => ⟨q.1, by omega, by omega⟩
  have go : At hd_m_seek X0 23 [some (rf 55 122), some (iv (nI i)), some (iv (nI s)), none, none, none, none, none, none] [iv (nI (lst w i s))] τ (retV F) := by
    refine l_m_seek_23 _ _ _ _ _ ?_
    exact outer (fOf w s) 0 (by omega) _ (ht'.up ⟨rfl, by omega, by omega⟩) (by simp (disch := omega) only [up_at, up_ka, up_jb]; exact t1) ⟨by rw [up_at]; rfl, fun q => absurd rfl q⟩
  refine q_m_which _ _ _ (m_vs hF hs) ?_
  rw [m_wh (m_row ht' hm) hF hs, t2]
  refine ⟨fun c3 => ?_, fun c3 => ?_⟩
  · unfold lst at go; rw [if_neg c3] at go; exact go
  · unfold lst at go; rw [if_pos c3] at go; exact go
