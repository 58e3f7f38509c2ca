/-! rows that come by chance; counts -/
def sq (f : Nat → Int32) : Nat → Int32
  | 0 => 0
  | n + 1 => sq f n + f n
theorem sq_z {f : Nat → Int32} : ∀ n, (∀ i, i < n → f i = 0) → sq f n = 0
  | 0, _ => rfl
  | n + 1, h => by simp only [sq]; rw [sq_z n (fun i hi => h i (by omega)), h n (by omega)]; rfl
theorem sq_cg {f g : Nat → Int32} : ∀ n, (∀ i, i < n → f i = g i) → sq f n = sq g n
  | 0, _ => rfl
  | n + 1, h => by simp only [sq]; rw [sq_cg n (fun i hi => h i (by omega)), h n (by omega)]
theorem sq_ext {f : Nat → Int32} {b : Nat} : ∀ n, b ≤ n → (∀ i, b ≤ i → i < n → f i = 0) → sq f n = sq f b
  | 0, h, _ => by rw [Nat.le_zero.mp h]
  | n + 1, h, k => by
    by_cases e : b = n + 1
    · rw [e]
    · simp only [sq]; rw [sq_ext n (by omega) (fun i h1 h2 => k i h1 (by omega)), k n (by omega) (by omega)]; grind
theorem sq_add (f g : Nat → Int32) : ∀ n, sq (fun i => f i + g i) n = sq f n + sq g n
  | 0 => rfl
  | n + 1 => by simp only [sq]; rw [sq_add f g n]; grind
theorem sq_sw (f : Nat → Nat → Int32) (m : Nat) : ∀ n, sq (fun a => sq (fun b => f a b) m) n = sq (fun b => sq (fun a => f a b) n) m
  | 0 => by
    have : sq (fun b => sq (fun a => f a b) 0) m = 0 := sq_z m (fun _ _ => rfl)
    rw [this]; rfl
  | n + 1 => by
    have h := sq_sw f m n
    simp only [sq]
    rw [h, ← sq_add]
/-- three hills on a line -/
def onl (w : Wo) (a b c : Nat) : Prop := ((wx w b).toInt - (wx w a).toInt) * ((wy w c).toInt - (wy w a).toInt) = ((wx w c).toInt - (wx w a).toInt) * ((wy w b).toInt - (wy w a).toInt)
noncomputable def tri (w : Wo) (a b c : Nat) : Int32 := by
  classical
  exact if a < b ∧ b < c ∧ onl w a b c then 1 else 0
theorem d_x {w : Wo} (hH : okH w) {a b : Nat} (ha : a < nh w) (hb : b < nh w) : (wx w b - wx w a).toInt = (wx w b).toInt - (wx w a).toInt ∧ (wy w b - wy w a).toInt = (wy w b).toInt - (wy w a).toInt ∧ (-199998 ≤ (wx w b).toInt - (wx w a).toInt ∧ (wx w b).toInt - (wx w a).toInt ≤ 199998) ∧ (-199998 ≤ (wy w b).toInt - (wy w a).toInt ∧ (wy w b).toInt - (wy w a).toInt ≤ 199998) := by
  obtain ⟨h1, h2, -⟩ := hH.2.2 a ha
  obtain ⟨h3, h4, -⟩ := hH.2.2 b hb
  unfold wi at h1 h2 h3 h4
  exact ⟨ti_sub (by omega), ti_sub (by omega), by omega, by omega⟩
theorem pr_b {p q : Int} (hp : -199998 ≤ p ∧ p ≤ 199998) (hq : -199998 ≤ q ∧ q ≤ 199998) : -40000000000 ≤ p * q ∧ p * q ≤ 40000000000 := by
  have e : (p * q).natAbs = p.natAbs * q.natAbs := Int.natAbs_mul p q
  have : p.natAbs * q.natAbs ≤ 199998 * 199998 := Nat.mul_le_mul (by omega) (by omega)
  omega
theorem tl_mul {x y : Int64} (h : -9223372036854775808 ≤ x.toInt * y.toInt ∧ x.toInt * y.toInt < 9223372036854775808) : (x * y).toInt = x.toInt * y.toInt := by
  rw [Int64.toInt_mul]; apply Int.bmod_eq_of_le <;> omega
theorem l_prod {p q : Int32} (hp : -199998 ≤ p.toInt ∧ p.toInt ≤ 199998) (hq : -199998 ≤ q.toInt ∧ q.toInt ≤ 199998) : (p.toInt64 * q.toInt64).toInt = p.toInt * q.toInt := by
  have := pr_b hp hq
  rw [tl_mul (by rw [i2l, i2l]; omega), i2l, i2l]
theorem x_onl {w : Wo} {σ : St} (hc : cW w 36 50 σ) (hH : okH w) {a b c : Nat} (ha : a < nh w) (hb : b < nh w) (hcc : c < nh w) (F : Int32 → St → Prop) (h1 : onl w a b c → F 1 σ) (h0 : ¬ onl w a b c → F 0 σ) : CallI hd_hi_areOnLine [rf 43 50, iv (nI a), iv (nI b), iv (nI c)] σ F := by
  have nhh := hH.1
  refine q_hi_areOnLine _ _ _ _ _ _ (vin0 b rfl (by omega) (by decide)) (vin0 a rfl (by omega) (by decide)) (vin0 c rfl (by omega) (by decide)) ?_
  unfold p_hi_areOnLine
  obtain ⟨b1, b2, b3, b4⟩ := d_x hH ha hb
  obtain ⟨c1, c2, c3, c4⟩ := d_x hH ha hcc
  rw [nI_clamp (by omega), nI_clamp (by omega), nI_clamp (by omega), (hc.2.2.2 a ha).1, (hc.2.2.2 a ha).2.1, (hc.2.2.2 b hb).1, (hc.2.2.2 b hb).2.1, (hc.2.2.2 c hcc).1, (hc.2.2.2 c hcc).2.1]
  have cc : lg_cmp ((wx w b - wx w a).toInt64 * (wy w c - wy w a).toInt64) ((wx w c - wx w a).toInt64 * (wy w b - wy w a).toInt64) = 0 ↔ onl w a b c := by
    rw [lg_eq, l_prod (by omega) (by omega), l_prod (by omega) (by omega), b1, b2, c1, c2]; exact Iff.rfl
  by_cases z : onl w a b c
  · rw [if_pos (cc.mpr z)]; exact h1 z
  · rw [if_neg (fun q => z (cc.mp q))]; exact h0 z
theorem tri_t {w : Wo} {a b c : Nat} (h1 : a < b) (h2 : b < c) (h : onl w a b c) : tri w a b c = 1 := by unfold tri; rw [if_pos ⟨h1, h2, h⟩]
theorem tri_f {w : Wo} {a b c : Nat} (h : ¬ (a < b ∧ b < c ∧ onl w a b c)) : tri w a b c = 0 := by unfold tri; rw [if_neg h]
theorem onl_sw {w : Wo} {a b c : Nat} : onl w a b c ↔ ((wx w b).toInt - (wx w c).toInt) * ((wy w a).toInt - (wy w c).toInt) = ((wy w b).toInt - (wy w c).toInt) * ((wx w a).toInt - (wx w c).toInt) := by
  unfold onl
  generalize (wx w a).toInt = xa
  generalize (wy w a).toInt = ya
  generalize (wx w b).toInt = xb
  generalize (wy w b).toInt = yb
  generalize (wx w c).toInt = xc
  generalize (wy w c).toInt = yc
  constructor <;> intro h <;> grind
theorem x_lines {w : Wo} {σ : St} (hc : cW w 36 50 σ) (hH : okH w) (F : Int32 → St → Prop) (h : F (sq (fun a => sq (fun b => sq (fun c => tri w a b c) (nh w)) (nh w)) (nh w)) σ) : CallI hd_hi_linesOfThree [rf 43 50] σ F := by
  have nhh := hH.1
  have la' : ∀ m a, a + m = nh w → At hd_hi_linesOfThree X0 4 [some (rf 43 50), some (iv (sq (fun a => sq (fun b => sq (fun c => tri w a b c) (nh w)) (nh w)) a)), some (iv (nI a)), none, none] [] σ (retI F) := by
    intro m
    induction m with
    | zero =>
      intro a ha
      have : a = nh w := by omega
      subst this
      refine l_hi_linesOfThree_4 _ _ _ _ _ ?_
      rw [hc.2.2.1]
      exact ⟨fun _ => h, fun q => absurd (by rw [nI_leI (by omega) (by omega)]; omega) q⟩
    | succ m ih =>
      intro a ha
      have key := ih (a + 1) (by omega)
      simp only [sq] at key
      have lb : ∀ m b, b + m = nh w → a < b → At hd_hi_linesOfThree X0 16 [some (rf 43 50), some (iv (sq (fun a => sq (fun b => sq (fun c => tri w a b c) (nh w)) (nh w)) a + sq (fun b => sq (fun c => tri w a b c) (nh w)) b)), some (iv (nI a)), some (iv (nI b)), none] [] σ (retI F) := by
        intro m
        induction m with
        | zero =>
          intro b hb _
          have : b = nh w := by omega
          subst this
          refine l_hi_linesOfThree_16 _ _ _ _ _ _ ?_
          rw [hc.2.2.1]; simp only [nI_1]
          exact ⟨fun _ => key, fun q => absurd (by rw [nI_leI (by omega) (by omega)]; omega) q⟩
        | succ m ih2 =>
          intro b hb hab
          have key2 := ih2 (b + 1) (by omega) (by omega)
          simp only [sq] at key2
          have lc : ∀ m c, c + m = nh w → b < c → At hd_hi_linesOfThree X0 29 [some (rf 43 50), some (iv (sq (fun a => sq (fun b => sq (fun c => tri w a b c) (nh w)) (nh w)) a + (sq (fun b => sq (fun c => tri w a b c) (nh w)) b + sq (fun c => tri w a b c) c))), some (iv (nI a)), some (iv (nI b)), some (iv (nI c))] [] σ (retI F) := by
            intro m
            induction m with
            | zero =>
              intro c hcc _
              have : c = nh w := by omega
              subst this
              refine l_hi_linesOfThree_29 _ _ _ _ _ _ _ ?_
              rw [hc.2.2.1]; simp only [nI_1]
              exact ⟨fun _ => key2, fun q => absurd (by rw [nI_leI (by omega) (by omega)]; omega) q⟩
            | succ m ih3 =>
              intro c hcc hbc
              have key3 := ih3 (c + 1) (by omega) (by omega)
              simp only [sq] at key3
              refine l_hi_linesOfThree_29 _ _ _ _ _ _ _ ?_
              rw [hc.2.2.1]; simp only [nI_1]
              refine ⟨fun q => ?_, fun _ => x_onl hc hH (by omega) (by omega) (by omega) _ (fun z => on ?_) (fun z => of ?_)⟩
              · exfalso; rw [nI_leI (by omega) (by omega)] at q; omega
              · rw [tri_t hab hbc z, ← Int32.add_assoc, ← Int32.add_assoc] at key3
                rw [← Int32.add_assoc]; exact key3
              · rw [tri_f (fun y => z y.2.2), ← Int32.add_assoc, ← Int32.add_assoc] at key3
                rw [← Int32.add_assoc]; exact key3
          refine l_hi_linesOfThree_16 _ _ _ _ _ _ ?_
          rw [hc.2.2.1]; simp only [nI_1]
          refine ⟨fun q => ?_, fun _ => ?_⟩
          · exfalso; rw [nI_leI (by omega) (by omega)] at q; omega
          have := lc (nh w - (b + 1)) (b + 1) (by omega) (by omega)
          rw [show sq (fun c => tri w a b c) (b + 1) = 0 from sq_z _ (fun i hi => tri_f (fun y => by omega)), show ∀ x : Int32, x + 0 = x from fun x => by grind] at this
          exact this
      refine l_hi_linesOfThree_4 _ _ _ _ _ ?_
      rw [hc.2.2.1, nI_1]
      refine ⟨fun q => ?_, fun _ => ?_⟩
      · exfalso; rw [nI_leI (by omega) (by omega)] at q; omega
      have := lb (nh w - (a + 1)) (a + 1) (by omega) (by omega)
      rw [show sq (fun b => sq (fun c => tri w a b c) (nh w)) (a + 1) = 0 from sq_z _ (fun i hi => sq_z _ (fun j hj => tri_f (fun y => by omega))), show ∀ x : Int32, x + 0 = x from fun x => by grind] at this
      exact this
  exact e_hi_linesOfThree _ _ _ (la' (nh w) 0 (by omega))
theorem r_chance (σ : St) (G : Int32 → Int32 → St → Prop) (hR : RW σ) (k : KQ σ G) :
    CallI hd_x_chance [rf 54 0] σ (fun r σ1 => CallI hd_m_chance [rf 55 122] σ1 (fun r' σ2 => G r r' σ2)) := by
  obtain ⟨w, hF, hH, hc, hcd, hm, hmd, h7⟩ := hR
  have nhh := hH.1
  have hm0 := mWs_fr fr0 hm
  refine e_x_chance σ _ (gx_there hc hF (fun h4 => on (x_lines hc hH _ (e_m_chance _ _ ?_))) (fun h4 => of (e_m_chance _ _ ?_)))
  rotate_left
  · rw [mt0 h7 h4]; exact of' (k _ _ fr0)
  rw [mt1 h7 h4]
  -- the sums in the other order
  have esw : sq (fun a => sq (fun b => sq (fun c => tri w a b c) (nh w)) (nh w)) (nh w) = sq (fun a => sq (fun b => sq (fun c => tri w c b a) (nh w)) (nh w)) (nh w) := by
    rw [sq_sw (fun a b => sq (fun c => tri w a b c) (nh w))]
    rw [sq_cg (g := fun b => sq (fun c => sq (fun a => tri w a b c) (nh w)) (nh w)) _ (fun b _ => sq_sw (fun a c => tri w a b c) _ _)]
    rw [sq_sw (fun b c => sq (fun a => tri w a b c) (nh w))]
  rw [esw]
  generalize hS : sq (fun a => sq (fun b => sq (fun c => tri w c b a) (nh w)) (nh w)) (nh w) = S
  have la' : ∀ m a, a + m = nh w → At hd_m_chance X0 19 [some (rf 55 122), some (iv (sq (fun a => sq (fun b => sq (fun c => tri w c b a) (nh w)) (nh w)) a)), some (iv (nI a)), none, none, none, none, none, none] [] (up σ 122 0 0) (retI (fun r' σ2 => G S r' σ2)) := by
    intro m
    induction m with
    | zero =>
      intro a ha
      have : a = nh w := by omega
      subst this
      refine l_m_chance_19 _ _ _ _ ⟨vz, ?_⟩
      rw [c_0, hm0.2.2.1, hS]
      exact ⟨fun _ => k _ _ fr0, fun q => absurd (by rw [nI_leI (by omega) (by omega)]; omega) q⟩
    | succ m ih =>
      intro a ha
      have key := ih (a + 1) (by omega)
      simp only [sq] at key
      rw [show sq (fun b => sq (fun c => tri w c b a) (nh w)) (nh w) = sq (fun b => sq (fun c => tri w c b a) (nh w)) a from sq_ext _ (by omega) (fun b h1 h2 => sq_z _ (fun c h3 => tri_f (fun y => by omega)))] at key
      have lb : ∀ m b, b + m = a → At hd_m_chance X0 31 [some (rf 55 122), some (iv (sq (fun a => sq (fun b => sq (fun c => tri w c b a) (nh w)) (nh w)) a + sq (fun b => sq (fun c => tri w c b a) (nh w)) b)), some (iv (nI a)), some (iv (nI b)), none, none, none, none, none] [] (up σ 122 0 0) (retI (fun r' σ2 => G S r' σ2)) := by
        intro m
        induction m with
        | zero =>
          intro b hb
          have : b = a := by omega
          subst this
          refine l_m_chance_31 _ _ _ _ _ ?_
          rw [nI_1]
          exact ⟨fun _ => key, fun q => absurd (by rw [nI_leI (by omega) (by omega)]; omega) q⟩
        | succ m ih2 =>
          intro b hb
          have key2 := ih2 (b + 1) (by omega)
          simp only [sq] at key2
          rw [show sq (fun c => tri w c b a) (nh w) = sq (fun c => tri w c b a) b from sq_ext _ (by omega) (fun c h1 h2 => tri_f (fun y => by omega))] at key2
          have lc : ∀ m c, c + m = b → At hd_m_chance X0 39 [some (rf 55 122), some (iv (sq (fun a => sq (fun b => sq (fun c => tri w c b a) (nh w)) (nh w)) a + (sq (fun b => sq (fun c => tri w c b a) (nh w)) b + sq (fun c => tri w c b a) c))), some (iv (nI a)), some (iv (nI b)), some (iv (nI c)), none, none, none, none] [] (up σ 122 0 0) (retI (fun r' σ2 => G S r' σ2)) := by
            intro m
            induction m with
            | zero =>
              intro c hcc
              have : c = b := by omega
              subst this
              refine l_m_chance_39 _ _ _ _ _ _ ?_
              rw [nI_1]
              exact ⟨fun _ => key2, fun q => absurd (by rw [nI_leI (by omega) (by omega)]; omega) q⟩
            | succ m ih3 =>
              intro c hcc
              have key3 := ih3 (c + 1) (by omega)
              simp only [sq] at key3
              have ra := hm0.2.2.2 a (by omega)
              have rb := hm0.2.2.2 b (by omega)
              have rc := hm0.2.2.2 c (by omega)
              obtain ⟨b1, b2, b3, b4⟩ := d_x hH (a := a) (b := b) (by omega) (by omega)
              obtain ⟨c1, c2, c3, c4⟩ := d_x hH (a := a) (b := c) (by omega) (by omega)
              refine l_m_chance_39 _ _ _ _ _ _ ⟨fun q => ?_, fun _ => ⟨vin0 _ (e1_ b) (by omega) (by decide), vin0 _ (e1_ a) (by omega) (by decide), l_m_chance_65 _ _ _ _ _ _ _ ⟨vin0 _ (e13_ b) (by omega) (by decide), vin0 _ (e13_ a) (by omega) (by decide), l_m_chance_87 _ _ _ _ _ _ _ _ ⟨vin0 _ (e13_ c) (by omega) (by decide), vin0 _ (e13_ a) (by omega) (by decide), vin0 _ (e1_ c) (by omega) (by decide), vin0 _ (e1_ a) (by omega) (by decide), ?_⟩⟩⟩⟩
              · exfalso; rw [nI_leI (by omega) (by omega)] at q; omega
              rw [e1_, e1_, e1_, e13_, e13_, e13_, nI_clamp (by omega), nI_clamp (by omega), nI_clamp (by omega), nI_clamp (by omega), nI_clamp (by omega), nI_clamp (by omega), ra.1, ra.2.1, rb.1, rb.2.1, rc.1, rc.2.1, lg_eq, l_prod (by omega) (by omega), l_prod (by omega) (by omega), b1, b2, c1, c2, nI_1, ← onl_sw (w := w) (a := c) (b := b) (c := a)]
              refine ⟨fun z => ?_, fun z => ?_⟩
              · rw [tri_f (fun y => z y.2.2), ← Int32.add_assoc, ← Int32.add_assoc] at key3
                rw [← Int32.add_assoc]; exact key3
              · rw [tri_t (by omega) (by omega) z, ← Int32.add_assoc, ← Int32.add_assoc] at key3
                rw [← Int32.add_assoc]; exact key3
          refine l_m_chance_31 _ _ _ _ _ ⟨fun q => ?_, fun _ => ?_⟩
          · exfalso; rw [nI_leI (by omega) (by omega)] at q; omega
          have := lc b 0 (by omega)
          rw [show sq (fun c => tri w c b a) 0 = 0 from rfl, show ∀ x : Int32, x + 0 = x from fun x => by grind] at this
          exact this
      refine l_m_chance_19 _ _ _ _ ⟨vz, ?_⟩
      rw [c_0, hm0.2.2.1]
      refine ⟨fun q => ?_, fun _ => ?_⟩
      · exfalso; rw [nI_leI (by omega) (by omega)] at q; omega
      have := lb a 0 (by omega)
      rw [show sq (fun b => sq (fun c => tri w c b a) (nh w)) 0 = 0 from rfl, show ∀ x : Int32, x + 0 = x from fun x => by grind] at this
      exact this
  exact on' (la' (nh w) 0 (by omega))
/-! counts -/
def shN (σ : St) : Nat → Int32
  | 0 => 0
  | s + 1 => if (σ (2 + 2 * s) 1).toInt = -1 then shN σ s + 0 else shN σ s + 1
def neN (w : Wo) : Nat → Int32
  | 0 => 0
  | n + 1 => neN w n + (if wnl w n then 1 else 0)
theorem r_count (a1 : Int32) (σ : St) (G : Int32 → Int32 → St → Prop) (hSh : RSh σ) (hTp : σ 18 1 = σ 122 10) (hR : RW σ) (k : KQ σ G) :
    CallI hd_x_count [rf 54 0, iv a1] σ (fun r σ1 => CallI hd_m_count [rf 55 122, iv a1] σ1 (fun r' σ2 => G r r' σ2)) := by
  obtain ⟨w, hF, hH, hc, hcd, hm, hmd, h7⟩ := hR
  have hm0 := mWs_fr fr0 hm
  have nhh := hH.1
  have m97 : ∀ (r : Int32) (j : Nat), j < 5 → a1.toInt = (j : Int) + 1 → up σ 122 0 0 126 j = r → At hd_m_count X0 97 [some (rf 55 122), some (iv a1), some (iv 0), none] [] (up σ 122 0 0) (retI (fun r' σ2 => G r r' σ2)) := fun r j hj e er => by
    have ee : a1 - 1 = nI j := by rw [fa_eq, ti_sub (by rw [e, t_1]; omega), e, t_1, ti_nI (by omega)]; omega
    refine l_m_count_97 _ _ _ _ ⟨vin0 j ee (by omega) (by decide), ?_⟩
    rw [ee, nI_clamp (by omega), er]; exact k _ _ fr0
  have mm : ∀ r : Int32, (a1.toInt < 0 ∨ 9 < a1.toInt → r = -1000001) → (a1.toInt = 0 → r = shN σ 8) → (a1.toInt = 1 → r = nI (n0 w)) → (a1.toInt = 2 → r = nI (n1 w)) → (a1.toInt = 3 → r = nI (n2 w)) → (a1.toInt = 4 → r = nI (n3 w)) → (a1.toInt = 5 → r = nI (n4 w)) → (a1.toInt = 6 → r = nI (nh w)) → (a1.toInt = 7 → r = sdt w (nh w)) → (a1.toInt = 8 → r = neN w (nh w)) → (a1.toInt = 9 → r = σ 18 1) → CallI hd_m_count [rf 55 122, iv a1] σ (fun r' σ2 => G r r' σ2) := by
    intro r q0 q1 q2 q3 q4 q5 q6 q7 q8 q9 q10
    refine e_m_count _ _ _ ⟨fun z => ?_, fun z => ?_, fun z => ?_, fun z => ?_, fun z => ?_, fun z => ?_, fun z => ?_, fun z => ⟨vz, ?_⟩, fun z => ?_, fun z => ?_, fun z => ?_, trivial⟩
    · rw [q0 z]; exact k _ _ fr0
    · have loop : ∀ m s, s + m = 8 → At hd_m_count X0 66 [some (rf 55 122), some (iv a1), some (iv (shN σ s)), some (iv (nI s))] [] (up σ 122 0 0) (retI (fun r' σ2 => G r r' σ2)) := by
        intro m
        induction m with
        | zero =>
          intro s hs
          have : s = 8 := by omega
          subst this
          exact l_m_count_66 _ _ _ _ _ ⟨fun _ => by rw [q1 z]; exact k _ _ fr0, fun q => absurd (by decide) q⟩
        | succ m ih =>
          intro s hs
          have key := ih (s + 1) (by omega)
          simp only [shN] at key
          obtain ⟨b1, b2, -⟩ := hSh s (by omega)
          refine l_m_count_66 _ _ _ _ _ ⟨fun q => ?_, fun _ => ⟨vin0 s rfl (by omega) (by decide), ?_⟩⟩
          · exfalso; rw [fa_le, ti_nI (by omega), t_8] at q; omega
          rw [nI_clamp (by omega), up_ka _ _ (by omega), b2, fa_lt, t_0, nI_1]
          refine ⟨fun q => ?_, fun q => ?_⟩
          · rw [if_pos (by omega)] at key; exact key
          · rw [if_neg (by omega)] at key; exact key
      exact loop 8 0 (by omega)
    · exact m97 r 0 (by omega) z (by rw [q2 z]; exact hm0.1.1)
    · exact m97 r 1 (by omega) z (by rw [q3 z]; exact hm0.1.2.1)
    · exact m97 r 2 (by omega) z (by rw [q4 z]; exact hm0.1.2.2.1)
    · exact m97 r 3 (by omega) z (by rw [q5 z]; exact hm0.1.2.2.2.1)
    · exact m97 r 4 (by omega) z (by rw [q6 z]; exact hm0.1.2.2.2.2)
    · rw [c_0, hm0.2.2.1, q7 z]; exact k _ _ fr0
    · exact m_dates hm0 hH _ (by rw [q8 z]; exact k _ _ fr0)
    · have loop : ∀ m n, n + m = nh w → At hd_m_count X0 120 [some (rf 55 122), some (iv a1), some (iv (neN w n)), some (iv (nI n))] [] (up σ 122 0 0) (retI (fun r' σ2 => G r r' σ2)) := by
        intro m
        induction m with
        | zero =>
          intro n hn
          have : n = nh w := by omega
          subst this
          refine l_m_count_120 _ _ _ _ _ ⟨vz, ?_⟩
          rw [c_0, hm0.2.2.1]
          exact ⟨fun _ => by rw [q9 z]; exact k _ _ fr0, fun q => absurd (by rw [nI_leI (by omega) (by omega)]; omega) q⟩
        | succ m ih =>
          intro n hn
          have key := ih (n + 1) (by omega)
          simp only [neN] at key
          refine l_m_count_120 _ _ _ _ _ ⟨vz, ?_⟩
          rw [c_0, hm0.2.2.1]
          refine ⟨fun q => ?_, fun _ => ⟨vin0 _ (e37_ n) (by omega) (by decide), ?_⟩⟩
          · exfalso; rw [nI_leI (by omega) (by omega)] at q; omega
          rw [e37_, nI_clamp (by omega), (hm0.2.2.2 n (by omega)).2.2.2.1, nI_1]; exact key
      exact loop (nh w) 0 (by omega)
    · rw [up_jb _ _ (by omega), ← hTp, q10 z]; exact k _ _ fr0
  refine e_x_count _ _ _ ⟨fun z => ?_, fun z => e_x_sheetsThere _ _ ?_, fun z => ?_, fun z => ?_, fun z => ?_, fun z => ?_, fun z => ?_, fun z => ?_, fun z => ?_, fun z => e_hi_allNeedles _ _ _ ?_, fun z => ?_, trivial⟩
  · refine mm _ (fun _ => rfl) ?_ ?_ ?_ ?_ ?_ ?_ ?_ ?_ ?_ ?_ <;> intro y <;> omega
  · have loop : ∀ m s, s + m = 8 → At hd_x_sheetsThere X0 4 [some (rf 54 0), some (iv (shN σ s)), some (iv (nI s))] [] σ (retI (fun r σ1 => CallI hd_m_count [rf 55 122, iv a1] σ1 (fun r' σ2 => G r r' σ2))) := by
      intro m
      induction m with
      | zero =>
        intro s hs
        have : s = 8 := by omega
        subst this
        refine l_x_sheetsThere_4 _ _ _ _ ⟨fun _ => ?_, fun q => absurd (by decide) q⟩
        refine mm _ ?_ (fun _ => rfl) ?_ ?_ ?_ ?_ ?_ ?_ ?_ ?_ ?_ <;> intro y <;> omega
      | succ m ih =>
        intro s hs
        have key := ih (s + 1) (by omega)
        simp only [shN] at key
        refine l_x_sheetsThere_4 _ _ _ _ ⟨fun q => ?_, fun _ => ⟨vin0 s rfl (by omega) (by decide), ?_⟩⟩
        · exfalso; rw [fa_le, ti_nI (by omega), t_8] at q; omega
        rw [nI_clamp (by omega), nI_1]
        refine gx_miss hSh (by omega) (fun y => on ?_) (fun y => of ?_)
        · rw [if_pos y] at key; exact key
        · rw [if_neg (by omega)] at key; exact key
    exact loop 8 0 (by omega)
  · rw [show σ 37 2 = nI (n0 w) from hc.1.1]
    refine mm _ ?_ ?_ (fun _ => rfl) ?_ ?_ ?_ ?_ ?_ ?_ ?_ ?_ <;> intro y <;> omega
  · rw [show σ 39 2 = nI (n1 w) from hc.1.2.1]
    refine mm _ ?_ ?_ ?_ (fun _ => rfl) ?_ ?_ ?_ ?_ ?_ ?_ ?_ <;> intro y <;> omega
  · rw [show σ 41 2 = nI (n2 w) from hc.1.2.2.1]
    refine mm _ ?_ ?_ ?_ ?_ (fun _ => rfl) ?_ ?_ ?_ ?_ ?_ ?_ <;> intro y <;> omega
  · rw [show σ 43 2 = nI (n3 w) from hc.1.2.2.2.1]
    refine mm _ ?_ ?_ ?_ ?_ ?_ (fun _ => rfl) ?_ ?_ ?_ ?_ ?_ <;> intro y <;> omega
  · rw [show σ 45 2 = nI (n4 w) from hc.1.2.2.2.2]
    refine mm _ ?_ ?_ ?_ ?_ ?_ ?_ (fun _ => rfl) ?_ ?_ ?_ ?_ <;> intro y <;> omega
  · rw [hc.2.2.1]
    refine mm _ ?_ ?_ ?_ ?_ ?_ ?_ ?_ (fun _ => rfl) ?_ ?_ ?_ <;> intro y <;> omega
  · refine x_dates hc hH _ ?_
    refine mm _ ?_ ?_ ?_ ?_ ?_ ?_ ?_ ?_ (fun _ => rfl) ?_ ?_ <;> intro y <;> omega
  · have loop : ∀ m n, n + m = nh w → At hd_hi_allNeedles X0 4 [some (rf 43 50), some (iv (neN w n)), some (iv (nI n))] [] σ (retI (fun r σ1 => CallI hd_m_count [rf 55 122, iv a1] σ1 (fun r' σ2 => G r r' σ2))) := by
      intro m
      induction m with
      | zero =>
        intro n hn
        have : n = nh w := by omega
        subst this
        refine l_hi_allNeedles_4 _ _ _ _ _ ?_
        rw [hc.2.2.1]
        refine ⟨fun _ => ?_, fun q => absurd (by rw [nI_leI (by omega) (by omega)]; omega) q⟩
        refine mm _ ?_ ?_ ?_ ?_ ?_ ?_ ?_ ?_ ?_ (fun _ => rfl) ?_ <;> intro y <;> omega
      | succ m ih =>
        intro n hn
        have key := ih (n + 1) (by omega)
        simp only [neN] at key
        refine l_hi_allNeedles_4 _ _ _ _ _ ?_
        rw [hc.2.2.1, nI_1]
        refine ⟨fun q => ?_, fun _ => x_hasN hc hH (by omega) (fun y => on ?_) (fun y => of ?_)⟩
        · exfalso; rw [nI_leI (by omega) (by omega)] at q; omega
        · rw [if_pos y] at key; exact key
        · rw [if_neg (by simp [y])] at key; exact key
    exact loop (nh w) 0 (by omega)
  · refine mm _ ?_ ?_ ?_ ?_ ?_ ?_ ?_ ?_ ?_ ?_ (fun _ => rfl) <;> intro y <;> omega
