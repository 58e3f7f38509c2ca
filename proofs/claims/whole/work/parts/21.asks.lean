/-! asks and their trace -/
def xT (l : List Int32) (τ : St) : Prop := τ 120 1 = nI l.length ∧ ∀ i, i < l.length → τ 121 i = l.getD i 0
def mT (l : List Int32) (τ : St) : Prop := τ 122 41 = nI l.length ∧ ∀ i, i < l.length → τ 140 i = l.getD i 0
def PA (a b : Nat) : Prop := a = 121 ∨ (a = 120 ∧ b = 1)
def PB (a b : Nat) : Prop := a = 140 ∨ (a = 122 ∧ b = 41)
theorem getD_app (l : List Int32) (b : Int32) (i : Nat) (h : i < l.length) : (l ++ [b]).getD i 0 = l.getD i 0 := by
  simp [List.getD_eq_getElem?_getD, List.getElem?_append_left h]
theorem getD_lst (l : List Int32) (b : Int32) : (l ++ [b]).getD l.length 0 = b := by simp [List.getD_eq_getElem?_getD]
theorem x_leave {σ : St} {l : List Int32} (b : Int32) (hl : l.length < 16) (hT : xT l σ) (F : St → Prop) (h : ∀ τ, Fr PA σ τ → xT (l ++ [b]) τ → F τ) : CallV hd_as_leave [rf 53 120, iv b] σ F := by
  refine e_as_leave _ _ _ ?_
  rw [hT.1]
  refine ⟨fun q => ?_, fun _ => ⟨vin0 l.length rfl hl (by decide), ?_⟩⟩
  · exfalso; rw [show (16 : Int32) = nI 16 from rfl, nI_leI (by omega) (by omega)] at q; omega
  · rw [nI_clamp (by omega), up_ka _ _ (by omega), hT.1, nI_1]
    refine h _ ((Fr.rf.up (Or.inl rfl)).up (Or.inr ⟨rfl, rfl⟩)) ⟨?_, fun i hi => ?_⟩
    · rw [up_at]; simp
    · rw [up_ka _ _ (by omega)]
      rw [List.length_append, List.length_singleton] at hi
      by_cases e : i = l.length
      · subst e; rw [up_at, getD_lst]
      · rw [up_jb _ _ e, getD_app _ _ _ (by omega)]; exact hT.2 i (by omega)
theorem m_began {σ : St} {l : List Int32} (b : Int32) (hl : l.length < 16) (hT : mT l σ) (F : St → Prop) (h : ∀ τ, Fr PB σ τ → mT (l ++ [b]) τ → F τ) : CallV hd_m_began [rf 55 122, iv b] σ F := by
  refine e_m_began _ _ _ ?_
  rw [hT.1]
  refine ⟨fun q => ?_, fun _ => ⟨vin0 l.length rfl hl (by decide), ?_⟩⟩
  · exfalso; rw [show (16 : Int32) = nI 16 from rfl, nI_leI (by omega) (by omega)] at q; omega
  · rw [nI_clamp (by omega), up_ka _ _ (by omega), hT.1, nI_1]
    refine h _ ((Fr.rf.up (Or.inl rfl)).up (Or.inr ⟨rfl, rfl⟩)) ⟨?_, fun i hi => ?_⟩
    · rw [up_at]; simp
    · rw [up_ka _ _ (by omega)]
      rw [List.length_append, List.length_singleton] at hi
      by_cases e : i = l.length
      · subst e; rw [up_at, getD_lst]
      · rw [up_jb _ _ e, getD_app _ _ _ (by omega)]; exact hT.2 i (by omega)
theorem PAf {σ τ : St} (h : Fr PA σ τ) (b : Nat) (hb : b ≠ 1) : τ 120 b = σ 120 b := h 120 b (by unfold PA; omega)
section BX
variable {σ : St} {l : List Int32} {F : Int32 → St → Prop}
theorem x10 (hl : l.length < 16) (hT : xT l σ) (h : ∀ τ, Fr PA σ τ → xT (l ++ [10]) τ → F (σ 120 4) τ) : CallI hd_as_body10 [rf 53 120] σ F :=
  e_as_body10 _ _ (x_leave 10 hl hT _ fun τ ht hx => by rw [PAf ht 4 (by decide)]; exact h τ ht hx)
theorem x11 (hl : l.length < 15) (hT : xT l σ) (h : ∀ τ, Fr PA σ τ → xT (l ++ [11] ++ [10]) τ → F (σ 120 4 + σ 120 5) τ) : CallI hd_as_body11 [rf 53 120] σ F :=
  e_as_body11 _ _ (x_leave 11 (by omega) hT _ fun τ ht hx => x10 (by simp; omega) hx fun ρ hr hy => by
    rw [PAf ht 4 (by decide), PAf hr 5 (by decide), PAf ht 5 (by decide)]; exact h ρ (ht.tr hr) hy)
theorem x20 (hl : l.length < 16) (hT : xT l σ) (h : ∀ τ, Fr PA σ τ → xT (l ++ [20]) τ → F (σ 120 2) τ) : CallI hd_as_body20 [rf 53 120] σ F :=
  e_as_body20 _ _ (x_leave 20 hl hT _ fun τ ht hx => by rw [PAf ht 2 (by decide)]; exact h τ ht hx)
theorem x21 (hl : l.length < 15) (hT : xT l σ) (h : ∀ τ, Fr PA σ τ → xT (l ++ [21] ++ [20]) τ → F (σ 120 2 + 100) τ) : CallI hd_as_body21 [rf 53 120] σ F :=
  e_as_body21 _ _ (x_leave 21 (by omega) hT _ fun τ ht hx => x20 (by simp; omega) hx fun ρ hr hy => by
    rw [PAf ht 2 (by decide)]; exact h ρ (ht.tr hr) hy)
theorem x14 (hl : l.length < 15) (hT : xT l σ) (h : ∀ τ, Fr PA σ τ → xT (l ++ [14] ++ [10]) τ → F (σ 120 4 + 7) τ) : CallI hd_as_body14 [rf 53 120] σ F :=
  e_as_body14 _ _ (x_leave 14 (by omega) hT _ fun τ ht hx => x10 (by simp; omega) hx fun ρ hr hy => by
    rw [PAf ht 4 (by decide)]; exact h ρ (ht.tr hr) hy)
end BX
/-- an ask's answer and trace, by kind, for dates d, lower end lw, hill h -/
def szV (kd : Nat) (d lw h : Int32) : Int32 := match kd with
  | 1 => d + lw
  | 2 => 2 * (d + lw)
  | 3 => (d + lw) - (h + 100)
  | 4 => d
  | _ => d + 7
def szT (kd : Nat) : List Int32 := match kd with
  | 1 => [11, 10]
  | 2 => [12, 11, 10]
  | 3 => [13, 11, 10, 21, 20]
  | 4 => [10]
  | _ => [14, 10]
def mkV (kd : Nat) (d h : Int32) : Int32 := match kd with
  | 4 => h + d
  | 5 => -(h + (d + 7))
  | _ => h + 100
def mkT (kd : Nat) : List Int32 := match kd with
  | 4 => [22, 20, 10]
  | 5 => [23, 22, 20, 14, 10]
  | _ => [21, 20]
theorem x_size {σ : St} {kd : Nat} (hk : 1 ≤ kd ∧ kd ≤ 5) (h3 : σ 120 3 = nI kd) (hT : xT [] σ) (F : Int32 → St → Prop) (h : ∀ τ, Fr PA σ τ → xT (szT kd) τ → F (szV kd (σ 120 4) (σ 120 5) (σ 120 2)) τ) : CallI hd_as_size [rf 53 120] σ F := by
  refine e_as_size _ _ ?_
  rw [h3, ti_nI (by omega)]
  rcases (show kd = 1 ∨ kd = 2 ∨ kd = 3 ∨ kd = 4 ∨ kd = 5 by omega) with e | e | e | e | e <;> subst e
  · exact ⟨fun q => by omega, fun _ => x11 (by decide) hT h, fun q => by omega, fun q => by omega, trivial⟩
  · refine ⟨fun q => by omega, fun q => by omega, fun _ => e_as_body12 _ _ (x_leave 12 (by decide) hT _ fun τ ht hx => x11 (by decide) hx fun ρ hr hy => ?_), fun q => by omega, trivial⟩
    rw [PAf ht 4 (by decide), PAf ht 5 (by decide)]; exact h ρ (ht.tr hr) hy
  · refine ⟨fun q => by omega, fun q => by omega, fun q => by omega, fun _ => e_as_body13 _ _ (x_leave 13 (by decide) hT _ fun τ ht hx => x11 (by decide) hx fun ρ hr hy => x21 (by decide) hy fun μ hs hz => ?_), trivial⟩
    rw [PAf ht 4 (by decide), PAf ht 5 (by decide), PAf hr 2 (by decide), PAf ht 2 (by decide)]; exact h μ ((ht.tr hr).tr hs) hz
  · refine ⟨fun _ => e_as_sizeOfBare _ _ ⟨fun _ => x10 (by decide) hT h, fun q => ?_⟩, fun q => by omega, fun q => by omega, fun q => by omega, trivial⟩
    rw [h3] at q; exact absurd q (by decide)
  · refine ⟨fun _ => e_as_sizeOfBare _ _ ⟨fun q => ?_, fun _ => x14 (by decide) hT h⟩, fun q => by omega, fun q => by omega, fun q => by omega, trivial⟩
    rw [h3] at q; exact absurd rfl q
theorem x_mark {σ : St} {kd : Nat} (hk : 1 ≤ kd ∧ kd ≤ 5) (h3 : σ 120 3 = nI kd) (hT : xT [] σ) (F : Int32 → St → Prop) (h : ∀ τ, Fr PA σ τ → xT (mkT kd) τ → F (mkV kd (σ 120 4) (σ 120 2)) τ) : CallI hd_as_mark [rf 53 120] σ F := by
  have b22 : ∀ (l : List Int32) (ρ : St) (F' : Int32 → St → Prop), l.length ≤ 1 → Fr PA σ ρ → xT l ρ → (∀ μ, Fr PA σ μ → (kd = 4 → xT (l ++ [22] ++ [20] ++ [10]) μ → F' (σ 120 2 + σ 120 4) μ) ∧ (kd = 5 → xT (l ++ [22] ++ [20] ++ [14] ++ [10]) μ → F' (σ 120 2 + (σ 120 4 + 7)) μ)) → (kd = 4 ∨ kd = 5) → CallI hd_as_body22 [rf 53 120] ρ F' := by
    intro l ρ F' hl hr hx H hkd
    refine e_as_body22 _ _ (x_leave 22 (by omega) hx _ fun τ ht hy => x20 (by simp; omega) hy fun μ hm hz => e_as_sizeOfBare _ _ ?_)
    rw [PAf hm 3 (by decide), PAf ht 3 (by decide), PAf hr 3 (by decide), h3, PAf ht 2 (by decide), PAf hr 2 (by decide)]
    have fr := (hr.tr ht).tr hm
    refine ⟨fun q => x10 (by simp; omega) hz fun ν hn hv => ?_, fun q => x14 (by simp; omega) hz fun ν hn hv => ?_⟩
    · rw [PAf fr 4 (by decide)]
      rcases hkd with e | e
      · exact (H ν (fr.tr hn)).1 e hv
      · subst e; exact absurd rfl q
    · rw [PAf fr 4 (by decide)]
      rcases hkd with e | e
      · subst e; exact absurd q (by decide)
      · exact (H ν (fr.tr hn)).2 e hv
  refine e_as_mark _ _ ?_
  rw [h3, ti_nI (by omega)]
  rcases (show kd = 1 ∨ kd = 2 ∨ kd = 3 ∨ kd = 4 ∨ kd = 5 by omega) with e | e | e | e | e <;> subst e
  · exact ⟨fun q => by omega, fun _ => x21 (by decide) hT h, fun q => by omega, fun q => by omega, fun q => by omega, fun q => by omega, trivial⟩
  · exact ⟨fun q => by omega, fun q => by omega, fun _ => x21 (by decide) hT h, fun q => by omega, fun q => by omega, fun q => by omega, trivial⟩
  · exact ⟨fun q => by omega, fun q => by omega, fun q => by omega, fun _ => x21 (by decide) hT h, fun q => by omega, fun q => by omega, trivial⟩
  · exact ⟨fun q => by omega, fun q => by omega, fun q => by omega, fun q => by omega, fun _ => b22 [] σ F (by decide) Fr.rf hT (fun μ hm => ⟨fun _ hx => h μ hm hx, fun q => by omega⟩) (Or.inl rfl), fun q => by omega, trivial⟩
  · refine ⟨fun q => by omega, fun q => by omega, fun q => by omega, fun q => by omega, fun q => by omega, fun _ => e_as_body23 _ _ (x_leave 23 (by decide) hT _ fun τ ht hx => b22 [23] τ _ (by decide) ht hx (fun μ hm => ⟨fun q => by omega, fun _ hx => h μ hm hx⟩) (Or.inr rfl)), trivial⟩
theorem mof (a b : Nat) (c : Int32) (h : p_m_isOf (nI a) (nI b) = c) (σ : St) (F : Int32 → St → Prop) (hh : F c σ) : CallI hd_m_isOf [iv (nI a), iv (nI b)] σ F := q_m_isOf _ _ _ _ (by rw [h]; exact hh)
theorem m_bare {σ : St} {l : List Int32} {kd : Nat} (hl : l.length ≤ 10) (hk : kd = 4 ∨ kd = 5) (hT : mT l σ) (F : Int32 → St → Prop) (h : ∀ τ, Fr PB σ τ → (kd = 4 → mT (l ++ [10]) τ → F 0 τ) ∧ (kd = 5 → mT (l ++ [14] ++ [10]) τ → F 7 τ)) : CallI hd_m_bareSize [rf 55 122, iv (nI kd)] σ F := by
  refine e_m_bareSize _ _ _ ⟨fun q => l_m_bareSize_11 _ _ _ (m_began 10 (by omega) hT _ fun τ ht hx => ⟨fun z => ?_, fun z => absurd z q⟩), fun q => m_began 14 (by omega) hT _ fun τ ht hx => l_m_bareSize_11 _ _ _ (m_began 10 (by simp; omega) hx _ fun ρ hr hy => ⟨fun z => absurd q z, fun z => ?_⟩)⟩
  · rcases hk with e | e
    · exact (h τ ht).1 e hx
    · subst e; exact absurd rfl q
  · rcases hk with e | e
    · subst e; exact absurd q (by decide)
    · exact (h ρ (ht.tr hr)).2 e hy
theorem m_mark {σ : St} {l : List Int32} {kd : Nat} {hv : Int32} (hl : l.length ≤ 5) (hk : 1 ≤ kd ∧ kd ≤ 5) (hT : mT l σ) (F : Int32 → St → Prop) (h : ∀ τ, Fr PB σ τ → mT (l ++ mkT kd) τ → F (mkV kd 0 hv) τ) : CallI hd_m_markOf [rf 55 122, iv hv, iv (nI kd)] σ F := by
  have h36 : ∀ (l' : List Int32) (ρ : St), (kd = 4 ∧ l' = l ∨ kd = 5 ∧ l' = l ++ [23]) → Fr PB σ ρ → mT l' ρ → At hd_m_markOf X0 36 [some (rf 55 122), some (iv hv), some (iv (nI kd)), none] [] ρ (retI F) := by
    intro l' ρ hl' hr hx
    have hll : l'.length ≤ 6 := by
      rcases hl' with ⟨-, e⟩ | ⟨-, e⟩
      · subst e; omega
      · subst e; rw [List.length_append, List.length_singleton]; omega
    refine l_m_markOf_36 _ _ _ _ (m_began 22 (by omega) hx _ fun τ ht hy => m_began 20 (by simp; omega) hy _ fun μ hm hz => m_bare (by simp; omega) (by rcases hl' with ⟨e, -⟩ | ⟨e, -⟩; exact Or.inl e; exact Or.inr e) hz _ fun ν hn => ⟨fun e hw => ⟨fun _ => ?_, fun q => ?_⟩, fun e hw => ⟨fun q => ?_, fun _ => ?_⟩⟩)
    · subst e
      have : l' = l := by rcases hl' with ⟨-, e⟩ | ⟨e, -⟩; exact e; omega
      subst this
      refine h ν (((hr.tr ht).tr hm).tr hn) ?_
      rw [show l' ++ mkT 4 = l' ++ [22] ++ [20] ++ [10] by simp [mkT]]; exact hw
    · subst e; exact absurd q (by decide)
    · subst e; exact absurd rfl q
    · subst e
      have : l' = l ++ [23] := by rcases hl' with ⟨e, -⟩ | ⟨-, e⟩; omega; exact e
      subst this
      have key := h ν (((hr.tr ht).tr hm).tr hn) (by rw [show l ++ mkT 5 = l ++ [23] ++ [22] ++ [20] ++ [14] ++ [10] by simp [mkT]]; exact hw)
      have e2 : mkV 5 0 hv = -(hv + 7) := by show -(hv + (0 + 7)) = _; grind
      rw [e2] at key; exact key
  refine e_m_markOf _ _ _ _ ?_
  rcases (show (1 ≤ kd ∧ kd ≤ 3) ∨ kd = 4 ∨ kd = 5 by omega) with e | e | e
  · refine mof kd 1 1 ?_ _ _ ⟨fun q => absurd q one_ne, fun _ => m_began 21 (by omega) hT _ fun τ ht hx => m_began 20 (by simp; omega) hx _ fun ρ hr hy => ?_⟩
    · rcases (show kd = 1 ∨ kd = 2 ∨ kd = 3 by omega) with z | z | z <;> subst z <;> decide
    · have key := h ρ (ht.tr hr)
      rcases (show kd = 1 ∨ kd = 2 ∨ kd = 3 by omega) with z | z | z <;> subst z <;> exact key (by rw [show l ++ mkT _ = l ++ [21] ++ [20] by simp [mkT]]; exact hy)
  · subst e
    exact mof 4 1 0 (by decide) _ _ ⟨fun _ => ⟨fun _ => h36 l σ (Or.inl ⟨rfl, rfl⟩) Fr.rf hT, fun q => absurd q (by decide)⟩, fun q => absurd rfl q⟩
  · subst e
    exact mof 5 1 0 (by decide) _ _ ⟨fun _ => ⟨fun q => absurd rfl q, fun _ => m_began 23 (by omega) hT _ fun τ ht hx => h36 _ τ (Or.inr ⟨rfl, rfl⟩) ht hx⟩, fun q => absurd rfl q⟩

def PT (a b : Nat) : Prop := SC a b ∨ PA a b ∨ PB a b ∨ a = 120
def PC (a b : Nat) : Prop := PB a b ∨ PM a b
theorem pb_mW {w : Wo} {σ τ : St} (h : Fr PC σ τ) (hm : mW w (σ 126) (σ 128)) : mW w (τ 126) (τ 128) := by
  have e1 : τ 126 = σ 126 := funext fun b => h 126 b (by unfold PC PB PM; omega)
  have e2 : τ 128 = σ 128 := funext fun b => h 128 b (by unfold PC PB PM; omega)
  rw [e1, e2]; exact hm
theorem m_low {w : Wo} {σ : St} (hm : mW w (σ 126) (σ 128)) (hF : okF w) (hH : okH w) {i : Nat} (hi' : i < nh w) (F : Int32 → St → Prop) (h : ∀ τ, Fr (fun a b => a = 122 ∧ 22 ≤ b ∧ b ≤ 24) σ τ → F (nI (lo w i)) τ) : CallI hd_m_lowOf [rf 55 122, iv (nI i)] σ F :=
  e_m_lowOf _ _ _ (c_look hm hF hH hi' _ fun τ ht t1 _ _ => by rw [t1]; exact h τ ht)
theorem m_high {w : Wo} {σ : St} (hm : mW w (σ 126) (σ 128)) (hF : okF w) (hH : okH w) {i : Nat} (hi' : i < nh w) (F : Int32 → St → Prop) (h : ∀ τ, Fr (fun a b => a = 122 ∧ 22 ≤ b ∧ b ≤ 24) σ τ → F (nI (hi w i)) τ) : CallI hd_m_highOf [rf 55 122, iv (nI i)] σ F :=
  e_m_highOf _ _ _ (c_look hm hF hH hi' _ fun τ ht _ t2 _ => by rw [t2]; exact h τ ht)
theorem lk_pc {σ τ : St} (h : Fr (fun a b => a = 122 ∧ 22 ≤ b ∧ b ≤ 24) σ τ) : Fr PC σ τ := h.mn fun a b q => Or.inr ⟨q.1, by omega, by omega⟩
theorem knd4 {w : Wo} {i : Nat} (h : 4 ≤ knd w i) : nd w i = 0 := by
  unfold knd at h
  by_cases c : ag w i = true
  · rw [if_pos c] at h; omega
  · rw [if_neg c] at h
    by_cases c2 : 0 < nd w i
    · rw [if_pos c2] at h; split at h <;> omega
    · omega
theorem mT_fr {l : List Int32} {σ τ : St} (h : Fr PM σ τ) (hT : mT l σ) : mT l τ := by
  refine ⟨?_, fun i hi => ?_⟩
  · rw [h 122 41 (by unfold PM; omega)]; exact hT.1
  · rw [h 140 i (by unfold PM; omega)]; exact hT.2 i hi
theorem m_szOf {w : Wo} {σ : St} (hm : mW w (σ 126) (σ 128)) (hF : okF w) (hH : okH w) {i : Nat} (hi' : i < nh w) (hT : mT [] σ) (F : Int32 → St → Prop) (h : ∀ τ, Fr PC σ τ → mT (szT (knd w i)) τ → F (szV (knd w i) (nI (nd w i)) (nI (lo w i)) (nI i)) τ) : CallI hd_m_sizeOf [rf 55 122, iv (nI i), iv (nI (knd w i))] σ F := by
  have nhh := hH.1
  have hk := knd_b w i
  have hz := @knd4 w i
  generalize ek : knd w i = kd at h hk hz ⊢
  have h35 : ∀ (l : List Int32) (ρ : St), (kd = 1 ∧ l = [] ∨ kd = 2 ∧ l = [12] ∨ kd = 3 ∧ l = [13]) → Fr PB σ ρ → mT l ρ → At hd_m_sizeOf X0 35 [some (rf 55 122), some (iv (nI i)), some (iv (nI kd)), none] [] ρ (retI F) := by
    intro l ρ hl hr hx
    have hll : l.length ≤ 1 := by rcases hl with ⟨-, e⟩ | ⟨-, e⟩ | ⟨-, e⟩ <;> subst e <;> decide
    refine l_m_sizeOf_35 _ _ _ _ (m_began 11 (by omega) hx _ fun τ ht hy => m_began 10 (by simp; omega) hy _ fun μ hm2 hz2 => ⟨vin0 (25 + i) (nI_add 25 i) (by omega) (by omega), ?_⟩)
    have fr : Fr PC σ μ := ((hr.tr ht).tr hm2).mn fun _ _ q => Or.inl q
    have hmμ := pb_mW fr hm
    have e25 : μ 128 (25 + nI i).toNatClampNeg = nI (nd w i) := by
      rw [show (25 : Int32) = nI 25 from rfl, nI_add, nI_clamp (by omega)]; exact (hmμ.2.2.2 i hi').2.2.1
    refine m_low hmμ hF hH hi' _ fun ν hn => ?_
    rw [e25]
    have frn := fr.tr (lk_pc hn)
    have hTn : mT (l ++ [11] ++ [10]) ν := mT_fr (hn.mn fun a b q => ⟨q.1, by omega, by omega⟩) hz2
    rcases hl with ⟨e, e'⟩ | ⟨e, e'⟩ | ⟨e, e'⟩ <;> subst e <;> subst e'
    · exact ⟨fun _ => ⟨fun _ => h ν frn hTn, fun q => absurd q (by decide)⟩, fun q => absurd q (by decide)⟩
    · exact ⟨fun q => absurd rfl q, fun _ => h ν frn hTn⟩
    · refine ⟨fun _ => ⟨fun q => absurd rfl q, fun _ => m_mark (by decide) (by decide) hTn _ fun κ hk2 hT3 => h κ (frn.tr (hk2.mn fun _ _ q => Or.inl q)) hT3⟩, fun q => absurd q (by decide)⟩
  refine e_m_sizeOf _ _ _ _ ?_
  rcases (show kd = 1 ∨ kd = 2 ∨ kd = 3 ∨ kd = 4 ∨ kd = 5 by omega) with e | e | e | e | e <;> subst e
  · exact mof 1 4 0 (by decide) _ _ ⟨fun _ => ⟨fun _ => h35 [] σ (Or.inl ⟨rfl, rfl⟩) Fr.rf hT, fun q => absurd rfl q⟩, fun q => absurd rfl q⟩
  · exact mof 2 4 0 (by decide) _ _ ⟨fun _ => ⟨fun q => absurd q (by decide), fun _ => ⟨fun q => absurd rfl q, fun _ => m_began 12 (by decide) hT _ fun τ ht hx => h35 _ τ (Or.inr (Or.inl ⟨rfl, rfl⟩)) ht hx⟩⟩, fun q => absurd rfl q⟩
  · exact mof 3 4 0 (by decide) _ _ ⟨fun _ => ⟨fun q => absurd q (by decide), fun _ => ⟨fun _ => m_began 13 (by decide) hT _ fun τ ht hx => h35 _ τ (Or.inr (Or.inr ⟨rfl, rfl⟩)) ht hx, fun q => absurd q (by decide)⟩⟩, fun q => absurd rfl q⟩
  · refine mof 4 4 1 (by decide) _ _ ⟨fun q => absurd q one_ne, fun _ => m_bare (by decide) (Or.inl rfl) hT _ fun τ ht => ⟨fun _ hx => ?_, fun q => by omega⟩⟩
    have key := h τ (ht.mn fun _ _ q => Or.inl q) hx
    rw [hz (by omega)] at key; exact key
  · refine mof 5 4 1 (by decide) _ _ ⟨fun q => absurd q one_ne, fun _ => m_bare (by decide) (Or.inr rfl) hT _ fun τ ht => ⟨fun q => by omega, fun _ hx => ?_⟩⟩
    have key := h τ (ht.mn fun _ _ q => Or.inl q) hx
    rw [hz (by omega)] at key; exact key
def RTr (σ : St) : Prop := ∃ l : List Int32, l.length ≤ 16 ∧ xT l σ ∧ mT l σ
theorem szT_len (kd : Nat) : (szT kd).length ≤ 16 := by unfold szT; split <;> decide
theorem mkT_len (kd : Nat) : (mkT kd).length ≤ 16 := by unfold mkT; split <;> decide
theorem xT_fr {l : List Int32} {σ τ : St} (h : Fr (fun a b => SC a b ∨ PB a b) σ τ) (hT : xT l σ) : xT l τ := by
  refine ⟨?_, fun i hi => ?_⟩
  · rw [h 120 1 (by unfold SC MS PB; omega)]; exact hT.1
  · rw [h 121 i (by unfold SC MS PB; omega)]; exact hT.2 i hi
theorem r_ask (a1 a2 : Int32) (σ : St) (G : Int32 → Int32 → St → Prop) (hR : RW σ) (hTr : RTr σ) (k : ∀ (r : Int32) (τ : St), Fr PT σ τ → RTr τ → G r r τ) :
    CallI hd_x_ask [rf 54 0, iv a1, iv a2] σ (fun r σ1 => CallI hd_m_ask [rf 55 122, iv a1, iv a2] σ1 (fun r' σ2 => G r r' σ2)) := by
  obtain ⟨w, hF, hH, hc, hcd, hm, hmd, -⟩ := hR
  have nhh := hH.1
  have hm0 := mWs_fr fr0 hm
  have kb : G (-1000001) (-1000001) (up σ 122 0 0) := by
    refine k _ _ (fr0.mn fun _ _ q => Or.inl q) ?_
    obtain ⟨l, hl, hx, hy⟩ := hTr
    refine ⟨l, hl, ⟨?_, fun i hi => ?_⟩, ⟨?_, fun i hi => ?_⟩⟩
    · rw [up_ka _ _ (by omega)]; exact hx.1
    · rw [up_ka _ _ (by omega)]; exact hx.2 i hi
    · rw [up_jb _ _ (by omega)]; exact hy.1
    · rw [up_ka _ _ (by omega)]; exact hy.2 i hi
  refine e_x_ask a1 a2 σ _ (q_x_isHill _ _ _ ?_)
  rw [x_hill hc hH]
  by_cases h1 : 0 ≤ a1.toInt ∧ a1.toInt < nh w
  rotate_left
  · rw [if_neg h1]
    refine ⟨fun _ => e_m_ask a1 a2 _ _ (q_m_isHill _ _ _ vz ?_), fun q => absurd rfl q⟩
    rw [m_hill hm0 hH, if_neg h1]
    exact ⟨fun _ => kb, fun q => absurd rfl q⟩
  rw [if_pos h1]
  refine ⟨fun q => absurd q one_ne, fun _ => q_x_isBelow _ _ _ _ ?_⟩
  rw [v_below, t_2]
  by_cases h2 : 0 ≤ a2.toInt ∧ a2.toInt < 2
  rotate_left
  · rw [if_neg h2]
    refine ⟨fun q => absurd rfl q, fun _ => e_m_ask a1 a2 _ _ (q_m_isHill _ _ _ vz ?_)⟩
    rw [m_hill hm0 hH, if_pos h1]
    refine ⟨fun q => absurd q one_ne, fun _ => q_m_in _ _ _ _ _ ?_⟩
    rw [v_in, i2l, tl_0, tl_1, if_neg (by omega)]
    exact ⟨fun q => absurd rfl q, fun _ => kb⟩
  rw [if_pos h2]
  obtain ⟨i, hi', e1, e2, e3⟩ := ixe h1 (by omega)
  subst e1
  have v12 : vp_in (nI i) 12 := vin0 i rfl (by omega) (by omega)
  refine ⟨fun _ => x_knd hc hcd hF hH hi' _ fun τ ht => ⟨v12, v12, e_as_begin _ _ _ _ _ _ ?_⟩, fun q => absurd q one_ne⟩
  obtain ⟨g1, g2, g3, g4, -⟩ := (x_row ht hc).2.2.2 i hi'
  rw [e2, show τ 53 i = nI (nd w i) from g3, show τ 54 i = nI (lo w i) from g4]
  generalize hτ1 : up (up (up (up (up τ 120 2 (nI i)) 120 3 (nI (knd w i))) 120 4 (nI (nd w i))) 120 5 (nI (lo w i))) 120 1 0 = τ1
  have ft : Fr PT σ τ1 := by
    rw [← hτ1]
    have b0 : Fr PT σ τ := (pxsc ht).mn fun _ _ q => Or.inl q
    have b1 : ∀ j, PT 120 j := fun j => Or.inr (Or.inr (Or.inr rfl))
    exact ((((b0.up (b1 2)).up (b1 3)).up (b1 4)).up (b1 5)).up (b1 1)
  have k2 : τ1 120 2 = nI i := by rw [← hτ1]; simp (disch := omega) only [up_at, up_jb]
  have k3 : τ1 120 3 = nI (knd w i) := by rw [← hτ1]; simp (disch := omega) only [up_at, up_jb]
  have k4 : τ1 120 4 = nI (nd w i) := by rw [← hτ1]; simp (disch := omega) only [up_at, up_jb]
  have k5 : τ1 120 5 = nI (lo w i) := by rw [← hτ1]; simp (disch := omega) only [up_at, up_jb]
  have kT : xT [] τ1 := ⟨by rw [← hτ1]; simp (disch := omega) only [up_at, up_jb]; rfl, fun i hi => by simp at hi⟩
  have other : ∀ (μ : St) (l : List Int32) (r : Int32), l.length ≤ 16 → Fr PA τ1 μ → xT l μ → (a2 = 0 → l = szT (knd w i) ∧ r = szV (knd w i) (nI (nd w i)) (nI (lo w i)) (nI i)) → (¬ a2 = 0 → l = mkT (knd w i) ∧ r = mkV (knd w i) (nI (nd w i)) (nI i)) → CallI hd_m_ask [rf 55 122, iv (nI i), iv a2] μ (fun r' σ2 => G r r' σ2) := by
    intro μ l r hl hμ hx H0 H1
    have fm : Fr PT σ μ := ft.tr (hμ.mn fun _ _ q => Or.inr (Or.inl q))
    have fm1 : Fr PT σ (up (up μ 122 0 0) 122 41 0) := (fm.up (Or.inl (Or.inr (Or.inl ⟨rfl, Or.inl rfl⟩)))).up (Or.inr (Or.inr (Or.inl (Or.inr ⟨rfl, rfl⟩))))
    have toM : ∀ {ρ : St}, Fr PT σ ρ → mW w (ρ 126) (ρ 128) := fun {ρ} h => by
      have e1 : ρ 126 = σ 126 := funext fun b => h 126 b (by unfold PT SC MS PA PB; omega)
      have e2 : ρ 128 = σ 128 := funext fun b => h 128 b (by unfold PT SC MS PA PB; omega)
      rw [e1, e2]; exact hm
    have toD : ∀ {ρ : St}, Fr PT σ ρ → mD w ρ := fun {ρ} h a ha => by
      rw [h 130 a (by unfold PT SC MS PA PB; omega), h 131 a (by unfold PT SC MS PA PB; omega)]; exact hmd a ha
    have pmpt : ∀ {ρ ν : St}, Fr PM ρ ν → Fr PT ρ ν := fun h => h.mn fun _ _ q => Or.inl (Or.inr (PM_MS q))
    have xkeep : ∀ {ρ : St}, Fr (fun a b => SC a b ∨ PB a b) μ ρ → xT l ρ := fun h => xT_fr h hx
    have f0 : Fr (fun a b => SC a b ∨ PB a b) μ (up (up μ 122 0 0) 122 41 0) := (Fr.rf.up (Or.inl (Or.inr (Or.inl ⟨rfl, Or.inl rfl⟩)))).up (Or.inr (Or.inr ⟨rfl, rfl⟩))
    refine e_m_ask _ a2 _ _ (q_m_isHill _ _ _ vz ?_)
    rw [m_hill (toM (fm.up (Or.inl (Or.inr (Or.inl ⟨rfl, Or.inl rfl⟩))))) hH, if_pos h1]
    refine ⟨fun q => absurd q one_ne, fun _ => q_m_in _ _ _ _ _ ?_⟩
    rw [v_in, i2l, tl_0, tl_1, if_pos (by omega)]
    refine ⟨fun _ => ⟨fun qa => m_knd (toM fm1) (toD fm1) hF hH hi' _ fun ρ hr => ?_, fun qa => m_knd (toM fm1) (toD fm1) hF hH hi' _ fun ρ hr => ?_⟩, fun q => absurd q one_ne⟩
    · obtain ⟨el, er⟩ := H1 qa
      have hT0 : mT [] ρ := ⟨by rw [hr 122 41 (by unfold PM; omega), up_at]; rfl, fun i hi => by simp at hi⟩
      refine m_mark (by decide) (knd_b w i) hT0 _ fun ν hn hz => ?_
      have e0 : mkV (knd w i) 0 (nI i) = r := by
        rw [er]
        by_cases c4 : 4 ≤ knd w i
        · rw [knd4 c4]; rfl
        · have := knd_b w i
          rcases (show knd w i = 1 ∨ knd w i = 2 ∨ knd w i = 3 by omega) with z | z | z <;> rw [z] <;> rfl
      rw [e0]
      refine k _ _ ((fm1.tr (pmpt hr)).tr (hn.mn fun _ _ q => Or.inr (Or.inr (Or.inl q)))) ⟨l, hl, xkeep ((f0.tr (hr.mn fun _ _ q => Or.inl (Or.inr (PM_MS q)))).tr (hn.mn fun _ _ q => Or.inr q)), ?_⟩
      rw [el]; exact hz
    · obtain ⟨el, er⟩ := H0 qa
      have hT0 : mT [] ρ := ⟨by rw [hr 122 41 (by unfold PM; omega), up_at]; rfl, fun i hi => by simp at hi⟩
      refine m_szOf (toM (fm1.tr (pmpt hr))) hF hH hi' hT0 _ fun ν hn hz => ?_
      rw [← er]
      refine k _ _ ((fm1.tr (pmpt hr)).tr (hn.mn fun _ _ q => ?_)) ⟨l, hl, xkeep ((f0.tr (hr.mn fun _ _ q => Or.inl (Or.inr (PM_MS q)))).tr (hn.mn fun _ _ q => ?_)), ?_⟩
      · rcases q with q | q
        · exact Or.inr (Or.inr (Or.inl q))
        · exact Or.inl (Or.inr (PM_MS q))
      · rcases q with q | q
        · exact Or.inr q
        · exact Or.inl (Or.inr (PM_MS q))
      · rw [el]; exact hz
  refine ⟨fun qa => x_mark (knd_b w i) k3 kT _ fun μ hμ hx => ?_, fun qa => x_size (knd_b w i) k3 kT _ fun μ hμ hx => ?_⟩
  · rw [k4, k2]
    exact other μ _ _ (mkT_len _) hμ hx (fun q => absurd q qa) fun _ => ⟨rfl, rfl⟩
  · rw [k4, k5, k2]
    exact other μ _ _ (szT_len _) hμ hx (fun _ => ⟨rfl, rfl⟩) fun q => absurd qa q
theorem r_trace (a1 : Int32) (σ : St) (G : Int32 → Int32 → St → Prop) (hTr : RTr σ) (k : KQ σ G) :
    CallI hd_x_trace [rf 54 0, iv a1] σ (fun r σ1 => CallI hd_m_trace [rf 55 122, iv a1] σ1 (fun r' σ2 => G r r' σ2)) := by
  obtain ⟨l, hl, hx, hy⟩ := hTr
  refine e_x_trace a1 σ _ (q_x_isBelow _ _ _ _ ?_)
  rw [hx.1, in_lt (by omega)]
  have other : ∀ r, (0 ≤ a1.toInt ∧ a1.toInt < l.length → r = l.getD a1.toInt.toNat 0) → (¬ (0 ≤ a1.toInt ∧ a1.toInt < l.length) → r = -1000000) → CallI hd_m_trace [rf 55 122, iv a1] σ (fun r' σ2 => G r r' σ2) := by
    intro r H1 H2
    refine e_m_trace a1 _ _ (q_m_in _ _ _ _ _ ?_)
    rw [up_jb _ _ (by omega), hy.1, in_m (by omega)]
    by_cases h1 : 0 ≤ a1.toInt ∧ a1.toInt < l.length
    · rw [if_pos h1]
      refine ⟨fun q => absurd q one_ne, fun _ => ⟨vin.mpr (by omega), ?_⟩⟩
      rw [up_ka _ _ (by omega), tcl, hy.2 _ (by omega), ← H1 h1]
      exact k _ _ fr0
    · rw [if_neg h1]
      refine ⟨fun _ => ?_, fun q => absurd rfl q⟩
      rw [← H2 h1]; exact k _ _ fr0
  by_cases h1 : 0 ≤ a1.toInt ∧ a1.toInt < l.length
  · rw [if_pos h1]
    refine ⟨fun q => absurd q one_ne, fun _ => ⟨vin.mpr (by omega), ?_⟩⟩
    rw [tcl, hx.2 _ (by omega)]
    exact other _ (fun _ => rfl) fun q => absurd h1 q
  · rw [if_neg h1]
    exact ⟨fun _ => other _ (fun q => absurd q h1) fun _ => rfl, fun q => absurd rfl q⟩
