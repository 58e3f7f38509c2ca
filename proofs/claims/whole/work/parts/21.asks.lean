/-! asks and their trace -/
def xT (l : List Int32) (τ : St) : Prop := τ 120 1 = nI l.length ∧ ∀ i, i < l.length → τ 121 i = l.getD i 0
def mT (l : List Int32) (τ : St) : Prop := τ 122 41 = nI l.length ∧ ∀ i, i < l.length → τ 140 i = l.getD i 0
def PA (a b : Nat) : Prop := a = 121 ∨ (a = 120 ∧ b = 1)
def PB (a b : Nat) : Prop := a = 140 ∨ (a = 122 ∧ b = 41)
theorem getD_app (l : List Int32) (b : Int32) (i : Nat) (h : i < l.length) : (l ++ [b]).getD i 0 = l.getD i 0 := by
  simp [List.getD_eq_getElem?_getD, List.getElem?_append_left h]
theorem getD_lst (l : List Int32) (b : Int32) : (l ++ [b]).getD l.length 0 = b := by simp [List.getD_eq_getElem?_getD]
theorem x_leave {σ : St} {l : List Int32} (b : Int32) (hl : l.length < 16) (hT : xT l σ) (F : St → Prop) (h : ∀ τ, Fr PA σ τ → xT (l ++ [b]) τ → F τ) : CallV hd_as_leave [rf 53 120, iv b] σ F := by
  refine e_as_leave _ _ _ ?_
  rw [hT.1]
  refine ⟨fun q => ?_, fun _ => ⟨vin0 l.length rfl hl (by decide), ?_⟩⟩
  · exfalso; rw [show (16 : Int32) = nI 16 from rfl, nI_leI (by omega) (by omega)] at q; omega
  · rw [nI_clamp (by omega), up_ka _ _ (by omega), hT.1, nI_1]
    refine h _ ((Fr.rf.up (Or.inl rfl)).up (Or.inr ⟨rfl, rfl⟩)) ⟨?_, fun i hi => ?_⟩
    · rw [up_at]; simp
    · rw [up_ka _ _ (by omega)]
      rw [List.length_append, List.length_singleton] at hi
      by_cases e : i = l.length
      · subst e; rw [up_at, getD_lst]
      · rw [up_jb _ _ e, getD_app _ _ _ (by omega)]; exact hT.2 i (by omega)
theorem m_began {σ : St} {l : List Int32} (b : Int32) (hl : l.length < 16) (hT : mT l σ) (F : St → Prop) (h : ∀ τ, Fr PB σ τ → mT (l ++ [b]) τ → F τ) : CallV hd_m_began [rf 55 122, iv b] σ F := by
  refine e_m_began _ _ _ ?_
  rw [hT.1]
  refine ⟨fun q => ?_, fun _ => ⟨vin0 l.length rfl hl (by decide), ?_⟩⟩
  · exfalso; rw [show (16 : Int32) = nI 16 from rfl, nI_leI (by omega) (by omega)] at q; omega
  · rw [nI_clamp (by omega), up_ka _ _ (by omega), hT.1, nI_1]
    refine h _ ((Fr.rf.up (Or.inl rfl)).up (Or.inr ⟨rfl, rfl⟩)) ⟨?_, fun i hi => ?_⟩
    · rw [up_at]; simp
    · rw [up_ka _ _ (by omega)]
      rw [List.length_append, List.length_singleton] at hi
      by_cases e : i = l.length
      · subst e; rw [up_at, getD_lst]
      · rw [up_jb _ _ e, getD_app _ _ _ (by omega)]; exact hT.2 i (by omega)
theorem PAf {σ τ : St} (h : Fr PA σ τ) (b : Nat) (hb : b ≠ 1) : τ 120 b = σ 120 b := h 120 b (by unfold PA; omega)
section BX
variable {σ : St} {l : List Int32} {F : Int32 → St → Prop}
theorem x10 (hl : l.length < 16) (hT : xT l σ) (h : ∀ τ, Fr PA σ τ → xT (l ++ [10]) τ → F (σ 120 4) τ) : CallI hd_as_body10 [rf 53 120] σ F :=
  e_as_body10 _ _ (x_leave 10 hl hT _ fun τ ht hx => by rw [PAf ht 4 (by decide)]; exact h τ ht hx)
theorem x11 (hl : l.length < 15) (hT : xT l σ) (h : ∀ τ, Fr PA σ τ → xT (l ++ [11] ++ [10]) τ → F (σ 120 4 + σ 120 5) τ) : CallI hd_as_body11 [rf 53 120] σ F :=
  e_as_body11 _ _ (x_leave 11 (by omega) hT _ fun τ ht hx => x10 (by simp; omega) hx fun ρ hr hy => by
    rw [PAf ht 4 (by decide), PAf hr 5 (by decide), PAf ht 5 (by decide)]; exact h ρ (ht.tr hr) hy)
theorem x20 (hl : l.length < 16) (hT : xT l σ) (h : ∀ τ, Fr PA σ τ → xT (l ++ [20]) τ → F (σ 120 2) τ) : CallI hd_as_body20 [rf 53 120] σ F :=
  e_as_body20 _ _ (x_leave 20 hl hT _ fun τ ht hx => by rw [PAf ht 2 (by decide)]; exact h τ ht hx)
theorem x21 (hl : l.length < 15) (hT : xT l σ) (h : ∀ τ, Fr PA σ τ → xT (l ++ [21] ++ [20]) τ → F (σ 120 2 + 100) τ) : CallI hd_as_body21 [rf 53 120] σ F :=
  e_as_body21 _ _ (x_leave 21 (by omega) hT _ fun τ ht hx => x20 (by simp; omega) hx fun ρ hr hy => by
    rw [PAf ht 2 (by decide)]; exact h ρ (ht.tr hr) hy)
theorem x14 (hl : l.length < 15) (hT : xT l σ) (h : ∀ τ, Fr PA σ τ → xT (l ++ [14] ++ [10]) τ → F (σ 120 4 + 7) τ) : CallI hd_as_body14 [rf 53 120] σ F :=
  e_as_body14 _ _ (x_leave 14 (by omega) hT _ fun τ ht hx => x10 (by simp; omega) hx fun ρ hr hy => by
    rw [PAf ht 4 (by decide)]; exact h ρ (ht.tr hr) hy)
end BX
/-- an ask's answer and trace, by kind, for dates d, lower end lw, hill h -/
def szV (kd : Nat) (d lw h : Int32) : Int32 := match kd with
  | 1 => d + lw
  | 2 => 2 * (d + lw)
  | 3 => (d + lw) - (h + 100)
  | 4 => d
  | _ => d + 7
def szT (kd : Nat) : List Int32 := match kd with
  | 1 => [11, 10]
  | 2 => [12, 11, 10]
  | 3 => [13, 11, 10, 21, 20]
  | 4 => [10]
  | _ => [14, 10]
def mkV (kd : Nat) (d h : Int32) : Int32 := match kd with
  | 4 => h + d
  | 5 => -(h + (d + 7))
  | _ => h + 100
def mkT (kd : Nat) : List Int32 := match kd with
  | 4 => [22, 20, 10]
  | 5 => [23, 22, 20, 14, 10]
  | _ => [21, 20]
theorem x_size {σ : St} {kd : Nat} (hk : 1 ≤ kd ∧ kd ≤ 5) (h3 : σ 120 3 = nI kd) (hT : xT [] σ) (F : Int32 → St → Prop) (h : ∀ τ, Fr PA σ τ → xT (szT kd) τ → F (szV kd (σ 120 4) (σ 120 5) (σ 120 2)) τ) : CallI hd_as_size [rf 53 120] σ F := by
  refine e_as_size _ _ ?_
  rw [h3, ti_nI (by omega)]
  rcases (show kd = 1 ∨ kd = 2 ∨ kd = 3 ∨ kd = 4 ∨ kd = 5 by omega) with e | e | e | e | e <;> subst e
  · exact ⟨fun q => by omega, fun _ => x11 (by decide) hT h, fun q => by omega, fun q => by omega, trivial⟩
  · refine ⟨fun q => by omega, fun q => by omega, fun _ => e_as_body12 _ _ (x_leave 12 (by decide) hT _ fun τ ht hx => x11 (by decide) hx fun ρ hr hy => ?_), fun q => by omega, trivial⟩
    rw [PAf ht 4 (by decide), PAf ht 5 (by decide)]; exact h ρ (ht.tr hr) hy
  · refine ⟨fun q => by omega, fun q => by omega, fun q => by omega, fun _ => e_as_body13 _ _ (x_leave 13 (by decide) hT _ fun τ ht hx => x11 (by decide) hx fun ρ hr hy => x21 (by decide) hy fun μ hs hz => ?_), trivial⟩
    rw [PAf ht 4 (by decide), PAf ht 5 (by decide), PAf hr 2 (by decide), PAf ht 2 (by decide)]; exact h μ ((ht.tr hr).tr hs) hz
  · refine ⟨fun _ => e_as_sizeOfBare _ _ ⟨fun _ => x10 (by decide) hT h, fun q => ?_⟩, fun q => by omega, fun q => by omega, fun q => by omega, trivial⟩
    rw [h3] at q; exact absurd q (by decide)
  · refine ⟨fun _ => e_as_sizeOfBare _ _ ⟨fun q => ?_, fun _ => x14 (by decide) hT h⟩, fun q => by omega, fun q => by omega, fun q => by omega, trivial⟩
    rw [h3] at q; exact absurd rfl q
theorem x_mark {σ : St} {kd : Nat} (hk : 1 ≤ kd ∧ kd ≤ 5) (h3 : σ 120 3 = nI kd) (hT : xT [] σ) (F : Int32 → St → Prop) (h : ∀ τ, Fr PA σ τ → xT (mkT kd) τ → F (mkV kd (σ 120 4) (σ 120 2)) τ) : CallI hd_as_mark [rf 53 120] σ F := by
  have b22 : ∀ (l : List Int32) (ρ : St) (F' : Int32 → St → Prop), l.length ≤ 1 → Fr PA σ ρ → xT l ρ → (∀ μ, Fr PA σ μ → (kd = 4 → xT (l ++ [22] ++ [20] ++ [10]) μ → F' (σ 120 2 + σ 120 4) μ) ∧ (kd = 5 → xT (l ++ [22] ++ [20] ++ [14] ++ [10]) μ → F' (σ 120 2 + (σ 120 4 + 7)) μ)) → (kd = 4 ∨ kd = 5) → CallI hd_as_body22 [rf 53 120] ρ F' := by
    intro l ρ F' hl hr hx H hkd
    refine e_as_body22 _ _ (x_leave 22 (by omega) hx _ fun τ ht hy => x20 (by simp; omega) hy fun μ hm hz => e_as_sizeOfBare _ _ ?_)
    rw [PAf hm 3 (by decide), PAf ht 3 (by decide), PAf hr 3 (by decide), h3, PAf ht 2 (by decide), PAf hr 2 (by decide)]
    have fr := (hr.tr ht).tr hm
    refine ⟨fun q => x10 (by simp; omega) hz fun ν hn hv => ?_, fun q => x14 (by simp; omega) hz fun ν hn hv => ?_⟩
    · rw [PAf fr 4 (by decide)]
      rcases hkd with e | e
      · exact (H ν (fr.tr hn)).1 e hv
      · subst e; exact absurd rfl q
    · rw [PAf fr 4 (by decide)]
      rcases hkd with e | e
      · subst e; exact absurd q (by decide)
      · exact (H ν (fr.tr hn)).2 e hv
  refine e_as_mark _ _ ?_
  rw [h3, ti_nI (by omega)]
  rcases (show kd = 1 ∨ kd = 2 ∨ kd = 3 ∨ kd = 4 ∨ kd = 5 by omega) with e | e | e | e | e <;> subst e
  · exact ⟨fun q => by omega, fun _ => x21 (by decide) hT h, fun q => by omega, fun q => by omega, fun q => by omega, fun q => by omega, trivial⟩
  · exact ⟨fun q => by omega, fun q => by omega, fun _ => x21 (by decide) hT h, fun q => by omega, fun q => by omega, fun q => by omega, trivial⟩
  · exact ⟨fun q => by omega, fun q => by omega, fun q => by omega, fun _ => x21 (by decide) hT h, fun q => by omega, fun q => by omega, trivial⟩
  · exact ⟨fun q => by omega, fun q => by omega, fun q => by omega, fun q => by omega, fun _ => b22 [] σ F (by decide) Fr.rf hT (fun μ hm => ⟨fun _ hx => h μ hm hx, fun q => by omega⟩) (Or.inl rfl), fun q => by omega, trivial⟩
  · refine ⟨fun q => by omega, fun q => by omega, fun q => by omega, fun q => by omega, fun q => by omega, fun _ => e_as_body23 _ _ (x_leave 23 (by decide) hT _ fun τ ht hx => b22 [23] τ _ (by decide) ht hx (fun μ hm => ⟨fun q => by omega, fun _ hx => h μ hm hx⟩) (Or.inr rfl)), trivial⟩
theorem mof (a b : Nat) (c : Int32) (h : p_m_isOf (nI a) (nI b) = c) (σ : St) (F : Int32 → St → Prop) (hh : F c σ) : CallI hd_m_isOf [iv (nI a), iv (nI b)] σ F := q_m_isOf _ _ _ _ (by rw [h]; exact hh)
theorem m_bare {σ : St} {l : List Int32} {kd : Nat} (hl : l.length ≤ 10) (hk : kd = 4 ∨ kd = 5) (hT : mT l σ) (F : Int32 → St → Prop) (h : ∀ τ, Fr PB σ τ → (kd = 4 → mT (l ++ [10]) τ → F 0 τ) ∧ (kd = 5 → mT (l ++ [14] ++ [10]) τ → F 7 τ)) : CallI hd_m_bareSize [rf 55 122, iv (nI kd)] σ F := by
  refine e_m_bareSize _ _ _ ⟨fun q => l_m_bareSize_11 _ _ _ (m_began 10 (by omega) hT _ fun τ ht hx => ⟨fun z => ?_, fun z => absurd z q⟩), fun q => m_began 14 (by omega) hT _ fun τ ht hx => l_m_bareSize_11 _ _ _ (m_began 10 (by simp; omega) hx _ fun ρ hr hy => ⟨fun z => absurd q z, fun z => ?_⟩)⟩
  · rcases hk with e | e
    · exact (h τ ht).1 e hx
    · subst e; exact absurd rfl q
  · rcases hk with e | e
    · subst e; exact absurd q (by decide)
    · exact (h ρ (ht.tr hr)).2 e hy
theorem m_mark {σ : St} {l : List Int32} {kd : Nat} {hv : Int32} (hl : l.length ≤ 5) (hk : 1 ≤ kd ∧ kd ≤ 5) (hT : mT l σ) (F : Int32 → St → Prop) (h : ∀ τ, Fr PB σ τ → mT (l ++ mkT kd) τ → F (mkV kd 0 hv) τ) : CallI hd_m_markOf [rf 55 122, iv hv, iv (nI kd)] σ F := by
  have h36 : ∀ (l' : List Int32) (ρ : St), (kd = 4 ∧ l' = l ∨ kd = 5 ∧ l' = l ++ [23]) → Fr PB σ ρ → mT l' ρ → At hd_m_markOf X0 36 [some (rf 55 122), some (iv hv), some (iv (nI kd)), none] [] ρ (retI F) := by
    intro l' ρ hl' hr hx
    have hll : l'.length ≤ 6 := by rcases hl' with ⟨-, e⟩ | ⟨-, e⟩ <;> subst e <;> simp <;> omega
    refine l_m_markOf_36 _ _ _ _ (m_began 22 (by omega) hx _ fun τ ht hy => m_began 20 (by simp; omega) hy _ fun μ hm hz => m_bare (by simp; omega) (by rcases hl' with ⟨e, -⟩ | ⟨e, -⟩; exact Or.inl e; exact Or.inr e) hz _ fun ν hn => ⟨fun e hw => ⟨fun _ => ?_, fun q => ?_⟩, fun e hw => ⟨fun q => ?_, fun _ => ?_⟩⟩)
    · subst e
      have : l' = l := by rcases hl' with ⟨-, e⟩ | ⟨e, -⟩; exact e; omega
      subst this
      refine h ν (((hr.tr ht).tr hm).tr hn) ?_
      rw [show l' ++ mkT 4 = l' ++ [22] ++ [20] ++ [10] by simp [mkT]]; exact hw
    · subst e; exact absurd q (by decide)
    · subst e; exact absurd rfl q
    · subst e
      have : l' = l ++ [23] := by rcases hl' with ⟨e, -⟩ | ⟨-, e⟩; omega; exact e
      subst this
      have key := h ν (((hr.tr ht).tr hm).tr hn) (by rw [show l ++ mkT 5 = l ++ [23] ++ [22] ++ [20] ++ [14] ++ [10] by simp [mkT]]; exact hw)
      have e2 : mkV 5 0 hv = -(hv + 7) := by show -(hv + (0 + 7)) = _; grind
      rw [e2] at key; exact key
  refine e_m_markOf _ _ _ _ ?_
  rcases (show (1 ≤ kd ∧ kd ≤ 3) ∨ kd = 4 ∨ kd = 5 by omega) with e | e | e
  · refine mof kd 1 1 ?_ _ _ ⟨fun q => absurd q one_ne, fun _ => m_began 21 (by omega) hT _ fun τ ht hx => m_began 20 (by simp; omega) hx _ fun ρ hr hy => ?_⟩
    · rcases (show kd = 1 ∨ kd = 2 ∨ kd = 3 by omega) with z | z | z <;> subst z <;> decide
    · have key := h ρ (ht.tr hr)
      rcases (show kd = 1 ∨ kd = 2 ∨ kd = 3 by omega) with z | z | z <;> subst z <;> exact key (by rw [show l ++ mkT _ = l ++ [21] ++ [20] by simp [mkT]]; exact hy)
  · subst e
    exact mof 4 1 0 (by decide) _ _ ⟨fun _ => ⟨fun _ => h36 l σ (Or.inl ⟨rfl, rfl⟩) Fr.rf hT, fun q => absurd q (by decide)⟩, fun q => absurd rfl q⟩
  · subst e
    exact mof 5 1 0 (by decide) _ _ ⟨fun _ => ⟨fun q => absurd rfl q, fun _ => m_began 23 (by omega) hT _ fun τ ht hx => h36 _ τ (Or.inr ⟨rfl, rfl⟩) ht hx⟩, fun q => absurd rfl q⟩
