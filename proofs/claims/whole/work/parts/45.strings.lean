/-! words -/
def wln (k : Nat) : Nat := (stx.getD k []).length
def wch (k i : Nat) : Nat := ((stx.getD k []).getD i 0).toInt.toNat
theorem st_len {k : Nat} (hk : k < 8) {σ : St} {F : Int32 → St → Prop} (h : F (nI (wln k)) σ) : CallI hd_st_length [rf (29 + k) (1100 + k)] σ F := sorry
theorem st_chr {k i : Nat} (hk : k < 8) (hi : i < wln k) {σ : St} {F : Int32 → St → Prop} (h : F (nI (wch k i)) σ) : CallI hd_st_charAt [rf (29 + k) (1100 + k), iv (nI i)] σ F := sorry
