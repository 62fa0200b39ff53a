/-! the two worlds: the cells of a SplitWatch, the cells of a SplitWatchModel -/
def sw_shX (k : Nat) : Option sw_Sh := if k = 0 then none else if k = 1 then some (.inl (6, [some 2, some 8])) else if k = 2 then some (.inl (0, [some 3, some 4, some 5, some 6, none, none, none, none, none, none, none, none, none, none])) else if k = 3 then some (.inr (2, 4, some fun i => 11 + i)) else if k = 4 then some (.inr (3, 12, some fun i => 35 + i)) else if k = 5 then some (.inr (0, 8, none)) else if k = 6 then some (.inl (3, [some 7, none])) else if k = 7 then some (.inr (1, 48, none)) else if k = 8 then some (.inl (5, [some 9, some 10, none, none, none])) else if k = 9 then some (.inr (1, 200, none)) else if k = 10 then some (.inr (0, 3, none)) else if k ≤ 14 then some (.inl (2, [some (k + 4), some (3 * k + 2), some (k + 20), none])) else if k ≤ 18 then some (.inl (1, [some (k + 4), some (k + 8), some (k + 12), none])) else if k ≤ 30 then some (.inr (0, 8, none)) else if k ≤ 34 then some (.inr (3, 2, some fun i => 3 * (k - 20) + 3 + i)) else if k ≤ 46 then some (.inl (4, [none, none, none, none, none, none, none, none, none, none, none])) else none
def sw_ZX : sw_Z := (46, sw_shX)
def sw_shM (k : Nat) : Option sw_Sh := if k = 0 then none else if k = 1 then some (.inl (7, [none, none, none, none, none, some 2, some 3, some 4, some 5, some 6, some 7, some 8, some 9, some 10, some 11, some 12, some 13, some 14, none, some 15, none, none, some 16, none, some 17, none, none, none, none, none, some 18, none, some 19, none, some 20])) else if k = 2 then some (.inr (0, 8, none)) else if k = 3 then some (.inr (0, 4, none)) else if k = 4 then some (.inr (0, 16, none)) else if k = 5 then some (.inr (0, 16, none)) else if k = 6 then some (.inr (0, 16, none)) else if k = 7 then some (.inr (0, 4, none)) else if k = 8 then some (.inr (0, 8, none)) else if k = 9 then some (.inr (0, 8, none)) else if k = 10 then some (.inr (0, 4, none)) else if k = 11 then some (.inr (0, 4, none)) else if k = 12 then some (.inr (0, 4, none)) else if k = 13 then some (.inr (0, 4, none)) else if k = 14 then some (.inr (0, 4, none)) else if k = 15 then some (.inr (0, 80, none)) else if k = 16 then some (.inr (0, 28, none)) else if k = 17 then some (.inr (0, 48, none)) else if k = 18 then some (.inr (0, 200, none)) else if k = 19 then some (.inr (0, 3, none)) else if k = 20 then some (.inr (0, 40, none)) else none
def sw_ZM : sw_Z := (20, sw_shM)
theorem sw_ZXok : sw_Zok sw_ZX := by
  intro k x h
  by_cases h0 : k = 0
  · subst h0; cases h
  · refine ⟨by omega, ?_⟩
    rcases Nat.lt_or_ge 46 k with q | q
    · exfalso
      have h : sw_shX k = some x := h
      unfold sw_shX at h
      repeat rw [if_neg (by omega)] at h
      cases h
    · exact q
theorem sw_ZMok : sw_Zok sw_ZM := by
  intro k x h
  by_cases h0 : k = 0
  · subst h0; cases h
  · refine ⟨by omega, ?_⟩
    rcases Nat.lt_or_ge 20 k with q | q
    · exfalso
      have h : sw_shM k = some x := h
      unfold sw_shM at h
      repeat rw [if_neg (by omega)] at h
      cases h
    · exact q
def sw_isC (k : Nat) : Bool := decide (11 ≤ k) && decide (k ≤ 14)
def sw_isK (k : Nat) : Bool := decide (15 ≤ k) && decide (k ≤ 18)
def sw_isQ (k : Nat) : Bool := decide (35 ≤ k) && decide (k ≤ 46)
def sw_isS (k : Nat) : Bool := decide (100 ≤ k) && decide (k < 109)
theorem sw_isC_i {k : Nat} : sw_isC k = true ↔ 11 ≤ k ∧ k ≤ 14 := by simp [sw_isC]
theorem sw_isK_i {k : Nat} : sw_isK k = true ↔ 15 ≤ k ∧ k ≤ 18 := by simp [sw_isK]
theorem sw_isQ_i {k : Nat} : sw_isQ k = true ↔ 35 ≤ k ∧ k ≤ 46 := by simp [sw_isQ]
theorem sw_isS_i {k : Nat} : sw_isS k = true ↔ 100 ≤ k ∧ k < 109 := by simp [sw_isS]
theorem sw_in_i {i : Int32} {n : Nat} : sw_in i n = true ↔ 0 ≤ i ∧ sw_ix i < n := by simp [sw_in, sw_ix]
theorem sh_C {k : Nat} (h : sw_isC k = true) : sw_ZX.2 k = some (.inl (2, [some (k + 4), some (3 * k + 2), some (k + 20), none])) := by
  have h := sw_isC_i.mp h
  show sw_shX k = _
  unfold sw_shX
  repeat rw [if_neg (by omega)]
  rw [if_pos (by omega)]
theorem sh_K {k : Nat} (h : sw_isK k = true) : sw_ZX.2 k = some (.inl (1, [some (k + 4), some (k + 8), some (k + 12), none])) := by
  have h := sw_isK_i.mp h
  show sw_shX k = _
  unfold sw_shX
  repeat rw [if_neg (by omega)]
  rw [if_pos (by omega)]
theorem sh_Q {k : Nat} (h : sw_isQ k = true) : sw_ZX.2 k = some (.inl (4, [none, none, none, none, none, none, none, none, none, none, none])) := by
  have h := sw_isQ_i.mp h
  show sw_shX k = _
  unfold sw_shX
  repeat rw [if_neg (by omega)]
  rw [if_pos (by omega)]
theorem sh_row {k : Nat} (h1 : 19 ≤ k) (h2 : k ≤ 30) : sw_ZX.2 k = some (.inr (0, 8, none)) := by
  show sw_shX k = _
  unfold sw_shX
  repeat rw [if_neg (by omega)]
  rw [if_pos (by omega)]
theorem sh_K0 {k : Nat} (h : sw_isK k = true) : sw_ZX.2 (k + 4) = some (.inr (0, 8, none)) := by
  have h := sw_isK_i.mp h
  exact sh_row (by omega) (by omega)
theorem sh_K1 {k : Nat} (h : sw_isK k = true) : sw_ZX.2 (k + 8) = some (.inr (0, 8, none)) := by
  have h := sw_isK_i.mp h
  exact sh_row (by omega) (by omega)
theorem sh_K2 {k : Nat} (h : sw_isK k = true) : sw_ZX.2 (k + 12) = some (.inr (0, 8, none)) := by
  have h := sw_isK_i.mp h
  exact sh_row (by omega) (by omega)
theorem sh_CB {k : Nat} (h : sw_isC k = true) : sw_ZX.2 (k + 20) = some (.inr (3, 2, some fun i => 3 * k + 3 + i)) := by
  have h := sw_isC_i.mp h
  show sw_shX (k + 20) = _
  unfold sw_shX
  repeat rw [if_neg (by omega)]
  rw [if_pos (by omega), show k + 20 - 20 = k by omega]
theorem kd_CK {k : Nat} (h : sw_isC k = true) : sw_isK (k + 4) = true := by
  have h := sw_isC_i.mp h
  exact sw_isK_i.mpr (by omega)
theorem kd_CQ {k : Nat} (h : sw_isC k = true) : sw_isQ (3 * k + 2) = true := by
  have h := sw_isC_i.mp h
  exact sw_isQ_i.mpr (by omega)
theorem kd_cores {i : Int32} (h : sw_in i 4 = true) : sw_isC (11 + sw_ix i) = true := by
  have h := sw_in_i.mp h
  exact sw_isC_i.mpr (by omega)
theorem kd_reqs {i : Int32} (h : sw_in i 12 = true) : sw_isQ (35 + sw_ix i) = true := by
  have h := sw_in_i.mp h
  exact sw_isQ_i.mpr (by omega)
theorem kd_backs {k : Nat} (h : sw_isC k = true) {i : Int32} (hi : sw_in i 2 = true) : sw_isQ (3 * k + 3 + sw_ix i) = true := by
  have h := sw_isC_i.mp h
  have hi := sw_in_i.mp hi
  exact sw_isQ_i.mpr (by omega)
theorem sw_lvx {a b c : Int64} {j : Nat} {w : Value} (h : [some (Value.long a), none, some (Value.long b), none, some (Value.long c), none][j]? = some (some w)) : (j, w) ∈ lv_args 0 [.long a, .long b, .long c] := by
  simp only [lv_args, Value.category, if_true]
  match j, h with
  | 0, h => cases h; simp
  | 1, h => cases h
  | 2, h => cases h; simp
  | 3, h => cases h
  | 4, h => cases h; simp
  | 5, h => cases h
  | j + 6, h => simp at h
