/-! the two worlds: the cells of a SplitWatch, the cells of a SplitWatchModel -/
def sw_shX (k : Nat) : Option sw_Sh :=
  if k = 0 then none else if k = 1 then some (.inl (6, [some 2, some 44])) else if k = 2 then some (.inl (0, [some 3, some 4, some 5, some 6, none, none, none, none, none, none, none, none, none, none])) else if k = 3 then some (.inr (2, 4, some [8, 17, 26, 35])) else if k = 4 then some (.inr (3, 12, some [14, 15, 16, 23, 24, 25, 32, 33, 34, 41, 42, 43])) else if k = 5 then some (.inr (0, 8, none)) else if k = 6 then some (.inl (3, [some 7, none, none, none])) else if k = 7 then some (.inr (1, 48, none))
  else if k ≤ 43 then (if (k - 8) % 9 = 0 then some (.inl (2, [some (k + 1), some (k + 6), some (k + 5), none])) else if (k - 8) % 9 = 1 then some (.inl (1, [some (k + 1), some (k + 2), some (k + 3), none])) else if (k - 8) % 9 < 5 then some (.inr (0, 8, none)) else if (k - 8) % 9 = 5 then some (.inr (3, 2, some [k + 2, k + 3])) else some (.inl (4, [none, none, none, none, none, none, none, none, none, none, none])))
  else if k = 44 then some (.inl (5, [some 45, some 46, none, none, none])) else if k = 45 then some (.inr (1, 200, none)) else if k = 46 then some (.inr (0, 3, none)) else none
/-- the cells as they stand before the Script is made -/
def sw_shB (k : Nat) : Option sw_Sh := if k = 1 then some (.inl (6, [some 2, some 0])) else if 43 < k then none else sw_shX k
def sw_ZB : sw_Z := (43, sw_shB)
def sw_ZX : sw_Z := (46, sw_shX)
def sw_shM (k : Nat) : Option sw_Sh := if k = 0 then none else if k = 1 then some (.inl (7, [none, none, none, none, none, some 2, some 3, some 4, some 5, some 6, some 7, some 8, some 9, some 10, some 11, some 12, some 13, some 14, none, some 15, none, none, some 16, none, some 17, none, none, none, none, none, some 18, none, some 19, none, some 20])) else if k = 2 then some (.inr (0, 8, none)) else if k = 3 then some (.inr (0, 4, none)) else if k = 4 then some (.inr (0, 16, none)) else if k = 5 then some (.inr (0, 16, none)) else if k = 6 then some (.inr (0, 16, none)) else if k = 7 then some (.inr (0, 4, none)) else if k = 8 then some (.inr (0, 8, none)) else if k = 9 then some (.inr (0, 8, none)) else if k = 10 then some (.inr (0, 4, none)) else if k = 11 then some (.inr (0, 4, none)) else if k = 12 then some (.inr (0, 4, none)) else if k = 13 then some (.inr (0, 4, none)) else if k = 14 then some (.inr (0, 4, none)) else if k = 15 then some (.inr (0, 80, none)) else if k = 16 then some (.inr (0, 28, none)) else if k = 17 then some (.inr (0, 48, none)) else if k = 18 then some (.inr (0, 200, none)) else if k = 19 then some (.inr (0, 3, none)) else if k = 20 then some (.inr (0, 40, none)) else none
def sw_ZM : sw_Z := (20, sw_shM)
theorem sw_ZXok : sw_Zok sw_ZX := by
  intro k x h
  by_cases h0 : k = 0
  · subst h0; cases h
  · refine ⟨by omega, ?_⟩
    rcases Nat.lt_or_ge 46 k with q | q
    · exfalso
      have h : sw_shX k = some x := h
      unfold sw_shX at h
      repeat rw [if_neg (by omega)] at h
      cases h
    · exact q
theorem sw_ZMok : sw_Zok sw_ZM := by
  intro k x h
  by_cases h0 : k = 0
  · subst h0; cases h
  · refine ⟨by omega, ?_⟩
    rcases Nat.lt_or_ge 20 k with q | q
    · exfalso
      have h : sw_shM k = some x := h
      unfold sw_shM at h
      repeat rw [if_neg (by omega)] at h
      cases h
    · exact q
theorem sw_ZBok : sw_Zok sw_ZB := by
  intro k x h
  by_cases h0 : k = 0
  · subst h0; cases h
  · refine ⟨by omega, ?_⟩
    rcases Nat.lt_or_ge 43 k with q | q
    · exfalso
      have h : sw_shB k = some x := h
      unfold sw_shB at h
      rw [if_neg (by omega), if_pos q] at h
      cases h
    · exact q
def sw_isC (k : Nat) : Bool := decide (8 ≤ k) && (decide (k ≤ 35) && decide ((k - 8) % 9 = 0))
def sw_isK (k : Nat) : Bool := decide (9 ≤ k) && (decide (k ≤ 36) && decide ((k - 8) % 9 = 1))
def sw_isQ (k : Nat) : Bool := decide (14 ≤ k) && (decide (k ≤ 43) && decide (6 ≤ (k - 8) % 9))
def sw_isS (k : Nat) : Bool := decide (100 ≤ k) && decide (k < 109)
def sw_rq (j : Nat) : Nat := 14 + 9 * (j / 3) + j % 3
theorem sw_isC_i {k : Nat} : sw_isC k = true ↔ 8 ≤ k ∧ k ≤ 35 ∧ (k - 8) % 9 = 0 := by simp [sw_isC]
theorem sw_isK_i {k : Nat} : sw_isK k = true ↔ 9 ≤ k ∧ k ≤ 36 ∧ (k - 8) % 9 = 1 := by simp [sw_isK]
theorem sw_isQ_i {k : Nat} : sw_isQ k = true ↔ 14 ≤ k ∧ k ≤ 43 ∧ 6 ≤ (k - 8) % 9 := by simp [sw_isQ]
theorem sw_isS_i {k : Nat} : sw_isS k = true ↔ 100 ≤ k ∧ k < 109 := by simp [sw_isS]
theorem sw_in_i {i : Int32} {n : Nat} : sw_in i n = true ↔ 0 ≤ i ∧ sw_ix i < n := by simp [sw_in, sw_ix]
theorem sx_C {k : Nat} (h : sw_isC k = true) : sw_shX k = some (.inl (2, [some (k + 1), some (k + 6), some (k + 5), none])) := by
  have h := sw_isC_i.mp h
  unfold sw_shX
  rw [if_neg (by omega), if_neg (by omega), if_neg (by omega), if_neg (by omega), if_neg (by omega), if_neg (by omega), if_neg (by omega), if_neg (by omega), if_pos (by omega), if_pos (by omega)]
theorem sx_K {k : Nat} (h : sw_isK k = true) : sw_shX k = some (.inl (1, [some (k + 1), some (k + 2), some (k + 3), none])) := by
  have h := sw_isK_i.mp h
  unfold sw_shX
  rw [if_neg (by omega), if_neg (by omega), if_neg (by omega), if_neg (by omega), if_neg (by omega), if_neg (by omega), if_neg (by omega), if_neg (by omega), if_pos (by omega), if_neg (by omega), if_pos (by omega)]
theorem sx_Q {k : Nat} (h : sw_isQ k = true) : sw_shX k = some (.inl (4, [none, none, none, none, none, none, none, none, none, none, none])) := by
  have h := sw_isQ_i.mp h
  unfold sw_shX
  rw [if_neg (by omega), if_neg (by omega), if_neg (by omega), if_neg (by omega), if_neg (by omega), if_neg (by omega), if_neg (by omega), if_neg (by omega), if_pos (by omega), if_neg (by omega), if_neg (by omega), if_neg (by omega), if_neg (by omega)]
theorem sx_row {k : Nat} (h1 : 10 ≤ k) (h2 : k ≤ 43) (h3 : 2 ≤ (k - 8) % 9) (h4 : (k - 8) % 9 < 5) : sw_shX k = some (.inr (0, 8, none)) := by
  unfold sw_shX
  rw [if_neg (by omega), if_neg (by omega), if_neg (by omega), if_neg (by omega), if_neg (by omega), if_neg (by omega), if_neg (by omega), if_neg (by omega), if_pos (by omega), if_neg (by omega), if_neg (by omega), if_pos (by omega)]
theorem sx_CB {k : Nat} (h : sw_isC k = true) : sw_shX (k + 5) = some (.inr (3, 2, some [k + 7, k + 8])) := by
  have h := sw_isC_i.mp h
  unfold sw_shX
  rw [if_neg (by omega), if_neg (by omega), if_neg (by omega), if_neg (by omega), if_neg (by omega), if_neg (by omega), if_neg (by omega), if_neg (by omega), if_pos (by omega), if_neg (by omega), if_neg (by omega), if_neg (by omega), if_pos (by omega)]
theorem sx_B {k : Nat} {x : Option sw_Sh} (h1 : k ≠ 1) (h2 : k ≤ 43) (h : sw_shX k = x) : sw_ZB.2 k = x := by
  show sw_shB k = x
  unfold sw_shB
  rw [if_neg h1, if_neg (by omega)]
  exact h
theorem sh_C {k : Nat} (h : sw_isC k = true) : sw_ZX.2 k = some (.inl (2, [some (k + 1), some (k + 6), some (k + 5), none])) := by
  have h' := sw_isC_i.mp h
  exact (sx_C h)
theorem sh_K {k : Nat} (h : sw_isK k = true) : sw_ZX.2 k = some (.inl (1, [some (k + 1), some (k + 2), some (k + 3), none])) := by
  have h' := sw_isK_i.mp h
  exact (sx_K h)
theorem sh_Q {k : Nat} (h : sw_isQ k = true) : sw_ZX.2 k = some (.inl (4, [none, none, none, none, none, none, none, none, none, none, none])) := by
  have h' := sw_isQ_i.mp h
  exact (sx_Q h)
theorem sh_K0 {k : Nat} (h : sw_isK k = true) : sw_ZX.2 (k + 1) = some (.inr (0, 8, none)) := by
  have h' := sw_isK_i.mp h
  exact (sx_row (k := k + 1) (by omega) (by omega) (by omega) (by omega))
theorem sh_K1 {k : Nat} (h : sw_isK k = true) : sw_ZX.2 (k + 2) = some (.inr (0, 8, none)) := by
  have h' := sw_isK_i.mp h
  exact (sx_row (k := k + 2) (by omega) (by omega) (by omega) (by omega))
theorem sh_K2 {k : Nat} (h : sw_isK k = true) : sw_ZX.2 (k + 3) = some (.inr (0, 8, none)) := by
  have h' := sw_isK_i.mp h
  exact (sx_row (k := k + 3) (by omega) (by omega) (by omega) (by omega))
theorem sh_CB {k : Nat} (h : sw_isC k = true) : sw_ZX.2 (k + 5) = some (.inr (3, 2, some [k + 7, k + 8])) := by
  have h' := sw_isC_i.mp h
  exact (sx_CB h)
theorem shb_C {k : Nat} (h : sw_isC k = true) : sw_ZB.2 k = some (.inl (2, [some (k + 1), some (k + 6), some (k + 5), none])) := by
  have h' := sw_isC_i.mp h
  exact sx_B (by omega) (by omega) (sx_C h)
theorem shb_K {k : Nat} (h : sw_isK k = true) : sw_ZB.2 k = some (.inl (1, [some (k + 1), some (k + 2), some (k + 3), none])) := by
  have h' := sw_isK_i.mp h
  exact sx_B (by omega) (by omega) (sx_K h)
theorem shb_Q {k : Nat} (h : sw_isQ k = true) : sw_ZB.2 k = some (.inl (4, [none, none, none, none, none, none, none, none, none, none, none])) := by
  have h' := sw_isQ_i.mp h
  exact sx_B (by omega) (by omega) (sx_Q h)
theorem shb_K0 {k : Nat} (h : sw_isK k = true) : sw_ZB.2 (k + 1) = some (.inr (0, 8, none)) := by
  have h' := sw_isK_i.mp h
  exact sx_B (by omega) (by omega) (sx_row (k := k + 1) (by omega) (by omega) (by omega) (by omega))
theorem shb_K1 {k : Nat} (h : sw_isK k = true) : sw_ZB.2 (k + 2) = some (.inr (0, 8, none)) := by
  have h' := sw_isK_i.mp h
  exact sx_B (by omega) (by omega) (sx_row (k := k + 2) (by omega) (by omega) (by omega) (by omega))
theorem shb_K2 {k : Nat} (h : sw_isK k = true) : sw_ZB.2 (k + 3) = some (.inr (0, 8, none)) := by
  have h' := sw_isK_i.mp h
  exact sx_B (by omega) (by omega) (sx_row (k := k + 3) (by omega) (by omega) (by omega) (by omega))
theorem shb_CB {k : Nat} (h : sw_isC k = true) : sw_ZB.2 (k + 5) = some (.inr (3, 2, some [k + 7, k + 8])) := by
  have h' := sw_isC_i.mp h
  exact sx_B (by omega) (by omega) (sx_CB h)
theorem kd_CK {k : Nat} (h : sw_isC k = true) : sw_isK (k + 1) = true := by
  have h := sw_isC_i.mp h
  exact sw_isK_i.mpr (by omega)
theorem kd_CQ {k : Nat} (h : sw_isC k = true) : sw_isQ (k + 6) = true := by
  have h := sw_isC_i.mp h
  exact sw_isQ_i.mpr (by omega)
theorem kd_cores {i : Int32} (h : sw_in i 4 = true) : sw_isC (8 + 9 * sw_ix i) = true := by
  have h := sw_in_i.mp h
  exact sw_isC_i.mpr (by omega)
theorem kd_reqs {i : Int32} (h : sw_in i 12 = true) : sw_isQ (sw_rq (sw_ix i)) = true := by
  have h := sw_in_i.mp h
  unfold sw_rq
  exact sw_isQ_i.mpr (by omega)
theorem kd_backs {k : Nat} (h : sw_isC k = true) {i : Int32} (hi : sw_in i 2 = true) : sw_isQ (k + 7 + sw_ix i) = true := by
  have h := sw_isC_i.mp h
  have hi := sw_in_i.mp hi
  exact sw_isQ_i.mpr (by omega)
theorem tg_cores {i : Int32} (h : sw_in i 4 = true) : [8, 17, 26, 35].getD (sw_ix i) 0 = 8 + 9 * sw_ix i := by
  have h := (sw_in_i.mp h).2
  generalize sw_ix i = j at h ⊢
  match j, h with
  | 0, _ => rfl
  | 1, _ => rfl
  | 2, _ => rfl
  | 3, _ => rfl
theorem tg_reqs {i : Int32} (h : sw_in i 12 = true) : [14, 15, 16, 23, 24, 25, 32, 33, 34, 41, 42, 43].getD (sw_ix i) 0 = sw_rq (sw_ix i) := by
  have h := (sw_in_i.mp h).2
  generalize sw_ix i = j at h ⊢
  match j, h with
  | 0, _ => rfl
  | 1, _ => rfl
  | 2, _ => rfl
  | 3, _ => rfl
  | 4, _ => rfl
  | 5, _ => rfl
  | 6, _ => rfl
  | 7, _ => rfl
  | 8, _ => rfl
  | 9, _ => rfl
  | 10, _ => rfl
  | 11, _ => rfl
theorem tg_backs {k : Nat} {i : Int32} (h : sw_in i 2 = true) : [k + 7, k + 8].getD (sw_ix i) 0 = k + 7 + sw_ix i := by
  have h := (sw_in_i.mp h).2
  generalize sw_ix i = j at h ⊢
  match j, h with
  | 0, _ => rfl
  | 1, _ => rfl
theorem sw_lvx {a b c : Int64} {j : Nat} {w : Value} (h : [some (Value.long a), none, some (Value.long b), none, some (Value.long c), none][j]? = some (some w)) : (j, w) ∈ lv_args 0 [.long a, .long b, .long c] := by
  simp only [lv_args, Value.category, if_true]
  match j, h with
  | 0, h => cases h; simp
  | 1, h => cases h
  | 2, h => cases h; simp
  | 3, h => cases h
  | 4, h => cases h; simp
  | 5, h => cases h
  | j + 6, h => simp at h
